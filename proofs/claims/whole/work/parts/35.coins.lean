/-! build, coins, best, harvest -/
theorem clr12 {B f : Nat} (hB : B < 4096) (hf : f < 12) : nI B &&& (((1 : Int32) <<< (nI f &&& 31)) ^^^ (-1 : Int32)) = nI (B &&& (4095 - 2 ^ f)) := by
  have t : ∀ f, f < 12 → ((1 : Int32) <<< (nI f &&& 31)) ^^^ (-1 : Int32) = -(nI (2 ^ f)) - 1 := by decide +kernel
  have key : ∀ f, f < 12 → (((1 : Int32) <<< (nI f &&& 31)) ^^^ (-1 : Int32)).toBitVec.toNat = 2 ^ 32 - 1 - 2 ^ f := by decide +kernel
  apply Int32.toBitVec_inj.mp
  apply BitVec.eq_of_toNat_eq
  rw [Int32.toBitVec_and, BitVec.toNat_and, pk_tn (by omega), key f hf, pk_tn (Nat.lt_of_le_of_lt Nat.and_le_left (by omega))]
  apply Nat.eq_of_testBit_eq
  intro i
  rw [Nat.testBit_and, Nat.testBit_and]
  by_cases q : i < 12
  · have z : ∀ f, f < 12 → ∀ i, i < 12 → (2 ^ 32 - 1 - 2 ^ f).testBit i = (4095 - 2 ^ f).testBit i := by decide +kernel
    rw [z f hf i q]
  · have hb : B.testBit i = false := Nat.testBit_lt_two_pow (Nat.lt_of_lt_of_le hB (by rw [show 4096 = 2 ^ 12 by decide]; exact Nat.pow_le_pow_right (by decide) (by omega)))
    rw [hb]; rfl
theorem clr_bit12 {B f g : Nat} (hf : f < 12) (hg : g < 12) : (B &&& (4095 - 2 ^ f)).testBit g = (!decide (g = f) && B.testBit g) := by
  have z : ∀ f, f < 12 → ∀ g, g < 12 → (4095 - 2 ^ f).testBit g = !decide (g = f) := by decide +kernel
  rw [Nat.testBit_and, z f hf g hg, Bool.and_comm]

theorem RI.build {mo vo ou fe fq pi vt ash nu bu se st z : Int32} {hs ag ws ki ce ow pu ch sh di : Nat → Int32} {A : Nat → Int32} {f B : Nat} {v : Int32} (hf : f < 12) (hB : B < 4096) (hbu : bu = nI B) (R : RI mo vo ou fe fq pi vt ash hs ag ws nu bu ki ce ow pu se st z ch sh di A) : RI mo vo ou fe fq pi vt ash hs ag ws nu (nI (B &&& (4095 - 2 ^ f))) ki ce ow (upd pu f v) se st z ch sh di (upd (upd A (158 + 5 * f + 4) 0) (158 + 5 * f + 3) v) := by
  obtain ⟨⟨⟨r1, r2, r3, r4, r5, r6⟩, r7, r8⟩, i1, i2, i3, i4, i5, i6, i7, i8, i9, i10⟩ := R
  exact ⟨⟨⟨(r1.out (by omega)).out (by omega), (r2.out (by omega)).out (by omega), (r3.out (by omega)).out (by omega), (r4.out (by omega)).out (by omega), (r5.out (by omega)).out (by omega), (r6.out (by omega)).out (by omega)⟩, (RFm.bu r7 (f := f) (by rw [bit12 f hf _ (Nat.lt_of_le_of_lt Nat.and_le_left hB), clr_bit12 hf hf]; simp) (fun g hg hgf => by rw [bit12 g hg _ (Nat.lt_of_le_of_lt Nat.and_le_left hB), hbu, bit12 g hg B hB, clr_bit12 hf hg]; simp [hgf])).pu, (r8.out (by omega)).out (by omega)⟩, (by
    obtain ⟨N, h0, h1, h2, h3, h4, B', h5, h6⟩ := i1
    have e1 : B' = B := (nI_eq (by have := pow_le12 h0 h5; omega) (by omega)).mp (h6.symm.trans hbu)
    subst e1
    exact ⟨N, h0, h1, h2, h3, h4, _, Nat.lt_of_le_of_lt Nat.and_le_left h5, rfl⟩), i2, i3, i4, i5, i6, i7, i8, i9, i10⟩
theorem sim_build {mo vo ou fe fq pi vt ash nu bu se st z : Int32} {hs ag ws ki ce ow pu ch sh di : Nat → Int32} {A fi fo : Nat → Int32} (R : RI mo vo ou fe fq pi vt ash hs ag ws nu bu ki ce ow pu se st z ch sh di A) (F : RF fi fo) (x1 : Int32) : ∃ r bu' pu' fi' A' fo', f_X_build nu bu pu fi x1 = some (r, bu', pu', fi') ∧ f_M_build A fo x1 = some (r, A', fo') ∧ RI mo vo ou fe fq pi vt ash hs ag ws nu bu' ki ce ow pu' se st z ch sh di A' ∧ RF fi' fo' := by
  have hA : A 10 = nu := R.1.2.2.2.2.2.2.2.2.2.2.2.2.1
  obtain ⟨N, hN, rfl, hce, hd, hki, B, hB, rfl⟩ := id R.2.1
  have hB := pow_le12 hN hB
  unfold f_X_build f_M_build
  rcases has_or x1 hN hA with ⟨hx, hm⟩ | ⟨f, hf, rfl, hx, hm⟩
  · obtain ⟨fi', fo', b1, b2, F'⟩ := fnd0 F
    refine ⟨-1000000001, nI B, pu, fi', A, fo', ?_, ?_, R, F'⟩
    · rw [hx, kb1_eq, if_pos rfl, b1, kb2_eq]
    · rw [hm, kb1_eq, if_pos rfl, b2, kb2_eq]
  rw [hx, hm, kb1_eq, kb1_eq, if_neg i10, if_neg i10]
  have hf12 : f < 12 := by omega
  have e1 : (nI f).toNatClampNeg = f := nI_clamp (by omega)
  obtain ⟨k0, k1, k2, k3, k4⟩ := R.1.2.1 f hf12
  rw [isBurnt_x hf12 hB, kb1_eq]
  simp only [nl158, nl5, nl4, nl3, pk_mul, nI_add]
  rw [M_farmIs_eq A hf12 (by decide), kb1_eq, k4, bit12 f hf12 B hB]
  by_cases q : B.testBit f = true
  · rw [if_pos q, if_neg i10, if_neg i10]
    refine ⟨pu f - 20, nI (B &&& (4095 - 2 ^ f)), upd pu f (pu f - 20), fi, _, fo, ?_, ?_, R.build hf12 hB rfl, F⟩
    · rw [klet_eq, kx hf12 (by decide), kx hf12 (by decide), kx hf12 (by decide), e1, pk_us, clr12 hB hf12]
    · rw [klet_eq]
      simp only [nI_add]
      have t3 : (nI (158 + 5 * f + 3)).toNatClampNeg = 158 + 5 * f + 3 := nI_clamp (by omega)
      have t4 : (nI (158 + 5 * f + 4)).toNatClampNeg = 158 + 5 * f + 4 := nI_clamp (by omega)
      rw [kx (by omega) (by decide), kx (by omega) (by decide), klet_eq, kx (by omega) (by decide), kx (by omega) (by decide), t3, t4, pk_us, pk_un (by omega), k3]
  · rw [if_neg q, if_pos rfl, if_pos rfl]
    obtain ⟨fi', fo', b1, b2, F'⟩ := fnd4 F
    exact ⟨-1000000005, nI B, pu, fi', A, fo', by rw [show (nI 4) = (4 : Int32) from rfl, b1, kb2_eq], by rw [b2, kb2_eq], R, F'⟩
/-- coins of an owner among the first k farms -/
def cOf (ow pu : Nat → Int32) (w : Int32) : Nat → Int32
  | 0 => 0
  | k + 1 => if ow k = w then cOf ow pu w k + pu k else cOf ow pu w k
def cAll (pu : Nat → Int32) : Nat → Int32
  | 0 => 0
  | k + 1 => cAll pu k + pu k
theorem coinsOf_l (ow pu : Nat → Int32) (w : Int32) {N : Nat} (hN : N ≤ 12) : ∀ n k, N - k < n → k ≤ N → fl_Fa_coinsOf_1 w (nI N) ow pu n (cOf ow pu w k) (nI k) = some (cOf ow pu w N) := by
  intro n
  induction n with
  | zero => intro k h; exact absurd h (by omega)
  | succ n ih =>
    intro k h hk
    rw [fl_Fa_coinsOf_1_s]
    unfold fb_Fa_coinsOf_1
    by_cases q : k = N
    · subst q; rw [if_pos (nI_le (Nat.le_refl _) (by omega))]
    · have hc : (nI k).toNatClampNeg = k := nI_clamp (by omega)
      rw [if_neg (nI_ge (by omega) (by omega)), kx (by omega) (by decide), kx (by omega) (by decide), hc, klet_eq, nI_1]
      have := ih (k + 1) (by omega) (by omega)
      rw [cOf] at this
      by_cases q2 : ow k = w
      · rw [if_pos q2] at this ⊢; exact this
      · rw [if_neg q2] at this ⊢; exact this
theorem coinsOf_x (ow pu : Nat → Int32) (w : Int32) {N : Nat} (hN : N ≤ 12) : f_Fa_coinsOf (nI N) ow pu w = some (cOf ow pu w N) :=
  coinsOf_l ow pu w hN kFuel 0 (by unfold kFuel; omega) (by omega)
theorem coinsOf_lm {A ow pu : Nat → Int32} {w : Int32} (hw : ¬ w < 0) {N : Nat} (hN : N ≤ 12) (hA : A 10 = nI N) (h2 : ∀ f, f < 12 → A (158 + 5 * f + 2) = ow f ∧ A (158 + 5 * f + 3) = pu f) : ∀ n k, N - k < n → k ≤ N → fl_M_coinsOf_1 w A n (cOf ow pu w k) (nI k) = some (cOf ow pu w N) := by
  intro n
  induction n with
  | zero => intro k h; exact absurd h (by omega)
  | succ n ih =>
    intro k h hk
    rw [fl_M_coinsOf_1_s]
    unfold fb_M_coinsOf_1 f_M_coinsOf_2
    rw [hA]
    by_cases q : k = N
    · subst q; rw [if_pos (nI_le (Nat.le_refl _) (by omega))]
    · rw [if_neg (nI_ge (by omega) (by omega)), if_neg hw, nl2, M_farmIs_eq A (by omega) (by decide), kb1_eq, nl3, M_farmIs_eq A (by omega) (by decide), kb1_eq, (h2 k (by omega)).1, (h2 k (by omega)).2, nI_1, Int32.add_zero]
      have := ih (k + 1) (by omega) (by omega)
      rw [cOf] at this
      by_cases q2 : ow k = w
      · rw [if_pos q2] at this ⊢; exact this
      · rw [if_neg q2] at this ⊢; exact this
theorem coinsOf_m {A ow pu : Nat → Int32} {w : Int32} (hw : ¬ w < 0) {N : Nat} (hN : N ≤ 12) (hA : A 10 = nI N) (h2 : ∀ f, f < 12 → A (158 + 5 * f + 2) = ow f ∧ A (158 + 5 * f + 3) = pu f) : f_M_coinsOf A w = some (cOf ow pu w N) :=
  coinsOf_lm hw hN hA h2 kFuel 0 (by unfold kFuel; omega) (by omega)
theorem coinsAll_lm {A pu : Nat → Int32} {N : Nat} (hN : N ≤ 12) (hA : A 10 = nI N) (h2 : ∀ f, f < 12 → A (158 + 5 * f + 3) = pu f) : ∀ n k, N - k < n → k ≤ N → fl_M_coinsOf_1 (-1) A n (cAll pu k) (nI k) = some (cAll pu N) := by
  intro n
  induction n with
  | zero => intro k h; exact absurd h (by omega)
  | succ n ih =>
    intro k h hk
    rw [fl_M_coinsOf_1_s]
    unfold fb_M_coinsOf_1 f_M_coinsOf_2
    rw [hA]
    by_cases q : k = N
    · subst q; rw [if_pos (nI_le (Nat.le_refl _) (by omega))]
    · rw [if_neg (nI_ge (by omega) (by omega)), if_pos (by decide), nl3, M_farmIs_eq A (by omega) (by decide), kb1_eq, h2 k (by omega), nI_1]
      exact ih (k + 1) (by omega) (by omega)
theorem coinsAll_m {A pu : Nat → Int32} {N : Nat} (hN : N ≤ 12) (hA : A 10 = nI N) (h2 : ∀ f, f < 12 → A (158 + 5 * f + 3) = pu f) : f_M_coinsOf A (-1) = some (cAll pu N) :=
  coinsAll_lm hN hA h2 kFuel 0 (by unfold kFuel; omega) (by omega)
theorem allCoins_l (pu : Nat → Int32) {N : Nat} (hN : N ≤ 12) : ∀ n k, N - k < n → k ≤ N → fl_Fa_allCoins_1 (nI N) pu n (cAll pu k) (nI k) = some (cAll pu N) := by
  intro n
  induction n with
  | zero => intro k h; exact absurd h (by omega)
  | succ n ih =>
    intro k h hk
    rw [fl_Fa_allCoins_1_s]
    unfold fb_Fa_allCoins_1
    by_cases q : k = N
    · subst q; rw [if_pos (nI_le (Nat.le_refl _) (by omega))]
    · have hc : (nI k).toNatClampNeg = k := nI_clamp (by omega)
      rw [if_neg (nI_ge (by omega) (by omega)), kx (by omega) (by decide), hc]
      try rw [klet_eq]
      rw [nI_1]
      exact ih (k + 1) (by omega) (by omega)
theorem allCoins_x (pu : Nat → Int32) {N : Nat} (hN : N ≤ 12) : f_Fa_allCoins (nI N) pu = some (cAll pu N) :=
  allCoins_l pu hN kFuel 0 (by unfold kFuel; omega) (by omega)

theorem sim_coins {mo vo ou fe fq pi vt ash nu bu se st z : Int32} {hs ag ws ki ce ow pu ch sh di : Nat → Int32} {A fi fo : Nat → Int32} (R : RI mo vo ou fe fq pi vt ash hs ag ws nu bu ki ce ow pu se st z ch sh di A) (F : RF fi fo) (x1 : Int32) : ∃ r fi' fo', f_X_coins nu ow pu fi x1 = some (r, fi') ∧ f_M_coins A fo x1 = some (r, fo') ∧ RF fi' fo' := by
  have hA : A 10 = nu := R.1.2.2.2.2.2.2.2.2.2.2.2.2.1
  obtain ⟨N, hN, rfl, -⟩ := id R.2.1
  unfold f_X_coins f_M_coins
  rcases isOwner_cases x1 with ⟨hx, hm⟩ | ⟨w, hw, rfl, hx, hm⟩
  · obtain ⟨fi', fo', b1, b2, F'⟩ := fnd0 F
    refine ⟨-1000000001, fi', fo', ?_, ?_, F'⟩
    · rw [hx, kb1_eq, if_pos rfl, b1, kb2_eq]
    · rw [hm, kb1_eq, if_pos rfl, b2, kb2_eq]
  rw [hx, hm, kb1_eq, kb1_eq, if_neg i10, if_neg i10]
  exact ⟨cOf ow pu (nI w) N, fi, fo, by rw [coinsOf_x ow pu (nI w) hN, kb1_eq], by rw [coinsOf_m (nI_pos (by omega)) hN hA (fun f hf => ⟨(R.1.2.1 f hf).2.2.1, (R.1.2.1 f hf).2.2.2.1⟩), kb1_eq], F⟩
theorem best_l {A fi fo : Nat → Int32} {g a : Int32} (h4 : A 4 = a) : ∀ n k b, 6 - k < n → 1 ≤ k → k ≤ 6 → ∃ r, fl_X_best_1 g a fi n b (nI k) = some (r, fi) ∧ fl_M_best_1 g A fo n b (nI k) = some (r, fo) := by
  intro n
  induction n with
  | zero => intro k b h; exact absurd h (by omega)
  | succ n ih =>
    intro k b h h1 hk
    rw [fl_X_best_1_s, fl_M_best_1_s]
    unfold fb_X_best_1 fb_M_best_1
    rw [h4]
    by_cases q : k = 6
    · subst q
      exact ⟨b, by rw [if_pos (by decide)], by rw [if_pos (by decide)]⟩
    · rw [if_neg (show ¬ (6 : Int32) ≤ nI k from nI_ge (b := 6) (by omega) (by decide)), if_neg (show ¬ (5 : Int32) < nI k from nI_nlt (a := 5) (by omega) (by decide)), bears_x, kb1_eq, bears_x, kb1_eq, bears_m, kb1_eq, bears_m, kb1_eq, nI_1]
      by_cases z : bq (nI k) g a ≤ bq b g a
      · rw [if_pos z, if_pos z]; exact ih (k + 1) b (by omega) (by omega) (by omega)
      · rw [if_neg z, if_neg z]; exact ih (k + 1) (nI k) (by omega) (by omega) (by omega)

theorem sim_best {mo vo ou fe fq pi vt ash nu bu se st z : Int32} {hs ag ws ki ce ow pu ch sh di : Nat → Int32} {A fi fo : Nat → Int32} (R : RI mo vo ou fe fq pi vt ash hs ag ws nu bu ki ce ow pu se st z ch sh di A) (F : RF fi fo) (x1 : Int32) : ∃ r fi' fo', f_X_best ash ag nu ce fi x1 = some (r, fi') ∧ f_M_best A fo x1 = some (r, fo') ∧ RF fi' fo' := by
  have hA : A 10 = nu := R.1.2.2.2.2.2.2.2.2.2.2.2.2.1
  obtain ⟨N, hN, rfl, hce, -⟩ := id R.2.1
  unfold f_X_best f_M_best
  rcases has_or x1 hN hA with ⟨hx, hm⟩ | ⟨f, hf, rfl, hx, hm⟩
  · obtain ⟨fi', fo', b1, b2, F'⟩ := fnd0 F
    refine ⟨-1000000001, fi', fo', ?_, ?_, F'⟩
    · rw [hx, kb1_eq, if_pos rfl, b1, kb2_eq]
    · rw [hm, kb1_eq, if_pos rfl, b2, kb2_eq]
  rw [hx, hm, kb1_eq, kb1_eq, if_neg i10, if_neg i10]
  have hf12 : f < 12 := by omega
  have e1 : (nI f).toNatClampNeg = f := nI_clamp (by omega)
  obtain ⟨c, hc, hcf⟩ := hce f hf
  obtain ⟨r, g1, g2⟩ := best_l (A := A) (fi := fi) (fo := fo) (g := ag c) (a := ash) R.1.2.2.2.2.2.2.1 kFuel 1 0 (by unfold kFuel; omega) (by decide) (by decide)
  refine ⟨r, fi, fo, ?_, ?_, F⟩
  · rw [kx hf12 (by decide), e1, hcf, ageOf_x hc, kb1_eq]
    exact g1
  · rw [nl1, M_farmIs_eq A hf12 (by decide), kb1_eq, (R.1.2.1 f hf12).2.1, hcf, nl86, nI_add, kx (by omega) (by decide), klet_eq, nI_clamp (by omega), R.1.1.2.1 c hc]
    exact g2
theorem min_some (x y : Int32) : ∃ r, f_Ma_min x y = some r := by
  unfold f_Ma_min
  split <;> exact ⟨_, rfl⟩
theorem harvest_l {A ag fi fo : Nat → Int32} {a k : Int32} {c N : Nat} (hc : c < 36) (hN : N ≤ 50) (h4 : A 4 = a) (Ra : RA 86 36 ag A) : ∀ n i s, N - i < n → i ≤ N → ∃ r, fl_X_harvest_2 k (nI c) (nI N) a ag fi n s (nI i) = some (r, fi) ∧ fl_M_harvest_2 k (nI c) (nI N) A fo n s (nI i) = some (r, fo) := by
  intro n
  induction n with
  | zero => intro i s h; exact absurd h (by omega)
  | succ n ih =>
    intro i s h hi
    rw [fl_X_harvest_2_s, fl_M_harvest_2_s]
    unfold fb_X_harvest_2 fb_M_harvest_2
    rw [h4]
    by_cases q : i = N
    · subst q
      exact ⟨s, by rw [if_pos (nI_le (Nat.le_refl _) (by omega))], by rw [if_pos (nI_le (Nat.le_refl _) (by omega))]⟩
    · rw [if_neg (nI_ge (by omega) (by omega)), if_neg (nI_ge (by omega) (by omega)), ageOf_x hc, kb1_eq, nl86, nI_add, kx (by omega) (by decide), nI_clamp (by omega), Ra c hc]
      obtain ⟨m1, g1⟩ := min_some 99 (ag c + nI i)
      obtain ⟨m2, g2⟩ := min_some 99 (a + nI i)
      rw [g1, kb1_eq, g2, kb1_eq, kb1_eq, kb1_eq, bears_x, kb1_eq, bears_m, kb1_eq, nI_1]
      exact ih (i + 1) _ (by omega) (by omega)

theorem sim_harvest {mo vo ou fe fq pi vt ash nu bu se st z : Int32} {hs ag ws ki ce ow pu ch sh di : Nat → Int32} {A fi fo : Nat → Int32} (R : RI mo vo ou fe fq pi vt ash hs ag ws nu bu ki ce ow pu se st z ch sh di A) (F : RF fi fo) (x1 x2 x3 : Int32) : ∃ r fi' fo', f_X_harvest ash ag fi x1 x2 x3 = some (r, fi') ∧ f_M_harvest A fo x1 x2 x3 = some (r, fo') ∧ RF fi' fo' := by
  obtain ⟨fi', fo', b1, b2, F'⟩ := fnd0 F
  have c1 : f_X_harvest_1 fi = some (-1000000001, fi') := by unfold f_X_harvest_1; rw [b1, kb2_eq]
  have c2 : f_M_harvest_1 fo = some (-1000000001, fo') := by unfold f_M_harvest_1; rw [b2, kb2_eq]
  unfold f_X_harvest f_M_harvest
  rw [isWithin_eq]
  rcases isKind_cases x1 with ⟨hx, hm⟩ | ⟨k, hk, rfl, hx, hm⟩
  · refine ⟨-1000000001, fi', fo', ?_, ?_, F'⟩
    · rw [hx, kb1_eq, if_pos rfl, c1]
    · rw [hm, kb1_eq, if_pos rfl, c2]
  rw [hx, hm, kb1_eq, kb1_eq, if_neg i10, if_neg i10]
  rcases isCell_cases x2 with ⟨hx, hm⟩ | ⟨c, hc, rfl, hx, hm⟩
  · refine ⟨-1000000001, fi', fo', ?_, ?_, F'⟩
    · rw [hx, kb1_eq, if_pos rfl, c1]
    · rw [hm, kb1_eq, if_pos rfl, c2]
  rw [hx, hm, kb1_eq, kb1_eq, if_neg i10, if_neg i10]
  rcases rg 50 (by decide) x3 with ⟨h1, -⟩ | ⟨N, hN, rfl, h1⟩
  · have h1 : f_M_within x3 0 50 = some 0 := h1
    refine ⟨-1000000001, fi', fo', ?_, ?_, F'⟩
    · rw [h1, kb1_eq, if_pos rfl, c1]
    · rw [h1, kb1_eq, if_pos rfl, c2]
  have h1 : f_M_within (nI N) 0 50 = some 1 := h1
  rw [h1, kb1_eq, kb1_eq, if_neg i10, if_neg i10]
  obtain ⟨r, g1, g2⟩ := harvest_l (A := A) (ag := ag) (fi := fi) (fo := fo) (a := ash) (k := nI k) hc (by omega : N ≤ 50) R.1.2.2.2.2.2.2.1 R.1.1.2.1 kFuel 0 0 (by unfold kFuel; omega) (by omega)
  exact ⟨r, fi, fo, g1, g2, F⟩
