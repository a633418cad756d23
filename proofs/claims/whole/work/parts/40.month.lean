/-! one month -/
/-- the row without its counters -/
def kZ (A : Nat → Int32) : Nat → Int32 := fun j => if j = 1 ∨ j = 6 ∨ j = 7 ∨ j = 8 then 0 else A j
theorem kZ_at {A : Nat → Int32} {j : Nat} (h : j ≠ 1 ∧ j ≠ 6 ∧ j ≠ 7 ∧ j ≠ 8) : kZ A j = A j := if_neg (by omega)
theorem kZ_out {A : Nat → Int32} {p : Nat} {v : Int32} (h : p ≠ 1 ∧ p ≠ 6 ∧ p ≠ 7 ∧ p ≠ 8) : kZ (upd A p v) = upd (kZ A) p v := by
  funext j
  by_cases q : j = p
  · subst q; rw [pk_us, kZ_at h, pk_us]
  · rw [pk_un q]
    unfold kZ
    rw [pk_un q]
theorem kZ_in {A : Nat → Int32} {p : Nat} {v : Int32} (h : p = 1 ∨ p = 6 ∨ p = 7 ∨ p = 8) : kZ (upd A p v) = kZ A := by
  funext j
  unfold kZ
  by_cases q : j = p
  · subst q; rw [if_pos h, if_pos h]
  · rw [pk_un q]
theorem RA.ofZ {off n : Nat} {a A : Nat → Int32} (h : RA off n a (kZ A)) (h9 : 9 ≤ off) : RA off n a A := fun i hi => by rw [← h i hi, kZ_at (by omega)]
theorem RFm.ofZ {ki ce ow pu : Nat → Int32} {bu : Int32} {A : Nat → Int32} (h : RFm ki ce ow pu bu (kZ A)) : RFm ki ce ow pu bu A := fun f hf => by
  have := h f hf
  rw [kZ_at (by omega), kZ_at (by omega), kZ_at (by omega), kZ_at (by omega), kZ_at (by omega)] at this
  exact this
theorem RI.toJ {mo vo ou fe fq pi vt ash nu bu se st z : Int32} {hs ag ws ki ce ow pu ch sh di : Nat → Int32} {A : Nat → Int32} (R : RI mo vo ou fe fq pi vt ash hs ag ws nu bu ki ce ow pu se st z ch sh di A) : RI 0 vo 0 0 0 pi vt ash hs ag ws nu bu ki ce ow pu se st z ch sh di (kZ A) := by
  obtain ⟨⟨⟨r1, r2, r3, r4, r5, r6⟩, r7, r8⟩, i1, i2, i3, i4, i5, i6, i7, i8, i9, i10'⟩ := R
  obtain ⟨s0, s1, s2, s3, s4, s5, s6, s7, s8, s9, s10, s11⟩ := r8
  refine ⟨⟨⟨fun i hi => ?_, fun i hi => ?_, fun i hi => ?_, fun i hi => ?_, fun i hi => ?_, fun i hi => ?_⟩, fun f hf => ?_, ?_⟩, i1, i2, i3, i4, i5, i6, i7, i8, ⟨0, 0, 0, 0, rfl, rfl, rfl, rfl, by decide, by decide, by decide, by decide, by decide⟩, i10'⟩
  · rw [kZ_at (by omega)]; exact r1 i hi
  · rw [kZ_at (by omega)]; exact r2 i hi
  · rw [kZ_at (by omega)]; exact r3 i hi
  · rw [kZ_at (by omega)]; exact r4 i hi
  · rw [kZ_at (by omega)]; exact r5 i hi
  · rw [kZ_at (by omega)]; exact r6 i hi
  · rw [kZ_at (by omega), kZ_at (by omega), kZ_at (by omega), kZ_at (by omega), kZ_at (by omega)]; exact r7 f hf
  · exact ⟨s0, rfl, s2, s3, s4, s5, rfl, rfl, rfl, s9, s10, s11⟩
theorem RI.ofJ {mo vo ou fe fq pi vt ash nu bu se st z : Int32} {hs ag ws ki ce ow pu ch sh di : Nat → Int32} {A : Nat → Int32} (R : RI 0 vo 0 0 0 pi vt ash hs ag ws nu bu ki ce ow pu se st z ch sh di (kZ A)) (h1 : A 1 = mo) (h6 : A 6 = ou) (h7 : A 7 = fe) (h8 : A 8 = fq) (i9' : ∃ m o f q, mo = nI m ∧ ou = nI o ∧ fe = nI f ∧ fq = nI q ∧ m ≤ 9999 ∧ q ≤ f ∧ q ≤ o ∧ o ≤ m ∧ f ≤ m) : RI mo vo ou fe fq pi vt ash hs ag ws nu bu ki ce ow pu se st z ch sh di A := by
  obtain ⟨⟨⟨r1, r2, r3, r4, r5, r6⟩, r7, r8⟩, i1, i2, i3, i4, i5, i6, i7, i8, i9, i10'⟩ := R
  obtain ⟨s0, s1, s2, s3, s4, s5, s6, s7, s8, s9, s10, s11⟩ := r8
  exact ⟨⟨⟨r1.ofZ (by decide), r2.ofZ (by decide), r3.ofZ (by decide), r4.ofZ (by decide), r5.ofZ (by decide), r6.ofZ (by decide)⟩, r7.ofZ, ⟨s0, h1, s2, s3, s4, s5, h6, h7, h8, s9, s10, s11⟩⟩, i1, i2, i3, i4, i5, i6, i7, i8, i9', i10'⟩
theorem RI.st {mo vo ou fe fq pi vt ash nu bu se st z : Int32} {hs ag ws ki ce ow pu ch sh di : Nat → Int32} {A : Nat → Int32} {k : Nat} (hk : k < 4) (R : RI mo vo ou fe fq pi vt ash hs ag ws nu bu ki ce ow pu se st z ch sh di A) : RI mo vo ou fe fq pi vt ash hs ag ws nu bu ki ce ow pu se (nI k) z ch sh di (upd A 2 (nI k)) := by
  obtain ⟨⟨⟨r1, r2, r3, r4, r5, r6⟩, r7, r8⟩, i1, i2, i3, i4, i5, i6, i7, i8, i9, i10⟩ := R
  exact ⟨⟨⟨r1.out (by omega), r2.out (by omega), r3.out (by omega), r4.out (by omega), r5.out (by omega), r6.out (by omega)⟩, r7.out (by omega), r8.s2⟩, i1, i2, i3, i4, i5, i6, i7, ⟨k, hk, rfl⟩, i9, i10⟩
theorem RI.ash {mo vo ou fe fq pi vt ash nu bu se st z : Int32} {hs ag ws ki ce ow pu ch sh di : Nat → Int32} {A : Nat → Int32} {v : Int32} (R : RI mo vo ou fe fq pi vt ash hs ag ws nu bu ki ce ow pu se st z ch sh di A) : RI mo vo ou fe fq pi vt v hs ag ws nu bu ki ce ow pu se st z ch sh di (upd A 4 v) := by
  obtain ⟨⟨⟨r1, r2, r3, r4, r5, r6⟩, r7, r8⟩, i1, i2, i3, i4, i5, i6, i7, i8, i9, i10⟩ := R
  exact ⟨⟨⟨r1.out (by omega), r2.out (by omega), r3.out (by omega), r4.out (by omega), r5.out (by omega), r6.out (by omega)⟩, r7.out (by omega), r8.s4⟩, i1, i2, i3, i4, i5, i6, i7, i8, i9, i10⟩
theorem RI.pu {mo vo ou fe fq pi vt ash nu bu se st z : Int32} {hs ag ws ki ce ow pu ch sh di : Nat → Int32} {A : Nat → Int32} {f : Nat} {v : Int32} (hf : f < 12) (R : RI mo vo ou fe fq pi vt ash hs ag ws nu bu ki ce ow pu se st z ch sh di A) : RI mo vo ou fe fq pi vt ash hs ag ws nu bu ki ce ow (upd pu f v) se st z ch sh di (upd A (158 + 5 * f + 3) v) := by
  obtain ⟨⟨⟨r1, r2, r3, r4, r5, r6⟩, r7, r8⟩, h⟩ := R
  exact ⟨⟨⟨r1.out (by omega), r2.out (by omega), r3.out (by omega), r4.out (by omega), r5.out (by omega), r6.out (by omega)⟩, r7.pu, r8.out (by omega)⟩, h⟩
theorem RI.bu1 {mo vo ou fe fq pi vt ash nu bu se st z : Int32} {hs ag ws ki ce ow pu ch sh di : Nat → Int32} {A : Nat → Int32} {f N B' : Nat} {v : Int32} (hf : f < 12) (hnu : nu = nI N) (hN : N ≤ 12) (hB' : B' < 2 ^ N) (h1 : v = (nI B' >>> (nI f &&& 31)) &&& 1) (h2 : ∀ g, g < 12 → g ≠ f → (nI B' >>> (nI g &&& 31)) &&& 1 = (bu >>> (nI g &&& 31)) &&& 1) (R : RI mo vo ou fe fq pi vt ash hs ag ws nu bu ki ce ow pu se st z ch sh di A) : RI mo vo ou fe fq pi vt ash hs ag ws nu (nI B') ki ce ow pu se st z ch sh di (upd A (158 + 5 * f + 4) v) := by
  obtain ⟨⟨⟨r1, r2, r3, r4, r5, r6⟩, r7, r8⟩, i1, i2, i3, i4, i5, i6, i7, i8, i9, i10'⟩ := R
  obtain ⟨N', a0, a1, a2, a3, a4, -⟩ := i1
  have e : N' = N := (nI_eq (by omega) (by omega)).mp (a1.symm.trans hnu)
  subst e
  exact ⟨⟨⟨r1.out (by omega), r2.out (by omega), r3.out (by omega), r4.out (by omega), r5.out (by omega), r6.out (by omega)⟩, r7.bu h1 h2, r8.out (by omega)⟩, ⟨N', a0, a1, a2, a3, a4, B', hB', rfl⟩, i2, i3, i4, i5, i6, i7, i8, i9, i10'⟩
theorem RI.hsAll {mo vo ou fe fq pi vt ash nu bu se st z : Int32} {hs ag ws ki ce ow pu ch sh di : Nat → Int32} {A C h' : Nat → Int32} (E : ∀ j, j < 50 ∨ 86 ≤ j → C j = A j) (H : RA 50 36 h' C) (R : RI mo vo ou fe fq pi vt ash hs ag ws nu bu ki ce ow pu se st z ch sh di A) : RI mo vo ou fe fq pi vt ash h' ag ws nu bu ki ce ow pu se st z ch sh di C := by
  obtain ⟨⟨⟨r1, r2, r3, r4, r5, r6⟩, r7, r8⟩, h⟩ := R
  refine ⟨⟨⟨H, fun i hi => by rw [E _ (by omega), r2 i hi], fun i hi => by rw [E _ (by omega), r3 i hi], fun i hi => by rw [E _ (by omega), r4 i hi], fun i hi => by rw [E _ (by omega), r5 i hi], fun i hi => by rw [E _ (by omega), r6 i hi]⟩, fun f hf => ?_, ?_⟩, h⟩
  · rw [E _ (by omega), E _ (by omega), E _ (by omega), E _ (by omega), E _ (by omega)]; exact r7 f hf
  · obtain ⟨s0, s1, s2, s3, s4, s5, s6, s7, s8, s9, s10, s11⟩ := r8
    exact ⟨(E _ (by omega)).trans s0, (E _ (by omega)).trans s1, (E _ (by omega)).trans s2, (E _ (by omega)).trans s3, (E _ (by omega)).trans s4, (E _ (by omega)).trans s5, (E _ (by omega)).trans s6, (E _ (by omega)).trans s7, (E _ (by omega)).trans s8, (E _ (by omega)).trans s9, (E _ (by omega)).trans s10, (E _ (by omega)).trans s11⟩
/-- the ages under the lava -/
theorem cool_l {vo pi vt ash nu bu se st z : Int32} {hs ws ki ce ow pu ch sh di : Nat → Int32} (m : Int64) : ∀ n k (ag A : Nat → Int32), 36 - k < n → k ≤ 36 → RI 0 vo 0 0 0 pi vt ash hs ag ws nu bu ki ce ow pu se st z ch sh di (kZ A) → ∃ ag' A', fl_Gr_coolDown_1 m ash n (nI k) ag = some (0, ag') ∧ fl_M_comesOut_1 m n (nI k) A = fl_M_comesOut_3 m kFuel 0 A' ∧ RI 0 vo 0 0 0 pi vt ash hs ag' ws nu bu ki ce ow pu se st z ch sh di (kZ A') ∧ (∀ j, j = 1 ∨ j = 6 ∨ j = 7 ∨ j = 8 → A' j = A j) := by
  intro n
  induction n with
  | zero => intro k _ _ h; exact absurd h (by omega)
  | succ n ih =>
    intro k ag A h hk R
    rw [fl_Gr_coolDown_1_s, fl_M_comesOut_1_s]
    unfold fb_Gr_coolDown_1 fb_M_comesOut_1
    by_cases q : k = 36
    · subst q
      exact ⟨ag, A, by rw [if_pos (show (36 : Int32) ≤ nI 36 by decide)], by rw [if_pos (show (36 : Int32) ≤ nI 36 by decide)], R, fun _ _ => rfl⟩
    · rw [if_neg (show ¬ (36 : Int32) ≤ nI k from nI_ge (b := 36) (by omega) (by decide)), if_neg (show ¬ (36 : Int32) ≤ nI k from nI_ge (b := 36) (by omega) (by decide))]
      unfold f_M_comesOut_2
      have k1 : (nI (86 + k)).toNatClampNeg = 86 + k := nI_clamp (by omega)
      have k2 : (nI k).toNatClampNeg = k := nI_clamp (by omega)
      simp only [nl86, nI_add, nI_1, kx (k := 86 + k) (n := 218) (by omega) (by decide), kx (k := k) (n := 36) (by omega) (by decide), k1, k2]
      by_cases z : lg_cmp ((m >>> ((nI k).toInt64 &&& 63)) &&& 1) 1 = 0
      · rw [if_pos z, if_pos z]
        obtain ⟨ag', A', e1, e2, e3, e4⟩ := ih (k + 1) (upd ag k 0) (upd A (86 + k) 0) (by omega) (by omega) (by rw [kZ_out (by omega)]; exact RI.ag (by omega) R)
        exact ⟨ag', A', e1, e2, e3, fun j hj => (e4 j hj).trans (pk_un (by omega))⟩
      · rw [if_neg z, if_neg z, upd_id rfl]
        exact ih (k + 1) ag A (by omega) (by omega) R
theorem l64_and1 (x : Int64) : (x &&& 1).toInt32 = if x &&& 1 = 1 then 1 else 0 := by
  by_cases q : x &&& 1 = 1
  · rw [if_pos q, q]; decide
  · have e : x &&& 1 = 0 := by
      rw [← Int64.toBitVec_inj, ← BitVec.toNat_inj, Int64.toBitVec_and, BitVec.toNat_and, show (1 : Int64).toBitVec.toNat = 1 by decide, show (0 : Int64).toBitVec.toNat = 0 by decide, Nat.and_one_is_mod]
      have h := fun y => q ((l64_bit x).mpr y)
      rw [Nat.testBit_zero] at h
      simp at h
      exact h
    rw [if_neg q, e]; decide
theorem kHit_eq (m : Int64) (x : Int32) : (if (m >>> (x.toInt64 &&& 63)) &&& 1 = 1 then (1 : Int32) else 0) = if kHit m x then 1 else 0 := by
  refine ite_iff' ?_ _ _
  unfold kHit
  rw [decide_eq_true_iff, lg_cmp_eq]
theorem or_b01 (a b : Bool) : (if a = true then (1 : Int32) else 0) ||| (if b = true then 1 else 0) = if (a || b) = true then 1 else 0 := by
  cases a <;> cases b <;> decide
/-- the farms under the lava -/
theorem burn_l {vo pi vt ash nu se st z : Int32} {hs ag ws ki ce ow pu ch sh di : Nat → Int32} (m : Int64) {N B : Nat} (hnu : nu = nI N) (hN : N ≤ 12) (hB : B < 2 ^ N) : ∀ n k (A : Nat → Int32), N - k < n → k ≤ N → RI 0 vo 0 0 0 pi vt ash hs ag ws nu (nI (B ||| kOn m ce k)) ki ce ow pu se st z ch sh di (kZ A) → ∃ A', fl_M_comesOut_3 m n (nI k) A = some (upd (upd A' 4 0) 6 (A' 6 + 1)) ∧ RI 0 vo 0 0 0 pi vt ash hs ag ws nu (nI (B ||| kOn m ce N)) ki ce ow pu se st z ch sh di (kZ A') ∧ (∀ j, j = 1 ∨ j = 6 ∨ j = 7 ∨ j = 8 → A' j = A j) := by
  intro n
  induction n with
  | zero => intro k _ h; exact absurd h (by omega)
  | succ n ih =>
    intro k A h hk R
    have hA : A 10 = nI N := by have := R.1.2.2.2.2.2.2.2.2.2.2.2.2.1; rw [kZ_at (by omega)] at this; exact this.trans hnu
    rw [fl_M_comesOut_3_s]
    unfold fb_M_comesOut_3
    rw [hA]
    by_cases q : k = N
    · subst q
      exact ⟨A, by rw [if_pos (nI_le (Nat.le_refl _) (by omega)), pk_un (by decide)], R, fun _ _ => rfl⟩
    · have l1 := pow_le12 (show k ≤ 12 by omega) (kOn_lt (m := m) (ce := ce))
      have l2 := pow_le12 hN hB
      have l3 : B ||| kOn m ce k < 4096 := Nat.or_lt_two_pow (n := 12) l2 l1
      have l4 : B ||| kOn m ce (k + 1) < 2 ^ N := Nat.or_lt_two_pow hB (Nat.lt_of_lt_of_le (kOn_lt (m := m) (ce := ce)) (Nat.pow_le_pow_right (by decide) (by omega)))
      have l5 := pow_le12 hN l4
      obtain ⟨-, f1, -, -, f4⟩ := R.1.2.1.ofZ k (by omega)
      have k1 : (nI (158 + 5 * k + 4)).toNatClampNeg = 158 + 5 * k + 4 := nI_clamp (by omega)
      rw [if_neg (nI_ge (by omega) (by omega)), nl1, M_farmIs_eq A (by omega) (by decide), kb1_eq]
      simp only [nl158, nl5, nl4, pk_mul, nI_add, nI_1, kx (k := 158 + 5 * k + 4) (n := 218) (by omega) (by decide), k1, klet_eq]
      rw [f1, f4, l64_and1, kHit_eq, bit12 k (by omega) _ l3, or_b01]
      obtain ⟨A', e1, e2, e3⟩ := ih (k + 1) (upd A (158 + 5 * k + 4) (if ((B ||| kOn m ce k).testBit k || kHit m (ce k)) = true then 1 else 0)) (by omega) (by omega) (by
        rw [kZ_out (by omega)]
        refine RI.bu1 (by omega) hnu hN l4 ?_ ?_ R
        · rw [bit12 k (by omega) _ l5, Nat.testBit_or, Nat.testBit_or, kOn_bit, kOn_bit]
          simp
        · intro g hg hgk
          rw [bit12 g hg _ l5, bit12 g hg _ l3, Nat.testBit_or, Nat.testBit_or, kOn_bit, kOn_bit]
          have : decide (g < k + 1) = decide (g < k) := by by_cases y : g < k <;> simp [y] <;> omega
          rw [this])
      exact ⟨A', e1, e2, fun j hj => (e3 j hj).trans (pk_un (by omega))⟩
/-- lava comes out -/
theorem erupt_same {vo ou pi vt ash nu bu se st z : Int32} {hs ag ws ki ce ow pu ch sh di : Nat → Int32} {A : Nat → Int32} (R : RI 0 vo 0 0 0 pi vt ash hs ag ws nu bu ki ce ow pu se st z ch sh di (kZ A)) : ∃ hs' ag' bu' A', f_Sl_eruptNow vo ou vt ash hs ag ws nu bu ce = some (ou + 1, 0, hs', ag', bu') ∧ f_M_comesOut A kDown kAlong = some A' ∧ RI 0 vo 0 0 0 pi vt 0 hs' ag' ws nu bu' ki ce ow pu se st z ch sh di (kZ A') ∧ A' 1 = A 1 ∧ A' 6 = A 6 + 1 ∧ A' 7 = A 7 ∧ A' 8 = A 8 := by
  obtain ⟨N, hN, hnu, -, -, -, B, hB, hbu⟩ := id R.2.1
  obtain ⟨c, hc, hvt⟩ := id R.2.2.1
  obtain ⟨v, hv1, hv2, hvo⟩ := id R.2.2.2.1
  obtain ⟨W, hW, -⟩ := id R.2.2.2.2.1
  obtain ⟨s0, s1, s2, s3, s4, s5, s6, s7, s8, s9, s10, s11⟩ := id R.1.2.2
  have s3 : A 3 = vt := s3
  have s5 : A 5 = vo := s5
  subst hbu hvt hvo
  obtain ⟨C, e1, e2, e3⟩ := lava_m (R.1.1.1.ofZ (by decide)) (fun i hi => by rw [R.1.1.2.2.1.ofZ (by decide) i hi]; exact hW i hi) hc hv1 hv2
  have R2 : RI 0 (nI v) 0 0 0 pi (nI c) ash (kLv hs W c (v - 1)).2 ag ws nu (nI B) ki ce ow pu se st z ch sh di (kZ C) := RI.hsAll (fun j hj => by unfold kZ; rw [e2 j hj]) (fun i hi => by rw [kZ_at (by omega)]; exact e3 i hi) R
  obtain ⟨ag', A1, g1, g2, g3, g4⟩ := cool_l (kCm hs W c (v - 1)) kFuel 0 ag C (by unfold kFuel; omega) (by omega) R2
  obtain ⟨A2, b1, b2, b3⟩ := burn_l (kCm hs W c (v - 1)) hnu hN hB kFuel 0 A1 (by unfold kFuel; omega) (by omega) (by rw [kOn, Nat.or_zero]; exact g3)
  have g1 : f_Gr_coolDown ash ag (kCm hs W c (v - 1)) = some (0, ag') := g1
  refine ⟨(kLv hs W c (v - 1)).2, ag', nI (B ||| kOn (kCm hs W c (v - 1)) ce N), upd (upd A2 4 0) 6 (A2 6 + 1), ?_, ?_, ?_, ?_, ?_, ?_, ?_⟩
  · unfold f_Sl_eruptNow
    rw [lavaFrom_x hW hc hv1 hv2, kb2_eq, g1, kb2_eq, hnu, standing_x _ _ hN, kb1_eq]
    have : nI B ||| nI (kOn (kCm hs W c (v - 1)) ce N) = nI (B ||| kOn (kCm hs W c (v - 1)) ce N) := by
      have l1 := pow_le12 hN (kOn_lt (m := kCm hs W c (v - 1)) (ce := ce))
      have l2 := pow_le12 hN hB
      have l3 : B ||| kOn (kCm hs W c (v - 1)) ce N < 4096 := Nat.or_lt_two_pow (n := 12) l2 l1
      apply Int32.toBitVec_inj.mp
      apply BitVec.eq_of_toNat_eq
      rw [Int32.toBitVec_or, BitVec.toNat_or, pk_tn (by omega), pk_tn (by omega), pk_tn (by omega)]
    rw [this]
  · unfold f_M_comesOut
    rw [s3, s5, e1, kb2_eq]
    exact g2.trans b1
  · rw [kZ_in (by omega), kZ_out (by omega)]
    exact RI.ash b2
  · rw [pk_un (by decide), pk_un (by decide), b3 1 (by omega), g4 1 (by omega), e2 1 (by omega)]
  · rw [pk_us, b3 6 (by omega), g4 6 (by omega), e2 6 (by omega)]
  · rw [pk_un (by decide), pk_un (by decide), b3 7 (by omega), g4 7 (by omega), e2 7 (by omega)]
  · rw [pk_un (by decide), pk_un (by decide), b3 8 (by omega), g4 8 (by omega), e2 8 (by omega)]
