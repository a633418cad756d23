/-! one month -/
/-- the row without its counters -/
def kZ (A : Nat → Int32) : Nat → Int32 := fun j => if j = 1 ∨ j = 6 ∨ j = 7 ∨ j = 8 then 0 else A j
theorem kZ_at {A : Nat → Int32} {j : Nat} (h : j ≠ 1 ∧ j ≠ 6 ∧ j ≠ 7 ∧ j ≠ 8) : kZ A j = A j := if_neg (by omega)
theorem kZ_out {A : Nat → Int32} {p : Nat} {v : Int32} (h : p ≠ 1 ∧ p ≠ 6 ∧ p ≠ 7 ∧ p ≠ 8) : kZ (upd A p v) = upd (kZ A) p v := by
  funext j
  by_cases q : j = p
  · subst q; rw [pk_us, kZ_at h, pk_us]
  · rw [pk_un q]
    unfold kZ
    rw [pk_un q]
theorem kZ_in {A : Nat → Int32} {p : Nat} {v : Int32} (h : p = 1 ∨ p = 6 ∨ p = 7 ∨ p = 8) : kZ (upd A p v) = kZ A := by
  funext j
  unfold kZ
  by_cases q : j = p
  · subst q; rw [if_pos h, if_pos h]
  · rw [pk_un q]
theorem RA.ofZ {off n : Nat} {a A : Nat → Int32} (h : RA off n a (kZ A)) (h9 : 9 ≤ off) : RA off n a A := fun i hi => by rw [← h i hi, kZ_at (by omega)]
theorem RFm.ofZ {ki ce ow pu : Nat → Int32} {bu : Int32} {A : Nat → Int32} (h : RFm ki ce ow pu bu (kZ A)) : RFm ki ce ow pu bu A := fun f hf => by
  have := h f hf
  rw [kZ_at (by omega), kZ_at (by omega), kZ_at (by omega), kZ_at (by omega), kZ_at (by omega)] at this
  exact this
theorem RI.toJ {mo vo ou fe fq pi vt ash nu bu se st z : Int32} {hs ag ws ki ce ow pu ch sh di : Nat → Int32} {A : Nat → Int32} (R : RI mo vo ou fe fq pi vt ash hs ag ws nu bu ki ce ow pu se st z ch sh di A) : RI 0 vo 0 0 0 pi vt ash hs ag ws nu bu ki ce ow pu se st z ch sh di (kZ A) := by
  obtain ⟨⟨⟨r1, r2, r3, r4, r5, r6⟩, r7, r8⟩, i1, i2, i3, i4, i5, i6, i7, i8, i9, i10'⟩ := R
  obtain ⟨s0, s1, s2, s3, s4, s5, s6, s7, s8, s9, s10, s11⟩ := r8
  refine ⟨⟨⟨fun i hi => ?_, fun i hi => ?_, fun i hi => ?_, fun i hi => ?_, fun i hi => ?_, fun i hi => ?_⟩, fun f hf => ?_, ?_⟩, i1, i2, i3, i4, i5, i6, i7, i8, ⟨0, 0, 0, 0, rfl, rfl, rfl, rfl, by decide, by decide, by decide, by decide, by decide⟩, i10'⟩
  · rw [kZ_at (by omega)]; exact r1 i hi
  · rw [kZ_at (by omega)]; exact r2 i hi
  · rw [kZ_at (by omega)]; exact r3 i hi
  · rw [kZ_at (by omega)]; exact r4 i hi
  · rw [kZ_at (by omega)]; exact r5 i hi
  · rw [kZ_at (by omega)]; exact r6 i hi
  · rw [kZ_at (by omega), kZ_at (by omega), kZ_at (by omega), kZ_at (by omega), kZ_at (by omega)]; exact r7 f hf
  · exact ⟨s0, rfl, s2, s3, s4, s5, rfl, rfl, rfl, s9, s10, s11⟩
theorem RI.ofJ {mo vo ou fe fq pi vt ash nu bu se st z : Int32} {hs ag ws ki ce ow pu ch sh di : Nat → Int32} {A : Nat → Int32} (R : RI 0 vo 0 0 0 pi vt ash hs ag ws nu bu ki ce ow pu se st z ch sh di (kZ A)) (h1 : A 1 = mo) (h6 : A 6 = ou) (h7 : A 7 = fe) (h8 : A 8 = fq) (i9' : ∃ m o f q, mo = nI m ∧ ou = nI o ∧ fe = nI f ∧ fq = nI q ∧ m ≤ 9999 ∧ q ≤ f ∧ q ≤ o ∧ o ≤ m ∧ f ≤ m) : RI mo vo ou fe fq pi vt ash hs ag ws nu bu ki ce ow pu se st z ch sh di A := by
  obtain ⟨⟨⟨r1, r2, r3, r4, r5, r6⟩, r7, r8⟩, i1, i2, i3, i4, i5, i6, i7, i8, i9, i10'⟩ := R
  obtain ⟨s0, s1, s2, s3, s4, s5, s6, s7, s8, s9, s10, s11⟩ := r8
  exact ⟨⟨⟨r1.ofZ (by decide), r2.ofZ (by decide), r3.ofZ (by decide), r4.ofZ (by decide), r5.ofZ (by decide), r6.ofZ (by decide)⟩, r7.ofZ, ⟨s0, h1, s2, s3, s4, s5, h6, h7, h8, s9, s10, s11⟩⟩, i1, i2, i3, i4, i5, i6, i7, i8, i9', i10'⟩
theorem RI.st {mo vo ou fe fq pi vt ash nu bu se st z : Int32} {hs ag ws ki ce ow pu ch sh di : Nat → Int32} {A : Nat → Int32} {k : Nat} (hk : k < 4) (R : RI mo vo ou fe fq pi vt ash hs ag ws nu bu ki ce ow pu se st z ch sh di A) : RI mo vo ou fe fq pi vt ash hs ag ws nu bu ki ce ow pu se (nI k) z ch sh di (upd A 2 (nI k)) := by
  obtain ⟨⟨⟨r1, r2, r3, r4, r5, r6⟩, r7, r8⟩, i1, i2, i3, i4, i5, i6, i7, i8, i9, i10⟩ := R
  exact ⟨⟨⟨r1.out (by omega), r2.out (by omega), r3.out (by omega), r4.out (by omega), r5.out (by omega), r6.out (by omega)⟩, r7.out (by omega), r8.s2⟩, i1, i2, i3, i4, i5, i6, i7, ⟨k, hk, rfl⟩, i9, i10⟩
theorem RI.ash {mo vo ou fe fq pi vt ash nu bu se st z : Int32} {hs ag ws ki ce ow pu ch sh di : Nat → Int32} {A : Nat → Int32} {v : Int32} (R : RI mo vo ou fe fq pi vt ash hs ag ws nu bu ki ce ow pu se st z ch sh di A) : RI mo vo ou fe fq pi vt v hs ag ws nu bu ki ce ow pu se st z ch sh di (upd A 4 v) := by
  obtain ⟨⟨⟨r1, r2, r3, r4, r5, r6⟩, r7, r8⟩, i1, i2, i3, i4, i5, i6, i7, i8, i9, i10⟩ := R
  exact ⟨⟨⟨r1.out (by omega), r2.out (by omega), r3.out (by omega), r4.out (by omega), r5.out (by omega), r6.out (by omega)⟩, r7.out (by omega), r8.s4⟩, i1, i2, i3, i4, i5, i6, i7, i8, i9, i10⟩
theorem RI.pu {mo vo ou fe fq pi vt ash nu bu se st z : Int32} {hs ag ws ki ce ow pu ch sh di : Nat → Int32} {A : Nat → Int32} {f : Nat} {v : Int32} (hf : f < 12) (R : RI mo vo ou fe fq pi vt ash hs ag ws nu bu ki ce ow pu se st z ch sh di A) : RI mo vo ou fe fq pi vt ash hs ag ws nu bu ki ce ow (upd pu f v) se st z ch sh di (upd A (158 + 5 * f + 3) v) := by
  obtain ⟨⟨⟨r1, r2, r3, r4, r5, r6⟩, r7, r8⟩, h⟩ := R
  exact ⟨⟨⟨r1.out (by omega), r2.out (by omega), r3.out (by omega), r4.out (by omega), r5.out (by omega), r6.out (by omega)⟩, r7.pu, r8.out (by omega)⟩, h⟩
theorem RI.bu1 {mo vo ou fe fq pi vt ash nu bu se st z : Int32} {hs ag ws ki ce ow pu ch sh di : Nat → Int32} {A : Nat → Int32} {f N B' : Nat} {v : Int32} (hf : f < 12) (hnu : nu = nI N) (hN : N ≤ 12) (hB' : B' < 2 ^ N) (h1 : v = (nI B' >>> (nI f &&& 31)) &&& 1) (h2 : ∀ g, g < 12 → g ≠ f → (nI B' >>> (nI g &&& 31)) &&& 1 = (bu >>> (nI g &&& 31)) &&& 1) (R : RI mo vo ou fe fq pi vt ash hs ag ws nu bu ki ce ow pu se st z ch sh di A) : RI mo vo ou fe fq pi vt ash hs ag ws nu (nI B') ki ce ow pu se st z ch sh di (upd A (158 + 5 * f + 4) v) := by
  obtain ⟨⟨⟨r1, r2, r3, r4, r5, r6⟩, r7, r8⟩, i1, i2, i3, i4, i5, i6, i7, i8, i9, i10'⟩ := R
  obtain ⟨N', a0, a1, a2, a3, a4, -⟩ := i1
  have e : N' = N := (nI_eq (by omega) (by omega)).mp (a1.symm.trans hnu)
  subst e
  exact ⟨⟨⟨r1.out (by omega), r2.out (by omega), r3.out (by omega), r4.out (by omega), r5.out (by omega), r6.out (by omega)⟩, r7.bu h1 h2, r8.out (by omega)⟩, ⟨N', a0, a1, a2, a3, a4, B', hB', rfl⟩, i2, i3, i4, i5, i6, i7, i8, i9, i10'⟩
theorem RI.hsAll {mo vo ou fe fq pi vt ash nu bu se st z : Int32} {hs ag ws ki ce ow pu ch sh di : Nat → Int32} {A C h' : Nat → Int32} (E : ∀ j, j < 50 ∨ 86 ≤ j → C j = A j) (H : RA 50 36 h' C) (R : RI mo vo ou fe fq pi vt ash hs ag ws nu bu ki ce ow pu se st z ch sh di A) : RI mo vo ou fe fq pi vt ash h' ag ws nu bu ki ce ow pu se st z ch sh di C := by
  obtain ⟨⟨⟨r1, r2, r3, r4, r5, r6⟩, r7, r8⟩, h⟩ := R
  refine ⟨⟨⟨H, fun i hi => by rw [E _ (by omega), r2 i hi], fun i hi => by rw [E _ (by omega), r3 i hi], fun i hi => by rw [E _ (by omega), r4 i hi], fun i hi => by rw [E _ (by omega), r5 i hi], fun i hi => by rw [E _ (by omega), r6 i hi]⟩, fun f hf => ?_, ?_⟩, h⟩
  · rw [E _ (by omega), E _ (by omega), E _ (by omega), E _ (by omega), E _ (by omega)]; exact r7 f hf
  · obtain ⟨s0, s1, s2, s3, s4, s5, s6, s7, s8, s9, s10, s11⟩ := r8
    exact ⟨(E _ (by omega)).trans s0, (E _ (by omega)).trans s1, (E _ (by omega)).trans s2, (E _ (by omega)).trans s3, (E _ (by omega)).trans s4, (E _ (by omega)).trans s5, (E _ (by omega)).trans s6, (E _ (by omega)).trans s7, (E _ (by omega)).trans s8, (E _ (by omega)).trans s9, (E _ (by omega)).trans s10, (E _ (by omega)).trans s11⟩
/-- the ages under the lava -/
theorem cool_l {vo pi vt ash nu bu se st z : Int32} {hs ws ki ce ow pu ch sh di : Nat → Int32} (m : Int64) : ∀ n k (ag A : Nat → Int32), 36 - k < n → k ≤ 36 → RI 0 vo 0 0 0 pi vt ash hs ag ws nu bu ki ce ow pu se st z ch sh di (kZ A) → ∃ ag' A', fl_Gr_coolDown_1 m ash n (nI k) ag = some (0, ag') ∧ fl_M_comesOut_1 m n (nI k) A = fl_M_comesOut_3 m kFuel 0 A' ∧ RI 0 vo 0 0 0 pi vt ash hs ag' ws nu bu ki ce ow pu se st z ch sh di (kZ A') ∧ (∀ j, j = 1 ∨ j = 6 ∨ j = 7 ∨ j = 8 → A' j = A j) := by
  intro n
  induction n with
  | zero => intro k _ _ h; exact absurd h (by omega)
  | succ n ih =>
    intro k ag A h hk R
    rw [fl_Gr_coolDown_1_s, fl_M_comesOut_1_s]
    unfold fb_Gr_coolDown_1 fb_M_comesOut_1
    by_cases q : k = 36
    · subst q
      exact ⟨ag, A, by rw [if_pos (show (36 : Int32) ≤ nI 36 by decide)], by rw [if_pos (show (36 : Int32) ≤ nI 36 by decide)], R, fun _ _ => rfl⟩
    · rw [if_neg (show ¬ (36 : Int32) ≤ nI k from nI_ge (b := 36) (by omega) (by decide)), if_neg (show ¬ (36 : Int32) ≤ nI k from nI_ge (b := 36) (by omega) (by decide))]
      unfold f_M_comesOut_2
      have k1 : (nI (86 + k)).toNatClampNeg = 86 + k := nI_clamp (by omega)
      have k2 : (nI k).toNatClampNeg = k := nI_clamp (by omega)
      simp only [nl86, nI_add, nI_1, kx (k := 86 + k) (n := 218) (by omega) (by decide), kx (k := k) (n := 36) (by omega) (by decide), k1, k2]
      by_cases z : lg_cmp ((m >>> ((nI k).toInt64 &&& 63)) &&& 1) 1 = 0
      · rw [if_pos z, if_pos z]
        obtain ⟨ag', A', e1, e2, e3, e4⟩ := ih (k + 1) (upd ag k 0) (upd A (86 + k) 0) (by omega) (by omega) (by rw [kZ_out (by omega)]; exact RI.ag (by omega) R)
        exact ⟨ag', A', e1, e2, e3, fun j hj => (e4 j hj).trans (pk_un (by omega))⟩
      · rw [if_neg z, if_neg z, upd_id rfl]
        exact ih (k + 1) ag A (by omega) (by omega) R
theorem l64_and1 (x : Int64) : (x &&& 1).toInt32 = if x &&& 1 = 1 then 1 else 0 := by
  by_cases q : x &&& 1 = 1
  · rw [if_pos q, q]; decide
  · have e : x &&& 1 = 0 := by
      rw [← Int64.toBitVec_inj, ← BitVec.toNat_inj, Int64.toBitVec_and, BitVec.toNat_and, show (1 : Int64).toBitVec.toNat = 1 by decide, show (0 : Int64).toBitVec.toNat = 0 by decide, Nat.and_one_is_mod]
      have h := fun y => q ((l64_bit x).mpr y)
      rw [Nat.testBit_zero] at h
      simp at h
      exact h
    rw [if_neg q, e]; decide
theorem kHit_eq (m : Int64) (x : Int32) : (if (m >>> (x.toInt64 &&& 63)) &&& 1 = 1 then (1 : Int32) else 0) = if kHit m x then 1 else 0 := by
  refine ite_iff' ?_ _ _
  unfold kHit
  rw [decide_eq_true_iff, lg_cmp_eq]
theorem or_b01 (a b : Bool) : (if a = true then (1 : Int32) else 0) ||| (if b = true then 1 else 0) = if (a || b) = true then 1 else 0 := by
  cases a <;> cases b <;> decide
/-- the farms under the lava -/
theorem burn_l {vo pi vt ash nu se st z : Int32} {hs ag ws ki ce ow pu ch sh di : Nat → Int32} (m : Int64) {N B : Nat} (hnu : nu = nI N) (hN : N ≤ 12) (hB : B < 2 ^ N) : ∀ n k (A : Nat → Int32), N - k < n → k ≤ N → RI 0 vo 0 0 0 pi vt ash hs ag ws nu (nI (B ||| kOn m ce k)) ki ce ow pu se st z ch sh di (kZ A) → ∃ A', fl_M_comesOut_3 m n (nI k) A = some (upd (upd A' 4 0) 6 (A' 6 + 1)) ∧ RI 0 vo 0 0 0 pi vt ash hs ag ws nu (nI (B ||| kOn m ce N)) ki ce ow pu se st z ch sh di (kZ A') ∧ (∀ j, j = 1 ∨ j = 6 ∨ j = 7 ∨ j = 8 → A' j = A j) := by
  intro n
  induction n with
  | zero => intro k _ h; exact absurd h (by omega)
  | succ n ih =>
    intro k A h hk R
    have hA : A 10 = nI N := by have := R.1.2.2.2.2.2.2.2.2.2.2.2.2.1; rw [kZ_at (by omega)] at this; exact this.trans hnu
    rw [fl_M_comesOut_3_s]
    unfold fb_M_comesOut_3
    rw [hA]
    by_cases q : k = N
    · subst q
      exact ⟨A, by rw [if_pos (nI_le (Nat.le_refl _) (by omega)), pk_un (by decide)], R, fun _ _ => rfl⟩
    · have l1 := pow_le12 (show k ≤ 12 by omega) (kOn_lt (m := m) (ce := ce))
      have l2 := pow_le12 hN hB
      have l3 : B ||| kOn m ce k < 4096 := Nat.or_lt_two_pow (n := 12) l2 l1
      have l4 : B ||| kOn m ce (k + 1) < 2 ^ N := Nat.or_lt_two_pow hB (Nat.lt_of_lt_of_le (kOn_lt (m := m) (ce := ce)) (Nat.pow_le_pow_right (by decide) (by omega)))
      have l5 := pow_le12 hN l4
      obtain ⟨-, f1, -, -, f4⟩ := R.1.2.1.ofZ k (by omega)
      have k1 : (nI (158 + 5 * k + 4)).toNatClampNeg = 158 + 5 * k + 4 := nI_clamp (by omega)
      rw [if_neg (nI_ge (by omega) (by omega)), nl1, M_farmIs_eq A (by omega) (by decide), kb1_eq]
      simp only [nl158, nl5, nl4, pk_mul, nI_add, nI_1, kx (k := 158 + 5 * k + 4) (n := 218) (by omega) (by decide), k1, klet_eq]
      rw [f1, f4, l64_and1, kHit_eq, bit12 k (by omega) _ l3, or_b01]
      obtain ⟨A', e1, e2, e3⟩ := ih (k + 1) (upd A (158 + 5 * k + 4) (if ((B ||| kOn m ce k).testBit k || kHit m (ce k)) = true then 1 else 0)) (by omega) (by omega) (by
        rw [kZ_out (by omega)]
        refine RI.bu1 (by omega) hnu hN l4 ?_ ?_ R
        · rw [bit12 k (by omega) _ l5, Nat.testBit_or, Nat.testBit_or, kOn_bit, kOn_bit]
          simp
        · intro g hg hgk
          rw [bit12 g hg _ l5, bit12 g hg _ l3, Nat.testBit_or, Nat.testBit_or, kOn_bit, kOn_bit]
          have : decide (g < k + 1) = decide (g < k) := by by_cases y : g < k <;> simp [y] <;> omega
          rw [this])
      exact ⟨A', e1, e2, fun j hj => (e3 j hj).trans (pk_un (by omega))⟩
/-- lava comes out -/
theorem erupt_same {vo ou pi vt ash nu bu se st z : Int32} {hs ag ws ki ce ow pu ch sh di : Nat → Int32} {A : Nat → Int32} (R : RI 0 vo 0 0 0 pi vt ash hs ag ws nu bu ki ce ow pu se st z ch sh di (kZ A)) : ∃ hs' ag' bu' A', f_Sl_eruptNow vo ou vt ash hs ag ws nu bu ce = some (ou + 1, 0, hs', ag', bu') ∧ f_M_comesOut A kDown kAlong = some A' ∧ RI 0 vo 0 0 0 pi vt 0 hs' ag' ws nu bu' ki ce ow pu se st z ch sh di (kZ A') ∧ A' 1 = A 1 ∧ A' 6 = A 6 + 1 ∧ A' 7 = A 7 ∧ A' 8 = A 8 := by
  obtain ⟨N, hN, hnu, -, -, -, B, hB, hbu⟩ := id R.2.1
  obtain ⟨c, hc, hvt⟩ := id R.2.2.1
  obtain ⟨v, hv1, hv2, hvo⟩ := id R.2.2.2.1
  obtain ⟨W, hW, -⟩ := id R.2.2.2.2.1
  obtain ⟨s0, s1, s2, s3, s4, s5, s6, s7, s8, s9, s10, s11⟩ := id R.1.2.2
  have s3 : A 3 = vt := s3
  have s5 : A 5 = vo := s5
  subst hbu hvt hvo
  obtain ⟨C, e1, e2, e3⟩ := lava_m (R.1.1.1.ofZ (by decide)) (fun i hi => by rw [R.1.1.2.2.1.ofZ (by decide) i hi]; exact hW i hi) hc hv1 hv2
  have R2 : RI 0 (nI v) 0 0 0 pi (nI c) ash (kLv hs W c (v - 1)).2 ag ws nu (nI B) ki ce ow pu se st z ch sh di (kZ C) := RI.hsAll (fun j hj => by unfold kZ; rw [e2 j hj]) (fun i hi => by rw [kZ_at (by omega)]; exact e3 i hi) R
  obtain ⟨ag', A1, g1, g2, g3, g4⟩ := cool_l (kCm hs W c (v - 1)) kFuel 0 ag C (by unfold kFuel; omega) (by omega) R2
  obtain ⟨A2, b1, b2, b3⟩ := burn_l (kCm hs W c (v - 1)) hnu hN hB kFuel 0 A1 (by unfold kFuel; omega) (by omega) (by rw [kOn, Nat.or_zero]; exact g3)
  have g1 : f_Gr_coolDown ash ag (kCm hs W c (v - 1)) = some (0, ag') := g1
  refine ⟨(kLv hs W c (v - 1)).2, ag', nI (B ||| kOn (kCm hs W c (v - 1)) ce N), upd (upd A2 4 0) 6 (A2 6 + 1), ?_, ?_, ?_, ?_, ?_, ?_, ?_⟩
  · unfold f_Sl_eruptNow
    rw [lavaFrom_x hW hc hv1 hv2, kb2_eq, g1, kb2_eq, hnu, standing_x _ _ hN, kb1_eq]
    have : nI B ||| nI (kOn (kCm hs W c (v - 1)) ce N) = nI (B ||| kOn (kCm hs W c (v - 1)) ce N) := by
      have l1 := pow_le12 hN (kOn_lt (m := kCm hs W c (v - 1)) (ce := ce))
      have l2 := pow_le12 hN hB
      have l3 : B ||| kOn (kCm hs W c (v - 1)) ce N < 4096 := Nat.or_lt_two_pow (n := 12) l2 l1
      apply Int32.toBitVec_inj.mp
      apply BitVec.eq_of_toNat_eq
      rw [Int32.toBitVec_or, BitVec.toNat_or, pk_tn (by omega), pk_tn (by omega), pk_tn (by omega)]
    rw [this]
  · unfold f_M_comesOut
    rw [s3, s5, e1, kb2_eq]
    exact g2.trans b1
  · rw [kZ_in (by omega), kZ_out (by omega)]
    exact RI.ash b2
  · rw [pk_un (by decide), pk_un (by decide), b3 1 (by omega), g4 1 (by omega), e2 1 (by omega)]
  · rw [pk_us, b3 6 (by omega), g4 6 (by omega), e2 6 (by omega)]
  · rw [pk_un (by decide), pk_un (by decide), b3 7 (by omega), g4 7 (by omega), e2 7 (by omega)]
  · rw [pk_un (by decide), pk_un (by decide), b3 8 (by omega), g4 8 (by omega), e2 8 (by omega)]
/-- a year is over -/
theorem earn_l {vo pi vt ash nu bu se st z : Int32} {hs ag ws ki ce ow ch sh di : Nat → Int32} {N B : Nat} (hnu : nu = nI N) (hbu : bu = nI B) (hN : N ≤ 12) (hB : B < 4096) (hce : ∀ f, f < N → ∃ c, c < 36 ∧ ce f = nI c) : ∀ n k (pu A : Nat → Int32), N - k < n → k ≤ N → RI 0 vo 0 0 0 pi vt ash hs ag ws nu bu ki ce ow pu se st z ch sh di (kZ A) → ∃ pu' A', fl_Fa_earnOn_1 (nI N) (nI B) ki ce ash ag n (nI k) pu = some pu' ∧ fl_M_yearIsOver_1 n (nI k) A = fl_M_yearIsOver_2 kFuel 0 A' ∧ RI 0 vo 0 0 0 pi vt ash hs ag ws nu bu ki ce ow pu' se st z ch sh di (kZ A') ∧ (∀ j, j = 1 ∨ j = 6 ∨ j = 7 ∨ j = 8 → A' j = A j) := by
  intro n
  induction n with
  | zero => intro k _ _ h; exact absurd h (by omega)
  | succ n ih =>
    intro k pu A h hk R
    have hA : A 10 = nI N := by have := R.1.2.2.2.2.2.2.2.2.2.2.2.2.1; rw [kZ_at (by omega)] at this; exact this.trans hnu
    have h4 : A 4 = ash := by have := R.1.2.2.2.2.2.2.1; rw [kZ_at (by omega)] at this; exact this
    rw [fl_Fa_earnOn_1_s, fl_M_yearIsOver_1_s]
    unfold fb_Fa_earnOn_1 fb_M_yearIsOver_1
    rw [hA]
    by_cases q : k = N
    · subst q
      exact ⟨pu, A, by rw [if_pos (nI_le (Nat.le_refl _) (by omega))], by rw [if_pos (nI_le (Nat.le_refl _) (by omega))], R, fun _ _ => rfl⟩
    · obtain ⟨c, hc, hcf⟩ := hce k (by omega)
      have Rf := R.1.2.1.ofZ
      rw [hbu] at Rf
      have f3 := (Rf k (by omega)).2.2.2.1
      have k1 : (nI (158 + 5 * k + 3)).toNatClampNeg = 158 + 5 * k + 3 := nI_clamp (by omega)
      have k2 : (nI k).toNatClampNeg = k := nI_clamp (by omega)
      rw [if_neg (nI_ge (by omega) (by omega)), if_neg (nI_ge (by omega) (by omega)), bearsOn_x (by omega) hB hc hcf, bears_mm (by omega) hB hc hcf Rf (R.1.1.2.1.ofZ (by decide)) h4, kb1_eq, kb1_eq]
      simp only [nl158, nl5, nl3, pk_mul, nI_add, nI_1, kx (k := 158 + 5 * k + 3) (n := 218) (by omega) (by decide), kx (k := k) (n := 12) (by omega) (by decide), k1, k2, klet_eq]
      rw [f3]
      obtain ⟨pu', A', e1, e2, e3, e4⟩ := ih (k + 1) (upd pu k (pu k + if B.testBit k = true then 0 else bq (ki k) (ag c) ash)) (upd A (158 + 5 * k + 3) (pu k + if B.testBit k = true then 0 else bq (ki k) (ag c) ash)) (by omega) (by omega) (by rw [kZ_out (by omega)]; exact RI.pu (by omega) R)
      exact ⟨pu', A', e1, e2, e3, fun j hj => (e4 j hj).trans (pk_un (by omega))⟩
theorem grow_l {vo pi vt ash nu bu se st z : Int32} {hs ws ki ce ow pu ch sh di : Nat → Int32} : ∀ n k (ag A : Nat → Int32), 36 - k < n → k ≤ 36 → RI 0 vo 0 0 0 pi vt ash hs ag ws nu bu ki ce ow pu se st z ch sh di (kZ A) → ∃ ash' ag' A', fl_Gr_growOlder_1 ash n (nI k) ag = some (ash', ag') ∧ fl_M_yearIsOver_2 n (nI k) A = some A' ∧ RI 0 vo 0 0 0 pi vt ash' hs ag' ws nu bu ki ce ow pu se st z ch sh di (kZ A') ∧ (∀ j, j = 1 ∨ j = 6 ∨ j = 7 ∨ j = 8 → A' j = A j) := by
  intro n
  induction n with
  | zero => intro k _ _ h; exact absurd h (by omega)
  | succ n ih =>
    intro k ag A h hk R
    have h4 : A 4 = ash := by have := R.1.2.2.2.2.2.2.1; rw [kZ_at (by omega)] at this; exact this
    rw [fl_Gr_growOlder_1_s, fl_M_yearIsOver_2_s]
    unfold fb_Gr_growOlder_1 fb_M_yearIsOver_2
    by_cases q : k = 36
    · subst q
      obtain ⟨m, g⟩ := min_some 99 (ash + 1)
      refine ⟨m, ag, upd A 4 m, ?_, ?_, ?_, ?_⟩
      · rw [if_pos (show (36 : Int32) ≤ nI 36 by decide), g, kb1_eq]
      · rw [if_pos (show (36 : Int32) ≤ nI 36 by decide), h4, g, kb1_eq]
      · rw [kZ_out (by omega)]; exact RI.ash R
      · exact fun j hj => pk_un (by omega)
    · obtain ⟨m, g⟩ := min_some 99 (ag k + 1)
      have k1 : (nI (86 + k)).toNatClampNeg = 86 + k := nI_clamp (by omega)
      have k2 : (nI k).toNatClampNeg = k := nI_clamp (by omega)
      have ra := R.1.1.2.1.ofZ (by decide) k (by omega)
      rw [if_neg (show ¬ (36 : Int32) ≤ nI k from nI_ge (b := 36) (by omega) (by decide)), if_neg (show ¬ (36 : Int32) ≤ nI k from nI_ge (b := 36) (by omega) (by decide))]
      simp only [nl86, nI_add, kx (k := 86 + k) (n := 218) (by omega) (by decide), kx (k := k) (n := 36) (by omega) (by decide), k1, k2, ra]
      rw [g, kb1_eq, kb1_eq, nI_1]
      obtain ⟨ash', ag', A', e1, e2, e3, e4⟩ := ih (k + 1) (upd ag k m) (upd A (86 + k) m) (by omega) (by omega) (by rw [kZ_out (by omega)]; exact RI.ag (by omega) R)
      exact ⟨ash', ag', A', e1, e2, e3, fun j hj => (e4 j hj).trans (pk_un (by omega))⟩
theorem year_same {vo pi vt ash nu bu se st z : Int32} {hs ag ws ki ce ow pu ch sh di : Nat → Int32} {A : Nat → Int32} (R : RI 0 vo 0 0 0 pi vt ash hs ag ws nu bu ki ce ow pu se st z ch sh di (kZ A)) : ∃ pu' ash' ag' A', f_Fa_earnOn nu bu ki ce pu ash ag = some pu' ∧ f_Gr_growOlder ash ag = some (ash', ag') ∧ f_M_yearIsOver A = some A' ∧ RI 0 vo 0 0 0 pi vt ash' hs ag' ws nu bu ki ce ow pu' se st z ch sh di (kZ A') ∧ (∀ j, j = 1 ∨ j = 6 ∨ j = 7 ∨ j = 8 → A' j = A j) := by
  obtain ⟨N, hN, hnu, hce, -, -, B, hB, hbu⟩ := id R.2.1
  obtain ⟨pu', A1, e1, e2, e3, e4⟩ := earn_l hnu hbu hN (pow_le12 hN hB) hce kFuel 0 pu A (by unfold kFuel; omega) (by omega) R
  obtain ⟨ash', ag', A2, g1, g2, g3, g4⟩ := grow_l kFuel 0 ag A1 (by unfold kFuel; omega) (by omega) e3
  refine ⟨pu', ash', ag', A2, ?_, g1, ?_, g3, fun j hj => (g4 j hj).trans (e4 j hj)⟩
  · rw [hnu, hbu]; exact e1
  · exact e2.trans g2
/-- the month's end -/
theorem end_same {mo vo ou fe fq pi vt ash nu bu se st z : Int32} {hs ag ws ki ce ow pu ch sh di : Nat → Int32} {A : Nat → Int32} {r : Int32} (hr : r = 0 ∨ r = 1) (R : RI 0 vo 0 0 0 pi vt ash hs ag ws nu bu ki ce ow pu se st z ch sh di (kZ A)) (h1 : A 1 = mo) (h6 : A 6 = ou) (h7 : A 7 = fe) (h8 : A 8 = fq) : ∃ fe' fq' A', f_Sl_goMonth_2 r mo ou fe fq pi ash hs ag bu pu st z = some (r, mo + 1, ou, fe', fq', 0, ash, hs, ag, bu, pu, st, z) ∧ f_M_month_5 r A = some (r, A') ∧ RI 0 vo 0 0 0 0 vt ash hs ag ws nu bu ki ce ow pu se st z ch sh di (kZ A') ∧ A' 1 = mo + 1 ∧ A' 6 = ou ∧ A' 7 = fe' ∧ A' 8 = fq' ∧ (fe' = fe ∧ fq' = fq ∨ fe' = fe + 1 ∧ fq' = fq + r) := by
  have h9 : A 9 = pi := by have := R.1.2.2.2.2.2.2.2.2.2.2.2.1; rw [kZ_at (by omega)] at this; exact this
  have hpi : pi = 0 ∨ pi = 1 := R.2.2.2.2.2.2.2.2.2.2
  refine ⟨fe + pi, fq + pi * r, upd (upd (upd (upd A 7 (fe + pi)) 8 (fq + pi * r)) 9 0) 1 (mo + 1), ?_, ?_, ?_, pk_us, ?_, ?_, ?_, ?_⟩
  · unfold f_Sl_goMonth_2 f_Sl_goMonth_3 f_Sl_goMonth_4
    rw [if_pos hr]
    rcases hpi with rfl | rfl
    · rw [if_pos rfl, Int32.add_zero, Int32.zero_mul, Int32.add_zero]
    · rw [if_neg i10]
      rcases hr with rfl | rfl
      · rw [if_pos rfl, Int32.mul_zero, if_pos (Or.inl rfl)]
      · rw [if_neg i10]; rfl
  · unfold f_M_month_5
    rw [klet_eq, klet_eq, h7, h9]
    rw [pk_un (show (8 : Nat) ≠ 7 by decide), pk_un (show (9 : Nat) ≠ 7 by decide), h8, h9, pk_un (show (1 : Nat) ≠ 9 by decide), pk_un (show (1 : Nat) ≠ 8 by decide), pk_un (show (1 : Nat) ≠ 7 by decide), h1]
  · rw [kZ_in (by omega), kZ_out (by omega), kZ_in (by omega), kZ_in (by omega)]
    exact RI.pi (Or.inl rfl) R
  · rw [pk_un (by decide), pk_un (by decide), pk_un (by decide), pk_un (by decide)]; exact h6
  · rw [pk_un (by decide), pk_un (by decide), pk_un (by decide), pk_us]
  · rw [pk_un (by decide), pk_un (by decide), pk_us]
  · rcases hpi with rfl | rfl
    · exact Or.inl ⟨Int32.add_zero _, by rw [Int32.zero_mul, Int32.add_zero]⟩
    · exact Or.inr ⟨rfl, by rw [Int32.one_mul]⟩
def cSum (c : Nat → Nat) : Nat → Nat
  | 0 => 0
  | k + 1 => cSum c k + c k
theorem pick_l {ch sh A : Nat → Int32} {c : Nat → Nat} {s d : Nat} {z' st0 : Int32} (hs : s < 4) (hd : d < 10) (R : RA 18 16 ch A) (hc : ∀ i, i < 4 → ch (4 * s + i) = nI (c i)) (h10 : cSum c 4 = 10) : ∀ n i, 4 - i < n → i < 4 → cSum c i ≤ d → ∃ t, t < 4 ∧ fl_Mo_goOn_1 (nI d) (nI s) z' ch sh n (nI (cSum c i)) (nI i) st0 = f_Mo_goOn_2 (nI s) (nI t) z' ∧ fl_M_month_1 (nI d) (nI s) (nI (18 + 4 * s)) kDown kAlong n (nI i) (nI (cSum c (i + 1))) A = f_M_month_3 (if t = 3 ∧ ¬ s = 3 then 1 else 0) (upd A 2 (nI t)) kDown kAlong := by
  intro n
  induction n with
  | zero => intro i h; exact absurd h (by omega)
  | succ n ih =>
    intro i h hi hl
    have hle : ∀ i, i < 4 → cSum c (i + 1) ≤ 10 := by
      have h10' : 0 + c 0 + c 1 + c 2 + c 3 = 10 := h10
      intro i hi
      have c4 : i = 0 ∨ i = 1 ∨ i = 2 ∨ i = 3 := by omega
      rcases c4 with rfl | rfl | rfl | rfl <;> simp only [cSum] <;> omega
    have e : cSum c i + c i = cSum c (i + 1) := rfl
    have l := hle i hi
    rw [fl_Mo_goOn_1_s, fl_M_month_1_s]
    unfold fb_Mo_goOn_1 fb_M_month_1
    rw [if_neg (show ¬ (4 : Int32) ≤ nI i from nI_ge (b := 4) hi (by decide)), Mo_tenthAt_0 ch sh hs hi, kb1_eq, hc i hi, nI_add, e]
    by_cases q : cSum c (i + 1) ≤ d
    · have i3 : i ≠ 3 := fun y => by subst y; rw [h10] at q; omega
      have k1 : (nI (18 + 4 * s + (i + 1))).toNatClampNeg = 18 + 4 * s + (i + 1) := nI_clamp (by omega)
      rw [if_pos (nI_le q (by omega)), if_neg (nI_nlt q (by omega)), nI_1, nI_add, kx (k := 18 + 4 * s + (i + 1)) (n := 218) (by omega) (by decide), klet_eq, k1, Nat.add_assoc, R _ (by omega), hc (i + 1) (by omega), nI_add]
      exact ih (i + 1) (by omega) (by omega) q
    · refine ⟨i, hi, ?_, ?_⟩
      · rw [if_neg (nI_ge (by omega) (by omega))]
      · rw [if_pos (nI_lt (by omega) (by omega))]
        unfold f_M_month_2
        by_cases y : i = 3
        · rw [if_pos (show nI i = (3 : Int32) by rw [y]; rfl)]
          by_cases x : s = 3
          · rw [if_pos (show nI s = (3 : Int32) by rw [x]; rfl), if_neg (fun w => w.2 x)]
          · rw [if_neg (fun w : nI s = (3 : Int32) => x ((nI_eq (b := 3) (by omega) (by decide)).mp w)), if_pos ⟨y, x⟩]
        · rw [if_neg (fun w : nI i = (3 : Int32) => y ((nI_eq (b := 3) (by omega) (by decide)).mp w)), if_neg (fun w => y w.1)]
theorem draw_10 (z : Int32) : ∃ d, d < 10 ∧ ((z.toUInt32 >>> ((8 : Int32).toUInt32 &&& Int32.toUInt32 31)).toInt32) - ((z.toUInt32 >>> ((8 : Int32).toUInt32 &&& Int32.toUInt32 31)).toInt32) / (10 : Int32) * (10 : Int32) = nI d := by
  have e1 := pk_ushr z 8 8 (by decide)
  have l := z.toBitVec.isLt
  have e2 : (z.toUInt32 >>> ((8 : Int32).toUInt32 &&& Int32.toUInt32 31)).toInt32 = nI (z.toBitVec.toNat / 2 ^ 8) := by
    apply Int32.toBitVec_inj.mp
    apply BitVec.eq_of_toNat_eq
    rw [e1, pk_tn (by omega)]
  rw [e2]
  refine ⟨z.toBitVec.toNat / 2 ^ 8 % 10, Nat.mod_lt _ (by decide), ?_⟩
  exact pk_rem (d := 10) (by omega) (by decide) (by decide)
/-- one month -/
theorem month_same {mo vo ou fe fq pi vt ash nu bu se st z : Int32} {hs ag ws ki ce ow pu ch sh di : Nat → Int32} {A : Nat → Int32} (R : RI mo vo ou fe fq pi vt ash hs ag ws nu bu ki ce ow pu se st z ch sh di A) {m : Nat} (hmo : mo = nI m) (hm : m + 1 ≤ 9999) : ∃ r mo' ou' fe' fq' pi' ash' hs' ag' bu' pu' st' z' A', f_Sl_goMonth mo vo ou fe fq pi vt ash hs ag ws nu bu ki ce pu st z ch sh = some (r, mo', ou', fe', fq', pi', ash', hs', ag', bu', pu', st', z') ∧ f_M_month A kDown kAlong = some (r, A') ∧ (r = 0 ∨ r = 1) ∧ RI mo' vo ou' fe' fq' pi' vt ash' hs' ag' ws nu bu' ki ce ow pu' se st' z' ch sh di A' ∧ mo' = nI (m + 1) := by
  obtain ⟨s, hs4, hst⟩ := id R.2.2.2.2.2.2.2.2.1
  obtain ⟨m', o, f, q, e1, e2, e3, e4, g1, g2, g3, g4, g5⟩ := id R.2.2.2.2.2.2.2.2.2.1
  have em : m' = m := (nI_eq (by omega) (by omega)).mp (e1.symm.trans hmo)
  subst em
  obtain ⟨s0, s1, s2, s3, s4, s5, s6, s7, s8, s9, s10, s11⟩ := id R.1.2.2
  obtain ⟨a, b, c, d, habcd, h0, h1, h2, h3⟩ := R.2.2.2.2.2.1 s hs4
  obtain ⟨dr, hdr, edr⟩ := draw_10 (z * 1103515245 + 12345)
  have RJ : RI 0 vo 0 0 0 pi vt ash hs ag ws nu bu ki ce ow pu se st (z * 1103515245 + 12345) ch sh di (kZ (upd A 0 (z * 1103515245 + 12345))) := by rw [kZ_out (by omega)]; exact RI.z R.toJ
  have R18 : RA 18 16 ch (upd A 0 (z * 1103515245 + 12345)) := RJ.1.1.2.2.2.1.ofZ (by decide)
  obtain ⟨t, ht, p1, p2⟩ := pick_l (sh := sh) (c := fun i => if i = 0 then a else if i = 1 then b else if i = 2 then c else d) (z' := z * 1103515245 + 12345) (st0 := nI s) hs4 hdr R18 (fun i hi => by
    have c4 : i = 0 ∨ i = 1 ∨ i = 2 ∨ i = 3 := by omega
    rcases c4 with rfl | rfl | rfl | rfl
    · exact h0
    · exact h1
    · exact h2
    · exact h3) (by simp only [cSum]; simp; omega) kFuel 0 (by unfold kFuel; omega) (by omega) (by simp only [cSum]; omega)
  obtain ⟨r, hr, hr2⟩ : ∃ r : Int32, (r = 0 ∨ r = 1) ∧ r = if t = 3 ∧ ¬ s = 3 then 1 else 0 := by
    by_cases y : t = 3 ∧ ¬ s = 3
    · exact ⟨1, Or.inr rfl, (if_pos y).symm⟩
    · exact ⟨0, Or.inl rfl, (if_neg y).symm⟩
  have x2 : f_Mo_goOn_2 (nI s) (nI t) (z * 1103515245 + 12345) = some (r, nI t, z * 1103515245 + 12345) := by
    unfold f_Mo_goOn_2
    rw [hr2]
    by_cases y : t = 3
    · rw [if_pos (show nI t = (3 : Int32) by rw [y]; rfl)]
      by_cases x : s = 3
      · rw [if_pos (show nI s = (3 : Int32) by rw [x]; rfl), if_neg (fun w => w.2 x)]
      · rw [if_neg (fun w : nI s = (3 : Int32) => x ((nI_eq (b := 3) (by omega) (by decide)).mp w)), if_pos ⟨y, x⟩]
    · rw [if_neg (fun w : nI t = (3 : Int32) => y ((nI_eq (b := 3) (by omega) (by decide)).mp w)), if_neg (fun w => y w.1)]
  have RJ1 : RI 0 vo 0 0 0 pi vt ash hs ag ws nu bu ki ce ow pu se (nI t) (z * 1103515245 + 12345) ch sh di (kZ (upd (upd A 0 (z * 1103515245 + 12345)) 2 (nI t))) := by rw [kZ_out (by omega)]; exact RI.st ht RJ
  rw [← hr2] at p2
  have v1 : (upd (upd A 0 (z * 1103515245 + 12345)) 2 (nI t)) 1 = mo := by rw [pk_un (by decide), pk_un (by decide)]; exact s1
  have v6 : (upd (upd A 0 (z * 1103515245 + 12345)) 2 (nI t)) 6 = ou := by rw [pk_un (by decide), pk_un (by decide)]; exact s6
  have v7 : (upd (upd A 0 (z * 1103515245 + 12345)) 2 (nI t)) 7 = fe := by rw [pk_un (by decide), pk_un (by decide)]; exact s7
  have v8 : (upd (upd A 0 (z * 1103515245 + 12345)) 2 (nI t)) 8 = fq := by rw [pk_un (by decide), pk_un (by decide)]; exact s8
  generalize upd (upd A 0 (z * 1103515245 + 12345)) 2 (nI t) = A1 at RJ1 v1 v6 v7 v8 p2
  -- the eruption
  obtain ⟨ou2, ash2, hs2, ag2, bu2, A2, x3, x4, RJ2, w1, w6, w7, w8, wo⟩ : ∃ (ou2 ash2 : Int32) (hs2 ag2 : Nat → Int32) (bu2 : Int32) (A2 : Nat → Int32), f_Sl_goMonth mo vo ou fe fq pi vt ash hs ag ws nu bu ki ce pu st z ch sh = f_Sl_goMonth_1 r mo ou2 fe fq pi ash2 hs2 ag2 nu bu2 ki ce pu (nI t) (z * 1103515245 + 12345) ∧ f_M_month_3 r A1 kDown kAlong = f_M_month_4 r A2 ∧ RI 0 vo 0 0 0 pi vt ash2 hs2 ag2 ws nu bu2 ki ce ow pu se (nI t) (z * 1103515245 + 12345) ch sh di (kZ A2) ∧ A2 1 = mo ∧ A2 6 = ou2 ∧ A2 7 = fe ∧ A2 8 = fq ∧ ou2 = ou + r := by
    unfold f_Sl_goMonth f_Mo_goOn
    rw [klet_eq, edr, hst]
    have p1' : fl_Mo_goOn_1 (nI dr) (nI s) (z * 1103515245 + 12345) ch sh kFuel 0 0 (nI s) = some (r, nI t, z * 1103515245 + 12345) := p1.trans x2
    rw [p1', kb3_eq]
    unfold f_M_month_3
    rcases hr with rfl | rfl
    · exact ⟨ou, ash, hs, ag, bu, A1, by rw [if_pos rfl], by rw [if_neg (by decide)], RJ1, v1, v6, v7, v8, (Int32.add_zero _).symm⟩
    · obtain ⟨hs', ag', bu', A2, y1, y2, y3, y4, y5, y6, y7⟩ := erupt_same (ou := ou) RJ1
      exact ⟨ou + 1, 0, hs', ag', bu', A2, by rw [if_neg i10, y1, kb5_eq], by rw [if_pos rfl, y2, kb1_eq], y3, y4.trans v1, by rw [y5, v6], y6.trans v7, y7.trans v8, rfl⟩
  -- the year
  obtain ⟨ash3, ag3, pu3, A3, x5, x6, RJ3, u1, u6, u7, u8⟩ : ∃ (ash3 : Int32) (ag3 pu3 A3 : Nat → Int32), f_Sl_goMonth_1 r mo ou2 fe fq pi ash2 hs2 ag2 nu bu2 ki ce pu (nI t) (z * 1103515245 + 12345) = f_Sl_goMonth_2 r mo ou2 fe fq pi ash3 hs2 ag3 bu2 pu3 (nI t) (z * 1103515245 + 12345) ∧ f_M_month_4 r A2 = f_M_month_5 r A3 ∧ RI 0 vo 0 0 0 pi vt ash3 hs2 ag3 ws nu bu2 ki ce ow pu3 se (nI t) (z * 1103515245 + 12345) ch sh di (kZ A3) ∧ A3 1 = mo ∧ A3 6 = ou2 ∧ A3 7 = fe ∧ A3 8 = fq := by
    unfold f_Sl_goMonth_1 f_M_month_4
    rw [w1]
    by_cases y : ((mo + 1) - (mo + 1) / 12 * 12) = 0
    · obtain ⟨pu', ash', ag', A3, y1, y2, y3, y4, y5⟩ := year_same RJ2
      exact ⟨ash', ag', pu', A3, by rw [if_pos y, y1, kb1_eq, y2, kb2_eq], by rw [if_pos y, y3, kb1_eq], y4, (y5 1 (by omega)).trans w1, (y5 6 (by omega)).trans w6, (y5 7 (by omega)).trans w7, (y5 8 (by omega)).trans w8⟩
    · exact ⟨ash2, ag2, pu, A2, by rw [if_neg y], by rw [if_neg y], RJ2, w1, w6, w7, w8⟩
  obtain ⟨fe', fq', A4, x7, x8, RJ4, n1, n6, n7, n8, ncase⟩ := end_same hr RJ3 u1 u6 u7 u8
  refine ⟨r, mo + 1, ou2, fe', fq', 0, ash3, hs2, ag3, bu2, pu3, nI t, z * 1103515245 + 12345, A4, ?_, ?_, hr, RI.ofJ RJ4 n1 n6 n7 n8 ?_, by rw [hmo, nI_1]⟩
  · rw [x3, x5, x7]
  · unfold f_M_month f_M_drawn
    rw [if_pos (by decide), kb2_eq, pk_us, s0, edr, klet_eq, pk_un (by decide), s2, hst]
    simp only [nl18, nl4, pk_mul, nI_add]
    have k1 : (nI (18 + 4 * s)).toNatClampNeg = 18 + 4 * s := nI_clamp (by omega)
    rw [kx (k := 18 + 4 * s) (n := 218) (by omega) (by decide), klet_eq, k1, R18 (4 * s) (by omega), h0]
    have p2' := p2
    have ea : cSum (fun i => if i = 0 then a else if i = 1 then b else if i = 2 then c else d) (0 + 1) = a := by simp only [cSum]; simp
    rw [ea] at p2'
    refine Eq.trans ?_ (p2'.trans (x4.trans (x6.trans x8)))
    rfl
  · rw [wo, e1, e2]
    rcases hr with rfl | rfl
    · rcases ncase with ⟨rfl, rfl⟩ | ⟨rfl, rfl⟩
      · exact ⟨m' + 1, o, f, q, nI_1 _, Int32.add_zero _, e3, e4, by omega, by omega, by omega, by omega, by omega⟩
      · exact ⟨m' + 1, o, f + 1, q, nI_1 _, Int32.add_zero _, by rw [e3, nI_1], by rw [e4, Int32.add_zero], by omega, by omega, by omega, by omega, by omega⟩
    · rcases ncase with ⟨rfl, rfl⟩ | ⟨rfl, rfl⟩
      · exact ⟨m' + 1, o + 1, f, q, nI_1 _, nI_1 _, e3, e4, by omega, by omega, by omega, by omega, by omega⟩
      · exact ⟨m' + 1, o + 1, f + 1, q + 1, nI_1 _, nI_1 _, by rw [e3, nI_1], by rw [e4, nI_1], by omega, by omega, by omega, by omega, by omega⟩
