/-! hit, least, turnsOn, save -/
theorem eq16 {a b : Nat} (ha : a < 16) (hb : b < 16) (h : ∀ j, j < 4 → a.testBit j = b.testBit j) : a = b := by
  apply Nat.eq_of_testBit_eq
  intro i
  by_cases q : i < 4
  · exact h i q
  · have l : 16 ≤ 2 ^ i := by rw [show 16 = 2 ^ 4 by decide]; exact Nat.pow_le_pow_right (by decide) (by omega)
    rw [Nat.testBit_lt_two_pow (by omega), Nat.testBit_lt_two_pow (by omega)]
theorem pW_c {tw ws : Nat → Int32} {a n w : Nat} {b : Int32} (ha : a < 36) (hn : n < 36) (h : ∀ i, i < 36 → tw i = ws i) : ∀ i, i < 36 → pW tw a n w b i = pW ws a n w b i := by
  intro i hi
  unfold pW
  by_cases q : i = n
  · subst q
    rw [pk_us, pk_us]
    by_cases z : i = a
    · subst z; rw [pk_us, pk_us, h _ hi]
    · rw [pk_un z, pk_un z, h _ hi]
  · rw [pk_un q, pk_un q]
    by_cases z : i = a
    · subst z; rw [pk_us, pk_us, h _ hi]
    · rw [pk_un z, pk_un z, h _ hi]
/-- hits with the walls as they are -/
theorem hits_0 {mo vo ou fe fq pi vt ash nu bu se st z : Int32} {hs ag ws ki ce ow pu ch sh di : Nat → Int32} {A : Nat → Int32} (R : RI mo vo ou fe fq pi vt ash hs ag ws nu bu ki ce ow pu se st z ch sh di A) {v : Nat} (h1 : 1 ≤ v) (hv : v ≤ 99) : ∃ S, S < 4096 ∧ (∀ tv ta th tg tw, ∃ tv' ta' th' tg' tw', f_X_hitWith vt ash hs ag ws nu bu ce tv ta th tg tw (-1) 0 (nI v) = some (nI S, tv', ta', th', tg', tw')) ∧ ∀ aside, ∃ aside', f_M_hits A aside kDown kAlong (nI v) = some (nI S, A, aside') := by
  obtain ⟨N, hN, hnu, -, -, -, B, hB, hbu⟩ := id R.2.1
  obtain ⟨c, hc, hvt⟩ := id R.2.2.1
  obtain ⟨W, hW, -⟩ := id R.2.2.2.2.1
  obtain ⟨s0, s1, s2, s3, s4, s5, s6, s7, s8, s9, s10, s11⟩ := id R.1.2.2
  have hB := pow_le12 hN hB
  have Rf := R.1.2.1
  subst hnu hbu hvt
  refine ⟨kTo (kCm hs W c (v - 1)) ce B N, pow_le12 hN kTo_lt, fun tv ta th tg tw => ?_, fun aside => ⟨kRow A aside, hits_m R.1.1.1 (fun i hi => by rw [R.1.1.2.2.1 i hi]; exact hW i hi) hc s3 h1 hv hN s10 hB Rf aside⟩⟩
  obtain ⟨th', tg', tw', e1, e2⟩ := become_x tv ta th tg tw (nI c) ash hs ag ws
  obtain ⟨th2, e3⟩ := hitWith1_x (ta := ash) (tg := tg') (ce := ce) (tw := tw') (W := W) (fun i hi => by rw [(e2 i hi).2.2]; exact hW i hi) hc h1 hv hN hB (fun i hi => (e2 i hi).1)
  refine ⟨nI c, ash, th2, tg', tw', ?_⟩
  unfold f_X_hitWith
  rw [e1, kb5_eq, if_pos (by decide)]
  exact e3
/-- hits with one wall more -/
theorem hits_1 {mo vo ou fe fq pi vt ash nu bu se st z : Int32} {hs ag ws ki ce ow pu ch sh di : Nat → Int32} {A : Nat → Int32} (R : RI mo vo ou fe fq pi vt ash hs ag ws nu bu ki ce ow pu se st z ch sh di A) {a w v : Nat} (ha : a < 36) (hw : w < 4) (hn : nb a w < 36) (hno : ∀ W : Nat → Nat, (∀ i, i < 36 → W i < 16 ∧ ws i = nI (W i)) → (W a).testBit w = false) (h1 : 1 ≤ v) (hv : v ≤ 99) : ∃ S, S < 4096 ∧ (∀ tv ta th tg tw, ∃ tv' ta' th' tg' tw', f_X_hitWith vt ash hs ag ws nu bu ce tv ta th tg tw (nI a) (nI w) (nI v) = some (nI S, tv', ta', th', tg', tw')) ∧ ∀ aside, ∃ aside', f_M_hitsWith A aside kDown kAlong (nI a) (nI w) (nI v) = some (nI S, A, aside') := by
  obtain ⟨N, hN, hnu, -, -, -, B, hB, hbu⟩ := id R.2.1
  obtain ⟨c, hc, hvt⟩ := id R.2.2.1
  obtain ⟨W, hW, hsym⟩ := id R.2.2.2.2.1
  obtain ⟨s0, s1, s2, s3, s4, s5, s6, s7, s8, s9, s10, s11⟩ := id R.1.2.2
  have hB := pow_le12 hN hB
  have Rf := R.1.2.1
  have hno := hno W hW
  obtain ⟨W', hW', -, hbit⟩ := W_put ha hw hn 1 hW hsym
  obtain ⟨nb1, nb2⟩ := nb_back a ha w hw hn
  subst hnu hbu hvt
  have Rw : RA 122 36 ws A := R.1.1.2.2.1
  refine ⟨kTo (kCm hs W' c (v - 1)) ce B N, pow_le12 hN kTo_lt, fun tv ta th tg tw => ?_, fun aside => ?_⟩
  · obtain ⟨th', tg', tw', e1, e2⟩ := become_x tv ta th tg tw (nI c) ash hs ag ws
    obtain ⟨th2, e3⟩ := hitWith1_x (ta := ash) (tg := tg') (ce := ce) (tw := pW tw' a (nb a w) w 1) (W := W') (fun i hi => by rw [pW_c ha hn (fun i hi => (e2 i hi).2.2) i hi]; exact hW' i hi) hc h1 hv hN hB (fun i hi => (e2 i hi).1)
    refine ⟨nI c, ash, th2, tg', pW tw' a (nb a w) w 1, ?_⟩
    unfold f_X_hitWith
    rw [e1, kb5_eq, if_neg (nI_pos (by omega)), putWall_x tw' ha hw hn 1, kb1_eq]
    exact e3
  · unfold f_M_hitsWith
    rw [putWall_m Rw ha hw hn 1, kb1_eq]
    have Rw2 : RA 122 36 (pW ws a (nb a w) w 1) (upd (upd A (122 + a) (kPut 1 (ws a) w)) (122 + nb a w) (kPut 1 (upd ws a (kPut 1 (ws a) w) (nb a w)) ((w + 2) % 4))) := (Rw.at ha).at hn
    have hh := hits_m (A := upd (upd A (122 + a) (kPut 1 (ws a) w)) (122 + nb a w) (kPut 1 (upd ws a (kPut 1 (ws a) w) (nb a w)) ((w + 2) % 4))) ((R.1.1.1.out (by omega)).out (by omega)) (fun i hi => by rw [Rw2 i hi]; exact hW' i hi) hc (by rw [pk_un (by omega), pk_un (by omega)]; exact s3) h1 hv hN (by rw [pk_un (by omega), pk_un (by omega)]; exact s10) hB ((Rf.out (by omega)).out (by omega)) aside
    rw [hh, kb3_eq, putWall_m Rw2 ha hw hn 0, kb1_eq]
    have val : ∀ i j, i < 36 → j < 4 → (i = a ∧ j = w ∨ i = nb a w ∧ j = (w + 2) % 4) → kPut 0 (pW ws a (nb a w) w 1 i) j = ws i := by
      intro i j hi hj hij
      rw [(hW' i hi).2, kPut_eq (hW' i hi).1 hj, (hW i hi).2]
      refine congrArg nI (eq16 (nPut_lt (hW' i hi).1 hj) (hW i hi).1 (fun j' hj' => ?_))
      rw [nPut_bit (hW' i hi).1 hj hj']
      by_cases z : j' = j
      · subst z
        rw [if_pos rfl]
        rcases hij with ⟨rfl, rfl⟩ | ⟨rfl, rfl⟩
        · rw [hno]; rfl
        · rw [← hsym a w ha hw hn, hno]; rfl
      · rw [if_neg z, hbit i j' hi hj', if_neg]
        rintro (⟨rfl, rfl⟩ | ⟨rfl, rfl⟩)
        · rcases hij with ⟨-, rfl⟩ | ⟨h, -⟩
          · exact z rfl
          · exact nb2 h.symm
        · rcases hij with ⟨h, -⟩ | ⟨-, rfl⟩
          · exact nb2 h
          · exact z rfl
    have back : upd (upd (upd (upd A (122 + a) (kPut 1 (ws a) w)) (122 + nb a w) (kPut 1 (upd ws a (kPut 1 (ws a) w) (nb a w)) ((w + 2) % 4))) (122 + a) (kPut 0 (pW ws a (nb a w) w 1 a) w)) (122 + nb a w) (kPut 0 (upd (pW ws a (nb a w) w 1) a (kPut 0 (pW ws a (nb a w) w 1 a) w) (nb a w)) ((w + 2) % 4)) = A := by
      funext j
      by_cases q1 : j = 122 + nb a w
      · subst q1
        rw [pk_us, pk_un nb2, val _ _ hn (by omega) (Or.inr ⟨rfl, rfl⟩), Rw _ hn]
      · rw [pk_un q1]
        by_cases q2 : j = 122 + a
        · subst q2
          rw [pk_us, val _ _ ha hw (Or.inl ⟨rfl, rfl⟩), Rw _ ha]
        · rw [pk_un q2, pk_un q1, pk_un q2]
    exact ⟨_, by rw [back]⟩
/-- hit -/
theorem sim_hit {mo vo ou fe fq pi vt ash nu bu se st z : Int32} {hs ag ws ki ce ow pu ch sh di : Nat → Int32} {A fi fo : Nat → Int32} (R : RI mo vo ou fe fq pi vt ash hs ag ws nu bu ki ce ow pu se st z ch sh di A) (F : RF fi fo) (tv ta : Int32) (th tg tw aside : Nat → Int32) (x1 : Int32) : ∃ r tv' ta' th' tg' tw' aside' fi' fo', f_X_hit vt ash hs ag ws nu bu ce tv ta th tg tw fi x1 = some (r, tv', ta', th', tg', tw', fi') ∧ f_M_hit A aside fo kDown kAlong x1 = some (r, A, aside', fo') ∧ RF fi' fo' := by
  unfold f_X_hit f_M_hit
  rcases isVolume_cases x1 with ⟨hx, hm⟩ | ⟨v, h1, hv, rfl, hx, hm⟩
  · obtain ⟨fi', fo', b1, b2, F'⟩ := fnd0 F
    exact ⟨-1000000001, tv, ta, th, tg, tw, aside, fi', fo', by rw [hx, kb1_eq, if_pos rfl, b1, kb2_eq], by rw [hm, kb1_eq, if_pos rfl, b2, kb2_eq], F'⟩
  rw [hx, hm, kb1_eq, kb1_eq, if_neg i10, if_neg i10]
  obtain ⟨S, hS, hX, hM⟩ := hits_0 R h1 hv
  obtain ⟨tv', ta', th', tg', tw', e1⟩ := hX tv ta th tg tw
  obtain ⟨as', e2⟩ := hM aside
  exact ⟨nI S, tv', ta', th', tg', tw', as', fi, fo, by rw [e1, kb6_eq], by rw [e2, kb3_eq], F⟩
/-- turnsOn -/
theorem sim_turnsOn {mo vo ou fe fq pi vt ash nu bu se st z : Int32} {hs ag ws ki ce ow pu ch sh di : Nat → Int32} {A fi fo : Nat → Int32} (R : RI mo vo ou fe fq pi vt ash hs ag ws nu bu ki ce ow pu se st z ch sh di A) (F : RF fi fo) (tv ta : Int32) (th tg tw aside : Nat → Int32) (x1 x2 x3 : Int32) : ∃ r tv' ta' th' tg' tw' aside' fi' fo', f_X_turnsOn vt ash hs ag ws nu bu ce tv ta th tg tw fi x1 x2 x3 = some (r, tv', ta', th', tg', tw', fi') ∧ f_M_turnsOn A aside fo kDown kAlong x1 x2 x3 = some (r, A, aside', fo') ∧ RF fi' fo' := by
  obtain ⟨fi', fo', b1, b2, F'⟩ := fnd0 F
  have c1 : f_X_turnsOn_1 tv ta th tg tw fi = some (-1000000001, tv, ta, th, tg, tw, fi') := by unfold f_X_turnsOn_1; rw [b1, kb2_eq]
  have c2 : f_M_turnsOn_1 A aside fo = some (-1000000001, A, aside, fo') := by unfold f_M_turnsOn_1; rw [b2, kb2_eq]
  obtain ⟨W, hW, hsym⟩ := id R.2.2.2.2.1
  unfold f_X_turnsOn f_M_turnsOn
  rcases wayTo_cases x1 x2 with ⟨hx, hm⟩ | ⟨a, b, w, ha, hb, hw, hab, rfl, rfl, hx, hm⟩
  · exact ⟨-1000000001, tv, ta, th, tg, tw, aside, fi', fo', by rw [hx, kb1_eq, if_pos (by decide), c1], by rw [hm, kb1_eq, if_pos (by decide), c2], F'⟩
  rw [hx, hm, kb1_eq, kb1_eq, if_neg (nI_pos (by omega)), if_neg (nI_pos (by omega))]
  rcases isVolume_cases x3 with ⟨hx, hm⟩ | ⟨v, h1, hv, rfl, hx, hm⟩
  · exact ⟨-1000000001, tv, ta, th, tg, tw, aside, fi', fo', by rw [hx, kb1_eq, if_pos rfl, c1], by rw [hm, kb1_eq, if_pos rfl, c2], F'⟩
  rw [hx, hm, kb1_eq, kb1_eq, if_neg i10, if_neg i10, isWalled_x ha hw (hW a ha).1 (hW a ha).2, hasWall_m ha hw (hW a ha).1 (by rw [R.1.1.2.2.1 a ha]; exact (hW a ha).2), kb1_eq, kb1_eq]
  by_cases q : (W a).testBit w = true
  · rw [if_pos q, if_neg i10, if_neg i10]
    obtain ⟨fi2, fo2, d1, d2, F2⟩ := fnd4 F
    exact ⟨-1000000005, tv, ta, th, tg, tw, aside, fi2, fo2, by rw [d1, kb2_eq], by rw [d2, kb2_eq], F2⟩
  · rw [if_neg q, if_pos rfl, if_pos rfl]
    obtain ⟨S, hS, hX, hM⟩ := hits_0 R h1 hv
    obtain ⟨S1, hS1, hX1, hM1⟩ := hits_1 R ha hw (by rw [hab]; exact hb) (fun W2 hW2 => by
      have e : W2 a = W a := (nI_eq (by have := (hW2 a ha).1; omega) (by have := (hW a ha).1; omega)).mp ((hW2 a ha).2.symm.trans (hW a ha).2)
      rw [e]; exact Bool.eq_false_iff.mpr q) h1 hv
    obtain ⟨v1, v2, v3, v4, v5, e1⟩ := hX1 tv ta th tg tw
    obtain ⟨u1, u2, u3, u4, u5, e2⟩ := hX v1 v2 v3 v4 v5
    obtain ⟨as1, g1⟩ := hM aside
    obtain ⟨as2, g2⟩ := hM1 as1
    exact ⟨nI S1 &&& (nI S ^^^ (-1 : Int32)), u1, u2, u3, u4, u5, as2, fi, fo, by rw [e1, kb6_eq, e2, kb6_eq], by rw [g1, kb3_eq, g2, kb3_eq], F⟩
theorem l64_bit (x : Int64) : (x &&& 1 = 1) ↔ x.toBitVec.toNat.testBit 0 = true := by
  rw [← Int64.toBitVec_inj, ← BitVec.toNat_inj, Int64.toBitVec_and, BitVec.toNat_and, show (1 : Int64).toBitVec.toNat = 1 by decide, Nat.and_one_is_mod, Nat.testBit_zero]
  simp
theorem kHit_iff (m : Int64) (x : Int32) : kHit m x = true ↔ (m >>> (x.toInt64 &&& 63)).toBitVec.toNat.testBit 0 = true := by
  unfold kHit
  rw [decide_eq_true_iff, lg_cmp_eq, l64_bit]
theorem kHit_or (m m' : Int64) (x : Int32) : kHit (m ||| m') x = (kHit m x || kHit m' x) := by
  rw [Bool.eq_iff_iff, Bool.or_eq_true, kHit_iff, kHit_iff, kHit_iff, Int64.shiftRight_or, Int64.toBitVec_or, BitVec.toNat_or, Nat.testBit_or, Bool.or_eq_true]
theorem kHit_1 : ∀ a, a < 36 → ∀ d, d < 36 → kHit (kBit a) (nI d) = decide (a = d) := by decide +kernel
theorem kHit_cm {h : Nat → Int32} {W : Nat → Nat} {c d : Nat} (hc : c < 36) (hd : d < 36) : ∀ k, (∀ j, j < k → (kLv h W c j).1 ≠ d) → kHit (kCm h W c k) (nI d) = decide ((kLv h W c k).1 = d) := by
  have key : ∀ k, (∀ j, j ≤ k → (kLv h W c j).1 ≠ d) → kHit (kCm h W c k) (nI d) = false := by
    intro k
    induction k with
    | zero => intro z; rw [kCm, kHit_1 c hc d hd]; exact decide_eq_false (z 0 (by omega))
    | succ k ih => intro z; rw [kCm, kHit_or, ih (fun j hj => z j (by omega)), kHit_1 _ (kLv_lt hc _) d hd, Bool.false_or]; exact decide_eq_false (z _ (by omega))
  intro k z
  cases k with
  | zero => rw [kCm, kHit_1 c hc d hd]; rfl
  | succ k => rw [kCm, kHit_or, key k (fun j hj => z j (by omega)), kHit_1 _ (kLv_lt hc _) d hd, Bool.false_or]
theorem least_l {A h th tw ki ce ow pu fi fo : Nat → Int32} {W : Nat → Nat} (R : RA 50 36 h A) (hW : ∀ i, i < 36 → W i < 16 ∧ A (122 + i) = nI (W i)) (hW2 : ∀ i, i < 36 → W i < 16 ∧ tw i = nI (W i)) {c d f : Nat} (hc : c < 36) (hd : d < 36) (h3 : A 3 = nI c) {N B : Nat} (hN : N ≤ 12) (hA : A 10 = nI N) (hB : B < 4096) (Rf : RFm ki ce ow pu (nI B) A) (hf : f < N) (hb : B.testBit f = false) (hcf : ce f = nI d) (hth : ∀ i, i < 36 → th i = h i) (F : RF fi fo) : ∀ n k aside, 99 - k < n → k ≤ 99 → (∀ j, j < k → (kLv h W c j).1 ≠ d) → ∃ r th' aside' fo', fl_Gr_leastVolumeTo_1 (nI d) tw n (nI (kLv th W c k).1) (nI (k + 1)) (kLv th W c k).2 = some (r, th') ∧ ((∃ j, j < 100 ∧ r = nI j ∧ fl_M_least_1 (nI f) fo kDown kAlong n (nI (k + 1)) A aside = some (r, A, aside', fo) ∧ fo' = fo) ∨ (r = -1 ∧ ∃ fi', f_X_finding fi 3 = some (-1000000004, fi') ∧ fl_M_least_1 (nI f) fo kDown kAlong n (nI (k + 1)) A aside = some (-1000000004, A, aside', fo') ∧ RF fi' fo')) := by
  obtain ⟨fi', fo', b1, b2, F'⟩ := fnd3 F
  intro n
  induction n with
  | zero => intro k _ h; exact absurd h (by omega)
  | succ n ih =>
    intro k aside h1 hk hj
    rw [fl_Gr_leastVolumeTo_1_s, fl_M_least_1_s]
    unfold fb_Gr_leastVolumeTo_1 fb_M_least_1
    by_cases q : k = 99
    · subst q
      refine ⟨-1, _, aside, fo', by rw [if_pos (show (99 : Int32) < nI 100 by decide)], Or.inr ⟨rfl, fi', b1, ?_, F'⟩⟩
      rw [if_pos (show (99 : Int32) < nI 100 by decide), b2, kb2_eq]
    · have q' : ¬ (99 : Int32) < nI (k + 1) := nI_nlt (a := 99) (by omega) (by decide)
      have hh := hits_m R hW hc h3 (show 1 ≤ k + 1 by omega) (by omega) hN hA hB Rf aside
      have hb2 : (kTo (kCm h W c k) ce B N).testBit f = decide ((kLv h W c k).1 = d) := by
        rw [kTo_bit, hcf, kHit_cm hc hd k hj, hb, decide_eq_true hf]; simp
      rw [if_neg q', if_neg q', hh, kb3_eq, show k + 1 - 1 = k by omega, bitN (by omega) (by have := pow_le12 hN (kTo_lt (m := kCm h W c k) (ce := ce) (B := B) (k := N)); omega), hb2, (kLv_c hc hth k).1]
      by_cases z : (kLv h W c k).1 = d
      · refine ⟨nI (k + 1), _, kRow A aside, fo, by rw [if_pos (by rw [z])], Or.inl ⟨k + 1, by omega, rfl, ?_, rfl⟩⟩
        rw [if_pos (by rw [decide_eq_true z]; rfl)]
      · have z2 : ¬ nI (kLv h W c k).1 = nI d := fun y => z ((nI_eq (by have := kLv_lt (h := h) (W := W) hc k; omega) (by omega)).mp y)
        have l := kLv_lt (h := th) (W := W) hc k
        have e1 := goesOn_x (h := (kLv th W c k).2) hW2 l
        rw [(kLv_c hc hth k).1] at e1
        rw [if_neg z2, if_neg (by rw [decide_eq_false z]; decide), nI_1, e1, kb2_eq]
        have i := ih (k + 1) (kRow A aside) (by omega) (by omega) (fun j y => by
          by_cases w : j = k
          · subst w; exact z
          · exact hj j (by omega))
        have e2 : (kLv th W c (k + 1)).1 = kGo (kLv th W c k).2 W (kLv h W c k).1 4 := by rw [← (kLv_c hc hth k).1]; rfl
        have e3 : (kLv th W c (k + 1)).2 = kHt (kLv th W c k).2 W (kLv h W c k).1 := by rw [← (kLv_c hc hth k).1]; rfl
        rw [e2, e3] at i
        exact i

/-- least -/
theorem sim_least {mo vo ou fe fq pi vt ash nu bu se st z : Int32} {hs ag ws ki ce ow pu ch sh di : Nat → Int32} {A fi fo : Nat → Int32} (R : RI mo vo ou fe fq pi vt ash hs ag ws nu bu ki ce ow pu se st z ch sh di A) (F : RF fi fo) (tv ta : Int32) (th tg tw aside : Nat → Int32) (x1 : Int32) : ∃ r tv' ta' th' tg' tw' aside' fi' fo', f_X_least vt ash hs ag ws nu bu ce tv ta th tg tw fi x1 = some (r, tv', ta', th', tg', tw', fi') ∧ f_M_least A aside fo kDown kAlong x1 = some (r, A, aside', fo') ∧ RF fi' fo' := by
  obtain ⟨N, hN, hnu, hce, -, -, B, hB, hbu⟩ := id R.2.1
  obtain ⟨c, hc, hvt⟩ := id R.2.2.1
  obtain ⟨W, hW, -⟩ := id R.2.2.2.2.1
  obtain ⟨s0, s1, s2, s3, s4, s5, s6, s7, s8, s9, s10, s11⟩ := id R.1.2.2
  have hB := pow_le12 hN hB
  have Rf := R.1.2.1
  subst hnu hbu hvt
  unfold f_X_least f_M_least
  rcases has_or x1 hN s10 with ⟨hx, hm⟩ | ⟨f, hf, rfl, hx, hm⟩
  · obtain ⟨fi', fo', b1, b2, F'⟩ := fnd0 F
    exact ⟨-1000000001, tv, ta, th, tg, tw, aside, fi', fo', by rw [hx, kb1_eq, if_pos rfl, b1, kb2_eq], by rw [hm, kb1_eq, if_pos rfl, b2, kb2_eq], F'⟩
  have f4 := (Rf f (by omega)).2.2.2.2
  rw [hx, hm, kb1_eq, kb1_eq, if_neg i10, if_neg i10, isBurnt_x (by omega) hB, kb1_eq, nl4, M_farmIs_eq A (by omega) (by decide), kb1_eq, f4, bit12 f (by omega) B hB]
  by_cases q : B.testBit f = true
  · rw [if_pos q, if_neg i10, if_pos rfl]
    obtain ⟨fi', fo', b1, b2, F'⟩ := fnd4 F
    exact ⟨-1000000005, _, _, _, _, _, aside, fi', fo', by rw [show (nI 4) = (4 : Int32) from rfl, b1, kb2_eq], by rw [b2, kb2_eq], F'⟩
  · obtain ⟨d, hd, hcf⟩ := hce f hf
    obtain ⟨th', tg', tw', e1, e2⟩ := become_x tv ta th tg tw (nI c) ash hs ag ws
    rw [if_neg q, if_pos rfl, if_neg (by decide), e1, kb5_eq, kx (by omega) (by decide), nI_clamp (by omega), hcf]
    obtain ⟨r, th2, as', fo', g1, g2⟩ := least_l (h := hs) (th := th') (tw := tw') (fi := fi) R.1.1.1 (fun i hi => by rw [R.1.1.2.2.1 i hi]; exact hW i hi) (fun i hi => by rw [(e2 i hi).2.2]; exact hW i hi) hc hd s3 hN s10 hB Rf hf (Bool.eq_false_iff.mpr q) hcf (fun i hi => (e2 i hi).1) F kFuel 0 aside (by unfold kFuel; omega) (by omega) (fun j hj => absurd hj (by omega))
    have g1' : f_Gr_leastVolumeTo (nI c) th' tw' (nI d) = some (r, th2) := g1
    rw [g1', kb2_eq]
    rcases g2 with ⟨j, hj, rfl, g3, -⟩ | ⟨rfl, fi', b1, g3, F'⟩
    · exact ⟨nI j, _, _, _, _, _, as', fi, fo, by rw [if_pos (nI_pos' (by omega))], g3, F⟩
    · exact ⟨-1000000004, _, _, _, _, _, as', fi', fo', by rw [if_neg (by decide), b1, kb2_eq], g3, F'⟩
theorem bits_eq : ∀ a, a < 64 → ∀ b, b < 64 → f_In_bitCount (nI (64 * a + b)) = f_M_bits (nI (64 * a + b)) := by decide +kernel
theorem bits_same {S : Nat} (h : S < 4096) : ∃ r, f_In_bitCount (nI S) = some r ∧ f_M_bits (nI S) = some r := by
  have e := bits_eq (S / 64) (by omega) (S % 64) (by omega)
  rw [show 64 * (S / 64) + S % 64 = S by omega] at e
  rw [← e]
  exact ⟨_, rfl, rfl⟩
/-- what both answer -/
def kSv (A : Nat → Int32) (ox : Option (Int32 × Int32 × Int32 × (Nat → Int32) × (Nat → Int32) × (Nat → Int32) × (Nat → Int32))) (om : Option (Int32 × (Nat → Int32) × (Nat → Int32) × (Nat → Int32))) : Prop :=
  ∃ r tv ta th tg tw aside fi fo, ox = some (r, tv, ta, th, tg, tw, fi) ∧ om = some (r, A, aside, fo) ∧ RF fi fo

theorem save_2 {mo vo ou fe fq pi vt ash nu bu se st z : Int32} {hs ag ws ki ce ow pu ch sh di : Nat → Int32} {A fi fo : Nat → Int32} (R : RI mo vo ou fe fq pi vt ash hs ag ws nu bu ki ce ow pu se st z ch sh di A) {v c : Nat} (h1 : 1 ≤ v) (hv : v ≤ 99) (hc : c < 36) {rx : Int32 → Int32 → Int32 → Int32 → Int32 → (Nat → Int32) → (Nat → Int32) → (Nat → Int32) → Option (Int32 × Int32 × Int32 × (Nat → Int32) × (Nat → Int32) × (Nat → Int32) × (Nat → Int32))} {rm : Int32 → Int32 → Int32 → (Nat → Int32) → (Nat → Int32) → Option (Int32 × (Nat → Int32) × (Nat → Int32) × (Nat → Int32))} (H : ∀ b s tv ta th tg tw aside, kSv A (rx b s (nI (c + 1)) tv ta th tg tw) (rm s b (nI (c + 1)) A aside)) : ∀ n w b s tv ta th tg tw aside, 3 - w < n → w ≤ 3 → kSv A (fl_X_save_2 rx (nI v) vt ash hs ag ws nu bu ce fi n b s (nI c) (nI w) tv ta th tg tw) (fl_M_save_2 rm (nI v) fo kDown kAlong n s b (nI c) (nI w) A aside) := by
  obtain ⟨W, hW, -⟩ := id R.2.2.2.2.1
  intro n
  induction n with
  | zero => intro w _ _ _ _ _ _ _ _ h; exact absurd h (by omega)
  | succ n ih =>
    intro w b s tv ta th tg tw aside hn hw
    rw [fl_X_save_2_s, fl_M_save_2_s]
    unfold fb_X_save_2 fb_M_save_2
    by_cases q : w = 3
    · subst q
      rw [if_pos (show (2 : Int32) < nI 3 by decide), if_pos (show (3 : Int32) ≤ nI 3 by decide), nI_1]
      exact H _ _ _ _ _ _ _ _
    · have i := fun b s tv ta th tg tw aside => ih (w + 1) b s tv ta th tg tw aside (by omega) (by omega)
      rw [if_neg (show ¬ (2 : Int32) < nI w from nI_nlt (a := 2) (by omega) (by decide)), if_neg (show ¬ (3 : Int32) ≤ nI w from nI_ge (b := 3) (by omega) (by decide)), beside_eq c hc w (by omega), cellIn_eq c hc w (by omega), kb1_eq, kb1_eq, nI_1]
      by_cases q1 : nb c w = 99
      · have e : nbI c w = -1 := if_pos q1
        rw [e, if_pos (by decide), if_pos (by decide)]
        exact i _ _ _ _ _ _ _ _
      · have nl : nb c w < 36 := (nb_or c hc w (by omega)).resolve_left q1
        rw [nbI_some nl, if_neg (nI_pos (by omega)), if_neg (nI_pos (by omega)), isWalled_x hc (by omega) (hW c hc).1 (hW c hc).2, hasWall_m hc (by omega) (hW c hc).1 (by rw [R.1.1.2.2.1 c hc]; exact (hW c hc).2), kb1_eq, kb1_eq]
        by_cases q2 : (W c).testBit w = true
        · rw [if_pos q2, if_neg i10, if_neg i10]
          exact i _ _ _ _ _ _ _ _
        · rw [if_neg q2, if_pos rfl, if_pos rfl]
          obtain ⟨S, hS, hX, hM⟩ := hits_1 R hc (show w < 4 by omega) nl (fun W2 hW2 => by
            have e : W2 c = W c := (nI_eq (by have := (hW2 c hc).1; omega) (by have := (hW c hc).1; omega)).mp ((hW2 c hc).2.symm.trans (hW c hc).2)
            rw [e]; exact Bool.eq_false_iff.mpr q2) h1 hv
          obtain ⟨v1, v2, v3, v4, v5, e1⟩ := hX tv ta th tg tw
          obtain ⟨as1, g1⟩ := hM aside
          obtain ⟨as2, g2⟩ := hM as1
          obtain ⟨r, c1, c2⟩ := bits_same hS
          rw [e1, kb6_eq, c1, kb1_eq, g1, kb3_eq, c2, kb1_eq]
          by_cases q3 : b ≤ r
          · rw [if_pos q3, if_pos q3]
            exact i _ _ _ _ _ _ _ _
          · rw [if_neg q3, if_neg q3, g2, kb3_eq, c2, kb1_eq, kb1_eq, klet_eq, klet_eq]
            exact i _ _ _ _ _ _ _ _
theorem save_1 {mo vo ou fe fq pi vt ash nu bu se st z : Int32} {hs ag ws ki ce ow pu ch sh di : Nat → Int32} {A fi fo : Nat → Int32} (R : RI mo vo ou fe fq pi vt ash hs ag ws nu bu ki ce ow pu se st z ch sh di A) (F : RF fi fo) {v : Nat} (h1 : 1 ≤ v) (hv : v ≤ 99) : ∀ n c b s tv ta th tg tw aside, 36 - c < n → c ≤ 36 → kSv A (fl_X_save_1 (nI v) vt ash hs ag ws nu bu ce fi n b s (nI c) tv ta th tg tw) (fl_M_save_1 (nI v) fo kDown kAlong n s b (nI c) A aside) := by
  obtain ⟨fi', fo', b1, b2, F'⟩ := fnd3 F
  intro n
  induction n with
  | zero => intro w _ _ _ _ _ _ _ _ h; exact absurd h (by omega)
  | succ n ih =>
    intro c b s tv ta th tg tw aside hn hc
    rw [fl_X_save_1_s, fl_M_save_1_s]
    unfold fb_X_save_1 fb_M_save_1
    by_cases q : c = 36
    · subst q
      rw [if_pos (show (36 : Int32) ≤ nI 36 by decide), if_pos (show (36 : Int32) ≤ nI 36 by decide)]
      by_cases z : 0 ≤ s
      · rw [if_pos z, if_pos z]
        exact ⟨s, tv, ta, th, tg, tw, aside, fi, fo, rfl, rfl, F⟩
      · rw [if_neg z, if_neg z, b1, kb2_eq, b2, kb2_eq]
        exact ⟨-1000000004, tv, ta, th, tg, tw, aside, fi', fo', rfl, rfl, F'⟩
    · rw [if_neg (show ¬ (36 : Int32) ≤ nI c from nI_ge (b := 36) (by omega) (by decide)), if_neg (show ¬ (36 : Int32) ≤ nI c from nI_ge (b := 36) (by omega) (by decide))]
      exact save_2 R h1 hv (by omega) (fun b s tv ta th tg tw aside => ih (c + 1) b s tv ta th tg tw aside (by omega) (by omega)) kFuel 1 b s tv ta th tg tw aside (by unfold kFuel; omega) (by omega)
/-- save -/
theorem sim_save {mo vo ou fe fq pi vt ash nu bu se st z : Int32} {hs ag ws ki ce ow pu ch sh di : Nat → Int32} {A fi fo : Nat → Int32} (R : RI mo vo ou fe fq pi vt ash hs ag ws nu bu ki ce ow pu se st z ch sh di A) (F : RF fi fo) (tv ta : Int32) (th tg tw aside : Nat → Int32) (x1 : Int32) : ∃ r tv' ta' th' tg' tw' aside' fi' fo', f_X_save vt ash hs ag ws nu bu ce tv ta th tg tw fi x1 = some (r, tv', ta', th', tg', tw', fi') ∧ f_M_save A aside fo kDown kAlong x1 = some (r, A, aside', fo') ∧ RF fi' fo' := by
  unfold f_X_save f_M_save
  rcases isVolume_cases x1 with ⟨hx, hm⟩ | ⟨v, h1, hv, rfl, hx, hm⟩
  · obtain ⟨fi', fo', b1, b2, F'⟩ := fnd0 F
    exact ⟨-1000000001, tv, ta, th, tg, tw, aside, fi', fo', by rw [hx, kb1_eq, if_pos rfl, b1, kb2_eq], by rw [hm, kb1_eq, if_pos rfl, b2, kb2_eq], F'⟩
  rw [hx, hm, kb1_eq, kb1_eq, if_neg i10, if_neg i10]
  obtain ⟨S, hS, hX, hM⟩ := hits_0 R h1 hv
  obtain ⟨tv', ta', th', tg', tw', e1⟩ := hX tv ta th tg tw
  obtain ⟨as', e2⟩ := hM aside
  obtain ⟨r, c1, c2⟩ := bits_same hS
  rw [e1, kb6_eq, e2, kb3_eq, c1, kb1_eq, c2, kb1_eq]
  exact save_1 R F h1 hv kFuel 0 r (-1) tv' ta' th' tg' tw' as' (by unfold kFuel; omega) (by omega)
