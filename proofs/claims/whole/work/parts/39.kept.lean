/-! copies of a slope, and what is kept -/
theorem RI.cp {mo vo ou fe fq pi vt ash nu bu se st z : Int32} {hs ag ws ki ce ow pu ch sh di : Nat → Int32} {A : Nat → Int32} {hs' ag' ws' ki' ce' ow' pu' ch' sh' di' : Nat → Int32} (R : RI mo vo ou fe fq pi vt ash hs ag ws nu bu ki ce ow pu se st z ch sh di A) (E : (∀ i, i < 36 → hs' i = hs i) ∧ (∀ i, i < 36 → ag' i = ag i) ∧ (∀ i, i < 36 → ws' i = ws i) ∧ (∀ i, i < 12 → ki' i = ki i) ∧ (∀ i, i < 12 → ce' i = ce i) ∧ (∀ i, i < 12 → ow' i = ow i) ∧ (∀ i, i < 12 → pu' i = pu i) ∧ (∀ i, i < 16 → ch' i = ch i) ∧ (∀ i, i < 16 → sh' i = sh i) ∧ (∀ i, i < 6 → di' i = di i)) : RI mo vo ou fe fq pi vt ash hs' ag' ws' nu bu ki' ce' ow' pu' se st z ch' sh' di' A := by
  obtain ⟨⟨⟨r1, r2, r3, r4, r5, r6⟩, r7, r8⟩, i1, i2, i3, i4, i5, i6, i7, i8, i9, i10'⟩ := R
  obtain ⟨ehs, eag, ews, eki, ece, eow, epu, ech, esh, edi⟩ := E
  refine ⟨⟨⟨fun i hi => by rw [r1 i hi, ehs i hi], fun i hi => by rw [r2 i hi, eag i hi], fun i hi => by rw [r3 i hi, ews i hi], fun i hi => by rw [r4 i hi, ech i hi], fun i hi => by rw [r5 i hi, esh i hi], fun i hi => by rw [r6 i hi, edi i hi]⟩, fun f hf => ?_, r8⟩, ?_, i2, i3, ?_, ?_, ?_, ?_, i8, i9, i10'⟩
  · rw [eki f hf, ece f hf, eow f hf, epu f hf]; exact r7 f hf
  · obtain ⟨N, h0, h1, h2, h3, h4, h5⟩ := i1
    exact ⟨N, h0, h1, fun f hf => by rw [ece f (by omega)]; exact h2 f hf, fun f g hf hg h => h3 f g hf hg (by rw [← ece f (by omega), ← ece g (by omega)]; exact h), fun f hf => by rw [eki f (by omega)]; exact h4 f hf, h5⟩
  · obtain ⟨W, h1, h2⟩ := i4
    exact ⟨W, fun i hi => by rw [ews i hi]; exact h1 i hi, h2⟩
  · intro s hs
    rw [ech _ (by omega), ech _ (by omega), ech _ (by omega), ech _ (by omega)]
    exact i5 s hs
  · intro i hi
    rw [esh i hi]; exact i6 i hi
  · obtain ⟨q, h1, h2, h3⟩ := i7
    exact ⟨q, h1, h2, fun i hi => by rw [edi i (by omega)]; exact h3 i hi⟩
theorem RI.row {mo vo ou fe fq pi vt ash nu bu se st z : Int32} {hs ag ws ki ce ow pu ch sh di : Nat → Int32} {A A' : Nat → Int32} (R : RI mo vo ou fe fq pi vt ash hs ag ws nu bu ki ce ow pu se st z ch sh di A) (E : ∀ j, j < 218 → A' j = A j) : RI mo vo ou fe fq pi vt ash hs ag ws nu bu ki ce ow pu se st z ch sh di A' := by
  obtain ⟨⟨⟨r1, r2, r3, r4, r5, r6⟩, r7, r8⟩, h⟩ := R
  refine ⟨⟨⟨fun i hi => by rw [E _ (by omega), r1 i hi], fun i hi => by rw [E _ (by omega), r2 i hi], fun i hi => by rw [E _ (by omega), r3 i hi], fun i hi => by rw [E _ (by omega), r4 i hi], fun i hi => by rw [E _ (by omega), r5 i hi], fun i hi => by rw [E _ (by omega), r6 i hi]⟩, fun f hf => ?_, ?_⟩, h⟩
  · rw [E _ (by omega), E _ (by omega), E _ (by omega), E _ (by omega), E _ (by omega)]; exact r7 f hf
  · obtain ⟨s0, s1, s2, s3, s4, s5, s6, s7, s8, s9, s10, s11⟩ := r8
    exact ⟨(E _ (by omega)).trans s0, (E _ (by omega)).trans s1, (E _ (by omega)).trans s2, (E _ (by omega)).trans s3, (E _ (by omega)).trans s4, (E _ (by omega)).trans s5, (E _ (by omega)).trans s6, (E _ (by omega)).trans s7, (E _ (by omega)).trans s8, (E _ (by omega)).trans s9, (E _ (by omega)).trans s10, (E _ (by omega)).trans s11⟩
theorem kRow_at {f g : Nat → Int32} {j : Nat} (h : j < 218) : kRow f g j = f j := if_pos h
theorem cpy_at (f g : Nat → Int32) {n : Int32} {k : Nat} (hn : n.toNatClampNeg = k) (i : Nat) (hi : i < k) : va_cpy f g ((0 : Int32)).toNatClampNeg ((0 : Int32)).toNatClampNeg n.toNatClampNeg i = f i := by
  rw [hn, show ((0 : Int32)).toNatClampNeg = 0 by decide]
  unfold va_cpy
  rw [if_pos (by omega), Nat.zero_add, Nat.sub_zero]
theorem become_S {mo vo ou fe fq pi vt ash nu bu se st z : Int32} {hs ag ws ki ce ow pu ch sh di : Nat → Int32} {mo0 vo0 ou0 fe0 fq0 pi0 vt0 ash0 nu0 bu0 se0 st0 z0 : Int32} {hs0 ag0 ws0 ki0 ce0 ow0 pu0 ch0 sh0 di0 : Nat → Int32} (hpi : pi = 0 ∨ pi = 1) : ∃ hs' ag' ws' ki' ce' ow' pu' ch' sh' di' : Nat → Int32, f_Sl_become mo0 vo0 ou0 fe0 fq0 pi0 vt0 ash0 hs0 ag0 ws0 nu0 bu0 ki0 ce0 ow0 pu0 se0 st0 z0 ch0 sh0 di0 mo vo ou fe fq pi vt ash hs ag ws nu bu ki ce ow pu se st z ch sh di = some (mo, vo, ou, fe, fq, pi, vt, ash, hs', ag', ws', nu, bu, ki', ce', ow', pu', se, st, z, ch', sh', di') ∧ ((∀ i, i < 36 → hs' i = hs i) ∧ (∀ i, i < 36 → ag' i = ag i) ∧ (∀ i, i < 36 → ws' i = ws i) ∧ (∀ i, i < 12 → ki' i = ki i) ∧ (∀ i, i < 12 → ce' i = ce i) ∧ (∀ i, i < 12 → ow' i = ow i) ∧ (∀ i, i < 12 → pu' i = pu i) ∧ (∀ i, i < 16 → ch' i = ch i) ∧ (∀ i, i < 16 → sh' i = sh i) ∧ (∀ i, i < 6 → di' i = di i)) := by
  unfold f_Sl_become f_Gr_become f_Fa_become f_Mo_become
  rw [kb5_eq, kb6_eq, kb6_eq, if_pos hpi]
  exact ⟨_, _, _, _, _, _, _, _, _, _, rfl, cpy_at _ _ (by decide), cpy_at _ _ (by decide), cpy_at _ _ (by decide), cpy_at _ _ (by decide), cpy_at _ _ (by decide), cpy_at _ _ (by decide), cpy_at _ _ (by decide), cpy_at _ _ (by decide), cpy_at _ _ (by decide), cpy_at _ _ (by decide)⟩
/-- image -/
theorem sim_image {mo vo ou fe fq pi vt ash nu bu se st z : Int32} {hs ag ws ki ce ow pu ch sh di : Nat → Int32} {mok vok ouk fek fqk pik vtk ashk nuk buk sek stk zk : Int32} {hsk agk wsk kik cek owk puk chk shk dik : Nat → Int32} {A kp : Nat → Int32} (ik : Int32) (R : RI mo vo ou fe fq pi vt ash hs ag ws nu bu ki ce ow pu se st z ch sh di A) : ∃ hs' ag' ws' ki' ce' ow' pu' ch' sh' di' kp', f_X_image ik mo vo ou fe fq pi vt ash hs ag ws nu bu ki ce ow pu se st z ch sh di mok vok ouk fek fqk pik vtk ashk hsk agk wsk nuk buk kik cek owk puk sek stk zk chk shk dik = some (1, 1, mo, vo, ou, fe, fq, pi, vt, ash, hs', ag', ws', nu, bu, ki', ce', ow', pu', se, st, z, ch', sh', di') ∧ f_M_image ik A kp = some (1, 1, kp') ∧ RI mo vo ou fe fq pi vt ash hs' ag' ws' nu bu ki' ce' ow' pu' se st z ch' sh' di' kp' := by
  obtain ⟨hs', ag', ws', ki', ce', ow', pu', ch', sh', di', e1, e2⟩ := become_S (mo0 := mok) (vo0 := vok) (ou0 := ouk) (fe0 := fek) (fq0 := fqk) (pi0 := pik) (vt0 := vtk) (ash0 := ashk) (hs0 := hsk) (ag0 := agk) (ws0 := wsk) (nu0 := nuk) (bu0 := buk) (ki0 := kik) (ce0 := cek) (ow0 := owk) (pu0 := puk) (se0 := sek) (st0 := stk) (z0 := zk) (ch0 := chk) (sh0 := shk) (di0 := dik) (hpi := R.2.2.2.2.2.2.2.2.2.2)
  refine ⟨hs', ag', ws', ki', ce', ow', pu', ch', sh', di', kRow A kp, ?_, ?_, (R.cp e2).row (fun j hj => kRow_at hj)⟩
  · unfold f_X_image
    rw [e1, kb23_eq]
  · unfold f_M_image
    rw [copyRow_m, kb1_eq]
/-- undo -/
theorem sim_undo_0 {mo vo ou fe fq pi vt ash nu bu se st z : Int32} {hs ag ws ki ce ow pu ch sh di : Nat → Int32} {mok vok ouk fek fqk pik vtk ashk nuk buk sek stk zk : Int32} {hsk agk wsk kik cek owk puk chk shk dik : Nat → Int32} {A kp fi fo : Nat → Int32} (F : RF fi fo) : ∃ r fi' fo', f_X_undo 0 mo vo ou fe fq pi vt ash hs ag ws nu bu ki ce ow pu se st z ch sh di mok vok ouk fek fqk pik vtk ashk hsk agk wsk nuk buk kik cek owk puk sek stk zk chk shk dik fi = some (r, mo, vo, ou, fe, fq, pi, vt, ash, hs, ag, ws, nu, bu, ki, ce, ow, pu, se, st, z, ch, sh, di, fi') ∧ f_M_undo 0 A kp fo = some (r, A, fo') ∧ RF fi' fo' := by
  obtain ⟨fi', fo', b1, b2, F'⟩ := fnd3 F
  refine ⟨-1000000004, fi', fo', ?_, ?_, F'⟩
  · unfold f_X_undo
    rw [if_pos rfl, b1, kb2_eq]
  · unfold f_M_undo
    rw [if_pos rfl, b2, kb2_eq]
theorem sim_undo_1 {mo vo ou fe fq pi vt ash nu bu se st z : Int32} {hs ag ws ki ce ow pu ch sh di : Nat → Int32} {mok vok ouk fek fqk pik vtk ashk nuk buk sek stk zk : Int32} {hsk agk wsk kik cek owk puk chk shk dik : Nat → Int32} {A kp fi fo : Nat → Int32} {ik : Int32} (hk : ¬ ik = 0) (K : RI mok vok ouk fek fqk pik vtk ashk hsk agk wsk nuk buk kik cek owk puk sek stk zk chk shk dik kp) : ∃ r hs' ag' ws' ki' ce' ow' pu' ch' sh' di' A', f_X_undo ik mo vo ou fe fq pi vt ash hs ag ws nu bu ki ce ow pu se st z ch sh di mok vok ouk fek fqk pik vtk ashk hsk agk wsk nuk buk kik cek owk puk sek stk zk chk shk dik fi = some (r, mok, vok, ouk, fek, fqk, pik, vtk, ashk, hs', ag', ws', nuk, buk, ki', ce', ow', pu', sek, stk, zk, ch', sh', di', fi) ∧ f_M_undo ik A kp fo = some (r, A', fo) ∧ RI mok vok ouk fek fqk pik vtk ashk hs' ag' ws' nuk buk ki' ce' ow' pu' sek stk zk ch' sh' di' A' := by
  obtain ⟨hs', ag', ws', ki', ce', ow', pu', ch', sh', di', e1, e2⟩ := become_S (mo := mok) (mo0 := mo) (vo := vok) (vo0 := vo) (ou := ouk) (ou0 := ou) (fe := fek) (fe0 := fe) (fq := fqk) (fq0 := fq) (pi := pik) (pi0 := pi) (vt := vtk) (vt0 := vt) (ash := ashk) (ash0 := ash) (hs := hsk) (hs0 := hs) (ag := agk) (ag0 := ag) (ws := wsk) (ws0 := ws) (nu := nuk) (nu0 := nu) (bu := buk) (bu0 := bu) (ki := kik) (ki0 := ki) (ce := cek) (ce0 := ce) (ow := owk) (ow0 := ow) (pu := puk) (pu0 := pu) (se := sek) (se0 := se) (st := stk) (st0 := st) (z := zk) (z0 := z) (ch := chk) (ch0 := ch) (sh := shk) (sh0 := sh) (di := dik) (di0 := di) (hpi := K.2.2.2.2.2.2.2.2.2.2)
  refine ⟨nuk, hs', ag', ws', ki', ce', ow', pu', ch', sh', di', kRow kp A, ?_, ?_, (K.cp e2).row (fun j hj => kRow_at hj)⟩
  · unfold f_X_undo
    rw [if_neg hk, e1, kb23_eq]
  · unfold f_M_undo
    rw [if_neg hk, copyRow_m, kb1_eq, kRow_at (by decide), K.1.2.2.2.2.2.2.2.2.2.2.2.2.1]
/-- tear, wipe -/
theorem sim_tear (ik : Int32) : ∃ r, f_X_tear ik = some (r, 0) ∧ f_M_tear ik = some (r, 0) := by
  unfold f_X_tear f_M_tear f_X_tear_1 f_M_tear_1
  by_cases q : ik = 0
  · rw [if_pos q]; exact ⟨_, rfl, rfl⟩
  · rw [if_neg q]; exact ⟨_, rfl, rfl⟩
theorem sim_wipe (n : Int32) : f_X_wipe n = some (n, 0) ∧ f_M_wipe n = some (n, 0) := ⟨rfl, rfl⟩
theorem status_l (fi : Nat → Int32) : ∀ n k, 7 - k < n → k ≤ 7 → fl_X_status_1 7 fi n (cAll fi k) (nI k) = some (cAll fi 7, fi) := by
  intro n
  induction n with
  | zero => intro k h; exact absurd h (by omega)
  | succ n ih =>
    intro k h hk
    rw [fl_X_status_1_s]
    unfold fb_X_status_1
    by_cases q : k = 7
    · subst q; rw [if_pos (show (7 : Int32) ≤ nI 7 by decide)]
    · rw [if_neg (show ¬ (7 : Int32) ≤ nI k from nI_ge (b := 7) (by omega) (by decide)), kx (by omega) (by decide), nI_clamp (by omega), klet_eq, nI_1]
      exact ih (k + 1) (by omega) (by omega)
theorem sim_status {fi fo : Nat → Int32} (F : RF fi fo) (x1 : Int32) : ∃ r fi' fo', f_X_status fi x1 = some (r, fi') ∧ f_M_status fo x1 = some (r, fo') ∧ RF fi' fo' := by
  unfold f_X_status f_M_status
  rw [isWithin_eq]
  rcases within_or x1 (-1) 6 with ⟨h1, -⟩ | ⟨h1, h2, h3⟩
  · obtain ⟨fi', fo', b1, b2, F'⟩ := fnd0 F
    exact ⟨-1000000001, fi', fo', by rw [h1, kb1_eq, if_pos rfl, b1, kb2_eq], by rw [h1, kb1_eq, if_pos rfl, b2, kb2_eq], F'⟩
  rw [h1, kb1_eq, kb1_eq, if_neg i10, if_neg i10]
  by_cases q : x1 < 0
  · have e : x1 = -1 := by
      apply Int32.toInt_inj.mp
      rw [Int32.lt_iff_toInt_lt] at q h2
      have a0 : (0 : Int32).toInt = 0 := by decide
      have a1 : (-1 : Int32).toInt = -1 := by decide
      omega
    subst e
    have g : fl_X_status_1 7 fi kFuel 0 0 = some (cAll fi 7, fi) := status_l fi kFuel 0 (by unfold kFuel; omega) (by omega)
    refine ⟨cAll fi 7, fi, fo, ?_, ?_, F⟩
    · rw [if_pos q, g]
    · rw [show (-1 : Int32) + 1 = nI 0 by decide, kx (by decide) (by decide), nI_clamp (by decide), F.2]
      rfl
  · obtain ⟨j, hj, rfl⟩ := nI_of q
    have hj7 : j < 7 := by
      rcases Nat.lt_or_ge j 7 with z | z
      · exact z
      · exact absurd (show (6 : Int32) < nI j from nI_lt (a := 6) z hj) h3
    refine ⟨fi j, fi, fo, ?_, ?_, F⟩
    · rw [if_neg q, kx hj7 (by decide), nI_clamp (by omega)]
    · rw [nI_1, kx (by omega) (by decide), nI_clamp (by omega), F.1 j hj7]
/-- both tapes -/
def RT (T : Nat) (n m : Int32) (by_ tp : Nat → Int32) : Prop := T ≤ 120 ∧ n = nI T ∧ m = nI T ∧ ∀ i, i < 120 → tp i = by_ i
theorem feed_b (x : Int32) : ∀ k, k < 4 → ((x.toUInt32 >>> (((8 : Int32) * nI k).toUInt32 &&& Int32.toUInt32 31)).toInt32) &&& (255 : Int32) = (x >>> (((8 : Int32) * nI k) &&& 31)) &&& (255 : Int32) := by
  intro k hk
  have h1 : ∀ k, k < 4 → (((((8 : Int32) * nI k).toUInt32 &&& Int32.toUInt32 31).toBitVec % 32).toNat = 8 * k) := by decide +kernel
  have h2 : ∀ k, k < 4 → ((((8 : Int32) * nI k) &&& 31).toBitVec.smod 32).toNat = 8 * k := by decide +kernel
  have e1 := pk_ushr x ((8 : Int32) * nI k) (8 * k) (h1 k hk)
  have e2 := pk_shr x (((8 : Int32) * nI k) &&& 31) (8 * k) (h2 k hk)
  rw [pk_and _ 8 (by decide), pk_and _ 8 (by decide), e1]
  generalize x >>> (((8 : Int32) * nI k) &&& 31) = y at *
  have t1 : y.toInt = y.toBitVec.toInt := rfl
  have t2 : x.toInt = x.toBitVec.toInt := rfl
  rw [t1, t2, BitVec.toInt_eq_toNat_cond, BitVec.toInt_eq_toNat_cond, Int.shiftRight_eq_div_pow] at e2
  have l1 := y.toBitVec.isLt
  have l2 := x.toBitVec.isLt
  refine congrArg nI ?_
  have c4 : k = 0 ∨ k = 1 ∨ k = 2 ∨ k = 3 := by omega
  rcases c4 with rfl | rfl | rfl | rfl <;> (simp at e2 ⊢; split at e2 <;> split at e2 <;> omega)
def kD1 : Nat → Int32
  | 0 => -1
  | k + 1 => nI k
theorem feed_l {fi fo : Nat → Int32} (x : Int32) : ∀ n k T a b, k < n → k ≤ 4 → T + k ≤ 120 → (∀ i, i < 120 → b i = a i) → ∃ T' a' b', fl_X_feed_1 x fi n (kD1 k) (nI T) a = some (nI T', nI T', a', fi) ∧ fl_M_feed_1 x fo n (kD1 k) (nI T) b = some (nI T', nI T', fo, b') ∧ T' ≤ 120 ∧ ∀ i, i < 120 → b' i = a' i := by
  intro n
  induction n with
  | zero => intro k _ _ _ h; exact absurd h (by omega)
  | succ n ih =>
    intro k T a b h hk hT he
    rw [fl_X_feed_1_s, fl_M_feed_1_s]
    unfold fb_X_feed_1 fb_M_feed_1
    cases k with
    | zero => exact ⟨T, a, b, by rw [if_pos (by decide)], by rw [if_pos (by decide)], by omega, he⟩
    | succ k =>
      have e : kD1 (k + 1) = nI k := rfl
      have e2 : nI k + (-1) = kD1 k := by
        cases k with
        | zero => decide
        | succ k => exact pk_m1 k
      rw [e, if_neg (nI_pos (by omega)), if_neg (nI_pos (by omega)), e2]
      unfold f_Ta_append
      rw [if_neg (show ¬ (120 : Int32) ≤ nI T from nI_ge (b := 120) (by omega) (by decide)), kx (by omega) (by decide), kb2_eq, kx (by omega) (by decide), nI_1, nI_clamp (by omega), feed_b x k (by omega)]
      refine ih k (T + 1) _ _ (by omega) (by omega) (by omega) (fun i hi => ?_)
      by_cases z : i = T
      · subst z; rw [pk_us, pk_us]
      · rw [pk_un z, pk_un z, he i hi]
theorem sim_feed {fi fo by_ tp : Nat → Int32} {T : Nat} {n m : Int32} (F : RF fi fo) (RT0 : RT T n m by_ tp) (x1 x2 : Int32) : ∃ r n' by' fi' m' tp' fo' T', f_X_feed n by_ fi x1 x2 = some (r, n', by', fi') ∧ f_M_feed m fo tp x1 x2 = some (r, m', fo', tp') ∧ RT T' n' m' by' tp' ∧ RF fi' fo' := by
  obtain ⟨hT, rfl, rfl, he⟩ := RT0
  unfold f_X_feed f_M_feed
  rw [isWithin_eq]
  rcases rg2 1 4 (by decide) (by decide) x2 with ⟨h1, -⟩ | ⟨k, hk1, hk2, rfl, h1⟩
  · have h1 : f_M_within x2 1 4 = some 0 := h1
    obtain ⟨fi', fo', b1, b2, F'⟩ := fnd0 F
    exact ⟨-1000000001, nI T, by_, fi', nI T, tp, fo', T, by rw [h1, kb1_eq, if_pos rfl, b1, kb2_eq], by rw [h1, kb1_eq, if_pos rfl, b2, kb2_eq], ⟨hT, rfl, rfl, he⟩, F'⟩
  have h1 : f_M_within (nI k) 1 4 = some 1 := h1
  rw [h1, kb1_eq, kb1_eq, if_neg i10, if_neg i10, nI_add]
  by_cases q : T + k ≤ 120
  · have q2 : nI (T + k) ≤ (120 : Int32) := nI_le (b := 120) q (by decide)
    rw [if_pos q2, if_pos q2]
    obtain ⟨j, rfl⟩ : ∃ j, k = j + 1 := ⟨k - 1, by omega⟩
    rw [nI_pred]
    obtain ⟨T', a', b', g1, g2, g3, g4⟩ := feed_l (fi := fi) (fo := fo) x1 kFuel (j + 1) T by_ tp (by unfold kFuel; omega) (by omega) q he
    exact ⟨nI T', nI T', a', fi, nI T', b', fo, T', g1, g2, ⟨g3, rfl, rfl, g4⟩, F⟩
  · have q2 : ¬ nI (T + k) ≤ (120 : Int32) := nI_ge (a := 120) (by omega) (by omega)
    rw [if_neg q2, if_neg q2]
    obtain ⟨fi', fo', b1, b2, F'⟩ := fnd1 F
    exact ⟨-1000000002, nI T, by_, fi', nI T, tp, fo', T, by rw [b1, kb2_eq], by rw [b2, kb2_eq], ⟨hT, rfl, rfl, he⟩, F'⟩

/-- count -/
def cntN (B : Nat) : Nat → Nat
  | 0 => 0
  | k + 1 => cntN B k + if B.testBit k then 1 else 0
theorem cnt_eq : ∀ a, a < 64 → ∀ b, b < 64 → f_In_bitCount (nI (64 * a + b)) = some (nI (cntN (64 * a + b) 12)) := by decide +kernel
theorem cnt_x {B N : Nat} (hN : N ≤ 12) (hB : B < 2 ^ N) : f_In_bitCount (nI B) = some (nI (cntN B N)) := by
  have hB2 := pow_le12 hN hB
  have e := cnt_eq (B / 64) (by omega) (B % 64) (by omega)
  rw [show 64 * (B / 64) + B % 64 = B by omega] at e
  rw [e]
  have key : ∀ d, cntN B (N + d) = cntN B N := by
    intro d
    induction d with
    | zero => rfl
    | succ d ih =>
      show cntN B (N + d) + (if B.testBit (N + d) then 1 else 0) = _
      have : B.testBit (N + d) = false := Nat.testBit_lt_two_pow (Nat.lt_of_lt_of_le hB (Nat.pow_le_pow_right (by decide) (by omega)))
      rw [ih, this]; rfl
  have := key (12 - N)
  rw [show N + (12 - N) = 12 by omega] at this
  rw [this]
theorem cntN_le (B : Nat) : ∀ k, cntN B k ≤ k := by
  intro k
  induction k with
  | zero => exact Nat.le_refl _
  | succ k ih =>
    show cntN B k + (if B.testBit k then 1 else 0) ≤ k + 1
    by_cases q : B.testBit k = true
    · rw [if_pos q]; omega
    · rw [if_neg q]; omega
theorem count1_l {A fo ki ce ow pu : Nat → Int32} {N B : Nat} (hN : N ≤ 12) (hA : A 10 = nI N) (hB : B < 4096) (Rf : RFm ki ce ow pu (nI B) A) : ∀ n k, N - k < n → k ≤ N → fl_M_count_1 A fo n (nI (cntN B k)) (nI k) = some (nI (cntN B N), fo) := by
  intro n
  induction n with
  | zero => intro k h; exact absurd h (by omega)
  | succ n ih =>
    intro k h hk
    rw [fl_M_count_1_s]
    unfold fb_M_count_1
    rw [hA]
    by_cases q : k = N
    · subst q; rw [if_pos (nI_le (Nat.le_refl _) (by omega))]
    · obtain ⟨-, -, -, -, f4⟩ := Rf k (by omega)
      rw [if_neg (nI_ge (by omega) (by omega)), nl4, M_farmIs_eq A (by omega) (by decide), kb1_eq, f4, bit12 k (by omega) B hB, nI_1]
      have e : nI (cntN B k) + (if B.testBit k = true then 1 else 0) = nI (cntN B (k + 1)) := by
        show _ = nI (cntN B k + if B.testBit k then 1 else 0)
        by_cases z : B.testBit k = true
        · rw [if_pos z, if_pos z, nI_1]
        · rw [if_neg z, if_neg z, Int32.add_zero, Nat.add_zero]
      rw [e]
      exact ih (k + 1) (by omega) (by omega)
theorem count2_l {A ws fo : Nat → Int32} {W : Nat → Nat} (hW : ∀ i, i < 36 → W i < 16 ∧ ws i = nI (W i)) (R : RA 122 36 ws A) : ∀ n k s, 36 - k < n → k ≤ 36 → ∃ r, fl_Gr_countWalls_1 36 ws n s (nI k) = some r ∧ fl_M_count_2 A fo n s (nI k) = some (r, fo) := by
  intro n
  induction n with
  | zero => intro k _ h; exact absurd h (by omega)
  | succ n ih =>
    intro k s h hk
    rw [fl_Gr_countWalls_1_s, fl_M_count_2_s]
    unfold fb_Gr_countWalls_1 fb_M_count_2
    by_cases q : k = 36
    · subst q
      exact ⟨_, by rw [if_pos (show (36 : Int32) ≤ nI 36 by decide)], by rw [if_pos (show (36 : Int32) ≤ nI 36 by decide)]⟩
    · obtain ⟨r, c1, c2⟩ := bits_same (S := W k) (by have := (hW k (by omega)).1; omega)
      rw [if_neg (show ¬ (36 : Int32) ≤ nI k from nI_ge (b := 36) (by omega) (by decide)), if_neg (show ¬ (36 : Int32) ≤ nI k from nI_ge (b := 36) (by omega) (by decide)), kx (by omega) (by decide), nI_clamp (by omega), klet_eq, nl122, nI_add, kx (by omega) (by decide), nI_clamp (by omega), R k (by omega), (hW k (by omega)).2, c1, kb1_eq, c2, kb1_eq, nI_1]
      exact ih (k + 1) _ (by omega) (by omega)

theorem sim_count {mo vo ou fe fq pi vt ash nu bu se st z : Int32} {hs ag ws ki ce ow pu ch sh di : Nat → Int32} {A fi fo by_ tp : Nat → Int32} {T : Nat} {n m : Int32} (R : RI mo vo ou fe fq pi vt ash hs ag ws nu bu ki ce ow pu se st z ch sh di A) (F : RF fi fo) (RT0 : RT T n m by_ tp) (x1 : Int32) : ∃ r fi' fo', f_X_count ws nu bu se z n fi x1 = some (r, fi') ∧ f_M_count m A fo x1 = some (r, fo') ∧ RF fi' fo' := by
  obtain ⟨N, hN, hnu, -, -, -, B, hB, hbu⟩ := id R.2.1
  obtain ⟨W, hW, -⟩ := id R.2.2.2.2.1
  obtain ⟨s0, s1, s2, s3, s4, s5, s6, s7, s8, s9, s10, s11⟩ := id R.1.2.2
  have hB2 := pow_le12 hN hB
  have Rf := R.1.2.1
  obtain ⟨hT, rfl, rfl, he⟩ := RT0
  subst hnu hbu
  unfold f_X_count f_M_count
  by_cases q0 : x1 = 0
  · exact ⟨nI N, fi, fo, by rw [if_pos q0], by rw [if_pos q0, s10], F⟩
  rw [if_neg q0, if_neg q0]
  by_cases q1 : x1 = 1
  · refine ⟨nI (cntN B N), fi, fo, ?_, ?_, F⟩
    · rw [if_pos q1, cnt_x hN hB, kb1_eq]
    · rw [if_pos q1]
      exact count1_l hN s10 hB2 Rf kFuel 0 (by unfold kFuel; omega) (by omega)
  rw [if_neg q1, if_neg q1]
  by_cases q2 : x1 = 2
  · obtain ⟨r, c1, c2⟩ := count2_l (fo := fo) hW R.1.1.2.2.1 kFuel 0 0 (by unfold kFuel; omega) (by omega)
    have c1 : f_Gr_countWalls ws = some r := c1
    refine ⟨r, fi, fo, ?_, ?_, F⟩
    · rw [if_pos q2, c1, kb1_eq]
    · rw [if_pos q2]; exact c2
  rw [if_neg q2, if_neg q2]
  by_cases q3 : x1 = 3
  · exact ⟨nI T, fi, fo, by rw [if_pos q3], by rw [if_pos q3], F⟩
  rw [if_neg q3, if_neg q3]
  by_cases q4 : x1 = 4
  · exact ⟨se, fi, fo, by rw [if_pos q4], by rw [if_pos q4, s11], F⟩
  rw [if_neg q4, if_neg q4]
  by_cases q5 : x1 = 5
  · exact ⟨z, fi, fo, by rw [if_pos q5], by rw [if_pos q5, s0], F⟩
  rw [if_neg q5, if_neg q5]
  obtain ⟨fi', fo', b1, b2, F'⟩ := fnd0 F
  exact ⟨-1000000001, fi', fo', by rw [b1, kb2_eq], by rw [b2, kb2_eq], F'⟩
