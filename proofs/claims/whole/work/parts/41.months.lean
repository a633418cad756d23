/-! months, out, on, crop, read -/
theorem months_l {vo vt nu se : Int32} {ws ki ce ow ch sh di : Nat → Int32} {N : Nat} (hN : N ≤ 240) : ∀ n i cnt (mo ou fe fq pi ash : Int32) (hs ag : Nat → Int32) (bu : Int32) (pu : Nat → Int32) (st z : Int32) (A : Nat → Int32) m, N - i < n → i ≤ N → RI mo vo ou fe fq pi vt ash hs ag ws nu bu ki ce ow pu se st z ch sh di A → mo = nI m → m + (N - i) ≤ 9999 → ∃ r mo' ou' fe' fq' pi' ash' hs' ag' bu' pu' st' z' A', fl_Sl_goMonths_1 (nI N) vo vt ws nu ki ce ch sh n cnt (nI i) mo ou fe fq pi ash hs ag bu pu st z = some (r, mo', ou', fe', fq', pi', ash', hs', ag', bu', pu', st', z') ∧ fl_M_monthsGo_1 (nI N) kDown kAlong n cnt (nI i) A = some (r, A') ∧ RI mo' vo ou' fe' fq' pi' vt ash' hs' ag' ws nu bu' ki ce ow pu' se st' z' ch sh di A' ∧ mo' = nI (m + (N - i)) := by
  intro n
  induction n with
  | zero => intro i _ _ _ _ _ _ _ _ _ _ _ _ _ _ _ h; exact absurd h (by omega)
  | succ n ih =>
    intro i cnt mo ou fe fq pi ash hs ag bu pu st z A m h hi R hmo hm
    rw [fl_Sl_goMonths_1_s, fl_M_monthsGo_1_s]
    unfold fb_Sl_goMonths_1 fb_M_monthsGo_1
    by_cases q : i = N
    · subst q
      refine ⟨cnt, mo, ou, fe, fq, pi, ash, hs, ag, bu, pu, st, z, A, ?_, ?_, R, by rw [hmo, Nat.sub_self, Nat.add_zero]⟩
      · rw [if_pos (nI_le (Nat.le_refl _) (by omega))]
      · rw [if_pos (nI_le (Nat.le_refl _) (by omega))]
    · obtain ⟨r, mo', ou', fe', fq', pi', ash', hs', ag', bu', pu', st', z', A', e1, e2, e3, e4, e5⟩ := month_same R hmo (by omega)
      rw [if_neg (nI_ge (by omega) (by omega)), if_neg (nI_ge (by omega) (by omega)), e1, kb13_eq, e2, kb2_eq, nI_1]
      have e6 : m + 1 + (N - (i + 1)) = m + (N - i) := by omega
      rcases e3 with rfl | rfl
      · rw [if_pos rfl, Int32.add_zero]
        have g := ih (i + 1) cnt mo' ou' fe' fq' pi' ash' hs' ag' bu' pu' st' z' A' (m + 1) (by omega) (by omega) e4 e5 (by omega)
        rw [e6] at g
        exact g
      · rw [if_neg i10]
        have g := ih (i + 1) (cnt + 1) mo' ou' fe' fq' pi' ash' hs' ag' bu' pu' st' z' A' (m + 1) (by omega) (by omega) e4 e5 (by omega)
        rw [e6] at g
        exact g
theorem months_same {mo vo ou fe fq pi vt ash nu bu se st z : Int32} {hs ag ws ki ce ow pu ch sh di : Nat → Int32} {A : Nat → Int32} (R : RI mo vo ou fe fq pi vt ash hs ag ws nu bu ki ce ow pu se st z ch sh di A) {m N : Nat} (hN : N ≤ 240) (hmo : mo = nI m) (hm : m + N ≤ 9999) : ∃ r mo' ou' fe' fq' pi' ash' hs' ag' bu' pu' st' z' A', f_Sl_goMonths mo vo ou fe fq pi vt ash hs ag ws nu bu ki ce pu st z ch sh (nI N) = some (r, mo', ou', fe', fq', pi', ash', hs', ag', bu', pu', st', z') ∧ f_M_monthsGo A kDown kAlong (nI N) = some (r, A') ∧ RI mo' vo ou' fe' fq' pi' vt ash' hs' ag' ws nu bu' ki ce ow pu' se st' z' ch sh di A' := by
  obtain ⟨r, mo', ou', fe', fq', pi', ash', hs', ag', bu', pu', st', z', A', e1, e2, e3, -⟩ := months_l hN kFuel 0 0 mo ou fe fq pi ash hs ag bu pu st z A m (by unfold kFuel; omega) (by omega) R hmo (by omega)
  exact ⟨r, mo', ou', fe', fq', pi', ash', hs', ag', bu', pu', st', z', A', e1, e2, e3⟩
theorem late_m {mo vo ou fe fq pi vt ash nu bu se st z : Int32} {hs ag ws ki ce ow pu ch sh di : Nat → Int32} {A : Nat → Int32} (R : RI mo vo ou fe fq pi vt ash hs ag ws nu bu ki ce ow pu se st z ch sh di A) {N : Nat} (hN : N ≤ 240) : ∃ m, mo = nI m ∧ ((m + N ≤ 9999 ∧ f_M_isTooLate A (nI N) = some 0 ∧ mo + nI N ≤ (9999 : Int32)) ∨ (9999 < m + N ∧ f_M_isTooLate A (nI N) = some 1 ∧ ¬ mo + nI N ≤ (9999 : Int32))) := by
  obtain ⟨m, o, f, q, e1, -, -, -, g1, -⟩ := id R.2.2.2.2.2.2.2.2.2.1
  have s1 : A 1 = mo := R.1.2.2.2.1
  refine ⟨m, e1, ?_⟩
  unfold f_M_isTooLate
  rw [s1, e1, nI_add]
  by_cases z : m + N ≤ 9999
  · have l : nI (m + N) ≤ (9999 : Int32) := nI_le (b := 9999) z (by decide)
    exact Or.inl ⟨z, by rw [if_pos l], l⟩
  · have l : ¬ nI (m + N) ≤ (9999 : Int32) := nI_ge (a := 9999) (by omega) (by omega)
    exact Or.inr ⟨by omega, by rw [if_neg l], l⟩
/-- months -/
theorem sim_months {mo vo ou fe fq pi vt ash nu bu se st z : Int32} {hs ag ws ki ce ow pu ch sh di : Nat → Int32} {A fi fo : Nat → Int32} (R : RI mo vo ou fe fq pi vt ash hs ag ws nu bu ki ce ow pu se st z ch sh di A) (F : RF fi fo) (x1 : Int32) : ∃ r mo' ou' fe' fq' pi' ash' hs' ag' bu' pu' st' z' fi' A' fo', f_X_months mo vo ou fe fq pi vt ash hs ag ws nu bu ki ce pu st z ch sh fi x1 = some (r, mo', ou', fe', fq', pi', ash', hs', ag', bu', pu', st', z', fi') ∧ f_M_months A fo kDown kAlong x1 = some (r, A', fo') ∧ RI mo' vo ou' fe' fq' pi' vt ash' hs' ag' ws nu bu' ki ce ow pu' se st' z' ch sh di A' ∧ RF fi' fo' := by
  unfold f_X_months f_M_months
  rw [isWithin_eq]
  rcases rg2 1 240 (by decide) (by decide) x1 with ⟨h1, -⟩ | ⟨N, hN1, hN2, rfl, h1⟩
  · have h1 : f_M_within x1 1 240 = some 0 := h1
    obtain ⟨fi', fo', b1, b2, F'⟩ := fnd0 F
    exact ⟨-1000000001, mo, ou, fe, fq, pi, ash, hs, ag, bu, pu, st, z, fi', A, fo', by rw [h1, kb1_eq, if_pos rfl, b1, kb2_eq], by rw [h1, kb1_eq, if_pos rfl, b2, kb2_eq], R, F'⟩
  have h1 : f_M_within (nI N) 1 240 = some 1 := h1
  rw [h1, kb1_eq, kb1_eq, if_neg i10, if_neg i10]
  obtain ⟨m, hmo, ⟨l1, l2, l3⟩ | ⟨l1, l2, l3⟩⟩ := late_m R (N := N) (by omega)
  · rw [l2, kb1_eq, if_pos l3, if_pos rfl]
    obtain ⟨r, mo', ou', fe', fq', pi', ash', hs', ag', bu', pu', st', z', A', e1, e2, e3⟩ := months_same R (by omega) hmo l1
    exact ⟨r, mo', ou', fe', fq', pi', ash', hs', ag', bu', pu', st', z', fi, A', fo, by rw [e1, kb13_eq], by rw [e2, kb2_eq], e3, F⟩
  · rw [l2, kb1_eq, if_neg l3, if_neg i10]
    obtain ⟨fi', fo', b1, b2, F'⟩ := fnd4 F
    exact ⟨-1000000005, mo, ou, fe, fq, pi, ash, hs, ag, bu, pu, st, z, fi', A, fo', by rw [b1, kb2_eq], by rw [b2, kb2_eq], R, F'⟩
/-- out: the search on the trial -/
theorem out_l {vo vt nu se : Int32} {ws ki ce ow ch sh di : Nat → Int32} {A0 aside fi fo : Nat → Int32} (ha : ∀ j, j < 218 → aside j = A0 j) (F : RF fi fo) : ∀ n i (mo ou fe fq pi ash : Int32) (hs ag : Nat → Int32) (bu : Int32) (pu : Nat → Int32) (st z : Int32) (A : Nat → Int32) m, 241 - i < n → 1 ≤ i → i ≤ 241 → RI mo vo ou fe fq pi vt ash hs ag ws nu bu ki ce ow pu se st z ch sh di A → mo = nI m → m + (241 - i) ≤ 9999 → ∃ r mou vou ouu feu fqu piu vtu ashu hsu agu wsu nuu buu kiu ceu owu puu seu stu zu chu shu diu fi' A' fo', fl_X_out_1 vo vt ws nu ki ce ow se ch sh di fi n (nI i) mo ou fe fq pi ash hs ag bu pu st z = some (r, mou, vou, ouu, feu, fqu, piu, vtu, ashu, hsu, agu, wsu, nuu, buu, kiu, ceu, owu, puu, seu, stu, zu, chu, shu, diu, fi') ∧ fl_M_out_1 aside fo kDown kAlong n (nI i) A = some (r, A', aside, fo') ∧ (∀ j, j < 218 → A' j = A0 j) ∧ RF fi' fo' := by
  obtain ⟨fi', fo', b1, b2, F'⟩ := fnd3 F
  intro n
  induction n with
  | zero => intro i _ _ _ _ _ _ _ _ _ _ _ _ _ _ h; exact absurd h (by omega)
  | succ n ih =>
    intro i mo ou fe fq pi ash hs ag bu pu st z A m h h1 hi R hmo hm
    rw [fl_X_out_1_s, fl_M_out_1_s]
    unfold fb_X_out_1 fb_M_out_1
    have back : ∀ C : Nat → Int32, ∀ j, j < 218 → kRow aside C j = A0 j := fun C j hj => (kRow_at hj).trans (ha j hj)
    by_cases q : i = 241
    · subst q
      refine ⟨-1000000004, mo, vo, ou, fe, fq, pi, vt, ash, hs, ag, ws, nu, bu, ki, ce, ow, pu, se, st, z, ch, sh, di, fi', kRow aside A, fo', ?_, ?_, back A, F'⟩
      · rw [if_pos (show (240 : Int32) < nI 241 by decide), b1, kb2_eq]
      · unfold f_M_out_2 f_M_putBack
        rw [if_pos (show (240 : Int32) < nI 241 by decide), copyRow_m, kb1_eq, kb2_eq, if_neg (by decide), b2, kb2_eq]
    · obtain ⟨r, mo', ou', fe', fq', pi', ash', hs', ag', bu', pu', st', z', A', e1, e2, e3, e4, e5⟩ := month_same R hmo (by omega)
      have ni : ¬ (240 : Int32) < nI i := nI_nlt (a := 240) (by omega) (by decide)
      rw [if_neg ni, if_neg ni, e1, kb13_eq, e2, kb2_eq]
      rcases e3 with rfl | rfl
      · rw [if_pos rfl, if_pos rfl, nI_1]
        exact ih (i + 1) mo' ou' fe' fq' pi' ash' hs' ag' bu' pu' st' z' A' (m + 1) (by omega) (by omega) (by omega) e4 e5 (by omega)
      · rw [if_neg i10, if_neg i10]
        refine ⟨nI i, mo', vo, ou', fe', fq', pi', vt, ash', hs', ag', ws, nu, bu', ki, ce, ow, pu', se, st', z', ch, sh, di, fi, kRow aside A', fo, rfl, ?_, back A', F⟩
        unfold f_M_out_2 f_M_putBack
        rw [copyRow_m, kb1_eq, kb2_eq, if_pos (show nI i ≤ (240 : Int32) from nI_le (b := 240) (by omega) (by decide))]
theorem sim_out {mo vo ou fe fq pi vt ash nu bu se st z : Int32} {hs ag ws ki ce ow pu ch sh di : Nat → Int32} {mot vot out fet fqt pit vtt asht nut but set stt zt : Int32} {hst agt wst kit cet owt put cht sht dit : Nat → Int32} {A fi fo : Nat → Int32} (aside : Nat → Int32) (R : RI mo vo ou fe fq pi vt ash hs ag ws nu bu ki ce ow pu se st z ch sh di A) (F : RF fi fo) : ∃ r mou vou ouu feu fqu piu vtu ashu hsu agu wsu nuu buu kiu ceu owu puu seu stu zu chu shu diu fi' A' aside' fo', f_X_out mo vo ou fe fq pi vt ash hs ag ws nu bu ki ce ow pu se st z ch sh di mot vot out fet fqt pit vtt asht hst agt wst nut but kit cet owt put set stt zt cht sht dit fi = some (r, mou, vou, ouu, feu, fqu, piu, vtu, ashu, hsu, agu, wsu, nuu, buu, kiu, ceu, owu, puu, seu, stu, zu, chu, shu, diu, fi') ∧ f_M_out A aside fo kDown kAlong = some (r, A', aside', fo') ∧ RI mo vo ou fe fq pi vt ash hs ag ws nu bu ki ce ow pu se st z ch sh di A' ∧ RF fi' fo' := by
  unfold f_X_out f_M_out
  obtain ⟨m, hmo, ⟨l1, l2, l3⟩ | ⟨l1, l2, l3⟩⟩ := late_m R (N := 240) (by omega)
  · have l2 : f_M_isTooLate A 240 = some 0 := l2
    have l3 : mo + 240 ≤ (9999 : Int32) := l3
    obtain ⟨hs', ag', ws', ki', ce', ow', pu', ch', sh', di', c1, c2⟩ := become_S (mo0 := mot) (vo0 := vot) (ou0 := out) (fe0 := fet) (fq0 := fqt) (pi0 := pit) (vt0 := vtt) (ash0 := asht) (hs0 := hst) (ag0 := agt) (ws0 := wst) (nu0 := nut) (bu0 := but) (ki0 := kit) (ce0 := cet) (ow0 := owt) (pu0 := put) (se0 := set) (st0 := stt) (z0 := zt) (ch0 := cht) (sh0 := sht) (di0 := dit) (hpi := R.2.2.2.2.2.2.2.2.2.2)
    rw [if_pos l3, l2, kb1_eq, if_pos rfl, c1, kb23_eq, copyRow_m, kb1_eq]
    obtain ⟨r, mou, vou, ouu, feu, fqu, piu, vtu, ashu, hsu, agu, wsu, nuu, buu, kiu, ceu, owu, puu, seu, stu, zu, chu, shu, diu, fi', A', fo', e1, e2, e3, F'⟩ := out_l (A0 := A) (aside := kRow A aside) (fun j hj => kRow_at hj) F kFuel 1 mo ou fe fq pi ash hs' ag' bu pu' st z A m (by unfold kFuel; omega) (by omega) (by omega) (R.cp c2) hmo (by omega)
    exact ⟨r, mou, vou, ouu, feu, fqu, piu, vtu, ashu, hsu, agu, wsu, nuu, buu, kiu, ceu, owu, puu, seu, stu, zu, chu, shu, diu, fi', A', kRow A aside, fo', e1, e2, R.row e3, F'⟩
  · have l2 : f_M_isTooLate A 240 = some 1 := l2
    have l3 : ¬ mo + 240 ≤ (9999 : Int32) := l3
    obtain ⟨fi', fo', b1, b2, F'⟩ := fnd4 F
    exact ⟨-1000000005, mot, vot, out, fet, fqt, pit, vtt, asht, hst, agt, wst, nut, but, kit, cet, owt, put, set, stt, zt, cht, sht, dit, fi', A, aside, fo', by rw [if_neg l3, b1, kb2_eq], by rw [l2, kb1_eq, if_neg i10, b2, kb2_eq], R, F'⟩
theorem mod_bit {B k : Nat} : (if B.testBit k = true then B % 2 ^ k ||| 2 ^ k else B % 2 ^ k) = B % 2 ^ (k + 1) := by
  apply Nat.eq_of_testBit_eq
  intro i
  rw [Nat.testBit_mod_two_pow]
  by_cases q : i = k
  · subst q
    by_cases z : B.testBit i = true
    · rw [if_pos z, Nat.testBit_or, Nat.testBit_two_pow]; simp [z]
    · rw [if_neg z, Nat.testBit_mod_two_pow]; simp [z]
  · have e : decide (i < k + 1) = decide (i < k) := by by_cases y : i < k <;> simp [y] <;> omega
    rw [e]
    by_cases z : B.testBit k = true
    · rw [if_pos z, Nat.testBit_or, Nat.testBit_two_pow, Nat.testBit_mod_two_pow]
      have : decide (k = i) = false := by simp; omega
      rw [this, Bool.or_false]
    · rw [if_neg z, Nat.testBit_mod_two_pow]
theorem on_l {A aside fo ki ce ow pu : Nat → Int32} {x2 : Int32} {N B : Nat} (hN : N ≤ 12) (hA : A 10 = nI N) (hB : B < 2 ^ N) (Rf : RFm ki ce ow pu (nI B) A) : ∀ n k, N - k < n → k ≤ N → fl_M_on_2 x2 A aside fo n (nI (B % 2 ^ k)) (nI k) = (if x2 = 0 then f_M_on_3 (nI B) A aside fo else (if x2 = (1 : Int32) then kb1 (f_M_coinsOf A (-1 : Int32)) fun r_55 => f_M_on_3 r_55 A aside fo else f_M_on_3 (A 2) A aside fo)) := by
  intro n
  induction n with
  | zero => intro k h; exact absurd h (by omega)
  | succ n ih =>
    intro k h hk
    rw [fl_M_on_2_s]
    unfold fb_M_on_2
    rw [hA]
    by_cases q : k = N
    · subst q; rw [if_pos (nI_le (Nat.le_refl _) (by omega)), Nat.mod_eq_of_lt hB]
    · obtain ⟨-, -, -, -, f4⟩ := Rf k (by omega)
      have l : B % 2 ^ k < 4096 := pow_le12 (show k ≤ 12 by omega) (Nat.mod_lt _ (Nat.two_pow_pos k))
      rw [if_neg (nI_ge (by omega) (by omega)), nl4, M_farmIs_eq A (by omega) (by decide), kb1_eq, f4, bit12 k (by omega) B (pow_le12 hN hB), nI_1, klet_eq]
      have e : nI (B % 2 ^ k) ||| ((if B.testBit k = true then (1 : Int32) else 0) <<< (nI k &&& 31)) = nI (B % 2 ^ (k + 1)) := by
        rw [← mod_bit]
        by_cases z : B.testBit k = true
        · rw [if_pos z, if_pos z, (or12 l (by omega)).1]
        · rw [if_neg z, if_neg z, Int32.zero_shiftLeft, Int32.or_zero]
      rw [e]
      exact ih (k + 1) (by omega) (by omega)
/-- on -/
theorem sim_on {mo vo ou fe fq pi vt ash nu bu se st z : Int32} {hs ag ws ki ce ow pu ch sh di : Nat → Int32} {mot vot out fet fqt pit vtt asht nut but set stt zt : Int32} {hst agt wst kit cet owt put cht sht dit : Nat → Int32} {A fi fo : Nat → Int32} (aside : Nat → Int32) (R : RI mo vo ou fe fq pi vt ash hs ag ws nu bu ki ce ow pu se st z ch sh di A) (F : RF fi fo) (x1 x2 : Int32) : ∃ r mou vou ouu feu fqu piu vtu ashu hsu agu wsu nuu buu kiu ceu owu puu seu stu zu chu shu diu fi' A' aside' fo', f_X_on mo vo ou fe fq pi vt ash hs ag ws nu bu ki ce ow pu se st z ch sh di mot vot out fet fqt pit vtt asht hst agt wst nut but kit cet owt put set stt zt cht sht dit fi x1 x2 = some (r, mou, vou, ouu, feu, fqu, piu, vtu, ashu, hsu, agu, wsu, nuu, buu, kiu, ceu, owu, puu, seu, stu, zu, chu, shu, diu, fi') ∧ f_M_on A aside fo kDown kAlong x1 x2 = some (r, A', aside', fo') ∧ RI mo vo ou fe fq pi vt ash hs ag ws nu bu ki ce ow pu se st z ch sh di A' ∧ RF fi' fo' := by
  obtain ⟨fi', fo', b1, b2, F'⟩ := fnd0 F
  have c1 : f_X_on_1 mot vot out fet fqt pit vtt asht hst agt wst nut but kit cet owt put set stt zt cht sht dit fi = some (-1000000001, mot, vot, out, fet, fqt, pit, vtt, asht, hst, agt, wst, nut, but, kit, cet, owt, put, set, stt, zt, cht, sht, dit, fi') := by unfold f_X_on_1; rw [b1, kb2_eq]
  have c2 : f_M_on_1 A aside fo = some (-1000000001, A, aside, fo') := by unfold f_M_on_1; rw [b2, kb2_eq]
  unfold f_X_on f_M_on
  rw [isWithin_eq]
  rcases rg 240 (by decide) x1 with ⟨h1, -⟩ | ⟨N, hN2, rfl, h1⟩
  · have h1 : f_M_within x1 0 240 = some 0 := h1
    exact ⟨-1000000001, mot, vot, out, fet, fqt, pit, vtt, asht, hst, agt, wst, nut, but, kit, cet, owt, put, set, stt, zt, cht, sht, dit, fi', A, aside, fo', by rw [h1, kb1_eq, if_pos rfl, c1], by rw [h1, kb1_eq, if_pos rfl, c2], R, F'⟩
  have h1 : f_M_within (nI N) 0 240 = some 1 := h1
  rw [h1, kb1_eq, kb1_eq, if_neg i10, if_neg i10]
  rcases within_or x2 0 2 with ⟨h2, -⟩ | ⟨h2, -, -⟩
  · exact ⟨-1000000001, mot, vot, out, fet, fqt, pit, vtt, asht, hst, agt, wst, nut, but, kit, cet, owt, put, set, stt, zt, cht, sht, dit, fi', A, aside, fo', by rw [h2, kb1_eq, if_pos rfl, c1], by rw [h2, kb1_eq, if_pos rfl, c2], R, F'⟩
  rw [h2, kb1_eq, kb1_eq, if_neg i10, if_neg i10]
  obtain ⟨m, hmo, ⟨l1, l2, l3⟩ | ⟨l1, l2, l3⟩⟩ := late_m R (N := N) (by omega)
  · obtain ⟨hs', ag', ws', ki', ce', ow', pu', ch', sh', di', d1, d2⟩ := become_S (mo0 := mot) (vo0 := vot) (ou0 := out) (fe0 := fet) (fq0 := fqt) (pi0 := pit) (vt0 := vtt) (ash0 := asht) (hs0 := hst) (ag0 := agt) (ws0 := wst) (nu0 := nut) (bu0 := but) (ki0 := kit) (ce0 := cet) (ow0 := owt) (pu0 := put) (se0 := set) (st0 := stt) (z0 := zt) (ch0 := cht) (sh0 := sht) (di0 := dit) (hpi := R.2.2.2.2.2.2.2.2.2.2)
    rw [if_pos l3, l2, kb1_eq, if_pos rfl, d1, kb23_eq, copyRow_m, kb1_eq]
    obtain ⟨r, mov, ouv, fev, fqv, piv, ashv, hsv, agv, buv, puv, stv, zv, A2, e1, e2, R2⟩ := months_same (R.cp d2) (N := N) (by omega) hmo l1
    rw [e1, kb13_eq, e2, kb2_eq]
    obtain ⟨N2, hN, hnu, -, -, -, B, hB, hbu⟩ := id R2.2.1
    have s10 : A2 10 = nu := R2.1.2.2.2.2.2.2.2.2.2.2.2.2.1
    have s2 : A2 2 = stv := R2.1.2.2.2.2.1
    have Rf := R2.1.2.1
    have back : ∀ r, f_M_on_3 r A2 (kRow A aside) fo = some (r, kRow (kRow A aside) A2, kRow A aside, fo) := by
      intro r
      unfold f_M_on_3 f_M_putBack
      rw [copyRow_m, kb1_eq, kb2_eq]
    have R3 : RI mo vo ou fe fq pi vt ash hs ag ws nu bu ki ce ow pu se st z ch sh di ((kRow (kRow A aside) A2)) := R.row (fun j hj => (kRow_at hj).trans (kRow_at hj))
    have g := on_l (x2 := x2) (aside := kRow A aside) (fo := fo) hN (s10.trans hnu) hB (hbu ▸ Rf) kFuel 0 (by unfold kFuel; omega) (by omega)
    rw [show B % 2 ^ 0 = 0 by rw [Nat.pow_zero, Nat.mod_one], nI_0] at g
    rw [g]
    by_cases q0 : x2 = 0
    · rw [if_pos q0, if_pos q0, back, hbu]
      exact ⟨_, _, _, _, _, _, _, _, _, _, _, _, _, _, _, _, _, _, _, _, _, _, _, _, fi, _, _, fo, rfl, rfl, R3, F⟩
    rw [if_neg q0, if_neg q0]
    by_cases q1 : x2 = 1
    · rw [if_pos q1, if_pos q1, hnu, allCoins_x _ hN, kb1_eq, coinsAll_m hN (s10.trans hnu) (fun f hf => (Rf f hf).2.2.2.1), kb1_eq, back]
      exact ⟨_, _, _, _, _, _, _, _, _, _, _, _, _, _, _, _, _, _, _, _, _, _, _, _, fi, _, _, fo, rfl, rfl, hnu ▸ R3, F⟩
    · rw [if_neg q1, if_neg q1, back, s2]
      exact ⟨_, _, _, _, _, _, _, _, _, _, _, _, _, _, _, _, _, _, _, _, _, _, _, _, fi, _, _, fo, rfl, rfl, R3, F⟩
  · obtain ⟨fi2, fo2, a1, a2, F2⟩ := fnd4 F
    exact ⟨-1000000005, mot, vot, out, fet, fqt, pit, vtt, asht, hst, agt, wst, nut, but, kit, cet, owt, put, set, stt, zt, cht, sht, dit, fi2, A, aside, fo2, by rw [if_neg l3, a1, kb2_eq], by rw [l2, kb1_eq, if_neg i10, a2, kb2_eq], R, F2⟩
noncomputable def cropEnd (rec1 : Int32 → Int32 → Int32 → (Nat → Int32) → Option (Int32 × (Nat → Int32) × (Nat → Int32) × (Nat → Int32))) (x1 : Int32) (aside : Nat → Int32) (x2 x3 x4 : Int32) (A : Nat → Int32) : Option (Int32 × (Nat → Int32) × (Nat → Int32) × (Nat → Int32)) :=
  kb2 (f_M_monthsGo A kDown kAlong x1) fun _ a1 => kb1 (f_M_coinsOf a1 (-1 : Int32)) fun r_47 => kb2 (f_M_putBack a1 aside r_47) fun r_49 a2 => (if x2 < 0 then rec1 x4 r_49 (x4 + 1) a2 else (if r_49 ≤ x3 then rec1 x2 x3 (x4 + 1) a2 else rec1 x4 r_49 (x4 + 1) a2))
theorem sow_l {mo vo ou fe fq pi vt ash nu bu se st z : Int32} {hs ag ws ce ow pu ch sh di : Nat → Int32} {rec1 : Int32 → Int32 → Int32 → (Nat → Int32) → Option (Int32 × (Nat → Int32) × (Nat → Int32) × (Nat → Int32))} {x1 x2 x3 : Int32} {aside fo : Nat → Int32} {N k : Nat} (hN : N ≤ 12) (hk : k < 6) (hnu : nu = nI N) : ∀ n f (ki A : Nat → Int32), N - f < n → f ≤ N → RI mo vo ou fe fq pi vt ash hs ag ws nu bu ki ce ow pu se st z ch sh di A → ∃ ki' A', fl_Fa_sowAll_1 (nI k) (nI N) n (nI f) ki = some ki' ∧ fl_M_crop_2 rec1 x1 aside fo kDown kAlong n x2 x3 (nI k) (nI f) A = cropEnd rec1 x1 aside x2 x3 (nI k) A' ∧ RI mo vo ou fe fq pi vt ash hs ag ws nu bu ki' ce ow pu se st z ch sh di A' := by
  intro n
  induction n with
  | zero => intro f _ _ h; exact absurd h (by omega)
  | succ n ih =>
    intro f ki A h hf R
    have hA : A 10 = nI N := R.1.2.2.2.2.2.2.2.2.2.2.2.2.1.trans hnu
    rw [fl_Fa_sowAll_1_s, fl_M_crop_2_s]
    unfold fb_Fa_sowAll_1 fb_M_crop_2
    rw [hA]
    by_cases q : f = N
    · subst q
      exact ⟨ki, A, by rw [if_pos (nI_le (Nat.le_refl _) (by omega))], by rw [if_pos (nI_le (Nat.le_refl _) (by omega))]; rfl, R⟩
    · have k1 : (nI (158 + 5 * f)).toNatClampNeg = 158 + 5 * f := nI_clamp (by omega)
      have k2 : (nI f).toNatClampNeg = f := nI_clamp (by omega)
      rw [if_neg (nI_ge (by omega) (by omega)), if_neg (nI_ge (by omega) (by omega))]
      simp only [nl158, nl5, pk_mul, nI_add, nI_1, Int32.add_zero, kx (k := 158 + 5 * f) (n := 218) (by omega) (by decide), kx (k := f) (n := 12) (by omega) (by decide), k1, k2]
      exact ih (f + 1) _ _ (by omega) (by omega) (RI.sow (by omega) hk R)
theorem crop_l {mo vo ou fe fq pi vt ash nu bu se st z : Int32} {hs ag ws ki ce ow pu ch sh di : Nat → Int32} {A0 aside fi fo : Nat → Int32} (R0 : RI mo vo ou fe fq pi vt ash hs ag ws nu bu ki ce ow pu se st z ch sh di A0) (ha : ∀ j, j < 218 → aside j = A0 j) (F : RF fi fo) {m N : Nat} (hN : N ≤ 240) (hmo : mo = nI m) (hm : m + N ≤ 9999) : ∀ n k xb xc mb mc, 6 - k < n → k ≤ 6 → (k = 0 ∧ mb = -1 ∨ 0 < k ∧ xb = mb ∧ xc = mc ∧ ∃ j, j < 6 ∧ mb = nI j) → ∀ (mot : Int32) (vot : Int32) (out : Int32) (fet : Int32) (fqt : Int32) (pit : Int32) (vtt : Int32) (asht : Int32) (hst : Nat → Int32) (agt : Nat → Int32) (wst : Nat → Int32) (nut : Int32) (but : Int32) (kit : Nat → Int32) (cet : Nat → Int32) (owt : Nat → Int32) (put : Nat → Int32) (set : Int32) (stt : Int32) (zt : Int32) (cht : Nat → Int32) (sht : Nat → Int32) (dit : Nat → Int32) A, (∀ j, j < 218 → A j = A0 j) → ∃ r mou vou ouu feu fqu piu vtu ashu hsu agu wsu nuu buu kiu ceu owu puu seu stu zu chu shu diu A', fl_X_crop_1 (nI N) mo vo ou fe fq pi vt ash hs ag ws nu bu ki ce ow pu se st z ch sh di fi n xb xc (nI k) mot vot out fet fqt pit vtt asht hst agt wst nut but kit cet owt put set stt zt cht sht dit = some (r, mou, vou, ouu, feu, fqu, piu, vtu, ashu, hsu, agu, wsu, nuu, buu, kiu, ceu, owu, puu, seu, stu, zu, chu, shu, diu, fi) ∧ fl_M_crop_1 (nI N) aside fo kDown kAlong n mb mc (nI k) A = some (r, A', aside, fo) ∧ ∀ j, j < 218 → A' j = A0 j := by
  intro n
  induction n with
  | zero => intro k _ _ _ _ h; exact absurd h (by omega)
  | succ n ih =>
    intro k xb xc mb mc h hk hs mot vot out fet fqt pit vtt asht hst agt wst nut but kit cet owt put set stt zt cht sht dit A hA
    rw [fl_X_crop_1_s, fl_M_crop_1_s]
    unfold fb_X_crop_1 fb_M_crop_1
    by_cases q : k = 6
    · subst q
      rw [if_pos (show (6 : Int32) ≤ nI 6 by decide), if_pos (show (5 : Int32) < nI 6 by decide)]
      rcases hs with ⟨h0, -⟩ | ⟨-, rfl, rfl, -⟩
      · exact absurd h0 (by decide)
      · exact ⟨_, _, _, _, _, _, _, _, _, _, _, _, _, _, _, _, _, _, _, _, _, _, _, _, _, rfl, rfl, hA⟩
    · rw [if_neg (show ¬ (6 : Int32) ≤ nI k from nI_ge (b := 6) (by omega) (by decide)), if_neg (show ¬ (5 : Int32) < nI k from nI_nlt (a := 5) (by omega) (by decide))]
      obtain ⟨hs', ag', ws', ki', ce', ow', pu', ch', sh', di', d1, d2⟩ := become_S (mo0 := mot) (vo0 := vot) (ou0 := out) (fe0 := fet) (fq0 := fqt) (pi0 := pit) (vt0 := vtt) (ash0 := asht) (hs0 := hst) (ag0 := agt) (ws0 := wst) (nu0 := nut) (bu0 := but) (ki0 := kit) (ce0 := cet) (ow0 := owt) (pu0 := put) (se0 := set) (st0 := stt) (z0 := zt) (ch0 := cht) (sh0 := sht) (di0 := dit) (hpi := R0.2.2.2.2.2.2.2.2.2.2)
      rw [d1, kb23_eq]
      obtain ⟨N2, hN2, hnu, -⟩ := id R0.2.1
      obtain ⟨ki2, A1, p1, p2, R1⟩ := sow_l (rec1 := fl_M_crop_1 (nI N) aside fo kDown kAlong n) (x1 := nI N) (x2 := mb) (x3 := mc) (aside := aside) (fo := fo) hN2 (show k < 6 by omega) hnu kFuel 0 _ A (by unfold kFuel; omega) (by omega) ((R0.row hA).cp d2)
      have p1 : f_Fa_sowAll nu ki' (nI k) = some ki2 := by rw [hnu]; exact p1
      have p2 : fl_M_crop_2 (fl_M_crop_1 (nI N) aside fo kDown kAlong n) (nI N) aside fo kDown kAlong kFuel mb mc (nI k) 0 A = _ := p2
      obtain ⟨r, mov, ouv, fev, fqv, piv, ashv, hsv, agv, buv, puv, stv, zv, A2, e1, e2, R2⟩ := months_same R1 (N := N) hN hmo hm
      have s10 : A2 10 = nu := R2.1.2.2.2.2.2.2.2.2.2.2.2.2.1
      have Rf := R2.1.2.1
      have back : ∀ j, j < 218 → kRow aside A2 j = A0 j := fun j hj => (kRow_at hj).trans (ha j hj)
      have ac : f_Fa_allCoins nu puv = some (cAll puv N2) := by rw [hnu]; exact allCoins_x _ hN2
      rw [p1, kb1_eq, e1, kb13_eq, ac, kb1_eq, p2]
      unfold cropEnd f_M_putBack
      rw [e2, kb2_eq, coinsAll_m hN2 (s10.trans hnu) (fun f hf => (Rf f hf).2.2.2.1), kb1_eq, copyRow_m, kb1_eq, kb2_eq, nI_1]
      rcases hs with ⟨rfl, rfl⟩ | ⟨h0, rfl, rfl, j, hj, rfl⟩
      · rw [if_pos (show nI 0 = (0 : Int32) from rfl), if_pos (by decide)]
        exact ih 1 _ _ _ _ (by omega) (by omega) (Or.inr ⟨by omega, rfl, rfl, 0, by omega, rfl⟩) _ _ _ _ _ _ _ _ _ _ _ _ _ _ _ _ _ _ _ _ _ _ _ _ back
      · rw [if_neg (fun c : nI k = (0 : Int32) => absurd ((nI_eq (b := 0) (by omega) (by decide)).mp c) (by omega)), if_neg (nI_pos (by omega))]
        by_cases y : cAll puv N2 ≤ xc
        · rw [if_pos y, if_pos y]
          exact ih (k + 1) _ _ _ _ (by omega) (by omega) (Or.inr ⟨by omega, rfl, rfl, j, hj, rfl⟩) _ _ _ _ _ _ _ _ _ _ _ _ _ _ _ _ _ _ _ _ _ _ _ _ back
        · rw [if_neg y, if_neg y]
          exact ih (k + 1) _ _ _ _ (by omega) (by omega) (Or.inr ⟨by omega, rfl, rfl, k, by omega, rfl⟩) _ _ _ _ _ _ _ _ _ _ _ _ _ _ _ _ _ _ _ _ _ _ _ _ back
/-- crop -/
theorem sim_crop {mo vo ou fe fq pi vt ash nu bu se st z : Int32} {hs ag ws ki ce ow pu ch sh di : Nat → Int32} {mot vot out fet fqt pit vtt asht nut but set stt zt : Int32} {hst agt wst kit cet owt put cht sht dit : Nat → Int32} {A fi fo : Nat → Int32} (aside : Nat → Int32) (R : RI mo vo ou fe fq pi vt ash hs ag ws nu bu ki ce ow pu se st z ch sh di A) (F : RF fi fo) (x1 : Int32) : ∃ r mou vou ouu feu fqu piu vtu ashu hsu agu wsu nuu buu kiu ceu owu puu seu stu zu chu shu diu fi' A' aside' fo', f_X_crop mo vo ou fe fq pi vt ash hs ag ws nu bu ki ce ow pu se st z ch sh di mot vot out fet fqt pit vtt asht hst agt wst nut but kit cet owt put set stt zt cht sht dit fi x1 = some (r, mou, vou, ouu, feu, fqu, piu, vtu, ashu, hsu, agu, wsu, nuu, buu, kiu, ceu, owu, puu, seu, stu, zu, chu, shu, diu, fi') ∧ f_M_crop A aside fo kDown kAlong x1 = some (r, A', aside', fo') ∧ RI mo vo ou fe fq pi vt ash hs ag ws nu bu ki ce ow pu se st z ch sh di A' ∧ RF fi' fo' := by
  unfold f_X_crop f_M_crop
  rw [isWithin_eq]
  rcases rg2 1 240 (by decide) (by decide) x1 with ⟨h1, -⟩ | ⟨N, hN1, hN2, rfl, h1⟩
  · have h1 : f_M_within x1 1 240 = some 0 := h1
    obtain ⟨fi', fo', b1, b2, F'⟩ := fnd0 F
    exact ⟨-1000000001, mot, vot, out, fet, fqt, pit, vtt, asht, hst, agt, wst, nut, but, kit, cet, owt, put, set, stt, zt, cht, sht, dit, fi', A, aside, fo', by rw [h1, kb1_eq, if_pos rfl, b1, kb2_eq], by rw [h1, kb1_eq, if_pos rfl, b2, kb2_eq], R, F'⟩
  have h1 : f_M_within (nI N) 1 240 = some 1 := h1
  rw [h1, kb1_eq, kb1_eq, if_neg i10, if_neg i10]
  obtain ⟨m, hmo, ⟨l1, l2, l3⟩ | ⟨l1, l2, l3⟩⟩ := late_m R (N := N) (by omega)
  · rw [if_pos l3, l2, kb1_eq, if_pos rfl, copyRow_m, kb1_eq]
    obtain ⟨r, mou, vou, ouu, feu, fqu, piu, vtu, ashu, hsu, agu, wsu, nuu, buu, kiu, ceu, owu, puu, seu, stu, zu, chu, shu, diu, A', e1, e2, e3⟩ := crop_l R (aside := kRow A aside) (fun j hj => kRow_at hj) F (by omega) hmo l1 kFuel 0 0 0 (-1) 0 (by unfold kFuel; omega) (by omega) (Or.inl ⟨rfl, rfl⟩) mot vot out fet fqt pit vtt asht hst agt wst nut but kit cet owt put set stt zt cht sht dit A (fun _ _ => rfl)
    exact ⟨r, mou, vou, ouu, feu, fqu, piu, vtu, ashu, hsu, agu, wsu, nuu, buu, kiu, ceu, owu, puu, seu, stu, zu, chu, shu, diu, fi, A', kRow A aside, fo, e1, e2, R.row e3, F⟩
  · obtain ⟨fi2, fo2, a1, a2, F2⟩ := fnd4 F
    exact ⟨-1000000005, mot, vot, out, fet, fqt, pit, vtt, asht, hst, agt, wst, nut, but, kit, cet, owt, put, set, stt, zt, cht, sht, dit, fi2, A, aside, fo2, by rw [if_neg l3, a1, kb2_eq], by rw [l2, kb1_eq, if_neg i10, a2, kb2_eq], R, F2⟩
