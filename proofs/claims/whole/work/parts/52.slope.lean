/-! slope: the loop over the items, and what was told is done -/
def kApp (it A0 : Nat → Int32) : Nat → (Nat → Int32) → Prop
  | 0, A => A = A0
  | k + 1, A => ∃ B, kApp it A0 k B ∧ f_M_isSo B kDown kAlong it (nI (6 * k)) = some A
theorem kApp.c {it it' A0 : Nat → Int32} : ∀ k A, k ≤ 61 → (∀ j, j < 6 * k → it' j = it j) → kApp it A0 k A → kApp it' A0 k A
  | 0, _, _, _, h => h
  | k + 1, A, hk, hj, ⟨B, h1, h2⟩ => ⟨B, kApp.c k B (by omega) (fun j hj2 => hj j (by omega)) h1, (isSo_c (by omega) B (fun j hj2 => hj j (by omega))).trans h2⟩
theorem kApp.u {it A0 : Nat → Int32} : ∀ k A A', kApp it A0 k A → kApp it A0 k A' → A = A'
  | 0, _, _, h, h' => Eq.trans h (Eq.symm h')
  | k + 1, A, A', ⟨B, h1, h2⟩, ⟨B', h1', h2'⟩ => by
    have e := kApp.u k B B' h1 h1'
    subst e
    exact Option.some.inj (h2.symm.trans h2')
theorem kApp.pre {it A0 : Nat → Int32} {i : Nat} : ∀ k A, i ≤ k → kApp it A0 k A → ∃ B, kApp it A0 i B
  | 0, A, hi, h => by
    have : i = 0 := by omega
    subst this
    exact ⟨A, h⟩
  | k + 1, A, hi, h => by
    by_cases q : i = k + 1
    · subst q; exact ⟨A, h⟩
    · obtain ⟨B, h1, -⟩ := h
      exact kApp.pre k B (by omega) h1
theorem slope5_l {it A0 A : Nat → Int32} {K : Nat} (hK : K ≤ 61) (hA : kApp it A0 K A) (t b en so v w fm : Int32) (fc : Int64) : ∀ n i B, K - i < n → i ≤ K → kApp it A0 i B → fl_M_slope_5 t b en so v w (nI K) fm fc kDown kAlong it n (nI i) B = some (nI K, t, b, en, so, v, w, nI K, fm, fc, A, it) := by
  intro n
  induction n with
  | zero => intro i _ h; exact absurd h (by omega)
  | succ n ih =>
    intro i B h hi hB
    rw [fl_M_slope_5_s]
    unfold fb_M_slope_5
    by_cases q : i = K
    · subst q
      rw [if_pos (nI_le (Nat.le_refl _) (by omega)), kApp.u i B A hB hA]
    · obtain ⟨B', hB'⟩ := kApp.pre (i := i + 1) K A (by omega) hA
      obtain ⟨B1, c1, c2⟩ := hB'
      have e := kApp.u i B B1 hB c1
      subst e
      rw [if_neg (nI_ge (by omega) (by omega)), show (6 : Int32) * nI i = nI (6 * i) from pk_mul 6 i, c2, kb1_eq, nI_1]
      exact ih (i + 1) B' (by omega) (by omega) ⟨B, hB, c2⟩
/-- what the whole text comes to on both sides -/
def kSl (mo : Int32) (vo : Int32) (ou : Int32) (fe : Int32) (fq : Int32) (pi : Int32) (ash : Int32) (bu : Int32) (st : Int32) (z : Int32) (A0 : Nat → Int32) (ox : Option (Int32 × Int32 × Int32 × Int32 × Int32 × Int32 × (Nat → Int32) × (Nat → Int32) × (Nat → Int32) × Int32 × (Nat → Int32) × (Nat → Int32) × (Nat → Int32) × (Nat → Int32) × Int32 × (Nat → Int32) × (Nat → Int32) × (Nat → Int32))) (om : Option (Int32 × Int32 × Int32 × Int32 × Int32 × Int32 × Int32 × Int32 × Int32 × Int64 × (Nat → Int32) × (Nat → Int32))) : Prop :=
  (∃ (p : Nat) (e1 e2 e3 e4 : Int32) (vt' : Int32) (hs' : Nat → Int32) (ag' : Nat → Int32) (ws' : Nat → Int32) (nu' : Int32) (ki' : Nat → Int32) (ce' : Nat → Int32) (ow' : Nat → Int32) (pu' : Nat → Int32) (se' : Int32) (ch' : Nat → Int32) (sh' : Nat → Int32) (di' : Nat → Int32) (m1 m2 m3 m4 m5 m6 m7 : Int32) (m8 : Int64) (m9 : Nat → Int32), p ≤ 120 ∧ ox = some (-1 - nI p, e1, e2, e3, e4, vt', hs', ag', ws', nu', ki', ce', ow', pu', se', ch', sh', di') ∧ om = some (-1 - nI p, 0, m1, m2, m3, m4, m5, m6, m7, m8, A0, m9)) ∨
  ∃ (K : Nat) (e1 e2 e3 e4 : Int32) (vt' : Int32) (hs' : Nat → Int32) (ag' : Nat → Int32) (ws' : Nat → Int32) (nu' : Int32) (ki' : Nat → Int32) (ce' : Nat → Int32) (ow' : Nat → Int32) (pu' : Nat → Int32) (se' : Int32) (ch' : Nat → Int32) (sh' : Nat → Int32) (di' : Nat → Int32) (m1 m2 m3 m4 m5 m6 m7 : Int32) (m8 : Int64) (m9 A' : Nat → Int32), 1 ≤ K ∧ K ≤ 61 ∧ ox = some (nI K, e1, e2, e3, e4, vt', hs', ag', ws', nu', ki', ce', ow', pu', se', ch', sh', di') ∧ om = some (nI K, 0, m1, m2, m3, m4, m5, m6, m7, m8, A', m9) ∧ RI mo vo ou fe fq pi vt' ash hs' ag' ws' nu' bu ki' ce' ow' pu' se' st z ch' sh' di' A'
theorem slope_l {T : Nat} {by_ tp : Nat → Int32} (X : TX T by_ tp) {mo vo ou fe fq pi ash bu st z : Int32} {A0 : Nat → Int32} : ∀ (n1 n2 k a b : Nat) (so va sm vm : Int32) (vt : Int32) (hs : Nat → Int32) (ag : Nat → Int32) (ws : Nat → Int32) (nu : Int32) (ki : Nat → Int32) (ce : Nat → Int32) (ow : Nat → Int32) (pu : Nat → Int32) (se : Int32) (ch : Nat → Int32) (sh : Nat → Int32) (di : Nat → Int32) (A it : Nat → Int32) (fc : Int64), 60 - k < n1 → 60 - k < n2 → 2 * k ≤ a → TK T tp a b so va sm vm → RI mo vo ou fe fq pi vt ash hs ag ws nu bu ki ce ow pu se st z ch sh di A → FC fc nu ce → kApp it A0 k A → kSl mo vo ou fe fq pi ash bu st z A0 (fl_Tx_readAll_1 (nI T) by_ n1 (nI (k + 1)) (nI a) (nI b) so va vt hs ag ws nu ki ce ow pu se ch sh di) (kb9 (f_M_readItem (nI T) (nI a) (nI b) sm vm 0 (nI k) nu fc kDown kAlong tp it) fun v_begins_56 v_ends_57 v_sort_58 v_value_59 v_isWrong_60 v_itemMany_61 v_farmMany_62 v_farmCells_63 v_items_64 => fl_M_slope_2 (nI T) A0 kDown kAlong tp n2 v_begins_56 v_ends_57 v_sort_58 v_value_59 v_isWrong_60 v_itemMany_61 v_farmMany_62 v_farmCells_63 v_items_64) := by
  have hT := X.1
  intro n1
  induction n1 with
  | zero => intro n2 k _ _ _ _ _ _ _ _ _ _ _ _ _ _ _ _ _ _ _ _ _ _ h; exact absurd h (by omega)
  | succ n1 ih =>
    intro n2 k a b so va sm vm vt hs ag ws nu ki ce ow pu se ch sh di A it fc h1 h2 ha K R F hA
    have hk : k ≤ 60 := by have := K.1; have := K.2.1; omega
    obtain ⟨n2, rfl⟩ : ∃ m, n2 = m + 1 := ⟨n2 - 1, by omega⟩
    rw [fl_Tx_readAll_1_s]
    unfold fb_Tx_readAll_1
    rw [if_neg (show ¬ (120 : Int32) < nI (k + 1) from nI_nlt (a := 120) (by omega) (by decide))]
    obtain ⟨hp, hit⟩ := item_x X K hk R F
    rcases hit with ⟨p, e1, e2, e3, vt', hs', ag', ws', nu', ki', ce', ow', pu', se', ch', sh', di', m1, m2, m3, m4, m5, m6, m7, p1, p2, p3⟩ | ⟨a', b', so', va', sm', vm', vt', hs', ag', ws', nu', ki', ce', ow', pu', se', ch', sh', di', fc', it', A', q1, K', q2, q3, q4, q5, R', F'⟩
    · rw [p2, kb18_eq, if_pos rfl, p3, kb9_eq, fl_M_slope_2_s]
      unfold fb_M_slope_2 f_M_slope_3 f_M_slope_4
      rw [if_neg i10, must_w, must_w, kb5_eq, if_neg i10, ite_self]
      exact Or.inl ⟨p, nI p, e1, e2, e3, vt', hs', ag', ws', nu', ki', ce', ow', pu', se', ch', sh', di', nI p, m1, m2, m3, 1, m4, m5, m6, m7, p1, rfl, rfl⟩
    have hab : a < b := by
      rcases hp with y | ⟨y, hy⟩
      · exact y
      · rw [q2] at hy
        exact absurd (congrArg Prod.fst (Option.some.inj hy)) i10
    have hA' : kApp it' A0 (k + 1) A' := ⟨A, hA.c k A (by omega) q4, q5⟩
    rw [q2, kb18_eq, if_neg i10, q3, kb9_eq, fl_M_slope_2_s]
    unfold fb_M_slope_2 f_M_slope_3 f_M_slope_4 f_Ta_isAtEnd f_Ta_isAtSemicolon
    rw [if_pos rfl]
    have cls : (so' = 0 ∧ sm' = 0) ∨ (so' = 3 ∧ sm' = 3 ∧ a' < b' ∧ tp a' = 59) ∨ (¬ so' = 0 ∧ ¬ so' = 3 ∧ ¬ sm' = 0 ∧ (sm' = 3 → a' < b' ∧ ¬ tp a' = 59)) := by
      obtain ⟨-, -, y2⟩ := id K'
      rcases y2 with ⟨z1, z2, z3⟩ | ⟨z1, z2, z3⟩ | ⟨z1, z2, z3, -⟩ | ⟨z1, z2, z3, z4⟩ | ⟨z1, z2, z3, z4⟩
      · exact Or.inl ⟨z1, z2⟩
      · exact Or.inr (Or.inr ⟨by rw [z1]; decide, by rw [z1]; decide, by rw [z2]; decide, fun c => absurd (z2.symm.trans c) (by decide)⟩)
      · exact Or.inr (Or.inr ⟨by rw [z1]; decide, by rw [z1]; decide, by rw [z2]; decide, fun c => absurd (z2.symm.trans c) (by decide)⟩)
      · exact Or.inr (Or.inl ⟨z1, z2, z3, z4⟩)
      · exact Or.inr (Or.inr ⟨by rw [z1]; decide, by rw [z1]; decide, by rw [z2]; decide, fun _ => ⟨z3, z4⟩⟩)
    rcases cls with ⟨z1, z2⟩ | ⟨z1, z2, z3, z4⟩ | ⟨c1, c2, c3, c4⟩
    · obtain ⟨a2, b2, so2, va2, sm2, vm2, l2, -, m2, -⟩ := go_x X K'
      rw [if_pos z1, kb1_eq, if_neg i10, if_neg (show ¬ sm' = 3 by rw [z2]; decide), if_pos z2, m2, kb5_eq, if_pos rfl]
      have g := slope5_l (show k + 1 ≤ 61 by omega) hA' 0 (nI a2) (nI b2) sm2 vm2 0 nu' fc' kFuel 0 A0 (by unfold kFuel; omega) (by omega) rfl
      have g : fl_M_slope_5 0 (nI a2) (nI b2) sm2 vm2 0 (nI (k + 1)) nu' fc' kDown kAlong it' kFuel 0 A0 = _ := g
      rw [g]
      exact Or.inr ⟨k + 1, nI a', nI b', so', va', vt', hs', ag', ws', nu', ki', ce', ow', pu', se', ch', sh', di', nI a2, nI b2, sm2, vm2, 0, nI (k + 1), nu', fc', it', A', by omega, by omega, rfl, rfl, R'⟩
    · obtain ⟨a2, b2, so2, va2, sm2, vm2, l2, x2, m2, K2⟩ := go_x X K'
      have y1 := K'.2.1
      rw [if_neg (show ¬ so' = 0 by rw [z1]; decide), kb1_eq, if_pos rfl, if_pos z1, kb1_eq, if_neg i10, x2, kb4_eq, if_pos z2, kx (k := a') (n := 120) (by omega) (by decide), nI_clamp (show a' < 2 ^ 31 by omega), if_pos z4, m2, kb5_eq, nI_1]
      exact ih n2 (k + 1) a2 b2 so2 va2 sm2 vm2 vt' hs' ag' ws' nu' ki' ce' ow' pu' se' ch' sh' di' A' it' fc' (by omega) (by omega) (by omega) K2 R' F' hA'
    · have y1 := K'.2.1
      have y0 := K'.1
      rw [if_neg c1, kb1_eq, if_pos rfl, if_neg c2, kb1_eq, if_pos rfl, if_neg c3, must_n, kb5_eq, if_neg i10]
      by_cases c5 : sm' = 3
      · obtain ⟨c6, c7⟩ := c4 c5
        rw [if_pos c5, kx (k := a') (n := 120) (by omega) (by decide), nI_clamp (show a' < 2 ^ 31 by omega), if_neg c7]
        exact Or.inl ⟨a', nI a', nI b', so', va', vt', hs', ag', ws', nu', ki', ce', ow', pu', se', ch', sh', di', nI a', nI b', sm', vm', 1, nI (k + 1), nu', fc', it', by omega, rfl, rfl⟩
      · rw [if_neg c5]
        exact Or.inl ⟨a', nI a', nI b', so', va', vt', hs', ag', ws', nu', ki', ce', ow', pu', se', ch', sh', di', nI a', nI b', sm', vm', 1, nI (k + 1), nu', fc', it', by omega, rfl, rfl⟩
theorem slope1_l {T N : Nat} (hN : N ≤ 12) {A ki ce ow pu : Nat → Int32} {bu : Int32} (Rf : RFm ki ce ow pu bu A) (hce : ∀ f, f < N → ∃ c, c < 36 ∧ ce f = nI c) (be sm vm : Int32) (tp it : Nat → Int32) : ∀ n i fc, N - i < n → i ≤ N → FC fc (nI i) ce → ∃ fc', FC fc' (nI N) ce ∧ fl_M_slope_1 (nI T) A kDown kAlong tp n (nI i) be 0 sm vm 0 0 (nI N) fc it = kb4 (f_M_next (nI T) be 0 sm vm tp) fun v_begins_51 v_ends_52 v_sort_53 v_value_54 => kb9 (f_M_readItem (nI T) v_begins_51 v_ends_52 v_sort_53 v_value_54 0 0 (nI N) fc' kDown kAlong tp it) fun v_begins_56 v_ends_57 v_sort_58 v_value_59 v_isWrong_60 v_itemMany_61 v_farmMany_62 v_farmCells_63 v_items_64 => fl_M_slope_2 (nI T) A kDown kAlong tp kFuel v_begins_56 v_ends_57 v_sort_58 v_value_59 v_isWrong_60 v_itemMany_61 v_farmMany_62 v_farmCells_63 v_items_64 := by
  intro n
  induction n with
  | zero => intro i _ h; exact absurd h (by omega)
  | succ n ih =>
    intro i fc h hi F
    rw [fl_M_slope_1_s]
    unfold fb_M_slope_1
    by_cases q : i = N
    · subst q
      exact ⟨fc, F, if_pos (nI_le (Nat.le_refl _) (by omega))⟩
    · obtain ⟨c, hc, hcc⟩ := hce i (by omega)
      have f1 := (Rf i (by omega)).2.1
      rw [if_neg (nI_ge (by omega) (by omega)), nl1, M_farmIs_eq A (by omega) (by decide), kb1_eq, f1, hcc, ← nl1, nI_1]
      have F2 := FC.add (N := i) (by omega) rfl hc F
      rw [upd_id hcc.symm] at F2
      exact ih (i + 1) (fc ||| kBit c) (by omega) (by omega) F2
theorem kHit_z : ∀ c, c < 36 → kHit 0 (nI c) = false := by decide +kernel
/-- slope -/
theorem sim_slope {mo vo ou fe fq pi vt ash nu bu se st z : Int32} {hs ag ws ki ce ow pu ch sh di : Nat → Int32} {mot vot out fet fqt pit vtt asht nut but set stt zt : Int32} {hst agt wst kit cet owt put cht sht dit : Nat → Int32} {A by_ tp : Nat → Int32} {T : Nat} {n m : Int32} (R : RI mo vo ou fe fq pi vt ash hs ag ws nu bu ki ce ow pu se st z ch sh di A) (RT0 : RT T n m by_ tp) (hB : ∀ i, i < 120 → ∃ k, k < 256 ∧ by_ i = nI k) (t1 t2 t3 t4 be en sm vm wr im fm : Int32) (fc : Int64) (it : Nat → Int32) : ∃ r mou vou ouu feu fqu piu vtu ashu hsu agu wsu nuu buu kiu ceu owu puu seu stu zu chu shu diu mow vow ouw few fqw piw vtw ashw hsw agw wsw nuw buw kiw cew oww puw sew stw zw chw shw diw n' s1 s2 s3 s4 m' r1 r2 r3 r4 r5 r6 r7 r8 A' it', f_X_slope mo vo ou fe fq pi vt ash hs ag ws nu bu ki ce ow pu se st z ch sh di mot vot out fet fqt pit vtt asht hst agt wst nut but kit cet owt put set stt zt cht sht dit n t1 t2 t3 t4 by_ = some (r, mou, vou, ouu, feu, fqu, piu, vtu, ashu, hsu, agu, wsu, nuu, buu, kiu, ceu, owu, puu, seu, stu, zu, chu, shu, diu, mow, vow, ouw, few, fqw, piw, vtw, ashw, hsw, agw, wsw, nuw, buw, kiw, cew, oww, puw, sew, stw, zw, chw, shw, diw, n', s1, s2, s3, s4) ∧ f_M_slope m be en sm vm wr im fm fc A kDown kAlong tp it = some (r, m', r1, r2, r3, r4, r5, r6, r7, r8, A', it') ∧ RI mou vou ouu feu fqu piu vtu ashu hsu agu wsu nuu buu kiu ceu owu puu seu stu zu chu shu diu A' ∧ RT 0 n' m' by_ tp := by
  obtain ⟨hT, hn, hm, hE⟩ := id RT0
  have X : TX T by_ tp := ⟨hT, hE, fun i hi => by rw [hE i hi]; exact hB i hi⟩
  obtain ⟨N, hN, hnu, hce, hd, -⟩ := id R.2.1
  have s10 : A 10 = nu := R.1.2.2.2.2.2.2.2.2.2.2.2.2.1
  obtain ⟨hs', ag', ws', ki', ce', ow', pu', ch', sh', di', c1, c2⟩ := become_S (mo0 := mot) (vo0 := vot) (ou0 := out) (fe0 := fet) (fq0 := fqt) (pi0 := pit) (vt0 := vtt) (ash0 := asht) (hs0 := hst) (ag0 := agt) (ws0 := wst) (nu0 := nut) (bu0 := but) (ki0 := kit) (ce0 := cet) (ow0 := owt) (pu0 := put) (se0 := set) (st0 := stt) (z0 := zt) (ch0 := cht) (sh0 := sht) (di0 := dit) (hpi := R.2.2.2.2.2.2.2.2.2.2)
  have R1 := R.cp c2
  obtain ⟨a, b, so1, va1, sm1, vm1, l1, x1, m1, K⟩ := next_x X (show 0 ≤ T by omega) t1 t3 t4 be sm vm
  obtain ⟨fc1, F1, g1⟩ := slope1_l (T := T) hN R1.1.2.1 (fun f hf => by
    obtain ⟨N', h0, h1, h2, -⟩ := id R1.2.1
    exact h2 f (by have := (nI_eq (by omega) (by omega)).mp (hnu.symm.trans h1); omega)) be sm vm tp it kFuel 0 0 (by unfold kFuel; omega) (by omega) ⟨0, by omega, rfl, fun c hc => by
      rw [kHit_z c hc]
      exact ⟨fun y => (by cases y), fun ⟨f, hf, _⟩ => absurd hf (by omega)⟩⟩
  have F1 : FC fc1 nu ce' := by rw [hnu]; exact F1
  have L := slope_l X (A0 := A) kFuel kFuel 0 a b so1 va1 sm1 vm1 vt hs' ag' ws' nu ki' ce' ow' pu' se ch' sh' di' A it fc1 (by unfold kFuel; omega) (by unfold kFuel; omega) (by omega) K R1 F1 rfl
  have hM : ∀ y, (kb9 (f_M_readItem (nI T) (nI a) (nI b) sm1 vm1 0 (nI 0) nu fc1 kDown kAlong tp it) fun v_begins_56 v_ends_57 v_sort_58 v_value_59 v_isWrong_60 v_itemMany_61 v_farmMany_62 v_farmCells_63 v_items_64 => fl_M_slope_2 (nI T) A kDown kAlong tp kFuel v_begins_56 v_ends_57 v_sort_58 v_value_59 v_isWrong_60 v_itemMany_61 v_farmMany_62 v_farmCells_63 v_items_64) = y → f_M_slope m be en sm vm wr im fm fc A kDown kAlong tp it = y := by
    intro y hy
    unfold f_M_slope
    rw [hm, s10, hnu, ← hy, show (0 : Int32) = nI 0 from rfl]
    refine Eq.trans g1 ?_
    rw [show (nI 0 : Int32) = 0 from rfl] at *
    rw [show f_M_next (nI T) be 0 sm vm tp = some (nI a, nI b, sm1, vm1) from m1, kb4_eq, hnu]
  have hX : ∀ y, fl_Tx_readAll_1 (nI T) by_ kFuel (nI (0 + 1)) (nI a) (nI b) so1 va1 vt hs' ag' ws' nu ki' ce' ow' pu' se ch' sh' di' = y → f_Tx_readAll n t1 t2 t3 t4 by_ vt hs' ag' ws' nu ki' ce' ow' pu' se ch' sh' di' = y := by
    intro y hy
    unfold f_Tx_readAll f_Ta_goToFirst
    rw [hn, show f_Ta_goToNext (nI T) t1 0 t3 t4 by_ = some (nI a, nI b, so1, va1) from x1, kb4_eq, kb4_eq]
    exact hy
  unfold f_X_slope
  rw [c1, kb23_eq]
  rcases L with ⟨p, e1, e2, e3, e4, vt2, hs2, ag2, ws2, nu2, ki2, ce2, ow2, pu2, se2, ch2, sh2, di2, m1', m2, m3, m4, m5, m6, m7, m8, m9, p1, p2, p3⟩ | ⟨K2, e1, e2, e3, e4, vt2, hs2, ag2, ws2, nu2, ki2, ce2, ow2, pu2, se2, ch2, sh2, di2, m1', m2, m3, m4, m5, m6, m7, m8, m9, A', k1, k2, p2, p3, R'⟩
  · have neg : (-1 : Int32) - nI p ≤ 0 := by
      rw [Int32.le_iff_toInt_le, Int32.toInt_sub, nI_toInt (show p < 2 ^ 31 by omega), show (-1 : Int32).toInt = -1 by decide, show (0 : Int32).toInt = 0 by decide, Int.bmod_def]
      split <;> omega
    rw [hX _ p2, kb18_eq, if_pos neg, hM _ p3]
    unfold f_X_slope_1
    exact ⟨_, _, _, _, _, _, _, _, _, _, _, _, _, _, _, _, _, _, _, _, _, _, _, _, _, _, _, _, _, _, _, _, _, _, _, _, _, _, _, _, _, _, _, _, _, _, _, _, _, _, _, _, _, _, _, _, _, _, _, _, _, _, _, rfl, rfl, R, Nat.zero_le _, rfl, rfl, hE⟩
  · rw [hX _ p2, kb18_eq, if_neg (nI_nle (by omega) (by omega)), hM _ p3]
    obtain ⟨hs3, ag3, ws3, ki3, ce3, ow3, pu3, ch3, sh3, di3, d1, d2⟩ := become_S (mo0 := mo) (vo0 := vo) (ou0 := ou) (fe0 := fe) (fq0 := fq) (pi0 := pi) (vt0 := vt) (ash0 := ash) (hs0 := hs) (ag0 := ag) (ws0 := ws) (nu0 := nu) (bu0 := bu) (ki0 := ki) (ce0 := ce) (ow0 := ow) (pu0 := pu) (se0 := se) (st0 := st) (z0 := z) (ch0 := ch) (sh0 := sh) (di0 := di) (hpi := R'.2.2.2.2.2.2.2.2.2.2)
    rw [d1, kb23_eq]
    unfold f_X_slope_1
    exact ⟨_, _, _, _, _, _, _, _, _, _, _, _, _, _, _, _, _, _, _, _, _, _, _, _, _, _, _, _, _, _, _, _, _, _, _, _, _, _, _, _, _, _, _, _, _, _, _, _, _, _, _, _, _, _, _, _, _, _, _, _, _, _, _, rfl, rfl, R'.cp d2, Nat.zero_le _, rfl, rfl, hE⟩
/-- the bytes of the tape stay bytes -/
theorem feed_rng {n : Int32} {by_ fi : Nat → Int32} {x1 x2 r n' : Int32} {by' fi' : Nat → Int32} (hB : ∀ i, i < 120 → ∃ k, k < 256 ∧ by_ i = nI k) (h : f_X_feed n by_ fi x1 x2 = some (r, n', by', fi')) : ∀ i, i < 120 → ∃ k, k < 256 ∧ by' i = nI k := by
  have byt : ∀ x : Int32, ∃ k, k < 256 ∧ x &&& (255 : Int32) = nI k := by
    intro x
    refine ⟨x.toBitVec.toNat % 2 ^ 8, Nat.mod_lt _ (by decide), ?_⟩
    apply Int32.toBitVec_inj.mp
    apply BitVec.eq_of_toNat_eq
    rw [Int32.toBitVec_and, BitVec.toNat_and, show (255 : Int32).toBitVec.toNat = 2 ^ 8 - 1 by decide, Nat.and_two_pow_sub_one_eq_mod, pk_tn (Nat.lt_of_lt_of_le (Nat.mod_lt _ (by decide)) (by decide))]
  have loop : ∀ fl i n by_, (∀ i, i < 120 → ∃ k, k < 256 ∧ by_ i = nI k) → fl_X_feed_1 x1 fi fl i n by_ = some (r, n', by', fi') → ∀ i, i < 120 → ∃ k, k < 256 ∧ by' i = nI k := by
    intro fl
    induction fl with
    | zero => intro i n by_ _ h; exact knone h
    | succ fl ih =>
      intro i n by_ hB h
      rw [fl_X_feed_1_s] at h
      unfold fb_X_feed_1 at h
      by_cases q : i < 0
      · rw [if_pos q] at h
        cases h
        exact hB
      · rw [if_neg q] at h
        obtain ⟨a1, a2, h1, h2⟩ := kb2_some h
        refine ih _ _ _ (fun j hj => ?_) h2
        unfold f_Ta_append at h1
        by_cases q2 : (120 : Int32) ≤ n
        · rw [if_pos q2] at h1
          cases h1
          exact hB j hj
        · rw [if_neg q2] at h1
          obtain ⟨-, h1⟩ := kidx_some h1
          cases h1
          by_cases z : j = n.toNatClampNeg
          · subst z
            rw [pk_us]
            exact byt _
          · rw [pk_un z]; exact hB j hj
  unfold f_X_feed at h
  obtain ⟨w, h0, h⟩ := kb1_some h
  by_cases q : w = 0
  · rw [if_pos q] at h
    obtain ⟨a1, a2, h1, h2⟩ := kb2_some h
    cases h2
    exact hB
  · rw [if_neg q] at h
    by_cases q2 : n + x2 ≤ (120 : Int32)
    · rw [if_pos q2] at h
      exact loop _ _ _ _ hB h
    · rw [if_neg q2] at h
      obtain ⟨a1, a2, h1, h2⟩ := kb2_some h
      cases h2
      exact hB
