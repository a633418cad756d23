/-! the items of a text, one by one, by both readers -/
def FC (fc : Int64) (nu : Int32) (ce : Nat → Int32) : Prop := ∃ N, N ≤ 12 ∧ nu = nI N ∧ ∀ c, c < 36 → (kHit fc (nI c) = true ↔ ∃ f, f < N ∧ ce f = nI c)
theorem FC.add {fc : Int64} {nu : Int32} {ce : Nat → Int32} {N c : Nat} (hN : N < 12) (hnu : nu = nI N) (hc : c < 36) (h : FC fc nu ce) : FC (fc ||| kBit c) (nI (N + 1)) (upd ce N (nI c)) := by
  obtain ⟨N', h1, h2, h3⟩ := h
  have e : N' = N := (nI_eq (by omega) (by omega)).mp (h2.symm.trans hnu)
  subst e
  refine ⟨N' + 1, by omega, rfl, fun d hd => ?_⟩
  rw [kHit_or, Bool.or_eq_true, h3 d hd, kHit_1 c hc d hd]
  constructor
  · rintro (⟨f, f1, f2⟩ | y)
    · exact ⟨f, by omega, by rw [pk_un (by omega)]; exact f2⟩
    · exact ⟨N', by omega, by rw [pk_us]; rw [of_decide_eq_true y]⟩
  · rintro ⟨f, f1, f2⟩
    by_cases y : f = N'
    · subst y
      rw [pk_us] at f2
      exact Or.inr (decide_eq_true ((nI_eq (by omega) (by omega)).mp f2))
    · rw [pk_un y] at f2
      exact Or.inl ⟨f, by omega, f2⟩
theorem kHit_0 (m : Int64) (x : Int32) : (lg_cmp ((m >>> (x.toInt64 &&& 63)) &&& 1) 0 = 0) ↔ kHit m x = false := by
  unfold kHit
  generalize (m >>> (x.toInt64 &&& 63)) = y
  rw [decide_eq_false_iff_not, lg_cmp_eq, lg_cmp_eq]
  have h2 := l64_bit y
  have h3 : (y &&& 1 = 0) ∨ (y &&& 1 = 1) := by
    have e : (y &&& 1).toBitVec = y.toBitVec &&& 1#64 := rfl
    have h : y.toBitVec &&& 1#64 = 0#64 ∨ y.toBitVec &&& 1#64 = 1#64 := by
      generalize y.toBitVec = b
      have hb : (b &&& 1#64).toNat = b.toNat % 2 := by
        rw [BitVec.toNat_and]
        exact Nat.and_one_is_mod _
      rcases Nat.mod_two_eq_zero_or_one b.toNat with q | q
      · exact Or.inl (BitVec.eq_of_toNat_eq (hb.trans q))
      · exact Or.inr (BitVec.eq_of_toNat_eq (hb.trans q))
    rcases h with h | h
    · exact Or.inl (Int64.toBitVec_inj.mp (e.trans h))
    · exact Or.inr (Int64.toBitVec_inj.mp (e.trans h))
  rcases h3 with h3 | h3
  · rw [h3]; decide
  · rw [h3]; decide
def up6 (it : Nat → Int32) (k : Nat) (x1 x2 x3 x4 x5 x6 : Int32) : Nat → Int32 := upd (upd (upd (upd (upd (upd it (6 * k) x1) (6 * k + 1) x2) (6 * k + 2) x3) (6 * k + 3) x4) (6 * k + 4) x5) (6 * k + 5) x6
theorem item_m {k : Nat} (hk : k ≤ 60) (it : Nat → Int32) (x1 x2 x3 x4 x5 x6 : Int32) : f_M_item (nI k) it x1 x2 x3 x4 x5 x6 = some (nI (k + 1), up6 it k x1 x2 x3 x4 x5 x6) := by
  have q : ∀ j, j < 6 → (nI (6 * k + j)).toNatClampNeg = 6 * k + j := fun j hj => nI_clamp (by omega)
  have q0 : (nI (6 * k)).toNatClampNeg = 6 * k := q 0 (by omega)
  have i0 : ∀ j, j < 6 → ∀ {α : Type} (x : Option α), kidx (nI (6 * k + j)) 720 x = x := fun j hj _ x => kx (by omega) (by decide) x
  have i00 : ∀ {α : Type} (x : Option α), kidx (nI (6 * k)) 720 x = x := fun x => kx (by omega) (by decide) x
  unfold f_M_item up6
  rw [show (6 : Int32) * nI k = nI (6 * k) from pk_mul 6 k, klet_eq, nl1, nl2, nl3, nl4, nl5]
  simp only [nI_add, i00, i0 1 (by omega), i0 2 (by omega), i0 3 (by omega), i0 4 (by omega), i0 5 (by omega), q0, q 1 (by omega), q 2 (by omega), q 3 (by omega), q 4 (by omega), q 5 (by omega)]
theorem up6_lo {it : Nat → Int32} {k : Nat} {x1 x2 x3 x4 x5 x6 : Int32} : ∀ j, j < 6 * k → up6 it k x1 x2 x3 x4 x5 x6 j = it j := by
  intro j hj
  unfold up6
  rw [pk_un (by omega), pk_un (by omega), pk_un (by omega), pk_un (by omega), pk_un (by omega), pk_un (by omega)]
theorem up6_at (it : Nat → Int32) (k : Nat) (x1 x2 x3 x4 x5 x6 : Int32) : up6 it k x1 x2 x3 x4 x5 x6 (6 * k) = x1 ∧ up6 it k x1 x2 x3 x4 x5 x6 (6 * k + 1) = x2 ∧ up6 it k x1 x2 x3 x4 x5 x6 (6 * k + 2) = x3 ∧ up6 it k x1 x2 x3 x4 x5 x6 (6 * k + 3) = x4 ∧ up6 it k x1 x2 x3 x4 x5 x6 (6 * k + 4) = x5 := by
  unfold up6
  refine ⟨?_, ?_, ?_, ?_, ?_⟩
  · rw [pk_un (by omega), pk_un (by omega), pk_un (by omega), pk_un (by omega), pk_un (by omega), pk_us]
  · rw [pk_un (by omega), pk_un (by omega), pk_un (by omega), pk_un (by omega), pk_us]
  · rw [pk_un (by omega), pk_un (by omega), pk_un (by omega), pk_us]
  · rw [pk_un (by omega), pk_un (by omega), pk_us]
  · rw [pk_un (by omega), pk_us]
/-- what an item does, by its six numbers -/
noncomputable def kSo (A : Nat → Int32) (x1 x2 x3 x4 x5 : Int32) : Option (Nat → Int32) :=
  if x1 = 10 then kb1 (f_M_wayTo kDown kAlong x2 x3) fun r => kb1 (f_M_putWall A kDown kAlong x2 r 1) fun n => some n
  else if x1 = 11 then kidx (50 + x2) 218 (some (upd A (50 + x2).toNatClampNeg x3))
  else if x1 = 12 then kidx (86 + x2) 218 (some (upd A (86 + x2).toNatClampNeg x3))
  else if x1 = 13 then some (upd A 3 x2)
  else if x1 = 14 then kb1 (f_M_putTenths A (18 + 4 * x2) x3 x4 x5) fun n => some n
  else if x1 = 15 then kb1 (f_M_putTenths A (34 + 4 * x2) x3 x4 x5) fun n => some n
  else if x1 = 16 then fl_M_isSo_1 x2 x3 kFuel 0 (upd A 11 x2)
  else kb2 (f_M_built A x1 x2 x3) fun _ n => some n
theorem isSo_at {k : Nat} (hk : k ≤ 60) (A it : Nat → Int32) : f_M_isSo A kDown kAlong it (nI (6 * k)) = kSo A (it (6 * k)) (it (6 * k + 1)) (it (6 * k + 2)) (it (6 * k + 3)) (it (6 * k + 4)) := by
  have q : ∀ j, j < 6 → (nI (6 * k + j)).toNatClampNeg = 6 * k + j := fun j hj => nI_clamp (by omega)
  have q0 : (nI (6 * k)).toNatClampNeg = 6 * k := q 0 (by omega)
  have i0 : ∀ j, j < 6 → ∀ {α : Type} (x : Option α), kidx (nI (6 * k + j)) 720 x = x := fun j hj _ x => kx (by omega) (by decide) x
  have i00 : ∀ {α : Type} (x : Option α), kidx (nI (6 * k)) 720 x = x := fun x => kx (by omega) (by decide) x
  unfold f_M_isSo kSo
  have a1 : nI (6 * k) + 1 = nI (6 * k + 1) := nI_add _ 1
  have a2 : nI (6 * k) + 2 = nI (6 * k + 2) := nI_add _ 2
  have a3 : nI (6 * k) + 3 = nI (6 * k + 3) := nI_add _ 3
  have a4 : nI (6 * k) + 4 = nI (6 * k + 4) := nI_add _ 4
  simp only [a1, a2, a3, a4, i00, i0 1 (by omega), i0 2 (by omega), i0 3 (by omega), i0 4 (by omega), q0, q 1 (by omega), q 2 (by omega), q 3 (by omega), q 4 (by omega), klet_eq]
theorem isSo_up {k : Nat} (hk : k ≤ 60) (A it : Nat → Int32) (x1 x2 x3 x4 x5 x6 : Int32) : f_M_isSo A kDown kAlong (up6 it k x1 x2 x3 x4 x5 x6) (nI (6 * k)) = kSo A x1 x2 x3 x4 x5 := by
  obtain ⟨u1, u2, u3, u4, u5⟩ := up6_at it k x1 x2 x3 x4 x5 x6
  rw [isSo_at hk, u1, u2, u3, u4, u5]
theorem isSo_c {k : Nat} (hk : k ≤ 60) (A : Nat → Int32) {it it' : Nat → Int32} (h : ∀ j, j < 6 * k + 6 → it' j = it j) : f_M_isSo A kDown kAlong it' (nI (6 * k)) = f_M_isSo A kDown kAlong it (nI (6 * k)) := by
  rw [isSo_at hk, isSo_at hk, h _ (by omega), h _ (by omega), h _ (by omega), h _ (by omega), h _ (by omega)]
/-- what one item's reading comes to on both sides: a fault at the same place, or an item read on to the trial and told for later -/
def kIt (T : Nat) (tp : Nat → Int32) (b k : Nat) (mo : Int32) (vo : Int32) (ou : Int32) (fe : Int32) (fq : Int32) (pi : Int32) (ash : Int32) (bu : Int32) (st : Int32) (z : Int32) (A it : Nat → Int32) (ox : Option (Int32 × Int32 × Int32 × Int32 × Int32 × Int32 × (Nat → Int32) × (Nat → Int32) × (Nat → Int32) × Int32 × (Nat → Int32) × (Nat → Int32) × (Nat → Int32) × (Nat → Int32) × Int32 × (Nat → Int32) × (Nat → Int32) × (Nat → Int32))) (om : Option (Int32 × Int32 × Int32 × Int32 × Int32 × Int32 × Int32 × Int64 × (Nat → Int32))) : Prop :=
  (∃ (p : Nat) (e1 e2 e3 : Int32) (vt' : Int32) (hs' : Nat → Int32) (ag' : Nat → Int32) (ws' : Nat → Int32) (nu' : Int32) (ki' : Nat → Int32) (ce' : Nat → Int32) (ow' : Nat → Int32) (pu' : Nat → Int32) (se' : Int32) (ch' : Nat → Int32) (sh' : Nat → Int32) (di' : Nat → Int32) (m1 m2 m3 m4 m5 : Int32) (m6 : Int64) (m7 : Nat → Int32), p ≤ 120 ∧ ox = some (0, nI p, e1, e2, e3, vt', hs', ag', ws', nu', ki', ce', ow', pu', se', ch', sh', di') ∧ om = some (nI p, m1, m2, m3, 1, m4, m5, m6, m7)) ∨
  ∃ (a' b' : Nat) (so' va' sm' vm' : Int32) (vt' : Int32) (hs' : Nat → Int32) (ag' : Nat → Int32) (ws' : Nat → Int32) (nu' : Int32) (ki' : Nat → Int32) (ce' : Nat → Int32) (ow' : Nat → Int32) (pu' : Nat → Int32) (se' : Int32) (ch' : Nat → Int32) (sh' : Nat → Int32) (di' : Nat → Int32) (fc' : Int64) (it' A' : Nat → Int32), b ≤ a' ∧ TK T tp a' b' so' va' sm' vm' ∧ ox = some (1, nI a', nI b', so', va', vt', hs', ag', ws', nu', ki', ce', ow', pu', se', ch', sh', di') ∧ om = some (nI a', nI b', sm', vm', 0, nI (k + 1), nu', fc', it') ∧ (∀ j, j < 6 * k → it' j = it j) ∧ f_M_isSo A kDown kAlong it' (nI (6 * k)) = some A' ∧ RI mo vo ou fe fq pi vt' ash hs' ag' ws' nu' bu ki' ce' ow' pu' se' st z ch' sh' di' A' ∧ FC fc' nu' ce'
theorem kIt.no {T : Nat} {tp : Nat → Int32} {b k : Nat} {mo vo ou fe fq pi ash bu st z : Int32} {A it : Nat → Int32} {ox : Option (Int32 × Int32 × Int32 × Int32 × Int32 × Int32 × (Nat → Int32) × (Nat → Int32) × (Nat → Int32) × Int32 × (Nat → Int32) × (Nat → Int32) × (Nat → Int32) × (Nat → Int32) × Int32 × (Nat → Int32) × (Nat → Int32) × (Nat → Int32))} {om : Option (Int32 × Int32 × Int32 × Int32 × Int32 × Int32 × Int32 × Int64 × (Nat → Int32))} {p : Nat} {e1 e2 e3 : Int32} {vt' nu' se' : Int32} {hs' ag' ws' ki' ce' ow' pu' ch' sh' di' : Nat → Int32} {m1 m2 m3 m4 m5 : Int32} {m6 : Int64} {m7 : Nat → Int32} (hp : p ≤ 120) (h1 : ox = some (0, nI p, e1, e2, e3, vt', hs', ag', ws', nu', ki', ce', ow', pu', se', ch', sh', di')) (h2 : om = some (nI p, m1, m2, m3, 1, m4, m5, m6, m7)) : kIt T tp b k mo vo ou fe fq pi ash bu st z A it ox om :=
  Or.inl ⟨p, e1, e2, e3, vt', hs', ag', ws', nu', ki', ce', ow', pu', se', ch', sh', di', m1, m2, m3, m4, m5, m6, m7, hp, h1, h2⟩
theorem kIt.yes {T : Nat} {tp : Nat → Int32} {b k : Nat} {mo vo ou fe fq pi ash bu st z : Int32} {A it : Nat → Int32} {ox : Option (Int32 × Int32 × Int32 × Int32 × Int32 × Int32 × (Nat → Int32) × (Nat → Int32) × (Nat → Int32) × Int32 × (Nat → Int32) × (Nat → Int32) × (Nat → Int32) × (Nat → Int32) × Int32 × (Nat → Int32) × (Nat → Int32) × (Nat → Int32))} {om : Option (Int32 × Int32 × Int32 × Int32 × Int32 × Int32 × Int32 × Int64 × (Nat → Int32))} {a' b' : Nat} {so' va' sm' vm' : Int32} {vt' nu' se' : Int32} {hs' ag' ws' ki' ce' ow' pu' ch' sh' di' : Nat → Int32} {fc' : Int64} {A' : Nat → Int32} {x1 x2 x3 x4 x5 x6 : Int32} (hk : k ≤ 60) (hb : b ≤ a') (K : TK T tp a' b' so' va' sm' vm') (h1 : ox = some (1, nI a', nI b', so', va', vt', hs', ag', ws', nu', ki', ce', ow', pu', se', ch', sh', di')) (h2 : om = some (nI a', nI b', sm', vm', 0, nI (k + 1), nu', fc', up6 it k x1 x2 x3 x4 x5 x6)) (h3 : kSo A x1 x2 x3 x4 x5 = some A') (R : RI mo vo ou fe fq pi vt' ash hs' ag' ws' nu' bu ki' ce' ow' pu' se' st z ch' sh' di' A') (F : FC fc' nu' ce') : kIt T tp b k mo vo ou fe fq pi ash bu st z A it ox om :=
  Or.inr ⟨a', b', so', va', sm', vm', vt', hs', ag', ws', nu', ki', ce', ow', pu', se', ch', sh', di', fc', _, A', hb, K, h1, h2, up6_lo, (isSo_up hk A it x1 x2 x3 x4 x5 x6).trans h3, R, F⟩
theorem ri2_w {k : Nat} (hk : k ≤ 60) (s x2 x3 n be en sm vm fm : Int32) (fc : Int64) (tp it : Nat → Int32) : f_M_readItem_2 s x2 x3 n be en sm vm 1 (nI k) fm fc tp it = some (be, en, sm, vm, 1, nI (k + 1), fm, fc, up6 it k 10 x2 x3 0 0 0) := by
  unfold f_M_readItem_2
  rw [must_w, kb5_eq, item_m hk, kb2_eq]
theorem ri2_n {k : Nat} (hk : k ≤ 60) (x2 x3 n be en sm vm fm : Int32) (fc : Int64) (tp it : Nat → Int32) : f_M_readItem_1 x2 x3 n be en sm vm 0 (nI k) fm fc tp it = some (be, en, sm, vm, 1, nI (k + 1), fm, fc, up6 it k 10 x2 x3 0 0 0) := by
  unfold f_M_readItem_1 f_M_readItem_2
  rw [must_n, kb5_eq, item_m hk, kb2_eq]
theorem wl_w {k : Nat} (hk : k ≤ 60) (x y n be en sm vm fm : Int32) (fc : Int64) (tp it : Nat → Int32) : (if sm = (2 : Int32) then kb1 (f_M_wayTo kDown kAlong x y) fun r => (if r < 0 then f_M_readItem_1 x y n be en sm vm 1 (nI k) fm fc tp it else f_M_readItem_2 (1 : Int32) x y n be en sm vm 1 (nI k) fm fc tp it) else f_M_readItem_1 x y n be en sm vm 1 (nI k) fm fc tp it) = some (be, en, sm, vm, 1, nI (k + 1), fm, fc, up6 it k 10 x y 0 0 0) := by
  unfold f_M_readItem_1
  rw [ri2_w hk, ri2_w hk]
  by_cases q : sm = 2
  · rw [if_pos q]
    rcases wayTo_cases x y with ⟨-, h⟩ | ⟨c, d, w, -, -, -, -, -, -, -, h⟩
    · rw [h, kb1_eq, ite_self]
    · rw [h, kb1_eq, ite_self]
  · rw [if_neg q]
theorem wl_n {k : Nat} (hk : k ≤ 60) {x y : Int32} (n be en sm fm : Int32) {vm : Int32} (fc : Int64) (tp it : Nat → Int32) (h : sm = 2 → f_M_wayTo kDown kAlong x y = some (-1)) : (if sm = (2 : Int32) then kb1 (f_M_wayTo kDown kAlong x y) fun r => (if r < 0 then f_M_readItem_1 x y n be en sm vm 0 (nI k) fm fc tp it else f_M_readItem_2 (1 : Int32) x y n be en sm vm 0 (nI k) fm fc tp it) else f_M_readItem_1 x y n be en sm vm 0 (nI k) fm fc tp it) = some (be, en, sm, vm, 1, nI (k + 1), fm, fc, up6 it k 10 x y 0 0 0) := by
  rw [ri2_n hk]
  by_cases q : sm = 2
  · rw [if_pos q, h q, kb1_eq, if_pos (by decide)]
  · rw [if_neg q]
theorem it_wall {T : Nat} {by_ tp : Nat → Int32} (X : TX T by_ tp) {a b k : Nat} {so va sm vm : Int32} (K : TK T tp a b so va sm vm) (hk : k ≤ 60) {mo vo ou fe fq pi vt ash nu bu se st z : Int32} {hs ag ws ki ce ow pu ch sh di : Nat → Int32} {A it : Nat → Int32} {fc : Int64} (R : RI mo vo ou fe fq pi vt ash hs ag ws nu bu ki ce ow pu se st z ch sh di A) (F : FC fc nu ce) : kIt T tp b k mo vo ou fe fq pi ash bu st z A it (kb6 (f_Tx_readWall (nI T) (nI a) (nI b) so va by_ ws) fun r_171 v_tape_start_172 v_tape_end_173 v_tape_sort_174 v_tape_value_175 v_p1_ground_walls_176 => (if r_171 = 0 ∨ r_171 = 1 then some (r_171, v_tape_start_172, v_tape_end_173, v_tape_sort_174, v_tape_value_175, vt, hs, ag, v_p1_ground_walls_176, nu, ki, ce, ow, pu, se, ch, sh, di) else none)) (kb5 (f_M_must (nI T) (nI a) (nI b) sm vm 0 tp (1 : Int32)) fun v_begins_180 v_ends_181 v_sort_182 v_value_183 v_isWrong_184 => kb6 (f_M_number (nI T) v_begins_180 v_ends_181 v_sort_182 v_value_183 v_isWrong_184 tp (0 : Int32) (35 : Int32)) fun r_186 v_begins_187 v_ends_188 v_sort_189 v_value_190 v_isWrong_191 => (if v_sort_189 = (2 : Int32) then kb1 (f_M_wayTo kDown kAlong r_186 v_value_190) fun r_194 => (if r_194 < 0 then f_M_readItem_1 r_186 v_value_190 (nI T) v_begins_187 v_ends_188 v_sort_189 v_value_190 v_isWrong_191 (nI k) nu fc tp it else f_M_readItem_2 (1 : Int32) r_186 v_value_190 (nI T) v_begins_187 v_ends_188 v_sort_189 v_value_190 v_isWrong_191 (nI k) nu fc tp it) else f_M_readItem_1 r_186 v_value_190 (nI T) v_begins_187 v_ends_188 v_sort_189 v_value_190 v_isWrong_191 (nI k) nu fc tp it)) := by
  have hT := X.1
  obtain ⟨a1, b1, so1, va1, sm1, vm1, l1, x1, m1, K1⟩ := go_x X K
  unfold f_Tx_readWall
  rw [nl35, x1, kb4_eq, m1, kb5_eq]
  rcases num_x X K1 (h := 35) (by omega) with ⟨n1, n2, n3⟩ | ⟨v, a2, b2, so2, va2, sm2, vm2, hv, o2, o3, o4, o5, l2, n1, n2, n3, n4, K2⟩
  · refine kIt.no (p := a1) (e1 := nI b1) (e2 := so1) (e3 := va1) (vt' := vt) (hs' := hs) (ag' := ag) (ws' := ws) (nu' := nu) (ki' := ki) (ce' := ce) (ow' := ow) (pu' := pu) (se' := se) (ch' := ch) (sh' := sh) (di' := di) (m1 := nI b1) (m2 := sm1) (m3 := vm1) (m4 := nI (k + 1)) (m5 := nu) (m6 := fc) (m7 := up6 it k 10 vm1 vm1 0 0 0) (it := it) (by have := K1.1; have := K1.2.1; omega) ?_ ?_
    · rw [n1, kb1_eq, if_neg (by decide), kb6_eq, b01 (Or.inl rfl)]
    · rw [n2, kb6_eq, wl_w hk]
  · have p1 : (0 : Int32) ≤ nI v := nI_pos' (by omega)
    rw [n1, kb1_eq, if_pos p1, n2, kb4_eq, n3, kb6_eq]
    rcases num_x X K2 (h := 35) (by omega) with ⟨g1, g2, g3⟩ | ⟨w, a3, b3, so3, va3, sm3, vm3, hw, q2, q3, q4, q5, l3, g1, g2, g3, g4, K3⟩
    · have hx : f_X_wayTo (nI v) (-1) = some (-1) := by
        rcases wayTo_cases (nI v) (-1) with ⟨y, -⟩ | ⟨c, d, w, -, hd, -, -, -, y, -⟩
        · exact y
        · exact absurd (show nI d < 0 by rw [← y]; decide) (nI_pos (by omega))
      have hm : sm2 = 2 → f_M_wayTo kDown kAlong (nI v) vm2 = some (-1) := by
        intro s2
        rcases wayTo_cases (nI v) vm2 with ⟨-, y⟩ | ⟨c, d, w, -, hd, -, -, -, y, -⟩
        · exact y
        · exact absurd ⟨d, by omega, s2, y⟩ g3
      refine kIt.no (p := a2) (e1 := nI b2) (e2 := so2) (e3 := va2) (vt' := vt) (hs' := hs) (ag' := ag) (ws' := ws) (nu' := nu) (ki' := ki) (ce' := ce) (ow' := ow) (pu' := pu) (se' := se) (ch' := ch) (sh' := sh) (di' := di) (m1 := nI b2) (m2 := sm2) (m3 := vm2) (m4 := nI (k + 1)) (m5 := nu) (m6 := fc) (m7 := up6 it k 10 (nI v) vm2 0 0 0) (it := it) (by have := K2.1; have := K2.2.1; omega) ?_ ?_
      · rw [g1, kb1_eq, hx, kb1_eq, if_neg (by decide), kb6_eq, b01 (Or.inl rfl)]
      · rw [wl_n hk _ _ _ _ _ _ _ _ hm]
    · rw [g1, kb1_eq, q5]
      rcases wayTo_cases (nI v) (nI w) with ⟨y1, y2⟩ | ⟨c, d, j, hc, hd, hj, hn, e1, e2, y1, y2⟩
      · refine kIt.no (p := a2) (e1 := nI b2) (e2 := so2) (e3 := va2) (vt' := vt) (hs' := hs) (ag' := ag) (ws' := ws) (nu' := nu) (ki' := ki) (ce' := ce) (ow' := ow) (pu' := pu) (se' := se) (ch' := ch) (sh' := sh) (di' := di) (m1 := nI b2) (m2 := sm2) (m3 := (nI w)) (m4 := nI (k + 1)) (m5 := nu) (m6 := fc) (m7 := up6 it k 10 (nI v) (nI w) 0 0 0) (it := it) (by have := K2.1; have := K2.2.1; omega) ?_ ?_
        · rw [y1, kb1_eq, if_neg (by decide), kb6_eq, b01 (Or.inl rfl)]
        · rw [wl_n hk _ _ _ _ _ _ _ _ (fun _ => y2)]
      · have ec := (nI_eq (by omega) (by omega)).mp e1
        have ed := (nI_eq (by omega) (by omega)).mp e2
        subst ec ed
        have hnb : nb v j < 36 := by rw [hn]; exact hd
        refine kIt.yes hk (show b ≤ a3 by have := K1.1; have := K2.1; omega) K3 ?_ ?_ (x1 := 10) (x2 := nI v) (x3 := nI w) (x4 := 0) (x5 := 0) (x6 := 0) ?_ (R.wall hc hj hnb 1) F
        · rw [y1, kb1_eq, if_pos (nI_pos' (by omega)), g2, kb4_eq, putWall_x ws hc hj hnb, kb1_eq, kb6_eq, b01 (Or.inr rfl)]
        · rw [if_pos q3, y2, kb1_eq, if_neg (nI_pos (by omega))]
          unfold f_M_readItem_2
          rw [q5] at g4
          rw [g4, kb5_eq, item_m hk, kb2_eq]
        · unfold kSo
          rw [if_pos rfl, y2, kb1_eq, putWall_m R.1.1.2.2.1 hc hj hnb, kb1_eq]
theorem it_height {T : Nat} {by_ tp : Nat → Int32} (X : TX T by_ tp) {a b k : Nat} {so va sm vm : Int32} (K : TK T tp a b so va sm vm) (hk : k ≤ 60) {mo vo ou fe fq pi vt ash nu bu se st z : Int32} {hs ag ws ki ce ow pu ch sh di : Nat → Int32} {A it : Nat → Int32} {fc : Int64} (R : RI mo vo ou fe fq pi vt ash hs ag ws nu bu ki ce ow pu se st z ch sh di A) (F : FC fc nu ce) : kIt T tp b k mo vo ou fe fq pi ash bu st z A it (kb6 (f_Tx_readLevel (nI T) (nI a) (nI b) so va by_ hs) fun r_163 v_tape_start_164 v_tape_end_165 v_tape_sort_166 v_tape_value_167 v_p1_ground_heights_168 => (if r_163 = 0 ∨ r_163 = 1 then some (r_163, v_tape_start_164, v_tape_end_165, v_tape_sort_166, v_tape_value_167, vt, v_p1_ground_heights_168, ag, ws, nu, ki, ce, ow, pu, se, ch, sh, di) else none)) (f_M_readItem_4 (11 : Int32) (nI T) (nI a) (nI b) sm vm 0 (nI k) nu fc tp it) := by
  have hT := X.1
  obtain ⟨a1, b1, so1, va1, sm1, vm1, l1, x1, m1, K1⟩ := go_x X K
  unfold f_Tx_readLevel f_M_readItem_4
  rw [nl35, nl99, x1, kb4_eq, m1, kb5_eq, isWithin_eq, show (36 : Int32) - 1 = nI 35 by decide]
  rcases num_x X K1 (h := 35) (by omega) with ⟨n1, n2, n3⟩ | ⟨v, a2, b2, so2, va2, sm2, vm2, hv, o2, o3, o4, o5, l2, n1, n2, n3, n4, K2⟩
  · refine kIt.no (p := a1) (e1 := nI b1) (e2 := so1) (e3 := va1) (vt' := vt) (hs' := hs) (ag' := ag) (ws' := ws) (nu' := nu) (ki' := ki) (ce' := ce) (ow' := ow) (pu' := pu) (se' := se) (ch' := ch) (sh' := sh) (di' := di) (m1 := nI b1) (m2 := sm1) (m3 := vm1) (m4 := nI (k + 1)) (m5 := nu) (m6 := fc) (m7 := up6 it k 11 vm1 vm1 0 0 0) (it := it) (by have := K1.1; have := K1.2.1; omega) ?_ ?_
    · rw [n1, kb1_eq, within_n (Or.inl (by decide)), kb1_eq, if_pos rfl, kb6_eq, b01 (Or.inl rfl)]
    · rw [n2, kb6_eq, number_w, kb6_eq, item_m hk, kb2_eq]
  · rw [n1, kb1_eq, within_y (nI_pos (by omega)) (nI_nlt hv (by omega)), kb1_eq, if_neg i10, n2, kb4_eq, n3, kb6_eq]
    rcases num_x X K2 (h := 99) (by omega) with ⟨g1, g2, g3⟩ | ⟨w, a3, b3, so3, va3, sm3, vm3, hw, q2, q3, q4, q5, l3, g1, g2, g3, g4, K3⟩
    · refine kIt.no (p := a2) (e1 := nI b2) (e2 := so2) (e3 := va2) (vt' := vt) (hs' := hs) (ag' := ag) (ws' := ws) (nu' := nu) (ki' := ki) (ce' := ce) (ow' := ow) (pu' := pu) (se' := se) (ch' := ch) (sh' := sh) (di' := di) (m1 := nI b2) (m2 := sm2) (m3 := vm2) (m4 := nI (k + 1)) (m5 := nu) (m6 := fc) (m7 := up6 it k 11 (nI v) vm2 0 0 0) (it := it) (by have := K2.1; have := K2.2.1; omega) ?_ ?_
      · rw [g1, kb1_eq, if_neg (by decide), kb6_eq, b01 (Or.inl rfl)]
      · rw [g2, kb6_eq, item_m hk, kb2_eq]
    · refine kIt.yes hk (show b ≤ a3 by have := K1.1; have := K2.1; omega) K3 ?_ ?_ (x1 := 11) (x2 := nI v) (x3 := nI w) (x4 := 0) (x5 := 0) (x6 := 0) ?_ (RI.hs (v := nI w) (show v < 36 by omega) R) F
      · rw [g1, kb1_eq, if_pos (nI_pos' (by omega)), g2, kb4_eq, kx (k := v) (n := 36) (by omega) (by decide), nI_clamp (by omega), kb6_eq, b01 (Or.inr rfl)]
      · rw [g3, kb6_eq, item_m hk, kb2_eq]
      · unfold kSo
        rw [if_neg (by decide), if_pos rfl, nl50, nI_add, kx (k := 50 + v) (n := 218) (by omega) (by decide), nI_clamp (by omega)]
theorem it_age {T : Nat} {by_ tp : Nat → Int32} (X : TX T by_ tp) {a b k : Nat} {so va sm vm : Int32} (K : TK T tp a b so va sm vm) (hk : k ≤ 60) {mo vo ou fe fq pi vt ash nu bu se st z : Int32} {hs ag ws ki ce ow pu ch sh di : Nat → Int32} {A it : Nat → Int32} {fc : Int64} (R : RI mo vo ou fe fq pi vt ash hs ag ws nu bu ki ce ow pu se st z ch sh di A) (F : FC fc nu ce) : kIt T tp b k mo vo ou fe fq pi ash bu st z A it (kb6 (f_Tx_readLevel (nI T) (nI a) (nI b) so va by_ ag) fun r_155 v_tape_start_156 v_tape_end_157 v_tape_sort_158 v_tape_value_159 v_p1_ground_ages_160 => (if r_155 = 0 ∨ r_155 = 1 then some (r_155, v_tape_start_156, v_tape_end_157, v_tape_sort_158, v_tape_value_159, vt, hs, v_p1_ground_ages_160, ws, nu, ki, ce, ow, pu, se, ch, sh, di) else none)) (f_M_readItem_4 (12 : Int32) (nI T) (nI a) (nI b) sm vm 0 (nI k) nu fc tp it) := by
  have hT := X.1
  obtain ⟨a1, b1, so1, va1, sm1, vm1, l1, x1, m1, K1⟩ := go_x X K
  unfold f_Tx_readLevel f_M_readItem_4
  rw [nl35, nl99, x1, kb4_eq, m1, kb5_eq, isWithin_eq, show (36 : Int32) - 1 = nI 35 by decide]
  rcases num_x X K1 (h := 35) (by omega) with ⟨n1, n2, n3⟩ | ⟨v, a2, b2, so2, va2, sm2, vm2, hv, o2, o3, o4, o5, l2, n1, n2, n3, n4, K2⟩
  · refine kIt.no (p := a1) (e1 := nI b1) (e2 := so1) (e3 := va1) (vt' := vt) (hs' := hs) (ag' := ag) (ws' := ws) (nu' := nu) (ki' := ki) (ce' := ce) (ow' := ow) (pu' := pu) (se' := se) (ch' := ch) (sh' := sh) (di' := di) (m1 := nI b1) (m2 := sm1) (m3 := vm1) (m4 := nI (k + 1)) (m5 := nu) (m6 := fc) (m7 := up6 it k 12 vm1 vm1 0 0 0) (it := it) (by have := K1.1; have := K1.2.1; omega) ?_ ?_
    · rw [n1, kb1_eq, within_n (Or.inl (by decide)), kb1_eq, if_pos rfl, kb6_eq, b01 (Or.inl rfl)]
    · rw [n2, kb6_eq, number_w, kb6_eq, item_m hk, kb2_eq]
  · rw [n1, kb1_eq, within_y (nI_pos (by omega)) (nI_nlt hv (by omega)), kb1_eq, if_neg i10, n2, kb4_eq, n3, kb6_eq]
    rcases num_x X K2 (h := 99) (by omega) with ⟨g1, g2, g3⟩ | ⟨w, a3, b3, so3, va3, sm3, vm3, hw, q2, q3, q4, q5, l3, g1, g2, g3, g4, K3⟩
    · refine kIt.no (p := a2) (e1 := nI b2) (e2 := so2) (e3 := va2) (vt' := vt) (hs' := hs) (ag' := ag) (ws' := ws) (nu' := nu) (ki' := ki) (ce' := ce) (ow' := ow) (pu' := pu) (se' := se) (ch' := ch) (sh' := sh) (di' := di) (m1 := nI b2) (m2 := sm2) (m3 := vm2) (m4 := nI (k + 1)) (m5 := nu) (m6 := fc) (m7 := up6 it k 12 (nI v) vm2 0 0 0) (it := it) (by have := K2.1; have := K2.2.1; omega) ?_ ?_
      · rw [g1, kb1_eq, if_neg (by decide), kb6_eq, b01 (Or.inl rfl)]
      · rw [g2, kb6_eq, item_m hk, kb2_eq]
    · refine kIt.yes hk (show b ≤ a3 by have := K1.1; have := K2.1; omega) K3 ?_ ?_ (x1 := 12) (x2 := nI v) (x3 := nI w) (x4 := 0) (x5 := 0) (x6 := 0) ?_ (RI.ag (v := nI w) (show v < 36 by omega) R) F
      · rw [g1, kb1_eq, if_pos (nI_pos' (by omega)), g2, kb4_eq, kx (k := v) (n := 36) (by omega) (by decide), nI_clamp (by omega), kb6_eq, b01 (Or.inr rfl)]
      · rw [g3, kb6_eq, item_m hk, kb2_eq]
      · unfold kSo
        rw [if_neg (by decide), if_neg (by decide), if_pos rfl, nl86, nI_add, kx (k := 86 + v) (n := 218) (by omega) (by decide), nI_clamp (by omega)]
theorem it_vent {T : Nat} {by_ tp : Nat → Int32} (X : TX T by_ tp) {a b k : Nat} {so va sm vm : Int32} (K : TK T tp a b so va sm vm) (hk : k ≤ 60) {mo vo ou fe fq pi vt ash nu bu se st z : Int32} {hs ag ws ki ce ow pu ch sh di : Nat → Int32} {A it : Nat → Int32} {fc : Int64} (R : RI mo vo ou fe fq pi vt ash hs ag ws nu bu ki ce ow pu se st z ch sh di A) (F : FC fc nu ce) : kIt T tp b k mo vo ou fe fq pi ash bu st z A it (kb6 (f_Tx_readVent (nI T) (nI a) (nI b) so va by_ vt) fun r_147 v_tape_start_148 v_tape_end_149 v_tape_sort_150 v_tape_value_151 v_p1_ground_vent_152 => (if r_147 = 0 ∨ r_147 = 1 then some (r_147, v_tape_start_148, v_tape_end_149, v_tape_sort_150, v_tape_value_151, v_p1_ground_vent_152, hs, ag, ws, nu, ki, ce, ow, pu, se, ch, sh, di) else none)) (kb5 (f_M_must (nI T) (nI a) (nI b) sm vm 0 tp (1 : Int32)) fun v_begins_164 v_ends_165 v_sort_166 v_value_167 v_isWrong_168 => kb6 (f_M_number (nI T) v_begins_164 v_ends_165 v_sort_166 v_value_167 v_isWrong_168 tp (0 : Int32) (35 : Int32)) fun r_170 v_begins_171 v_ends_172 v_sort_173 v_value_174 v_isWrong_175 => kb2 (f_M_item (nI k) it (13 : Int32) r_170 (0 : Int32) (0 : Int32) (0 : Int32) (0 : Int32)) fun v_itemMany_177 v_items_178 => some (v_begins_171, v_ends_172, v_sort_173, v_value_174, v_isWrong_175, v_itemMany_177, nu, fc, v_items_178)) := by
  have hT := X.1
  obtain ⟨a1, b1, so1, va1, sm1, vm1, l1, x1, m1, K1⟩ := go_x X K
  unfold f_Tx_readVent
  rw [nl35, x1, kb4_eq, m1, kb5_eq]
  rcases num_x X K1 (h := 35) (by omega) with ⟨n1, n2, n3⟩ | ⟨v, a2, b2, so2, va2, sm2, vm2, hv, o2, o3, o4, o5, l2, n1, n2, n3, n4, K2⟩
  · refine kIt.no (p := a1) (e1 := nI b1) (e2 := so1) (e3 := va1) (vt' := vt) (hs' := hs) (ag' := ag) (ws' := ws) (nu' := nu) (ki' := ki) (ce' := ce) (ow' := ow) (pu' := pu) (se' := se) (ch' := ch) (sh' := sh) (di' := di) (m1 := nI b1) (m2 := sm1) (m3 := vm1) (m4 := nI (k + 1)) (m5 := nu) (m6 := fc) (m7 := up6 it k 13 vm1 0 0 0 0) (it := it) (by have := K1.1; have := K1.2.1; omega) ?_ ?_
    · rw [n1, kb1_eq, if_neg (by decide), kb6_eq, b01 (Or.inl rfl)]
    · rw [n2, kb6_eq, item_m hk, kb2_eq]
  · refine kIt.yes hk (show b ≤ a2 by have := K1.1; omega) K2 ?_ ?_ (x1 := 13) (x2 := nI v) (x3 := 0) (x4 := 0) (x5 := 0) (x6 := 0) ?_ (RI.vt (show v < 36 by omega) R) F
    · rw [n1, kb1_eq, if_pos (nI_pos' (by omega)), n2, kb4_eq, kb6_eq, b01 (Or.inr rfl)]
    · rw [n3, kb6_eq, item_m hk, kb2_eq]
    · unfold kSo
      rw [if_neg (by decide), if_neg (by decide), if_neg (by decide), if_pos rfl]
