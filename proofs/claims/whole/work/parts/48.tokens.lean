/-! the text's tokens, by both readers -/
/-- the tape of both -/
def TX (T : Nat) (by_ tp : Nat → Int32) : Prop := T ≤ 120 ∧ (∀ i, i < 120 → tp i = by_ i) ∧ ∀ i, i < 120 → ∃ k, k < 256 ∧ tp i = nI k
/-- a token of both readers, from a up to b -/
def TK (T : Nat) (tp : Nat → Int32) (a b : Nat) (so va sm vm : Int32) : Prop :=
  a ≤ b ∧ b ≤ T ∧ ((so = 0 ∧ sm = 0 ∧ a = T) ∨ (so = 1 ∧ sm = 1 ∧ a < b) ∨ (so = 2 ∧ sm = 2 ∧ a < b ∧ ∃ w, w ≤ 10000 ∧ vm = nI w ∧ va = nI (min w 1000)) ∨ (so = 3 ∧ sm = 3 ∧ a < b ∧ tp a = 59) ∨ (so = 4 ∧ sm = 3 ∧ a < b ∧ ¬ tp a = 59))
theorem kb4_go {t1 t2 t3 t4 β : Type} {o : Option (t1 × t2 × t3 × t4)} {a1 : t1} {a2 : t2} {a3 : t3} {a4 : t4} {k : t1 → t2 → t3 → t4 → Option β} {y : Option β} (h : o = some (a1, a2, a3, a4)) (g : k a1 a2 a3 a4 = y) : kb4 o k = y := by subst h; exact g
theorem byteAt_in {T k : Nat} (hT : T ≤ 120) (hk : k < T) (tp : Nat → Int32) : f_M_byteAt (nI T) tp (nI k) = some (tp k) := by
  unfold f_M_byteAt
  rw [if_neg (nI_ge hk (by omega)), kx (k := k) (n := 120) (by omega) (by decide), nI_clamp (by omega)]
theorem byteAt_out {T : Nat} (hT : T ≤ 120) (tp : Nat → Int32) : f_M_byteAt (nI T) tp (nI T) = some (-1) := by
  unfold f_M_byteAt
  rw [if_pos (nI_le (Nat.le_refl _) (by omega))]
theorem letter_eq (x : Int32) : f_Ta_isLetter x = f_M_within x 97 122 := rfl
theorem digit_eq (x : Int32) : f_Ta_isDigit x = f_M_within x 48 57 := rfl
theorem word_l {T : Nat} {by_ tp : Nat → Int32} (X : TX T by_ tp) (so be sm vm : Int32) : ∀ k b, T - b < k → b ≤ T → ∃ b', b ≤ b' ∧ b' ≤ T ∧ (b < T → f_M_within (tp b) 97 122 = some 1 → b < b') ∧ fl_Ta_endWord_1 (nI T) so by_ k (nI b) = some (nI b', so) ∧ fl_M_next_2 (nI T) be sm vm tp k (nI b) = some (be, nI b', sm, vm) := by
  obtain ⟨hT, hE, hB⟩ := id X
  intro k
  induction k with
  | zero => intro b h; exact absurd h (by omega)
  | succ k ih =>
    intro b h hb
    rw [fl_Ta_endWord_1_s, fl_M_next_2_s]
    unfold fb_Ta_endWord_1 fb_M_next_2
    by_cases q : b = T
    · subst q
      refine ⟨b, Nat.le_refl _, Nat.le_refl _, fun y => absurd y (by omega), ?_, ?_⟩
      · rw [if_pos (nI_le (Nat.le_refl _) (by omega))]
      · rw [byteAt_out hT, kb1_eq, within_n (Or.inl (by decide)), kb1_eq, if_pos rfl]
    · have hb' : b < T := by omega
      rw [if_neg (nI_ge hb' (by omega)), kx (k := b) (n := 120) (by omega) (by decide), nI_clamp (by omega), letter_eq, byteAt_in hT hb', kb1_eq, hE b (by omega)]
      rcases within_or (by_ b) 97 122 with ⟨h1, -⟩ | ⟨h1, -, -⟩
      · rw [h1, kb1_eq, kb1_eq, if_pos rfl, if_pos rfl]
        exact ⟨b, Nat.le_refl _, hb, fun _ y => absurd y (by decide), rfl, rfl⟩
      · rw [h1, kb1_eq, kb1_eq, if_neg i10, if_neg i10, nI_1]
        obtain ⟨b', g1, g2, -, g3, g4⟩ := ih (b + 1) (by omega) (by omega)
        exact ⟨b', by omega, g2, fun _ _ => by omega, g3, g4⟩
theorem digits_w {d w : Nat} (hd : 48 ≤ d) (hd2 : d ≤ 57) (hw : w ≤ 10000) : ∃ w', w' ≤ 10000 ∧ f_Ma_min 1000 ((10 * nI (min w 1000) + nI d) - 48) = some (nI (min w' 1000)) ∧ f_Ma_min 10000 ((10 * nI w + nI d) - 48) = some (nI w') := by
  have e1 : ∀ v, v ≤ 10000 → ((10 : Int32) * nI v + nI d) - 48 = nI (10 * v + (d - 48)) := by
    intro v hv
    obtain ⟨j, rfl⟩ : ∃ j, d = j + 48 := ⟨d - 48, by omega⟩
    rw [nl10, pk_mul, nI_add, ← Nat.add_assoc, ← nI_add, show (48 : Int32) = nI 48 from rfl, Int32.add_sub_cancel, show j + 48 - 48 = j by omega]
  rw [e1 _ (by omega), e1 _ hw]
  unfold f_Ma_min
  refine ⟨min (10 * w + (d - 48)) 10000, by omega, ?_, ?_⟩
  · by_cases q : 10 * min w 1000 + (d - 48) < 1000
    · rw [if_pos (show nI _ < (1000 : Int32) from nI_lt (b := 1000) q (by decide)), show min (min (10 * w + (d - 48)) 10000) 1000 = 10 * min w 1000 + (d - 48) by omega]
    · rw [if_neg (show ¬ nI _ < (1000 : Int32) from nI_nlt (b := 1000) (by omega) (by omega)), show min (min (10 * w + (d - 48)) 10000) 1000 = 1000 by omega]
      rfl
  · by_cases q : 10 * w + (d - 48) < 10000
    · rw [if_pos (show nI _ < (10000 : Int32) from nI_lt (b := 10000) q (by decide)), show min (10 * w + (d - 48)) 10000 = 10 * w + (d - 48) by omega]
    · rw [if_neg (show ¬ nI _ < (10000 : Int32) from nI_nlt (b := 10000) (by omega) (by omega)), show min (10 * w + (d - 48)) 10000 = 10000 by omega]
      rfl
theorem num_l {T : Nat} {by_ tp : Nat → Int32} (X : TX T by_ tp) (so be sm : Int32) : ∀ k b w, T - b < k → b ≤ T → w ≤ 10000 → ∃ b' w', b ≤ b' ∧ b' ≤ T ∧ w' ≤ 10000 ∧ (b < T → f_M_within (tp b) 48 57 = some 1 → b < b') ∧ fl_Ta_endNumber_1 (nI T) so by_ k (nI b) (nI (min w 1000)) = some (nI b', so, nI (min w' 1000)) ∧ fl_M_next_3 (nI T) be sm tp k (nI b) (nI w) = some (be, nI b', sm, nI w') := by
  obtain ⟨hT, hE, hB⟩ := id X
  intro k
  induction k with
  | zero => intro b _ h; exact absurd h (by omega)
  | succ k ih =>
    intro b w h hb hw
    rw [fl_Ta_endNumber_1_s, fl_M_next_3_s]
    unfold fb_Ta_endNumber_1 fb_M_next_3
    by_cases q : b = T
    · subst q
      refine ⟨b, w, Nat.le_refl _, Nat.le_refl _, hw, fun y => absurd y (by omega), ?_, ?_⟩
      · rw [if_pos (nI_le (Nat.le_refl _) (by omega))]
      · rw [byteAt_out hT, kb1_eq, within_n (Or.inl (by decide)), kb1_eq, if_pos rfl]
    · have hb' : b < T := by omega
      rw [if_neg (nI_ge hb' (by omega)), kx (k := b) (n := 120) (by omega) (by decide), kx (k := b) (n := 120) (by omega) (by decide), nI_clamp (by omega), digit_eq, byteAt_in hT hb', kb1_eq, kb1_eq, hE b (by omega)]
      rcases within_or (by_ b) 48 57 with ⟨h1, -⟩ | ⟨h1, h2, h3⟩
      · rw [h1, kb1_eq, kb1_eq, if_pos rfl, if_pos rfl]
        exact ⟨b, w, Nat.le_refl _, hb, hw, fun _ y => absurd y (by decide), rfl, rfl⟩
      · obtain ⟨d, hd, hd0⟩ := hB b (by omega)
        rw [hE b (by omega)] at hd0
        rw [hd0] at h2 h3
        have d1 : 48 ≤ d := by
          rcases Nat.lt_or_ge d 48 with y | y
          · exact absurd (nI_lt (b := 48) y (by decide)) h2
          · exact y
        have d2 : d ≤ 57 := by
          rcases Nat.lt_or_ge 57 d with y | y
          · exact absurd (nI_lt (a := 57) y (by omega)) h3
          · exact y
        obtain ⟨w', v1, v2, v3⟩ := digits_w d1 d2 hw
        rw [h1, kb1_eq, kb1_eq, if_neg i10, if_neg i10, hd0, v2, v3, kb1_eq, kb1_eq, nI_1]
        obtain ⟨b', w2, g1, g2, g3, -, g4, g5⟩ := ih (b + 1) w' (by omega) (by omega) v1
        exact ⟨b', w2, by omega, g2, g3, fun _ _ => by omega, g4, g5⟩
theorem next_l {T : Nat} {by_ tp : Nat → Int32} (X : TX T by_ tp) (en so va sm vm : Int32) : ∀ k b, T - b < k → b ≤ T → ∃ a' b' so' va' sm' vm', b ≤ a' ∧ fl_Ta_goToNext_1 (nI T) en so va by_ k (nI b) = some (nI a', nI b', so', va') ∧ fl_M_next_1 (nI T) tp k (nI b) en sm vm = some (nI a', nI b', sm', vm') ∧ TK T tp a' b' so' va' sm' vm' := by
  obtain ⟨hT, hE, hB⟩ := id X
  intro k
  induction k with
  | zero => intro b h; exact absurd h (by omega)
  | succ k ih =>
    intro b h hb
    rw [fl_Ta_goToNext_1_s, fl_M_next_1_s]
    unfold fb_Ta_goToNext_1 fb_M_next_1 f_Ta_goToNext_2
    by_cases q : b = T
    · subst q
      refine ⟨b, b, 0, va, 0, 0, Nat.le_refl _, ?_, ?_, Nat.le_refl _, Nat.le_refl _, Or.inl ⟨rfl, rfl, rfl⟩⟩
      · rw [if_pos (nI_le (Nat.le_refl _) (by omega)), if_neg (nI_nlt (Nat.le_refl _) (by omega))]
      · rw [byteAt_out hT, kb1_eq, if_neg (by decide), kb1_eq, if_neg (by decide)]
    · have hb' : b < T := by omega
      have kb : ∀ {α : Type} (x : Option α), kidx (nI b) 120 x = x := fun x => kx (by omega) (by decide) x
      obtain ⟨d, hd, hd0⟩ := hB b (by omega)
      have hp : (0 : Int32) ≤ tp b := by rw [hd0]; exact nI_pos' (by omega)
      rw [if_neg (nI_ge hb' (by omega)), if_pos (nI_lt hb' (by omega)), byteAt_in hT hb', nI_clamp (show b < 2 ^ 31 by omega)]
      simp only [kb]
      rw [letter_eq, digit_eq, kb1_eq, kb1_eq, if_pos hp, ← hE b (by omega)]
      by_cases s : tp b = 32
      · rw [if_pos s, if_pos s, nI_1]
        obtain ⟨a', b', so', va', sm', vm', g1, g2⟩ := ih (b + 1) (by omega) (by omega)
        exact ⟨a', b', so', va', sm', vm', by omega, g2⟩
      rw [if_neg s, if_neg s]
      rcases within_or (tp b) 97 122 with ⟨h1, -⟩ | ⟨h1, -, -⟩
      · rw [h1, kb1_eq, kb1_eq, if_pos rfl, if_pos rfl]
        rcases within_or (tp b) 48 57 with ⟨h2, -⟩ | ⟨h2, -, -⟩
        · rw [h2, kb1_eq, kb1_eq, if_pos rfl, if_pos rfl]
          unfold f_Ta_goToNext_3
          rw [nI_1]
          by_cases c : tp b = 59
          · rw [if_pos c]
            exact ⟨b, b + 1, 3, va, 3, 0, Nat.le_refl _, rfl, rfl, by omega, by omega, Or.inr (Or.inr (Or.inr (Or.inl ⟨rfl, rfl, by omega, c⟩)))⟩
          · rw [if_neg c]
            exact ⟨b, b + 1, 4, va, 3, 0, Nat.le_refl _, rfl, rfl, by omega, by omega, Or.inr (Or.inr (Or.inr (Or.inr ⟨rfl, rfl, by omega, c⟩)))⟩
        · rw [h2, kb1_eq, kb1_eq, if_neg i10, if_neg i10]
          obtain ⟨b', w', g1, g2, g3, g4, g5, g6⟩ := num_l X 2 (nI b) 2 kFuel b 0 (by unfold kFuel; omega) (by omega) (by omega)
          refine ⟨b, b', 2, nI (min w' 1000), 2, nI w', Nat.le_refl _, ?_, g6, g1, g2, Or.inr (Or.inr (Or.inl ⟨rfl, rfl, g4 hb' h2, w', g3, rfl, rfl⟩))⟩
          unfold f_Ta_endNumber
          rw [show (0 : Int32) = nI (min 0 1000) from rfl, g5, kb3_eq]
      · rw [h1, kb1_eq, kb1_eq, if_neg i10, if_neg i10]
        obtain ⟨b', g1, g2, g3, g4, g5⟩ := word_l X 1 (nI b) 1 0 kFuel b (by unfold kFuel; omega) (by omega)
        refine ⟨b, b', 1, va, 1, 0, Nat.le_refl _, ?_, g5, g1, g2, Or.inr (Or.inl ⟨rfl, rfl, g3 hb' h1⟩)⟩
        unfold f_Ta_endWord
        rw [g4, kb2_eq]
theorem next_x {T : Nat} {by_ tp : Nat → Int32} (X : TX T by_ tp) {b : Nat} (hb : b ≤ T) (st so va be sm vm : Int32) : ∃ a' b' so' va' sm' vm', b ≤ a' ∧ f_Ta_goToNext (nI T) st (nI b) so va by_ = some (nI a', nI b', so', va') ∧ f_M_next (nI T) be (nI b) sm vm tp = some (nI a', nI b', sm', vm') ∧ TK T tp a' b' so' va' sm' vm' := by
  obtain ⟨a', b', so', va', sm', vm', g1, g2, g3, g4⟩ := next_l X (nI b) so va sm vm kFuel b (by unfold kFuel; have := X.1; omega) hb
  exact ⟨a', b', so', va', sm', vm', g1, g2, g3, g4⟩
-- the step of the reference's reader
theorem must_y (n be en sm vm : Int32) (tp : Nat → Int32) {b' e' s' v' : Int32} (h : f_M_next n be en sm vm tp = some (b', e', s', v')) : f_M_must n be en sm vm 0 tp 1 = some (b', e', s', v', 0) := by
  unfold f_M_must f_M_must_2
  rw [if_pos rfl, if_neg i10, if_pos (Or.inl rfl), if_pos rfl, h, kb4_eq]
theorem must_n (n be en sm vm : Int32) (tp : Nat → Int32) : f_M_must n be en sm vm 0 tp 0 = some (be, en, sm, vm, 1) := by
  unfold f_M_must f_M_must_1 f_M_must_2
  rw [if_pos rfl, if_pos rfl, if_pos (Or.inr rfl), if_neg i10]
theorem must_w (n be en sm vm : Int32) (tp : Nat → Int32) (x : Int32) : f_M_must n be en sm vm 1 tp x = some (be, en, sm, vm, 1) := by
  unfold f_M_must f_M_must_1 f_M_must_2
  rw [if_neg i10, if_pos (Or.inr rfl), if_neg i10]
theorem number_w (n be en sm vm : Int32) (tp : Nat → Int32) (x y : Int32) : f_M_number n be en sm vm 1 tp x y = some (vm, be, en, sm, vm, 1) := by
  unfold f_M_number f_M_number_1 f_M_number_2
  rw [must_w, must_w, kb5_eq]
  by_cases q : sm = 2
  · rw [if_pos q]
    rcases within_or vm x y with ⟨h, -⟩ | ⟨h, -, -⟩
    · rw [h, kb1_eq, if_pos rfl]
    · rw [h, kb1_eq, if_neg i10]
  · rw [if_neg q]
theorem go_x {T : Nat} {by_ tp : Nat → Int32} (X : TX T by_ tp) {a b : Nat} {so va sm vm : Int32} (K : TK T tp a b so va sm vm) : ∃ a' b' so' va' sm' vm', b ≤ a' ∧ f_Ta_goToNext (nI T) (nI a) (nI b) so va by_ = some (nI a', nI b', so', va') ∧ f_M_must (nI T) (nI a) (nI b) sm vm 0 tp 1 = some (nI a', nI b', sm', vm', 0) ∧ TK T tp a' b' so' va' sm' vm' := by
  obtain ⟨a', b', so', va', sm', vm', g1, g2, g3, g4⟩ := next_x X K.2.1 (nI a) so va (nI a) sm vm
  exact ⟨a', b', so', va', sm', vm', g1, g2, must_y _ _ _ _ _ _ g3, g4⟩
/-- a number up to h, or none -/
theorem num_x {T : Nat} {by_ tp : Nat → Int32} (X : TX T by_ tp) {a b : Nat} {so va sm vm : Int32} (K : TK T tp a b so va sm vm) {h : Nat} (hh : h ≤ 99) :
    (f_Ta_numberUpTo so va (nI h) = some (-1) ∧ f_M_number (nI T) (nI a) (nI b) sm vm 0 tp 0 (nI h) = some (vm, nI a, nI b, sm, vm, 1) ∧ ¬ ∃ v, v ≤ h ∧ sm = 2 ∧ vm = nI v) ∨
    ∃ v a' b' so' va' sm' vm', v ≤ h ∧ so = 2 ∧ sm = 2 ∧ va = nI v ∧ vm = nI v ∧ b ≤ a' ∧ f_Ta_numberUpTo so va (nI h) = some (nI v) ∧ f_Ta_goToNext (nI T) (nI a) (nI b) so va by_ = some (nI a', nI b', so', va') ∧ f_M_number (nI T) (nI a) (nI b) sm vm 0 tp 0 (nI h) = some (nI v, nI a', nI b', sm', vm', 0) ∧ f_M_must (nI T) (nI a) (nI b) sm vm 0 tp 1 = some (nI a', nI b', sm', vm', 0) ∧ TK T tp a' b' so' va' sm' vm' := by
  unfold f_Ta_numberUpTo f_M_number f_M_number_1 f_M_number_2
  obtain ⟨k1, k2, k3⟩ := id K
  by_cases q : so = 2
  · have k4 : sm = 2 ∧ ∃ w, w ≤ 10000 ∧ vm = nI w ∧ va = nI (min w 1000) := by
      rcases k3 with ⟨y, -⟩ | ⟨y, -⟩ | ⟨-, y1, -, y2⟩ | ⟨y, -⟩ | ⟨y, -⟩
      · exact absurd (y.symm.trans q) (by decide)
      · exact absurd (y.symm.trans q) (by decide)
      · exact ⟨y1, y2⟩
      · exact absurd (y.symm.trans q) (by decide)
      · exact absurd (y.symm.trans q) (by decide)
    obtain ⟨y1, w, y2, y3, y4⟩ := k4
    by_cases z : w ≤ h
    · refine Or.inr ?_
      obtain ⟨a', b', so', va', sm', vm', g1, g2, g3, g4⟩ := go_x X K
      have e1 : va = nI w := by rw [y4, show min w 1000 = w by omega]
      refine ⟨w, a', b', so', va', sm', vm', z, q, y1, e1, y3, g1, ?_, g2, ?_, g3, g4⟩
      · rw [if_pos q, if_neg (by rw [e1]; exact nI_nlt z (by omega)), e1]
      · rw [if_pos y1, within_y (by rw [y3]; exact nI_pos (by omega)) (by rw [y3]; exact nI_nlt z (by omega)), kb1_eq, if_neg i10, g3, kb5_eq, y3]
    · refine Or.inl ⟨?_, ?_, ?_⟩
      · rw [if_pos q, if_pos (by rw [y4]; exact nI_lt (by omega) (by omega))]
      · rw [if_pos y1, within_n (Or.inr (by rw [y3]; exact nI_lt (by omega) (by omega))), kb1_eq, if_pos rfl, must_n, kb5_eq]
      · rintro ⟨v, v1, -, v2⟩
        have := (nI_eq (by omega) (by omega)).mp (y3.symm.trans v2)
        omega
  · have k4 : ¬ sm = 2 := by
      intro c
      rcases k3 with ⟨-, y, -⟩ | ⟨-, y, -⟩ | ⟨y, -⟩ | ⟨-, y, -⟩ | ⟨-, y, -⟩
      · exact absurd (y.symm.trans c) (by decide)
      · exact absurd (y.symm.trans c) (by decide)
      · exact q y
      · exact absurd (y.symm.trans c) (by decide)
      · exact absurd (y.symm.trans c) (by decide)
    refine Or.inl ⟨?_, ?_, ?_⟩
    · rw [if_neg q]
    · rw [if_neg k4, must_n, kb5_eq]
    · rintro ⟨v, -, c, -⟩
      exact k4 c
-- words
theorem s15 : ∀ i, i < 15 → sLen (i + 15) = sLen i ∧ sBytL (i + 15) = sBytL i ∧ 2 ≤ sLen i ∧ sLen i ≤ 8 ∧ Nat.blt i nStr = true ∧ Nat.blt (i + 15) nStr = true := by decide +kernel
theorem s15_one : ∀ i, i < 15 → ∀ j, j < 15 → sLen i = sLen j → sByt i 0 = sByt j 0 → sByt i 1 = sByt j 1 → i = j := by decide +kernel
theorem is_l {T : Nat} {by_ tp : Nat → Int32} (X : TX T by_ tp) {i a b : Nat} (hi : i < 15) (hb : b ≤ T) (hl : a + sLen i = b) : ∀ k j, sLen i - j + 1 < k → j ≤ sLen i → ∃ r, (r = 0 ∨ r = 1) ∧ fl_Ta_isAt_1 i (nI T) (nI a) by_ k (nI j) = some r ∧ fl_M_isWord_1 (i + 15) (nI a) tp k 1 (nI j) = some r ∧ (r = 1 → ∀ m, j ≤ m → m < sLen i → tp (a + m) = sByt i m) := by
  obtain ⟨hT, hE, hB⟩ := id X
  obtain ⟨s1, s2, s3, s4, s5, s6⟩ := s15 i hi
  intro k
  induction k with
  | zero => intro j h; exact absurd h (by omega)
  | succ k ih =>
    intro j h hj
    rw [fl_Ta_isAt_1_s, fl_M_isWord_1_s]
    unfold fb_Ta_isAt_1 fb_M_isWord_1 f_Sg_length f_Sg_charAt
    rw [if_pos s5, if_pos s5, if_pos s6, if_pos s6, kb1_eq, kb1_eq, s1]
    by_cases q : j = sLen i
    · subst q
      exact ⟨1, Or.inr rfl, by rw [if_pos (nI_le (Nat.le_refl _) (by omega))], by rw [if_pos (nI_le (Nat.le_refl _) (by omega)), if_pos (Or.inr rfl)], fun _ m h1 h2 => absurd h1 (by omega)⟩
    · have cj : (nI j).toNatClampNeg = j := nI_clamp (by omega)
      have ca : (nI (a + j)).toNatClampNeg = a + j := nI_clamp (by omega)
      have e3 : sByt (i + 15) j = sByt i j := by unfold sByt; rw [s2]
      rw [if_neg (nI_ge (by omega) (by omega)), if_neg (nI_ge (by omega) (by omega)), if_neg i10, nI_add, if_neg (nI_ge (show a + j < T by omega) (by omega)), kx (k := a + j) (n := 120) (by omega) (by decide), kx (k := a + j) (n := 120) (by omega) (by decide), kx (k := j) (n := sLen i) (by omega) (by omega), kx (k := j) (n := sLen i) (by omega) (by omega), kb1_eq, kb1_eq, cj, ca, hE (a + j) (by omega), e3]
      by_cases z : by_ (a + j) = sByt i j
      · rw [if_pos z, if_pos z, nI_1]
        obtain ⟨r, g1, g2, g3, g4⟩ := ih (j + 1) (by omega) (by omega)
        refine ⟨r, g1, g2, g3, fun hr m h1 h2 => ?_⟩
        by_cases y : m = j
        · subst y; rw [hE (a + m) (by omega)]; exact z
        · exact g4 hr m (by omega) h2
      · rw [if_neg z, if_neg z]
        refine ⟨0, Or.inl rfl, rfl, ?_, fun hr => absurd hr.symm i10⟩
        obtain ⟨k', rfl⟩ : ∃ k', k = k' + 1 := ⟨k - 1, by omega⟩
        rw [fl_M_isWord_1_s]
        unfold fb_M_isWord_1 f_Sg_length
        rw [if_pos s6, kb1_eq, if_pos rfl, if_pos (Or.inl rfl), ite_self]
theorem isWord_0 {i : Nat} (hi : i < 15) (be : Int32) (tp : Nat → Int32) : fl_M_isWord_1 (i + 15) be tp kFuel 0 0 = some 0 := by
  obtain ⟨s1, s2, s3, s4, s5, s6⟩ := s15 i hi
  show fl_M_isWord_1 (i + 15) be tp (1023 + 1) 0 0 = some 0
  rw [fl_M_isWord_1_s]
  unfold fb_M_isWord_1 f_Sg_length
  rw [if_pos s6, kb1_eq, if_pos rfl, if_pos (Or.inl rfl), ite_self]
theorem isAt_x {T : Nat} {by_ tp : Nat → Int32} (X : TX T by_ tp) {a b : Nat} {so va sm vm : Int32} (K : TK T tp a b so va sm vm) {i : Nat} (hi : i < 15) : ∃ r, (r = 0 ∨ r = 1) ∧ f_Ta_isAt (nI T) (nI a) (nI b) so by_ i = some r ∧ f_M_isWord (nI a) (nI b) sm tp (i + 15) = some r ∧ (r = 1 → a < b ∧ a + sLen i = b ∧ tp a = sByt i 0 ∧ tp (a + 1) = sByt i 1) := by
  obtain ⟨s1, s2, s3, s4, s5, s6⟩ := s15 i hi
  obtain ⟨k1, k2, k3⟩ := id K
  have hT := X.1
  unfold f_Ta_isAt f_M_isWord f_Sg_length
  by_cases q : so = 1
  · have k4 : sm = 1 := by
      rcases k3 with ⟨y, -⟩ | ⟨-, y, -⟩ | ⟨y, -⟩ | ⟨y, -⟩ | ⟨y, -⟩
      · exact absurd (y.symm.trans q) (by decide)
      · exact y
      · exact absurd (y.symm.trans q) (by decide)
      · exact absurd (y.symm.trans q) (by decide)
      · exact absurd (y.symm.trans q) (by decide)
    rw [if_pos q, if_pos k4, if_pos s5, if_pos s6, kb1_eq, kb1_eq, s1]
    have e1 : nI b - nI a = nI (b - a) := by
      obtain ⟨d, rfl⟩ : ∃ d, b = d + a := ⟨b - a, by omega⟩
      rw [← nI_add, Int32.add_sub_cancel, show d + a - a = d by omega]
    rw [e1]
    by_cases z : a + sLen i = b
    · have e2 : nI (b - a) = nI (sLen i) := by rw [show b - a = sLen i by omega]
      rw [if_pos e2, if_pos e2]
      obtain ⟨r, g1, g2, g3, g4⟩ := is_l X hi k2 z kFuel 0 (by unfold kFuel; omega) (by omega)
      exact ⟨r, g1, g2, g3, fun hr => ⟨by omega, z, g4 hr 0 (by omega) (by omega), g4 hr 1 (by omega) (by omega)⟩⟩
    · have e2 : ¬ nI (b - a) = nI (sLen i) := fun c => z (by have := (nI_eq (by omega) (by omega)).mp c; omega)
      rw [if_neg e2, if_neg e2, isWord_0 hi]
      exact ⟨0, Or.inl rfl, rfl, rfl, fun hr => absurd hr.symm i10⟩
  · have k4 : ¬ sm = 1 := by
      intro c
      rcases k3 with ⟨-, y, -⟩ | ⟨y, -⟩ | ⟨-, y, -⟩ | ⟨-, y, -⟩ | ⟨-, y, -⟩
      · exact absurd (y.symm.trans c) (by decide)
      · exact q y
      · exact absurd (y.symm.trans c) (by decide)
      · exact absurd (y.symm.trans c) (by decide)
      · exact absurd (y.symm.trans c) (by decide)
    rw [if_neg q, if_neg k4, isWord_0 hi]
    exact ⟨0, Or.inl rfl, rfl, rfl, fun hr => absurd hr.symm i10⟩
/-- the words of both at a token, at most one of them -/
def WS (T : Nat) (by_ tp : Nat → Int32) (a b : Nat) (so sm : Int32) (ρ : Nat → Int32) : Prop := (∀ i, i < 15 → (ρ i = 0 ∨ ρ i = 1) ∧ f_Ta_isAt (nI T) (nI a) (nI b) so by_ i = some (ρ i) ∧ f_M_isWord (nI a) (nI b) sm tp (i + 15) = some (ρ i) ∧ (ρ i = 1 → a < b)) ∧ ∀ i j, i < 15 → j < 15 → ρ i = 1 → ρ j = 1 → i = j
theorem words_x {T : Nat} {by_ tp : Nat → Int32} (X : TX T by_ tp) {a b : Nat} {so va sm vm : Int32} (K : TK T tp a b so va sm vm) : ∃ ρ, WS T by_ tp a b so sm ρ := by
  have h : ∀ i, ∃ r, i < 15 → (r = 0 ∨ r = 1) ∧ f_Ta_isAt (nI T) (nI a) (nI b) so by_ i = some r ∧ f_M_isWord (nI a) (nI b) sm tp (i + 15) = some r ∧ (r = 1 → a < b ∧ a + sLen i = b ∧ tp a = sByt i 0 ∧ tp (a + 1) = sByt i 1) := by
    intro i
    by_cases hi : i < 15
    · obtain ⟨r, g⟩ := isAt_x X K hi
      exact ⟨r, fun _ => g⟩
    · exact ⟨0, fun c => absurd c hi⟩
  refine ⟨fun i => Classical.choose (h i), ?_, ?_⟩
  · intro i hi
    obtain ⟨g1, g2, g3, g4⟩ := Classical.choose_spec (h i) hi
    exact ⟨g1, g2, g3, fun c => (g4 c).1⟩
  · intro i j hi hj ci cj
    obtain ⟨-, -, -, g4⟩ := Classical.choose_spec (h i) hi
    obtain ⟨-, -, -, g5⟩ := Classical.choose_spec (h j) hj
    obtain ⟨-, y1, y2, y3⟩ := g4 ci
    obtain ⟨-, z1, z2, z3⟩ := g5 cj
    exact s15_one i hi j hj (by omega) (y2.symm.trans z2) (y3.symm.trans z3)
theorem kindHere_l {T : Nat} {by_ tp : Nat → Int32} {a b : Nat} {so sm : Int32} {ρ : Nat → Int32} (H : WS T by_ tp a b so sm ρ) : ∀ k j, 6 - j < k → j ≤ 6 → (∀ i, i < j → ρ i = 0) → ∃ r, fl_Tx_kindHere_1 (nI T) (nI a) (nI b) so by_ k (nI j) = some r ∧ ((r = -1 ∧ ∀ i, i < 6 → ρ i = 0) ∨ ∃ i, i < 6 ∧ r = nI i ∧ ρ i = 1) := by
  intro k
  induction k with
  | zero => intro j h; exact absurd h (by omega)
  | succ k ih =>
    intro j h hj h0
    rw [fl_Tx_kindHere_1_s]
    unfold fb_Tx_kindHere_1
    by_cases q : j = 6
    · subst q
      exact ⟨-1, by rw [if_pos (by decide)], Or.inl ⟨rfl, h0⟩⟩
    · have nm : ∀ j, j < 6 → f_Tx_nameOf (nI j) = some j := by decide
      obtain ⟨g1, g2, g3, g4⟩ := H.1 j (by omega)
      obtain ⟨-, -, -, -, s5, -⟩ := s15 j (by omega)
      rw [if_neg (show ¬ (6 : Int32) ≤ nI j from nI_ge (b := 6) (by omega) (by decide)), nm j (by omega), kb1_eq, if_pos s5, g2, kb1_eq]
      rcases g1 with z | z
      · rw [if_pos z, nI_1]
        refine ih (j + 1) (by omega) (by omega) (fun i hi => ?_)
        by_cases y : i = j
        · subst y; exact z
        · exact h0 i (by omega)
      · rw [z, if_neg i10]
        exact ⟨nI j, rfl, Or.inr ⟨j, by omega, rfl, z⟩⟩
theorem kindTold_b {rec1 : Int32 → Int32 → Option Int32} (be en so : Int32) (tp : Nat → Int32) (acc : Int32) : ∀ j, j < 6 → fb_M_kindTold_1 rec1 be en so tp acc (nI j) = kb1 (f_M_isWord be en so tp (j + 15)) fun r => (if r = 0 then rec1 acc (nI (j + 1)) else rec1 (nI j) (nI (j + 1))) := by
  intro j hj
  have c6 : j = 0 ∨ j = 1 ∨ j = 2 ∨ j = 3 ∨ j = 4 ∨ j = 5 := by omega
  unfold fb_M_kindTold_1
  rcases c6 with rfl | rfl | rfl | rfl | rfl | rfl
  · exact if_go0 (by decide) (if_go1 (by decide) rfl)
  · exact if_go0 (by decide) (if_go0 (by decide) (if_go1 (by decide) rfl))
  · exact if_go0 (by decide) (if_go0 (by decide) (if_go0 (by decide) (if_go1 (by decide) rfl)))
  · exact if_go0 (by decide) (if_go0 (by decide) (if_go0 (by decide) (if_go0 (by decide) (if_go1 (by decide) rfl))))
  · exact if_go0 (by decide) (if_go0 (by decide) (if_go0 (by decide) (if_go0 (by decide) (if_go0 (by decide) (if_go1 (by decide) rfl)))))
  · exact if_go0 (by decide) (if_go0 (by decide) (if_go0 (by decide) (if_go0 (by decide) (if_go0 (by decide) (if_go0 (by decide) (if_go1 (by decide) rfl))))))
theorem kindTold_l {T : Nat} {by_ tp : Nat → Int32} {a b : Nat} {so sm : Int32} {ρ : Nat → Int32} (H : WS T by_ tp a b so sm ρ) : ∀ k j acc, 6 - j < k → j ≤ 6 → ((acc = -1 ∧ ∀ i, i < j → ρ i = 0) ∨ ∃ i, i < j ∧ acc = nI i ∧ ρ i = 1) → ∃ r, fl_M_kindTold_1 (nI a) (nI b) sm tp k acc (nI j) = some r ∧ ((r = -1 ∧ ∀ i, i < 6 → ρ i = 0) ∨ ∃ i, i < 6 ∧ r = nI i ∧ ρ i = 1) := by
  intro k
  induction k with
  | zero => intro j _ h; exact absurd h (by omega)
  | succ k ih =>
    intro j acc h hj h0
    rw [fl_M_kindTold_1_s]
    by_cases q : j = 6
    · subst q
      unfold fb_M_kindTold_1
      exact ⟨acc, by rw [if_pos (by decide)], h0⟩
    · obtain ⟨g1, g2, g3, g4⟩ := H.1 j (by omega)
      rw [kindTold_b _ _ _ _ _ j (by omega), g3, kb1_eq]
      rcases g1 with z | z
      · rw [if_pos z]
        refine ih (j + 1) acc (by omega) (by omega) ?_
        rcases h0 with ⟨y1, y2⟩ | ⟨i, y1, y2, y3⟩
        · refine Or.inl ⟨y1, fun i hi => ?_⟩
          by_cases y : i = j
          · subst y; exact z
          · exact y2 i (by omega)
        · exact Or.inr ⟨i, by omega, y2, y3⟩
      · rw [z, if_neg i10]
        exact ih (j + 1) (nI j) (by omega) (by omega) (Or.inr ⟨j, by omega, rfl, z⟩)
theorem kind_x {T : Nat} {by_ tp : Nat → Int32} {a b : Nat} {so sm : Int32} {ρ : Nat → Int32} (H : WS T by_ tp a b so sm ρ) : ∃ r, f_Tx_kindHere (nI T) (nI a) (nI b) so by_ = some r ∧ f_M_kindTold (nI a) (nI b) sm tp = some r ∧ ((r = -1 ∧ ∀ i, i < 6 → ρ i = 0) ∨ ∃ i, i < 6 ∧ r = nI i ∧ ρ i = 1) := by
  obtain ⟨r, g1, g2⟩ := kindHere_l H kFuel 0 (by unfold kFuel; omega) (by omega) (fun i hi => absurd hi (by omega))
  obtain ⟨r', g3, g4⟩ := kindTold_l H kFuel 0 (-1) (by unfold kFuel; omega) (by omega) (Or.inl ⟨rfl, fun i hi => absurd hi (by omega)⟩)
  have e : r' = r := by
    rcases g2 with ⟨y1, y2⟩ | ⟨i, y1, y2, y3⟩
    · rcases g4 with ⟨z1, z2⟩ | ⟨j, z1, z2, z3⟩
      · rw [y1, z1]
      · exact absurd (z3.symm.trans (y2 j z1)) i10
    · rcases g4 with ⟨z1, z2⟩ | ⟨j, z1, z2, z3⟩
      · exact absurd (y3.symm.trans (z2 i y1)) i10
      · rw [y2, z2, H.2 i j (by omega) (by omega) y3 z3]
  exact ⟨r, g1, by rw [← e]; exact g3, g2⟩
