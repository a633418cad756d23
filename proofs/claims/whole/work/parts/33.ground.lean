/-! cells beside, walls, who stands on a cell -/
def kDown : Nat → Int32 := fun j => if j = 0 then -1 else if j = 2 then 1 else 0
def kAlong : Nat → Int32 := fun j => if j = 1 then 1 else if j = 3 then -1 else 0
def nbI (c w : Nat) : Int32 := if nb c w = 99 then -1 else nI (nb c w)
theorem beside_eq : ∀ c, c < 36 → ∀ w, w < 4 → f_X_beside (nI c) (nI w) = some (nbI c w) := by decide +kernel
theorem cellIn_eq : ∀ c, c < 36 → ∀ w, w < 4 → f_M_cellIn kDown kAlong (nI c) (nI w) = some (nbI c w) := by decide +kernel
theorem nb_or : ∀ c, c < 36 → ∀ w, w < 4 → nb c w = 99 ∨ nb c w < 36 := by decide +kernel
theorem nb_back : ∀ c, c < 36 → ∀ w, w < 4 → nb c w < 36 → nb (nb c w) ((w + 2) % 4) = c ∧ nb c w ≠ c := by decide +kernel
theorem nbI_some {c w : Nat} (h : nb c w < 36) : nbI c w = nI (nb c w) := by
  unfold nbI
  rw [if_neg (by omega)]
/-- the way from one to another: 4 is none -/
def wy (a b : Nat) : Nat := if nb a 0 = b then 0 else if nb a 1 = b then 1 else if nb a 2 = b then 2 else if nb a 3 = b then 3 else 4
def wyI (a b : Nat) : Int32 := if wy a b = 4 then -1 else nI (wy a b)
theorem wayTo_x : ∀ a, a < 36 → ∀ b, b < 36 → f_X_wayTo (nI a) (nI b) = some (wyI a b) := by decide +kernel
theorem wayTo_m : ∀ a, a < 36 → ∀ b, b < 36 → f_M_wayTo kDown kAlong (nI a) (nI b) = some (wyI a b) := by decide +kernel
theorem wy_or : ∀ a, a < 36 → ∀ b, b < 36 → wy a b = 4 ∨ (wy a b < 4 ∧ nb a (wy a b) = b) := by decide +kernel
theorem wayTo_cases (x y : Int32) : (f_X_wayTo x y = some (-1) ∧ f_M_wayTo kDown kAlong x y = some (-1)) ∨ ∃ a b w, a < 36 ∧ b < 36 ∧ w < 4 ∧ nb a w = b ∧ x = nI a ∧ y = nI b ∧ f_X_wayTo x y = some (nI w) ∧ f_M_wayTo kDown kAlong x y = some (nI w) := by
  have m0 : ∀ x y : Int32, (f_M_isCell x = some 0 ∨ f_M_isCell y = some 0 ∧ f_M_isCell x = some 1) → f_M_wayTo kDown kAlong x y = some (-1) := by
    intro x y h
    unfold f_M_wayTo
    rw [show kFuel = 1023 + 1 from rfl, fl_M_wayTo_1_s]
    unfold fb_M_wayTo_1
    rw [if_neg (by decide)]
    rcases h with h | ⟨h, h'⟩
    · rw [h, kb1_eq, if_pos rfl]
    · rw [h', kb1_eq, if_neg i10, h, kb1_eq, if_pos rfl]
  rcases isCell_cases x with ⟨hx, hm⟩ | ⟨a, ha, rfl, hx, hm⟩
  · refine Or.inl ⟨?_, m0 x y (Or.inl hm)⟩
    unfold f_X_wayTo
    rw [hx, kb1_eq, if_pos rfl]
  rcases isCell_cases y with ⟨gx, gm⟩ | ⟨b, hb, rfl, gx, gm⟩
  · refine Or.inl ⟨?_, m0 _ y (Or.inr ⟨gm, hm⟩)⟩
    unfold f_X_wayTo
    rw [hx, kb1_eq, if_neg i10, gx, kb1_eq, if_pos rfl]
  rcases wy_or a ha b hb with h | ⟨h1, h2⟩
  · refine Or.inl ⟨?_, ?_⟩
    · rw [wayTo_x a ha b hb]; unfold wyI; rw [if_pos h]
    · rw [wayTo_m a ha b hb]; unfold wyI; rw [if_pos h]
  · refine Or.inr ⟨a, b, wy a b, ha, hb, h1, h2, rfl, rfl, ?_, ?_⟩
    · rw [wayTo_x a ha b hb]; unfold wyI; rw [if_neg (by omega)]
    · rw [wayTo_m a ha b hb]; unfold wyI; rw [if_neg (by omega)]
-- walls
def kSet (v : Int32) (w : Nat) : Int32 := v ||| ((1 : Int32) <<< (nI w &&& 31))
def kClr (v : Int32) (w : Nat) : Int32 := v &&& (((1 : Int32) <<< (nI w &&& 31)) ^^^ (-1 : Int32))
def kPut (b v : Int32) (w : Nat) : Int32 := if b = 0 then kClr v w else kSet v w
theorem kSet_4 : ∀ a, a < 16 → ∀ w, w < 4 → kSet (nI a) w = nI (a ||| 2 ^ w) ∧ a ||| 2 ^ w < 16 := by decide +kernel
theorem kClr_4 : ∀ a, a < 16 → ∀ w, w < 4 → kClr (nI a) w = nI (a &&& (15 - 2 ^ w)) ∧ a &&& (15 - 2 ^ w) < 16 := by decide +kernel
theorem bit_4 : ∀ a, a < 16 → ∀ w, w < 4 → ((nI a >>> (nI w &&& 31)) &&& (1 : Int32)) = if a.testBit w then 1 else 0 := by decide +kernel
theorem set_bit : ∀ a, a < 16 → ∀ w, w < 4 → ∀ j, j < 4 → (a ||| 2 ^ w).testBit j = (decide (j = w) || a.testBit j) := by decide +kernel
theorem clr_bit : ∀ a, a < 16 → ∀ w, w < 4 → ∀ j, j < 4 → (a &&& (15 - 2 ^ w)).testBit j = (!decide (j = w) && a.testBit j) := by decide +kernel
def nPut (b : Bool) (a w : Nat) : Nat := if b then a ||| 2 ^ w else a &&& (15 - 2 ^ w)
theorem nPut_lt {b : Bool} {a w : Nat} (ha : a < 16) (hw : w < 4) : nPut b a w < 16 := by
  unfold nPut
  split
  · exact (kSet_4 a ha w hw).2
  · exact (kClr_4 a ha w hw).2
theorem kPut_eq {b : Int32} {a w : Nat} (ha : a < 16) (hw : w < 4) : kPut b (nI a) w = nI (nPut (decide (¬ b = 0)) a w) := by
  unfold kPut nPut
  by_cases h : b = 0
  · rw [if_pos h, if_neg (by simp [h])]; exact (kClr_4 a ha w hw).1
  · rw [if_neg h, if_pos (by simp [h])]; exact (kSet_4 a ha w hw).1
theorem nPut_bit {b : Bool} {a w j : Nat} (ha : a < 16) (hw : w < 4) (hj : j < 4) : (nPut b a w).testBit j = if j = w then b else a.testBit j := by
  unfold nPut
  cases b
  · rw [if_neg (by decide), clr_bit a ha w hw j hj]
    by_cases h : j = w <;> simp [h]
  · rw [if_pos rfl, set_bit a ha w hw j hj]
    by_cases h : j = w <;> simp [h]
def pW (ws : Nat → Int32) (c n w : Nat) (b : Int32) : Nat → Int32 := upd (upd ws c (kPut b (ws c) w)) n (kPut b (upd ws c (kPut b (ws c) w) n) ((w + 2) % 4))
theorem back_way {w : Nat} (hw : w < 4) : (nI w + 2) - (nI w + 2) / 4 * 4 = nI ((w + 2) % 4) := by
  rw [nl2, nI_add, nl4]
  exact pk_rem (by omega) (by decide) (by decide)
theorem putWall_x (ws : Nat → Int32) {c w : Nat} (hc : c < 36) (hw : w < 4) (hn : nb c w < 36) (b : Int32) : f_Gr_putWall ws (nI c) (nI w) b = some (pW ws c (nb c w) w b) := by
  unfold f_Gr_putWall f_Gr_putWall_1 f_Gr_putWall_2 pW kPut kSet kClr
  rw [beside_eq c hc w hw, kb1_eq, nbI_some hn, if_pos (nI_pos' (by omega)), klet_eq, klet_eq, back_way hw]
  have e1 : (nI c).toNatClampNeg = c := nI_clamp (by omega)
  have e2 : (nI (nb c w)).toNatClampNeg = nb c w := nI_clamp (by omega)
  by_cases h : b = 0
  · simp only [if_pos h, kx hc (by decide), kx hn (by decide), e1, e2]
  · simp only [if_neg h, kx hc (by decide), kx hn (by decide), e1, e2]
theorem putWall_m {ws A : Nat → Int32} (R : RA 122 36 ws A) {c w : Nat} (hc : c < 36) (hw : w < 4) (hn : nb c w < 36) (b : Int32) : f_M_putWall A kDown kAlong (nI c) (nI w) b = some (upd (upd A (122 + c) (kPut b (ws c) w)) (122 + nb c w) (kPut b (upd ws c (kPut b (ws c) w) (nb c w)) ((w + 2) % 4))) := by
  have R2 : RA 122 36 (upd ws c (kPut b (ws c) w)) (upd A (122 + c) (kPut b (ws c) w)) := R.at hc
  rw [← R2 (nb c w) hn]
  rw [← R c hc]
  unfold f_M_putWall f_M_putWall_1 f_M_putWall_2 kPut kSet kClr
  rw [cellIn_eq c hc w hw, kb1_eq, nbI_some hn, klet_eq, back_way hw]
  have e1 : (nI (122 + c)).toNatClampNeg = 122 + c := nI_clamp (by omega)
  have e2 : (nI (122 + nb c w)).toNatClampNeg = 122 + nb c w := nI_clamp (by omega)
  have k1 : 122 + c < 218 := by omega
  have k2 : 122 + nb c w < 218 := by omega
  by_cases h : b = 0
  · simp only [if_pos h, nl122, nI_add, kx k1 (by decide), kx k2 (by decide), e1, e2]
  · simp only [if_neg h, nl122, nI_add, kx k1 (by decide), kx k2 (by decide), e1, e2]
theorem W_put {ws : Nat → Int32} {c w : Nat} (hc : c < 36) (hw : w < 4) (hn : nb c w < 36) (b : Int32) {W : Nat → Nat} (h1 : ∀ i, i < 36 → W i < 16 ∧ ws i = nI (W i)) (h2 : ∀ c w, c < 36 → w < 4 → nb c w < 36 → (W c).testBit w = (W (nb c w)).testBit ((w + 2) % 4)) :
    ∃ W' : Nat → Nat, (∀ i, i < 36 → W' i < 16 ∧ pW ws c (nb c w) w b i = nI (W' i)) ∧ (∀ c w, c < 36 → w < 4 → nb c w < 36 → (W' c).testBit w = (W' (nb c w)).testBit ((w + 2) % 4)) ∧ ∀ i j, i < 36 → j < 4 → (W' i).testBit j = if (i = c ∧ j = w) ∨ (i = nb c w ∧ j = (w + 2) % 4) then decide (¬ b = 0) else (W i).testBit j := by
  obtain ⟨hb1, hb2⟩ := nb_back c hc w hw hn
  have hbit : ∀ i j, i < 36 → j < 4 → ((if i = nb c w then nPut (decide (¬ b = 0)) (W (nb c w)) ((w + 2) % 4) else if i = c then nPut (decide (¬ b = 0)) (W c) w else W i)).testBit j = if (i = c ∧ j = w) ∨ (i = nb c w ∧ j = (w + 2) % 4) then decide (¬ b = 0) else (W i).testBit j := by
    intro i j hi hj
    by_cases q : i = nb c w
    · subst q
      rw [if_pos rfl, nPut_bit (h1 _ hn).1 (by omega) hj]
      by_cases q2 : j = (w + 2) % 4
      · rw [if_pos q2, if_pos (Or.inr ⟨rfl, q2⟩)]
      · rw [if_neg q2, if_neg (by rintro (⟨h, -⟩ | ⟨-, h⟩); exact hb2 h; exact q2 h)]
    · rw [if_neg q]
      by_cases q1 : i = c
      · subst q1
        rw [if_pos rfl, nPut_bit (h1 _ hc).1 hw hj]
        by_cases q2 : j = w
        · rw [if_pos q2, if_pos (Or.inl ⟨rfl, q2⟩)]
        · rw [if_neg q2, if_neg (by rintro (⟨-, h⟩ | ⟨h, -⟩); exact q2 h; exact q h)]
      · rw [if_neg q1, if_neg (by rintro (⟨h, -⟩ | ⟨h, -⟩); exact q1 h; exact q h)]
  refine ⟨fun i => if i = nb c w then nPut (decide (¬ b = 0)) (W (nb c w)) ((w + 2) % 4) else if i = c then nPut (decide (¬ b = 0)) (W c) w else W i, fun i hi => ?_, fun c' w' hc' hw' hn' => ?_, hbit⟩
  · unfold pW
    dsimp only
    by_cases q : i = nb c w
    · subst q
      rw [if_pos rfl, pk_us, pk_un hb2, (h1 _ hn).2, kPut_eq (h1 _ hn).1 (by omega)]
      exact ⟨nPut_lt (h1 _ hn).1 (by omega), rfl⟩
    · rw [if_neg q, pk_un q]
      by_cases q1 : i = c
      · subst q1
        rw [if_pos rfl, pk_us, (h1 _ hc).2, kPut_eq (h1 _ hc).1 hw]
        exact ⟨nPut_lt (h1 _ hc).1 hw, rfl⟩
      · rw [if_neg q1, pk_un q1]
        exact h1 i hi
  · have g1 := hbit c' w' hc' hw'
    have g2 := hbit (nb c' w') ((w' + 2) % 4) hn' (by omega)
    refine g1.trans (Eq.trans ?_ g2.symm)
    have h3 := h2 c' w' hc' hw' hn'
    obtain ⟨hb3, hb4⟩ := nb_back c' hc' w' hw' hn'
    have hww : ((w' + 2) % 4 + 2) % 4 = w' := by omega
    have hww2 : ((w + 2) % 4 + 2) % 4 = w := by omega
    have iff1 : ((c' = c ∧ w' = w) ∨ (c' = nb c w ∧ w' = (w + 2) % 4)) ↔ ((nb c' w' = c ∧ (w' + 2) % 4 = w) ∨ (nb c' w' = nb c w ∧ (w' + 2) % 4 = (w + 2) % 4)) := by
      constructor
      · rintro (⟨rfl, rfl⟩ | ⟨e1, e2⟩)
        · exact Or.inr ⟨rfl, rfl⟩
        · refine Or.inl ⟨?_, by omega⟩
          rw [e1, e2, hb1]
      · rintro (⟨e1, e2⟩ | ⟨e1, e2⟩)
        · refine Or.inr ⟨?_, by omega⟩
          rw [e1, e2] at hb3
          exact hb3.symm
        · refine Or.inl ⟨?_, by omega⟩
          rw [e1, e2, hb1] at hb3
          exact hb3.symm
    by_cases q : (c' = c ∧ w' = w) ∨ (c' = nb c w ∧ w' = (w + 2) % 4)
    · rw [if_pos q, if_pos (iff1.mp q)]
    · rw [if_neg q, if_neg (fun h => q (iff1.mpr h)), h3]

theorem RI.wall {mo vo ou fe fq pi vt ash nu bu se st z : Int32} {hs ag ws ki ce ow pu ch sh di : Nat → Int32} {A : Nat → Int32} {c w : Nat} (hc : c < 36) (hw : w < 4) (hn : nb c w < 36) (b : Int32) (R : RI mo vo ou fe fq pi vt ash hs ag ws nu bu ki ce ow pu se st z ch sh di A) : RI mo vo ou fe fq pi vt ash hs ag (pW ws c (nb c w) w b) nu bu ki ce ow pu se st z ch sh di (upd (upd A (122 + c) (kPut b (ws c) w)) (122 + nb c w) (kPut b (upd ws c (kPut b (ws c) w) (nb c w)) ((w + 2) % 4))) := by
  obtain ⟨⟨⟨r1, r2, r3, r4, r5, r6⟩, r7, r8⟩, i1, i2, i3, i4, i5, i6, i7, i8, i9, i10⟩ := R
  exact ⟨⟨⟨(r1.out (by omega)).out (by omega), (r2.out (by omega)).out (by omega), (r3.at hc).at hn, (r4.out (by omega)).out (by omega), (r5.out (by omega)).out (by omega), (r6.out (by omega)).out (by omega)⟩, (r7.out (by omega)).out (by omega), (r8.out (by omega)).out (by omega)⟩, i1, i2, i3, (by obtain ⟨W, h1, h2⟩ := i4; obtain ⟨W', h3, h4, -⟩ := W_put hc hw hn b h1 h2; exact ⟨W', h3, h4⟩), i5, i6, i7, i8, i9, i10⟩
/-- a wall put where it is already: nothing changes -/
theorem pW_same {ws : Nat → Int32} {c w : Nat} (hc : c < 36) (hw : w < 4) (hn : nb c w < 36) {b : Int32} {W : Nat → Nat} (h1 : ∀ i, i < 36 → W i < 16 ∧ ws i = nI (W i)) (h2 : ∀ c w, c < 36 → w < 4 → nb c w < 36 → (W c).testBit w = (W (nb c w)).testBit ((w + 2) % 4)) (h : (W c).testBit w = decide (¬ b = 0)) : kPut b (ws c) w = ws c ∧ kPut b (ws (nb c w)) ((w + 2) % 4) = ws (nb c w) := by
  have key : ∀ a w, a < 16 → w < 4 → a.testBit w = decide (¬ b = 0) → nPut (decide (¬ b = 0)) a w = a := by
    intro a w ha hw e
    rw [← e]
    have t : ∀ a, a < 16 → ∀ w, w < 4 → nPut (a.testBit w) a w = a := by decide +kernel
    exact t a ha w hw
  refine ⟨?_, ?_⟩
  · rw [(h1 c hc).2, kPut_eq (h1 c hc).1 hw, key _ _ (h1 c hc).1 hw h]
  · rw [(h1 _ hn).2, kPut_eq (h1 _ hn).1 (by omega), key _ _ (h1 _ hn).1 (by omega) ((h2 c w hc hw hn).symm.trans h)]
theorem isWalled_x {ws : Nat → Int32} {c w a : Nat} (hc : c < 36) (hw : w < 4) (ha : a < 16) (h : ws c = nI a) : f_Gr_isWalled ws (nI c) (nI w) = some (if a.testBit w then 1 else 0) := by
  unfold f_Gr_isWalled
  rw [if_neg (nI_pos (by omega)), if_neg (show ¬ (36 : Int32) ≤ nI c from nI_ge (b := 36) hc (by decide)), kx hc (by decide), nI_clamp (by omega), h, bit_4 a ha w hw]
  cases a.testBit w <;> rfl
theorem hasWall_m {A : Nat → Int32} {c w a : Nat} (hc : c < 36) (hw : w < 4) (ha : a < 16) (h : A (122 + c) = nI a) : f_M_hasWall A (nI c) (nI w) = some (if a.testBit w then 1 else 0) := by
  unfold f_M_hasWall
  rw [nl122, nI_add, kx (by omega) (by decide), nI_clamp (by omega), h, bit_4 a ha w hw]
  cases a.testBit w <;> rfl
theorem upd_id {f : Nat → Int32} {k : Nat} {v : Int32} (h : v = f k) : upd f k v = f := by
  funext j
  by_cases q : j = k
  · subst q; rw [pk_us, h]
  · rw [pk_un q]

theorem sim_wall {mo vo ou fe fq pi vt ash nu bu se st z : Int32} {hs ag ws ki ce ow pu ch sh di : Nat → Int32} {A fi fo : Nat → Int32} (R : RI mo vo ou fe fq pi vt ash hs ag ws nu bu ki ce ow pu se st z ch sh di A) (F : RF fi fo) (x1 x2 : Int32) {x3 : Int32} (hx3 : x3 = 0 ∨ x3 = 1) : ∃ r ws' fi' A' fo', f_X_wall ws fi x1 x2 x3 = some (r, ws', fi') ∧ f_M_wall A fo kDown kAlong x1 x2 x3 = some (r, A', fo') ∧ RI mo vo ou fe fq pi vt ash hs ag ws' nu bu ki ce ow pu se st z ch sh di A' ∧ RF fi' fo' := by
  obtain ⟨fi', fo', b1, b2, F'⟩ := fnd0 F
  unfold f_X_wall f_M_wall
  rcases wayTo_cases x1 x2 with ⟨hx, hm⟩ | ⟨c, n, w, hc, hn, hw, hnb, rfl, rfl, hx, hm⟩
  · refine ⟨-1000000001, ws, fi', A, fo', ?_, ?_, R, F'⟩
    · rw [hx, kb1_eq, if_neg (by decide), b1, kb2_eq]
    · rw [hm, kb1_eq, if_neg (by decide), b2, kb2_eq]
  subst hnb
  obtain ⟨W, h1, h2⟩ := R.2.2.2.2.1
  have r3 := R.1.1.2.2.1
  rw [hx, hm, kb1_eq, kb1_eq, if_pos (nI_pos' (by omega)), if_pos (nI_pos' (by omega)), isWalled_x hc hw (h1 c hc).1 (h1 c hc).2, hasWall_m hc hw (h1 c hc).1 ((r3 c hc).trans (h1 c hc).2), kb1_eq, kb1_eq]
  have hm1 : ∀ s0, f_M_wall_1 s0 (nI c) x3 (nI w) A fo kDown kAlong = some (s0, upd (upd A (122 + c) (kPut x3 (ws c) w)) (122 + nb c w) (kPut x3 (upd ws c (kPut x3 (ws c) w) (nb c w)) ((w + 2) % 4)), fo) := by
    intro s0
    unfold f_M_wall_1
    rw [putWall_m r3 hc hw hn, kb1_eq]
  rw [hm1, hm1]
  by_cases q : (if (W c).testBit w then (1 : Int32) else 0) = x3
  · rw [if_pos q, if_pos q]
    have hb : (W c).testBit w = decide (¬ x3 = 0) := by
      rw [← q]
      cases (W c).testBit w <;> rfl
    obtain ⟨p1, p2⟩ := pW_same hc hw hn h1 h2 hb
    refine ⟨0, ws, fi, A, fo, rfl, ?_, R, F⟩
    rw [p1, upd_id (f := ws) (k := c) rfl, p2, upd_id (r3 c hc).symm, upd_id (r3 _ hn).symm]
  · rw [if_neg q, if_neg q]
    exact ⟨1, pW ws c (nb c w) w x3, fi, _, fo, by rw [putWall_x ws hc hw hn, kb1_eq], rfl, R.wall hc hw hn x3, F⟩
-- who stands on a cell
theorem farmOn_l (ce : Nat → Int32) (x : Int32) {N : Nat} (hN : N ≤ 12) : ∀ n k, N - k < n → k ≤ N → (∀ f, f < k → ¬ ce f = x) → ∃ r, fl_Fa_farmOn_1 x (nI N) ce n (nI k) = some r ∧ ((r = -1 ∧ ∀ f, f < N → ¬ ce f = x) ∨ ∃ f, f < N ∧ r = nI f ∧ ce f = x) := by
  intro n
  induction n with
  | zero => intro k h; exact absurd h (by omega)
  | succ n ih =>
    intro k h hk hno
    rw [fl_Fa_farmOn_1_s]
    unfold fb_Fa_farmOn_1
    by_cases q : k = N
    · subst q
      rw [if_pos (nI_le (Nat.le_refl _) (by omega))]
      exact ⟨-1, rfl, Or.inl ⟨rfl, hno⟩⟩
    · rw [if_neg (nI_ge (by omega) (by omega)), kx (by omega) (by decide), nI_clamp (by omega)]
      by_cases q2 : ce k = x
      · rw [if_pos q2]
        exact ⟨nI k, rfl, Or.inr ⟨k, by omega, rfl, q2⟩⟩
      · rw [if_neg q2, nI_1]
        refine ih (k + 1) (by omega) (by omega) (fun f hf => ?_)
        rcases Nat.lt_or_ge f k with z | z
        · exact hno f z
        · have : f = k := by omega
          subst this; exact q2
theorem farmOn_x (ce : Nat → Int32) (x : Int32) {N : Nat} (hN : N ≤ 12) : ∃ r, f_Fa_farmOn (nI N) ce x = some r ∧ ((r = -1 ∧ ∀ f, f < N → ¬ ce f = x) ∨ ∃ f, f < N ∧ r = nI f ∧ ce f = x) :=
  farmOn_l ce x hN kFuel 0 (by unfold kFuel; omega) (by omega) (fun f hf => absurd hf (by omega))
theorem farmAt_l {A ce : Nat → Int32} (x : Int32) {N : Nat} (hN : N ≤ 12) (hA : A 10 = nI N) (hce : ∀ f, f < 12 → A (158 + 5 * f + 1) = ce f) : ∀ n k acc, N - k < n → k ≤ N → ((acc = -1 ∧ ∀ f, f < k → ¬ ce f = x) ∨ ∃ f, f < k ∧ acc = nI f ∧ ce f = x) → ∃ r, fl_M_farmAt_1 x A n acc (nI k) = some r ∧ ((r = -1 ∧ ∀ f, f < N → ¬ ce f = x) ∨ ∃ f, f < N ∧ r = nI f ∧ ce f = x) := by
  intro n
  induction n with
  | zero => intro k acc h; exact absurd h (by omega)
  | succ n ih =>
    intro k acc h hk hac
    rw [fl_M_farmAt_1_s]
    unfold fb_M_farmAt_1
    rw [hA]
    by_cases q : k = N
    · subst q
      rw [if_pos (nI_le (Nat.le_refl _) (by omega))]
      exact ⟨acc, rfl, hac⟩
    · rw [if_neg (nI_ge (by omega) (by omega)), nl1, M_farmIs_eq A (by omega) (by decide), kb1_eq, hce k (by omega)]
      by_cases q2 : ce k = x
      · rw [if_pos q2, show (nI k + nI 1) = nI (k + 1) from nI_add k 1]
        exact ih (k + 1) (nI k) (by omega) (by omega) (Or.inr ⟨k, by omega, rfl, q2⟩)
      · rw [if_neg q2, show (nI k + nI 1) = nI (k + 1) from nI_add k 1]
        refine ih (k + 1) acc (by omega) (by omega) ?_
        rcases hac with ⟨h1, h2⟩ | ⟨f, h1, h2, h3⟩
        · refine Or.inl ⟨h1, fun f hf => ?_⟩
          rcases Nat.lt_or_ge f k with z | z
          · exact h2 f z
          · have : f = k := by omega
            subst this; exact q2
        · exact Or.inr ⟨f, by omega, h2, h3⟩
theorem farmAt_m {A ce : Nat → Int32} (x : Int32) {N : Nat} (hN : N ≤ 12) (hA : A 10 = nI N) (hce : ∀ f, f < 12 → A (158 + 5 * f + 1) = ce f) : ∃ r, f_M_farmAt A x = some r ∧ ((r = -1 ∧ ∀ f, f < N → ¬ ce f = x) ∨ ∃ f, f < N ∧ r = nI f ∧ ce f = x) :=
  farmAt_l x hN hA hce kFuel 0 (-1) (by unfold kFuel; omega) (by omega) (Or.inl ⟨rfl, fun f hf => absurd hf (by omega)⟩)
theorem farm_same {A ce : Nat → Int32} (x : Int32) {N : Nat} (hN : N ≤ 12) (hA : A 10 = nI N) (hce : ∀ f, f < 12 → A (158 + 5 * f + 1) = ce f) (hd : ∀ f g, f < N → g < N → ce f = ce g → f = g) : ∃ r, f_Fa_farmOn (nI N) ce x = some r ∧ f_M_farmAt A x = some r ∧ ((r = -1 ∧ ∀ f, f < N → ¬ ce f = x) ∨ ∃ f, f < N ∧ r = nI f ∧ ce f = x) := by
  obtain ⟨r, h1, h2⟩ := farmOn_x ce x hN
  obtain ⟨r', h3, h4⟩ := farmAt_m x hN hA hce
  have e : r' = r := by
    rcases h2 with ⟨a1, a2⟩ | ⟨f, a1, a2, a3⟩ <;> rcases h4 with ⟨b1, b2⟩ | ⟨g, b1, b2, b3⟩
    · rw [a1, b1]
    · exact absurd b3 (a2 g b1)
    · exact absurd a3 (b2 f a1)
    · rw [a2, b2, hd f g a1 b1 (a3.trans b3.symm)]
  subst e
  exact ⟨r', h1, h3, h2⟩

theorem sim_cellOf {mo vo ou fe fq pi vt ash nu bu se st z : Int32} {hs ag ws ki ce ow pu ch sh di : Nat → Int32} {A fi fo : Nat → Int32} (R : RI mo vo ou fe fq pi vt ash hs ag ws nu bu ki ce ow pu se st z ch sh di A) (F : RF fi fo) (x1 x2 : Int32) : ∃ r fi' fo', f_X_cellOf hs ag ws nu ce fi x1 x2 = some (r, fi') ∧ f_M_cellOf A fo x1 x2 = some (r, fo') ∧ RF fi' fo' := by
  obtain ⟨fi', fo', b1, b2, F'⟩ := fnd0 F
  obtain ⟨N, hN, rfl, -, hd, -⟩ := R.2.1
  unfold f_X_cellOf f_M_cellOf
  rcases isCell_cases x1 with ⟨hx, hm⟩ | ⟨c, hc, rfl, hx, hm⟩
  · refine ⟨-1000000001, fi', fo', ?_, ?_, F'⟩
    · rw [hx, kb1_eq, if_pos rfl, b1, kb2_eq]
    · rw [hm, kb1_eq, if_pos rfl, b2, kb2_eq]
  rw [hx, hm, kb1_eq, kb1_eq, if_neg i10, if_neg i10]
  have e1 : (nI c).toNatClampNeg = c := nI_clamp (by omega)
  by_cases q0 : x2 = 0
  · refine ⟨hs c, fi, fo, ?_, ?_, F⟩
    · rw [if_pos q0, kx hc (by decide), e1]
    · rw [if_pos q0, nl50, nI_add, kx (by omega) (by decide), nI_clamp (by omega), R.1.1.1 c hc]
  rw [if_neg q0, if_neg q0]
  by_cases q1 : x2 = 1
  · refine ⟨ag c, fi, fo, ?_, ?_, F⟩
    · rw [if_pos q1, kx hc (by decide), e1]
    · rw [if_pos q1, nl86, nI_add, kx (by omega) (by decide), nI_clamp (by omega), R.1.1.2.1 c hc]
  rw [if_neg q1, if_neg q1]
  by_cases q2 : x2 = 2
  · obtain ⟨r, h1, h2, -⟩ := farm_same (nI c) hN R.1.2.2.2.2.2.2.2.2.2.2.2.2.1 (fun f hf => (R.1.2.1 f hf).2.1) hd
    refine ⟨r, fi, fo, ?_, ?_, F⟩
    · rw [if_pos q2, h1, kb1_eq]
    · rw [if_pos q2, h2, kb1_eq]
  rw [if_neg q2, if_neg q2]
  by_cases q3 : x2 = 3
  · refine ⟨ws c, fi, fo, ?_, ?_, F⟩
    · rw [if_pos q3, kx hc (by decide), e1]
    · rw [if_pos q3, nl122, nI_add, kx (by omega) (by decide), nI_clamp (by omega), R.1.1.2.2.1 c hc]
  rw [if_neg q3, if_neg q3]
  exact ⟨-1000000001, fi', fo', by rw [b1, kb2_eq], by rw [b2, kb2_eq], F'⟩
