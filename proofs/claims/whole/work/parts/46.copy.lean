/-! copy -/
theorem copy5_l {t c n : Nat} (ht : t < 4) (hc : c + n ≤ 40) (fo : Nat → Int32) (mv : Nat → Int64) : ∀ k i nm, n - i < k → i ≤ n → ∃ nm', fl_M_copy_5 (nI t) (nI c) (nI n) fo mv k (nI i) nm = some (nI n, fo, nm', mv) ∧ ∀ j, nm' j = if 40 * t + c + i ≤ j ∧ j < 40 * t + c + n then mv (j - (40 * t + c)) else nm j := by
  intro k
  induction k with
  | zero => intro i _ h; exact absurd h (by omega)
  | succ k ih =>
    intro i nm h hi
    rw [fl_M_copy_5_s]
    unfold fb_M_copy_5
    by_cases q : i = n
    · subst q
      exact ⟨nm, by rw [if_pos (nI_le (Nat.le_refl _) (by omega))], fun j => (if_neg (by omega)).symm⟩
    · have k1 : (nI (40 * t + c + i)).toNatClampNeg = 40 * t + c + i := nI_clamp (by omega)
      have k2 : (nI i).toNatClampNeg = i := nI_clamp (by omega)
      rw [if_neg (nI_ge (by omega) (by omega)), nl40, pk_mul, nI_add, nI_add, kx (k := i) (n := 40) (by omega) (by decide), kx (k := 40 * t + c + i) (n := 160) (by omega) (by decide), k1, k2, nI_1]
      obtain ⟨nm', e1, e2⟩ := ih (i + 1) (vp_updL nm (40 * t + c + i) (mv i)) (by omega) (by omega)
      refine ⟨nm', e1, fun j => ?_⟩
      rw [e2]
      by_cases z : j = 40 * t + c + i
      · subst z
        rw [if_neg (by omega), vl_us, if_pos (by omega), show 40 * t + c + i - (40 * t + c) = i by omega]
      · rw [vl_un z]
        exact ite_iff' (by omega) _ _
theorem copy4_l {s t a c n : Nat} (hs : s < 4) (ht : t < 4) (ha : a + n ≤ 40) (hc : c + n ≤ 40) (fo : Nat → Int32) (nm : Nat → Int64) : ∀ k i mv, n - i < k → i ≤ n → (∀ j, j < i → mv j = nm (40 * s + a + j)) → ∃ nm' mv', fl_M_copy_4 (nI s) (nI a) (nI t) (nI c) (nI n) fo nm k (nI i) mv = some (nI n, fo, nm', mv') ∧ ∀ j, nm' j = if 40 * t + c ≤ j ∧ j < 40 * t + c + n then nm (40 * s + a + (j - (40 * t + c))) else nm j := by
  intro k
  induction k with
  | zero => intro i _ h; exact absurd h (by omega)
  | succ k ih =>
    intro i mv h hi hm
    rw [fl_M_copy_4_s]
    unfold fb_M_copy_4
    by_cases q : i = n
    · subst q
      obtain ⟨nm', e1, e2⟩ := copy5_l ht hc fo mv kFuel 0 nm (by unfold kFuel; omega) (by omega)
      refine ⟨nm', mv, by rw [if_pos (nI_le (Nat.le_refl _) (by omega))]; exact e1, fun j => ?_⟩
      rw [e2, Nat.add_zero]
      by_cases z : 40 * t + c ≤ j ∧ j < 40 * t + c + i
      · rw [if_pos z, if_pos z, hm _ (by omega)]
      · rw [if_neg z, if_neg z]
    · have k1 : (nI (40 * s + a + i)).toNatClampNeg = 40 * s + a + i := nI_clamp (by omega)
      have k2 : (nI i).toNatClampNeg = i := nI_clamp (by omega)
      rw [if_neg (nI_ge (by omega) (by omega)), nl40, pk_mul, nI_add, nI_add, kx (k := 40 * s + a + i) (n := 160) (by omega) (by decide), kx (k := i) (n := 40) (by omega) (by decide), k1, k2, nI_1]
      refine ih (i + 1) _ (by omega) (by omega) (fun j hj => ?_)
      by_cases z : j = i
      · subst z; rw [vl_us]
      · rw [vl_un z]; exact hm j (by omega)

theorem hasRun_or {n : Int32} {kk : Nat} (hkk : kk ≤ 40) (hn : n = nI kk) (x y : Int32) : (f_Sh_hasRun n x y = some 0 ∧ (x < 0 ∨ y < 0 ∨ (¬ x < 0 ∧ ¬ y < 0 ∧ 0 < lg_cmp (x.toInt64 + y.toInt64) n.toInt64))) ∨ ∃ a m, x = nI a ∧ y = nI m ∧ a + m ≤ kk ∧ f_Sh_hasRun n x y = some 1 ∧ lg_cmp (x.toInt64 + y.toInt64) n.toInt64 ≤ 0 := by
  unfold f_Sh_hasRun
  by_cases q1 : x < 0
  · exact Or.inl ⟨by rw [if_pos q1], Or.inl q1⟩
  by_cases q2 : y < 0
  · exact Or.inl ⟨by rw [if_neg q1, if_pos q2], Or.inr (Or.inl q2)⟩
  obtain ⟨a, ha, rfl⟩ := nI_of q1
  obtain ⟨m, hm, rfl⟩ := nI_of q2
  subst hn
  rw [if_neg q1, if_neg q2, nI_l ha, nI_l hm, nI_l (show kk < 2 ^ 31 by omega), lN_add]
  have key : (nI kk - nI a < nI m) ↔ kk < a + m := by
    rw [Int32.lt_iff_toInt_lt, Int32.toInt_sub, nI_toInt (show kk < 2 ^ 31 by omega), nI_toInt ha, nI_toInt hm, Int.bmod_def]
    split <;> omega
  by_cases z : kk < a + m
  · refine Or.inl ⟨by rw [if_pos (key.mpr z)], Or.inr (Or.inr ⟨q1, q2, ?_⟩)⟩
    rw [lg_cmp_gt]
    exact (pk_lLT (by omega) (by omega)).mpr z
  · refine Or.inr ⟨a, m, rfl, rfl, by omega, by rw [if_neg (fun c => z (key.mp c))], ?_⟩
    rw [lg_cmp_le]
    exact (pk_lLE (by omega) (by omega)).mpr (by omega)

theorem kb1_go {α β : Type} {x : Option α} {a : α} {f : α → Option β} {y : Option β} (h : x = some a) (k : f a = y) : kb1 x f = y := by subst h; exact k
theorem if_go0 {α : Type} {c : Prop} [d : Decidable c] {a b y : α} (h : ¬ c) (k : b = y) : @ite α c d a b = y := (if_neg h).trans k
theorem if_go1 {α : Type} {c : Prop} [d : Decidable c] {a b y : α} (h : c) (k : a = y) : @ite α c d a b = y := (if_pos h).trans k
/-- the small branch of copy in the class -/
noncomputable def gX {α : Type} (bs ns bt nt : Int32) (C2 C3 C4 C5 : Option α) (x2 x4 x5 : Int32) : Option α := kb1 (f_Sh_isMissing bs) fun r => (if r = 0 then kb1 (f_Sh_isMissing bt) fun r => (if r = 0 then (if bs = bt then kb1 (f_Sh_hasRun ns x2 x5) fun r => (if r = 0 then C3 else kb1 (f_Sh_hasRun nt x4 x5) fun r => (if r = 0 then C3 else (if ¬ x2 < 0 ∧ ¬ x4 < 0 ∧ ¬ x5 < 0 ∧ x2.toNatClampNeg + x5.toNatClampNeg ≤ 40 ∧ x4.toNatClampNeg + x5.toNatClampNeg ≤ 40 then C5 else none))) else C4) else C2) else C2)
theorem isSheet_y {s : Nat} (hs : s < 4) : f_X_isSheet (nI s) = some 1 := by
  rcases isSheet_cases (nI s) with ⟨hx, -⟩ | ⟨k, hk, e, hx, -⟩
  · exfalso
    have c4 : s = 0 ∨ s = 1 ∨ s = 2 ∨ s = 3 := by omega
    rcases c4 with rfl | rfl | rfl | rfl <;> exact absurd hx (by decide)
  · exact hx
theorem X_copy_00 {b0 n0 b1 n1 b2 n2 b3 n3 : Int32} {l0 l1 l2 l3 : Nat → Int64} {fi : Nat → Int32} (x2 x4 x5 : Int32) : f_X_copy b0 n0 l0 b1 n1 l1 b2 n2 l2 b3 n3 l3 fi (nI 0) x2 (nI 0) x4 x5 = gX b0 n0 b0 n0 (f_X_copy_2 l0 l1 l2 l3 fi) (f_X_copy_3 l0 l1 l2 l3 fi) (kb2 (f_X_finding fi 2) fun r f => some (r, l0, l1, l2, l3, f)) (some (x5, va_cpy l0 l0 x2.toNatClampNeg x4.toNatClampNeg x5.toNatClampNeg, l1, l2, l3, fi)) x2 x4 x5 := by
  unfold f_X_copy gX
  refine kb1_go (isSheet_y (by decide)) ?_
  refine if_go0 i10 ?_
  refine kb1_go (isSheet_y (by decide)) ?_
  refine if_go0 i10 ?_
  refine if_go1 (by decide) ?_
  refine congrArg (kb1 (f_Sh_isMissing b0)) (funext fun r => ?_)
  by_cases q : r = 0
  · refine if_go1 q ((?_ : _ = _).trans (if_pos q).symm)
    refine if_go1 (by decide) ?_
    rfl
  · rw [if_neg q, if_neg q]
theorem X_copy_01 {b0 n0 b1 n1 b2 n2 b3 n3 : Int32} {l0 l1 l2 l3 : Nat → Int64} {fi : Nat → Int32} (x2 x4 x5 : Int32) : f_X_copy b0 n0 l0 b1 n1 l1 b2 n2 l2 b3 n3 l3 fi (nI 0) x2 (nI 1) x4 x5 = gX b0 n0 b1 n1 (f_X_copy_2 l0 l1 l2 l3 fi) (f_X_copy_3 l0 l1 l2 l3 fi) (kb2 (f_X_finding fi 2) fun r f => some (r, l0, l1, l2, l3, f)) (some (x5, l0, va_cpy l0 l1 x2.toNatClampNeg x4.toNatClampNeg x5.toNatClampNeg, l2, l3, fi)) x2 x4 x5 := by
  unfold f_X_copy gX
  refine kb1_go (isSheet_y (by decide)) ?_
  refine if_go0 i10 ?_
  refine kb1_go (isSheet_y (by decide)) ?_
  refine if_go0 i10 ?_
  refine if_go1 (by decide) ?_
  refine congrArg (kb1 (f_Sh_isMissing b0)) (funext fun r => ?_)
  by_cases q : r = 0
  · refine if_go1 q ((?_ : _ = _).trans (if_pos q).symm)
    refine if_go0 (by decide) ?_
    refine if_go1 (by decide) ?_
    rfl
  · rw [if_neg q, if_neg q]
theorem X_copy_02 {b0 n0 b1 n1 b2 n2 b3 n3 : Int32} {l0 l1 l2 l3 : Nat → Int64} {fi : Nat → Int32} (x2 x4 x5 : Int32) : f_X_copy b0 n0 l0 b1 n1 l1 b2 n2 l2 b3 n3 l3 fi (nI 0) x2 (nI 2) x4 x5 = gX b0 n0 b2 n2 (f_X_copy_2 l0 l1 l2 l3 fi) (f_X_copy_3 l0 l1 l2 l3 fi) (kb2 (f_X_finding fi 2) fun r f => some (r, l0, l1, l2, l3, f)) (some (x5, l0, l1, va_cpy l0 l2 x2.toNatClampNeg x4.toNatClampNeg x5.toNatClampNeg, l3, fi)) x2 x4 x5 := by
  unfold f_X_copy gX
  refine kb1_go (isSheet_y (by decide)) ?_
  refine if_go0 i10 ?_
  refine kb1_go (isSheet_y (by decide)) ?_
  refine if_go0 i10 ?_
  refine if_go1 (by decide) ?_
  refine congrArg (kb1 (f_Sh_isMissing b0)) (funext fun r => ?_)
  by_cases q : r = 0
  · refine if_go1 q ((?_ : _ = _).trans (if_pos q).symm)
    refine if_go0 (by decide) ?_
    refine if_go0 (by decide) ?_
    refine if_go1 (by decide) ?_
    rfl
  · rw [if_neg q, if_neg q]
theorem X_copy_03 {b0 n0 b1 n1 b2 n2 b3 n3 : Int32} {l0 l1 l2 l3 : Nat → Int64} {fi : Nat → Int32} (x2 x4 x5 : Int32) : f_X_copy b0 n0 l0 b1 n1 l1 b2 n2 l2 b3 n3 l3 fi (nI 0) x2 (nI 3) x4 x5 = gX b0 n0 b3 n3 (f_X_copy_2 l0 l1 l2 l3 fi) (f_X_copy_3 l0 l1 l2 l3 fi) (kb2 (f_X_finding fi 2) fun r f => some (r, l0, l1, l2, l3, f)) (some (x5, l0, l1, l2, va_cpy l0 l3 x2.toNatClampNeg x4.toNatClampNeg x5.toNatClampNeg, fi)) x2 x4 x5 := by
  unfold f_X_copy gX
  refine kb1_go (isSheet_y (by decide)) ?_
  refine if_go0 i10 ?_
  refine kb1_go (isSheet_y (by decide)) ?_
  refine if_go0 i10 ?_
  refine if_go1 (by decide) ?_
  refine congrArg (kb1 (f_Sh_isMissing b0)) (funext fun r => ?_)
  by_cases q : r = 0
  · refine if_go1 q ((?_ : _ = _).trans (if_pos q).symm)
    refine if_go0 (by decide) ?_
    refine if_go0 (by decide) ?_
    refine if_go0 (by decide) ?_
    refine if_go1 (by decide) ?_
    rfl
  · rw [if_neg q, if_neg q]
theorem X_copy_10 {b0 n0 b1 n1 b2 n2 b3 n3 : Int32} {l0 l1 l2 l3 : Nat → Int64} {fi : Nat → Int32} (x2 x4 x5 : Int32) : f_X_copy b0 n0 l0 b1 n1 l1 b2 n2 l2 b3 n3 l3 fi (nI 1) x2 (nI 0) x4 x5 = gX b1 n1 b0 n0 (f_X_copy_2 l0 l1 l2 l3 fi) (f_X_copy_3 l0 l1 l2 l3 fi) (kb2 (f_X_finding fi 2) fun r f => some (r, l0, l1, l2, l3, f)) (some (x5, va_cpy l1 l0 x2.toNatClampNeg x4.toNatClampNeg x5.toNatClampNeg, l1, l2, l3, fi)) x2 x4 x5 := by
  unfold f_X_copy gX
  refine kb1_go (isSheet_y (by decide)) ?_
  refine if_go0 i10 ?_
  refine kb1_go (isSheet_y (by decide)) ?_
  refine if_go0 i10 ?_
  refine if_go0 (by decide) ?_
  refine if_go1 (by decide) ?_
  refine congrArg (kb1 (f_Sh_isMissing b1)) (funext fun r => ?_)
  by_cases q : r = 0
  · refine if_go1 q ((?_ : _ = _).trans (if_pos q).symm)
    refine if_go1 (by decide) ?_
    rfl
  · rw [if_neg q, if_neg q]
theorem X_copy_11 {b0 n0 b1 n1 b2 n2 b3 n3 : Int32} {l0 l1 l2 l3 : Nat → Int64} {fi : Nat → Int32} (x2 x4 x5 : Int32) : f_X_copy b0 n0 l0 b1 n1 l1 b2 n2 l2 b3 n3 l3 fi (nI 1) x2 (nI 1) x4 x5 = gX b1 n1 b1 n1 (f_X_copy_2 l0 l1 l2 l3 fi) (f_X_copy_3 l0 l1 l2 l3 fi) (kb2 (f_X_finding fi 2) fun r f => some (r, l0, l1, l2, l3, f)) (some (x5, l0, va_cpy l1 l1 x2.toNatClampNeg x4.toNatClampNeg x5.toNatClampNeg, l2, l3, fi)) x2 x4 x5 := by
  unfold f_X_copy gX
  refine kb1_go (isSheet_y (by decide)) ?_
  refine if_go0 i10 ?_
  refine kb1_go (isSheet_y (by decide)) ?_
  refine if_go0 i10 ?_
  refine if_go0 (by decide) ?_
  refine if_go1 (by decide) ?_
  refine congrArg (kb1 (f_Sh_isMissing b1)) (funext fun r => ?_)
  by_cases q : r = 0
  · refine if_go1 q ((?_ : _ = _).trans (if_pos q).symm)
    refine if_go0 (by decide) ?_
    refine if_go1 (by decide) ?_
    rfl
  · rw [if_neg q, if_neg q]
theorem X_copy_12 {b0 n0 b1 n1 b2 n2 b3 n3 : Int32} {l0 l1 l2 l3 : Nat → Int64} {fi : Nat → Int32} (x2 x4 x5 : Int32) : f_X_copy b0 n0 l0 b1 n1 l1 b2 n2 l2 b3 n3 l3 fi (nI 1) x2 (nI 2) x4 x5 = gX b1 n1 b2 n2 (f_X_copy_2 l0 l1 l2 l3 fi) (f_X_copy_3 l0 l1 l2 l3 fi) (kb2 (f_X_finding fi 2) fun r f => some (r, l0, l1, l2, l3, f)) (some (x5, l0, l1, va_cpy l1 l2 x2.toNatClampNeg x4.toNatClampNeg x5.toNatClampNeg, l3, fi)) x2 x4 x5 := by
  unfold f_X_copy gX
  refine kb1_go (isSheet_y (by decide)) ?_
  refine if_go0 i10 ?_
  refine kb1_go (isSheet_y (by decide)) ?_
  refine if_go0 i10 ?_
  refine if_go0 (by decide) ?_
  refine if_go1 (by decide) ?_
  refine congrArg (kb1 (f_Sh_isMissing b1)) (funext fun r => ?_)
  by_cases q : r = 0
  · refine if_go1 q ((?_ : _ = _).trans (if_pos q).symm)
    refine if_go0 (by decide) ?_
    refine if_go0 (by decide) ?_
    refine if_go1 (by decide) ?_
    rfl
  · rw [if_neg q, if_neg q]
theorem X_copy_13 {b0 n0 b1 n1 b2 n2 b3 n3 : Int32} {l0 l1 l2 l3 : Nat → Int64} {fi : Nat → Int32} (x2 x4 x5 : Int32) : f_X_copy b0 n0 l0 b1 n1 l1 b2 n2 l2 b3 n3 l3 fi (nI 1) x2 (nI 3) x4 x5 = gX b1 n1 b3 n3 (f_X_copy_2 l0 l1 l2 l3 fi) (f_X_copy_3 l0 l1 l2 l3 fi) (kb2 (f_X_finding fi 2) fun r f => some (r, l0, l1, l2, l3, f)) (some (x5, l0, l1, l2, va_cpy l1 l3 x2.toNatClampNeg x4.toNatClampNeg x5.toNatClampNeg, fi)) x2 x4 x5 := by
  unfold f_X_copy gX
  refine kb1_go (isSheet_y (by decide)) ?_
  refine if_go0 i10 ?_
  refine kb1_go (isSheet_y (by decide)) ?_
  refine if_go0 i10 ?_
  refine if_go0 (by decide) ?_
  refine if_go1 (by decide) ?_
  refine congrArg (kb1 (f_Sh_isMissing b1)) (funext fun r => ?_)
  by_cases q : r = 0
  · refine if_go1 q ((?_ : _ = _).trans (if_pos q).symm)
    refine if_go0 (by decide) ?_
    refine if_go0 (by decide) ?_
    refine if_go0 (by decide) ?_
    refine if_go1 (by decide) ?_
    rfl
  · rw [if_neg q, if_neg q]
theorem X_copy_20 {b0 n0 b1 n1 b2 n2 b3 n3 : Int32} {l0 l1 l2 l3 : Nat → Int64} {fi : Nat → Int32} (x2 x4 x5 : Int32) : f_X_copy b0 n0 l0 b1 n1 l1 b2 n2 l2 b3 n3 l3 fi (nI 2) x2 (nI 0) x4 x5 = gX b2 n2 b0 n0 (f_X_copy_2 l0 l1 l2 l3 fi) (f_X_copy_3 l0 l1 l2 l3 fi) (kb2 (f_X_finding fi 2) fun r f => some (r, l0, l1, l2, l3, f)) (some (x5, va_cpy l2 l0 x2.toNatClampNeg x4.toNatClampNeg x5.toNatClampNeg, l1, l2, l3, fi)) x2 x4 x5 := by
  unfold f_X_copy gX
  refine kb1_go (isSheet_y (by decide)) ?_
  refine if_go0 i10 ?_
  refine kb1_go (isSheet_y (by decide)) ?_
  refine if_go0 i10 ?_
  refine if_go0 (by decide) ?_
  refine if_go0 (by decide) ?_
  refine if_go1 (by decide) ?_
  refine congrArg (kb1 (f_Sh_isMissing b2)) (funext fun r => ?_)
  by_cases q : r = 0
  · refine if_go1 q ((?_ : _ = _).trans (if_pos q).symm)
    refine if_go1 (by decide) ?_
    rfl
  · rw [if_neg q, if_neg q]
theorem X_copy_21 {b0 n0 b1 n1 b2 n2 b3 n3 : Int32} {l0 l1 l2 l3 : Nat → Int64} {fi : Nat → Int32} (x2 x4 x5 : Int32) : f_X_copy b0 n0 l0 b1 n1 l1 b2 n2 l2 b3 n3 l3 fi (nI 2) x2 (nI 1) x4 x5 = gX b2 n2 b1 n1 (f_X_copy_2 l0 l1 l2 l3 fi) (f_X_copy_3 l0 l1 l2 l3 fi) (kb2 (f_X_finding fi 2) fun r f => some (r, l0, l1, l2, l3, f)) (some (x5, l0, va_cpy l2 l1 x2.toNatClampNeg x4.toNatClampNeg x5.toNatClampNeg, l2, l3, fi)) x2 x4 x5 := by
  unfold f_X_copy gX
  refine kb1_go (isSheet_y (by decide)) ?_
  refine if_go0 i10 ?_
  refine kb1_go (isSheet_y (by decide)) ?_
  refine if_go0 i10 ?_
  refine if_go0 (by decide) ?_
  refine if_go0 (by decide) ?_
  refine if_go1 (by decide) ?_
  refine congrArg (kb1 (f_Sh_isMissing b2)) (funext fun r => ?_)
  by_cases q : r = 0
  · refine if_go1 q ((?_ : _ = _).trans (if_pos q).symm)
    refine if_go0 (by decide) ?_
    refine if_go1 (by decide) ?_
    rfl
  · rw [if_neg q, if_neg q]
theorem X_copy_22 {b0 n0 b1 n1 b2 n2 b3 n3 : Int32} {l0 l1 l2 l3 : Nat → Int64} {fi : Nat → Int32} (x2 x4 x5 : Int32) : f_X_copy b0 n0 l0 b1 n1 l1 b2 n2 l2 b3 n3 l3 fi (nI 2) x2 (nI 2) x4 x5 = gX b2 n2 b2 n2 (f_X_copy_2 l0 l1 l2 l3 fi) (f_X_copy_3 l0 l1 l2 l3 fi) (kb2 (f_X_finding fi 2) fun r f => some (r, l0, l1, l2, l3, f)) (some (x5, l0, l1, va_cpy l2 l2 x2.toNatClampNeg x4.toNatClampNeg x5.toNatClampNeg, l3, fi)) x2 x4 x5 := by
  unfold f_X_copy gX
  refine kb1_go (isSheet_y (by decide)) ?_
  refine if_go0 i10 ?_
  refine kb1_go (isSheet_y (by decide)) ?_
  refine if_go0 i10 ?_
  refine if_go0 (by decide) ?_
  refine if_go0 (by decide) ?_
  refine if_go1 (by decide) ?_
  refine congrArg (kb1 (f_Sh_isMissing b2)) (funext fun r => ?_)
  by_cases q : r = 0
  · refine if_go1 q ((?_ : _ = _).trans (if_pos q).symm)
    refine if_go0 (by decide) ?_
    refine if_go0 (by decide) ?_
    refine if_go1 (by decide) ?_
    rfl
  · rw [if_neg q, if_neg q]
theorem X_copy_23 {b0 n0 b1 n1 b2 n2 b3 n3 : Int32} {l0 l1 l2 l3 : Nat → Int64} {fi : Nat → Int32} (x2 x4 x5 : Int32) : f_X_copy b0 n0 l0 b1 n1 l1 b2 n2 l2 b3 n3 l3 fi (nI 2) x2 (nI 3) x4 x5 = gX b2 n2 b3 n3 (f_X_copy_2 l0 l1 l2 l3 fi) (f_X_copy_3 l0 l1 l2 l3 fi) (kb2 (f_X_finding fi 2) fun r f => some (r, l0, l1, l2, l3, f)) (some (x5, l0, l1, l2, va_cpy l2 l3 x2.toNatClampNeg x4.toNatClampNeg x5.toNatClampNeg, fi)) x2 x4 x5 := by
  unfold f_X_copy gX
  refine kb1_go (isSheet_y (by decide)) ?_
  refine if_go0 i10 ?_
  refine kb1_go (isSheet_y (by decide)) ?_
  refine if_go0 i10 ?_
  refine if_go0 (by decide) ?_
  refine if_go0 (by decide) ?_
  refine if_go1 (by decide) ?_
  refine congrArg (kb1 (f_Sh_isMissing b2)) (funext fun r => ?_)
  by_cases q : r = 0
  · refine if_go1 q ((?_ : _ = _).trans (if_pos q).symm)
    refine if_go0 (by decide) ?_
    refine if_go0 (by decide) ?_
    refine if_go0 (by decide) ?_
    refine if_go1 (by decide) ?_
    rfl
  · rw [if_neg q, if_neg q]
theorem X_copy_30 {b0 n0 b1 n1 b2 n2 b3 n3 : Int32} {l0 l1 l2 l3 : Nat → Int64} {fi : Nat → Int32} (x2 x4 x5 : Int32) : f_X_copy b0 n0 l0 b1 n1 l1 b2 n2 l2 b3 n3 l3 fi (nI 3) x2 (nI 0) x4 x5 = gX b3 n3 b0 n0 (f_X_copy_2 l0 l1 l2 l3 fi) (f_X_copy_3 l0 l1 l2 l3 fi) (kb2 (f_X_finding fi 2) fun r f => some (r, l0, l1, l2, l3, f)) (some (x5, va_cpy l3 l0 x2.toNatClampNeg x4.toNatClampNeg x5.toNatClampNeg, l1, l2, l3, fi)) x2 x4 x5 := by
  unfold f_X_copy gX
  refine kb1_go (isSheet_y (by decide)) ?_
  refine if_go0 i10 ?_
  refine kb1_go (isSheet_y (by decide)) ?_
  refine if_go0 i10 ?_
  refine if_go0 (by decide) ?_
  refine if_go0 (by decide) ?_
  refine if_go0 (by decide) ?_
  refine if_go1 (by decide) ?_
  refine congrArg (kb1 (f_Sh_isMissing b3)) (funext fun r => ?_)
  by_cases q : r = 0
  · refine if_go1 q ((?_ : _ = _).trans (if_pos q).symm)
    refine if_go1 (by decide) ?_
    rfl
  · rw [if_neg q, if_neg q]
theorem X_copy_31 {b0 n0 b1 n1 b2 n2 b3 n3 : Int32} {l0 l1 l2 l3 : Nat → Int64} {fi : Nat → Int32} (x2 x4 x5 : Int32) : f_X_copy b0 n0 l0 b1 n1 l1 b2 n2 l2 b3 n3 l3 fi (nI 3) x2 (nI 1) x4 x5 = gX b3 n3 b1 n1 (f_X_copy_2 l0 l1 l2 l3 fi) (f_X_copy_3 l0 l1 l2 l3 fi) (kb2 (f_X_finding fi 2) fun r f => some (r, l0, l1, l2, l3, f)) (some (x5, l0, va_cpy l3 l1 x2.toNatClampNeg x4.toNatClampNeg x5.toNatClampNeg, l2, l3, fi)) x2 x4 x5 := by
  unfold f_X_copy gX
  refine kb1_go (isSheet_y (by decide)) ?_
  refine if_go0 i10 ?_
  refine kb1_go (isSheet_y (by decide)) ?_
  refine if_go0 i10 ?_
  refine if_go0 (by decide) ?_
  refine if_go0 (by decide) ?_
  refine if_go0 (by decide) ?_
  refine if_go1 (by decide) ?_
  refine congrArg (kb1 (f_Sh_isMissing b3)) (funext fun r => ?_)
  by_cases q : r = 0
  · refine if_go1 q ((?_ : _ = _).trans (if_pos q).symm)
    refine if_go0 (by decide) ?_
    refine if_go1 (by decide) ?_
    rfl
  · rw [if_neg q, if_neg q]
theorem X_copy_32 {b0 n0 b1 n1 b2 n2 b3 n3 : Int32} {l0 l1 l2 l3 : Nat → Int64} {fi : Nat → Int32} (x2 x4 x5 : Int32) : f_X_copy b0 n0 l0 b1 n1 l1 b2 n2 l2 b3 n3 l3 fi (nI 3) x2 (nI 2) x4 x5 = gX b3 n3 b2 n2 (f_X_copy_2 l0 l1 l2 l3 fi) (f_X_copy_3 l0 l1 l2 l3 fi) (kb2 (f_X_finding fi 2) fun r f => some (r, l0, l1, l2, l3, f)) (some (x5, l0, l1, va_cpy l3 l2 x2.toNatClampNeg x4.toNatClampNeg x5.toNatClampNeg, l3, fi)) x2 x4 x5 := by
  unfold f_X_copy gX
  refine kb1_go (isSheet_y (by decide)) ?_
  refine if_go0 i10 ?_
  refine kb1_go (isSheet_y (by decide)) ?_
  refine if_go0 i10 ?_
  refine if_go0 (by decide) ?_
  refine if_go0 (by decide) ?_
  refine if_go0 (by decide) ?_
  refine if_go1 (by decide) ?_
  refine congrArg (kb1 (f_Sh_isMissing b3)) (funext fun r => ?_)
  by_cases q : r = 0
  · refine if_go1 q ((?_ : _ = _).trans (if_pos q).symm)
    refine if_go0 (by decide) ?_
    refine if_go0 (by decide) ?_
    refine if_go1 (by decide) ?_
    rfl
  · rw [if_neg q, if_neg q]
theorem X_copy_33 {b0 n0 b1 n1 b2 n2 b3 n3 : Int32} {l0 l1 l2 l3 : Nat → Int64} {fi : Nat → Int32} (x2 x4 x5 : Int32) : f_X_copy b0 n0 l0 b1 n1 l1 b2 n2 l2 b3 n3 l3 fi (nI 3) x2 (nI 3) x4 x5 = gX b3 n3 b3 n3 (f_X_copy_2 l0 l1 l2 l3 fi) (f_X_copy_3 l0 l1 l2 l3 fi) (kb2 (f_X_finding fi 2) fun r f => some (r, l0, l1, l2, l3, f)) (some (x5, l0, l1, l2, va_cpy l3 l3 x2.toNatClampNeg x4.toNatClampNeg x5.toNatClampNeg, fi)) x2 x4 x5 := by
  unfold f_X_copy gX
  refine kb1_go (isSheet_y (by decide)) ?_
  refine if_go0 i10 ?_
  refine kb1_go (isSheet_y (by decide)) ?_
  refine if_go0 i10 ?_
  refine if_go0 (by decide) ?_
  refine if_go0 (by decide) ?_
  refine if_go0 (by decide) ?_
  refine if_go1 (by decide) ?_
  refine congrArg (kb1 (f_Sh_isMissing b3)) (funext fun r => ?_)
  by_cases q : r = 0
  · refine if_go1 q ((?_ : _ = _).trans (if_pos q).symm)
    refine if_go0 (by decide) ?_
    refine if_go0 (by decide) ?_
    refine if_go0 (by decide) ?_
    refine if_go1 (by decide) ?_
    rfl
  · rw [if_neg q, if_neg q]
theorem copy_end {α : Type} {s t : Nat} (hs : s < 4) (ht : t < 4) {bs ns bt nt : Int32} {ls lt : Nat → Int64} {wd sz : Nat → Int32} {nm : Nat → Int64} (Hs : RQ s bs ns ls wd sz nm) (Ht : RQ t bt nt lt wd sz nm) (C2 C3 C4 C5 : Option α) (fo : Nat → Int32) (mv : Nat → Int64) (x2 x4 x5 : Int32) :
    (gX bs ns bt nt C2 C3 C4 C5 x2 x4 x5 = C2 ∧ f_M_copy fo wd sz nm mv (nI s) x2 (nI t) x4 x5 = f_M_copy_2 fo nm mv) ∨
    (gX bs ns bt nt C2 C3 C4 C5 x2 x4 x5 = C3 ∧ f_M_copy fo wd sz nm mv (nI s) x2 (nI t) x4 x5 = f_M_copy_3 fo nm mv) ∨
    (gX bs ns bt nt C2 C3 C4 C5 x2 x4 x5 = C4 ∧ f_M_copy fo wd sz nm mv (nI s) x2 (nI t) x4 x5 = kb2 (f_M_finding fo (-1000000003)) fun r f => some (r, f, nm, mv)) ∨
    ∃ a m c, x2 = nI a ∧ x4 = nI c ∧ x5 = nI m ∧ a + m ≤ 40 ∧ c + m ≤ 40 ∧ gX bs ns bt nt C2 C3 C4 C5 x2 x4 x5 = C5 ∧ ∃ nm' mv', f_M_copy fo wd sz nm mv (nI s) x2 (nI t) x4 x5 = some (nI m, fo, nm', mv') ∧ ∀ j, nm' j = if 40 * t + c ≤ j ∧ j < 40 * t + c + m then nm (40 * s + a + (j - (40 * t + c))) else nm j := by
  obtain ⟨hws, hzs, -, -, ks, hks, hns⟩ := Hs
  obtain ⟨hwt, hzt, -, -, kt, hkt, hnt⟩ := Ht
  have q1 : ∀ {β : Type} (x : Option β), kidx (nI s) 4 x = x := fun x => kx hs (by decide) x
  have q2 : ∀ {β : Type} (x : Option β), kidx (nI t) 4 x = x := fun x => kx ht (by decide) x
  have cs : (nI s).toNatClampNeg = s := nI_clamp (by omega)
  have ct : (nI t).toNatClampNeg = t := nI_clamp (by omega)
  have ms : f_M_isSheet (nI s) = some 1 := by
    rcases isSheet_cases (nI s) with ⟨hx, -⟩ | ⟨k, hk, e, -, hm⟩
    · rw [isSheet_y hs] at hx; exact absurd hx (by decide)
    · exact hm
  have mt : f_M_isSheet (nI t) = some 1 := by
    rcases isSheet_cases (nI t) with ⟨hx, -⟩ | ⟨k, hk, e, -, hm⟩
    · rw [isSheet_y ht] at hx; exact absurd hx (by decide)
    · exact hm
  have M0 : ∀ y, (if bs = 0 then f_M_copy_2 fo nm mv else if bt = 0 then f_M_copy_2 fo nm mv else if bs = bt then (if x2 < 0 then f_M_copy_3 fo nm mv else if x4 < 0 then f_M_copy_3 fo nm mv else if x5 < 0 then f_M_copy_3 fo nm mv else if 0 < lg_cmp (x2.toInt64 + x5.toInt64) ns.toInt64 then f_M_copy_3 fo nm mv else if lg_cmp (x4.toInt64 + x5.toInt64) nt.toInt64 ≤ 0 then fl_M_copy_4 (nI s) x2 (nI t) x4 x5 fo nm kFuel 0 mv else f_M_copy_3 fo nm mv) else kb2 (f_M_finding fo (-1000000003)) fun r f => some (r, f, nm, mv)) = y → f_M_copy fo wd sz nm mv (nI s) x2 (nI t) x4 x5 = y := by
    intro y hy
    rw [← hy]
    unfold f_M_copy
    rw [ms, mt]
    simp only [kb1_eq, if_neg i10, q1, q2, cs, ct, hws, hwt, hzs, hzt]
  unfold gX f_Sh_isMissing
  by_cases zb : bs = 0
  · exact Or.inl ⟨by rw [if_pos zb, kb1_eq, if_neg i10], M0 _ (if_pos zb)⟩
  by_cases zc : bt = 0
  · exact Or.inl ⟨by rw [if_neg zb, kb1_eq, if_pos rfl, if_pos zc, kb1_eq, if_neg i10], M0 _ (by rw [if_neg zb, if_pos zc])⟩
  rw [if_neg zb, kb1_eq, if_pos rfl, if_neg zc, kb1_eq, if_pos rfl]
  have M1 := M0
  simp only [if_neg zb, if_neg zc] at M1
  by_cases zd : bs = bt
  · have M2 := M1
    rw [if_pos zd]
    simp only [if_pos zd] at M2
    rcases hasRun_or hks hns x2 x5 with ⟨h, h'⟩ | ⟨a, m, rfl, rfl, h3, h4, h5⟩
    · refine Or.inr (Or.inl ⟨by rw [h, kb1_eq, if_pos rfl], M2 _ ?_⟩)
      rcases h' with y | y | ⟨y1, y2, y3⟩
      · rw [if_pos y]
      · rw [if_pos y, ite_self, ite_self]
      · rw [if_neg y1, if_neg y2, if_pos y3, ite_self]
    · rw [h4, kb1_eq, if_neg i10]
      have g1 : ¬ nI a < 0 := nI_pos (by omega)
      have g2 : ¬ nI m < 0 := nI_pos (by omega)
      have g3 : ¬ 0 < lg_cmp ((nI a).toInt64 + (nI m).toInt64) ns.toInt64 := fun y => by
        rw [lg_cmp_gt] at y; rw [lg_cmp_le] at h5
        rw [Int64.lt_iff_toInt_lt] at y; rw [Int64.le_iff_toInt_le] at h5
        omega
      rcases hasRun_or hkt hnt x4 (nI m) with ⟨h, h'⟩ | ⟨c, m', rfl, em, h6, h7, h8⟩
      · refine Or.inr (Or.inl ⟨by rw [h, kb1_eq, if_pos rfl], M2 _ ?_⟩)
        rw [if_neg g1, if_neg g2, if_neg g3]
        rcases h' with y | y | ⟨y1, y2, y3⟩
        · rw [if_pos y]
        · exact absurd y g2
        · have g4 : ¬ lg_cmp (x4.toInt64 + (nI m).toInt64) nt.toInt64 ≤ 0 := fun y => by
            rw [lg_cmp_le] at y; rw [lg_cmp_gt] at y3
            rw [Int64.lt_iff_toInt_lt] at y3; rw [Int64.le_iff_toInt_le] at y
            omega
          rw [if_neg y1, if_neg g4]
      · have em : m = m' := (nI_eq (by omega) (by omega)).mp em
        subst em
        obtain ⟨nm', mv', w1, w2⟩ := copy4_l (s := s) (t := t) (a := a) (c := c) (n := m) hs ht (by omega) (by omega) fo nm kFuel 0 mv (by unfold kFuel; omega) (by omega) (fun j hj => absurd hj (by omega))
        have ca : (nI a).toNatClampNeg = a := nI_clamp (by omega)
        have cc : (nI c).toNatClampNeg = c := nI_clamp (by omega)
        have cm : (nI m).toNatClampNeg = m := nI_clamp (by omega)
        have g5 : ¬ nI c < 0 := nI_pos (by omega)
        refine Or.inr (Or.inr (Or.inr ⟨a, m, c, rfl, rfl, rfl, by omega, by omega, ?_, nm', mv', M2 _ ?_, w2⟩))
        · rw [h7, kb1_eq, if_neg i10, ca, cc, cm, if_pos ⟨g1, g5, g2, by omega, by omega⟩]
        · rw [if_neg g1, if_neg g5, if_neg g2, if_neg g3, if_pos h8]; exact w1
  · exact Or.inr (Or.inr (Or.inl ⟨by rw [if_neg zd], M1 _ (by rw [if_neg zd])⟩))

theorem RQ.cpy {s t : Nat} {b n : Int32} {L ls nm nm' : Nat → Int64} {wd sz : Nat → Int32} (h : RQ t b n L wd sz nm) (hl : ∀ i, i < 40 → nm (40 * s + i) = ls i) {a c m : Nat} (w1 : a + m ≤ 40) (w2 : c + m ≤ 40) (g2 : ∀ j, nm' j = if 40 * t + c ≤ j ∧ j < 40 * t + c + m then nm (40 * s + a + (j - (40 * t + c))) else nm j) : RQ t b n (va_cpy ls L a c m) wd sz nm' := by
  refine ⟨h.1, h.2.1, fun i hi => ?_, h.2.2.2⟩
  rw [g2]
  unfold va_cpy
  by_cases y : c ≤ i ∧ i < c + m
  · rw [if_pos (by omega), if_pos y, show 40 * s + a + (40 * t + i - (40 * t + c)) = 40 * s + (a + (i - c)) by omega, hl _ (by omega)]
  · rw [if_neg (by omega), if_neg y, h.2.2.1 i hi]
theorem sim_copy {b0 n0 b1 n1 b2 n2 b3 n3 : Int32} {l0 l1 l2 l3 : Nat → Int64} {wd sz fi fo : Nat → Int32} {nm : Nat → Int64} (mv : Nat → Int64) (H : RH b0 n0 l0 b1 n1 l1 b2 n2 l2 b3 n3 l3 wd sz nm) (F : RF fi fo) (x1 x2 x3 x4 x5 : Int32) : ∃ r l0' l1' l2' l3' fi' fo' nm' mv', f_X_copy b0 n0 l0 b1 n1 l1 b2 n2 l2 b3 n3 l3 fi x1 x2 x3 x4 x5 = some (r, l0', l1', l2', l3', fi') ∧ f_M_copy fo wd sz nm mv x1 x2 x3 x4 x5 = some (r, fo', nm', mv') ∧ RH b0 n0 l0' b1 n1 l1' b2 n2 l2' b3 n3 l3' wd sz nm' ∧ RF fi' fo' := by
  obtain ⟨H0, H1, H2, H3⟩ := id H
  have no1 : ∃ r l0' l1' l2' l3' fi' fo' nm' mv', f_X_copy_1 l0 l1 l2 l3 fi = some (r, l0', l1', l2', l3', fi') ∧ f_M_copy_1 fo nm mv = some (r, fo', nm', mv') ∧ RH b0 n0 l0' b1 n1 l1' b2 n2 l2' b3 n3 l3' wd sz nm' ∧ RF fi' fo' := by
    obtain ⟨fi', fo', z1, z2, F'⟩ := fnd0 F
    exact ⟨-1000000001, l0, l1, l2, l3, fi', fo', nm, mv, by unfold f_X_copy_1; rw [z1, kb2_eq], by unfold f_M_copy_1; rw [z2, kb2_eq], H, F'⟩
  have no2 : ∃ r l0' l1' l2' l3' fi' fo' nm' mv', f_X_copy_2 l0 l1 l2 l3 fi = some (r, l0', l1', l2', l3', fi') ∧ f_M_copy_2 fo nm mv = some (r, fo', nm', mv') ∧ RH b0 n0 l0' b1 n1 l1' b2 n2 l2' b3 n3 l3' wd sz nm' ∧ RF fi' fo' := by
    obtain ⟨fi', fo', z1, z2, F'⟩ := fnd5 F
    exact ⟨-1000000006, l0, l1, l2, l3, fi', fo', nm, mv, by unfold f_X_copy_2; rw [z1, kb2_eq], by unfold f_M_copy_2; rw [z2, kb2_eq], H, F'⟩
  have no3 : ∃ r l0' l1' l2' l3' fi' fo' nm' mv', f_X_copy_3 l0 l1 l2 l3 fi = some (r, l0', l1', l2', l3', fi') ∧ f_M_copy_3 fo nm mv = some (r, fo', nm', mv') ∧ RH b0 n0 l0' b1 n1 l1' b2 n2 l2' b3 n3 l3' wd sz nm' ∧ RF fi' fo' := by
    obtain ⟨fi', fo', z1, z2, F'⟩ := fnd0 F
    exact ⟨-1000000001, l0, l1, l2, l3, fi', fo', nm, mv, by unfold f_X_copy_3; rw [z1, kb2_eq], by unfold f_M_copy_3; rw [z2, kb2_eq], H, F'⟩
  have no4 : ∃ r l0' l1' l2' l3' fi' fo' nm' mv', (kb2 (f_X_finding fi 2) fun r f => some (r, l0, l1, l2, l3, f)) = some (r, l0', l1', l2', l3', fi') ∧ (kb2 (f_M_finding fo (-1000000003)) fun r f => some (r, f, nm, mv)) = some (r, fo', nm', mv') ∧ RH b0 n0 l0' b1 n1 l1' b2 n2 l2' b3 n3 l3' wd sz nm' ∧ RF fi' fo' := by
    obtain ⟨fi', fo', z1, z2, F'⟩ := fnd2 F
    exact ⟨-1000000003, l0, l1, l2, l3, fi', fo', nm, mv, by rw [z1, kb2_eq], by rw [z2, kb2_eq], H, F'⟩
  rcases isSheet_cases x1 with ⟨hx, hm⟩ | ⟨s, hs4, rfl, -, -⟩
  · unfold f_X_copy f_M_copy
    rw [hm, kb1_eq, if_pos rfl, show f_X_copy_1 l0 l1 l2 l3 fi = f_X_copy_1 l0 l1 l2 l3 fi from rfl]
    obtain ⟨r, a1, a2, a3, a4, a5, a6, a7, a8, y1, y2⟩ := no1
    exact ⟨r, a1, a2, a3, a4, a5, a6, a7, a8, kb1_go hx (if_go1 rfl y1), y2⟩
  rcases isSheet_cases x3 with ⟨hx, hm⟩ | ⟨t, ht4, rfl, -, -⟩
  · obtain ⟨r, a1, a2, a3, a4, a5, a6, a7, a8, y1, y2, y3⟩ := no1
    refine ⟨r, a1, a2, a3, a4, a5, a6, a7, a8, ?_, ?_, y3⟩
    · unfold f_X_copy
      exact kb1_go (isSheet_y hs4) (if_go0 i10 (kb1_go hx (if_go1 rfl y1)))
    · have ms : f_M_isSheet (nI s) = some 1 := by
        rcases isSheet_cases (nI s) with ⟨hx, -⟩ | ⟨k, hk, e, -, hm⟩
        · rw [isSheet_y hs4] at hx; exact absurd hx (by decide)
        · exact hm
      unfold f_M_copy
      exact kb1_go ms (if_go0 i10 (kb1_go hm (if_go1 rfl y2)))
  have c4 : (s = 0 ∨ s = 1 ∨ s = 2 ∨ s = 3) ∧ (t = 0 ∨ t = 1 ∨ t = 2 ∨ t = 3) := by omega
  rcases c4 with ⟨rfl | rfl | rfl | rfl, rfl | rfl | rfl | rfl⟩
  · rw [X_copy_00]
    rcases copy_end (s := 0) (t := 0) (by decide) (by decide) H0 H0 (f_X_copy_2 l0 l1 l2 l3 fi) (f_X_copy_3 l0 l1 l2 l3 fi) (kb2 (f_X_finding fi 2) fun r f => some (r, l0, l1, l2, l3, f)) (some (x5, va_cpy l0 l0 x2.toNatClampNeg x4.toNatClampNeg x5.toNatClampNeg, l1, l2, l3, fi)) fo mv x2 x4 x5 with ⟨z1, z2⟩ | ⟨z1, z2⟩ | ⟨z1, z2⟩ | ⟨a, m, c, rfl, rfl, rfl, w1, w2, z1, nm', mv', z2, g2⟩
    · rw [z1, z2]; exact no2
    · rw [z1, z2]; exact no3
    · rw [z1, z2]; exact no4
    · rw [z1, z2, nI_clamp (show a < 2 ^ 31 by omega), nI_clamp (show c < 2 ^ 31 by omega), nI_clamp (show m < 2 ^ 31 by omega)]
      exact ⟨nI m, va_cpy l0 l0 a c m, l1, l2, l3, fi, fo, nm', mv', rfl, rfl, ⟨H0.cpy H0.2.2.1 w1 w2 g2, H1.other (s := 0) (by decide) (fun _ _ => rfl) (fun _ _ => rfl) (fun j hj => by rw [g2, if_neg (by omega)]), H2.other (s := 0) (by decide) (fun _ _ => rfl) (fun _ _ => rfl) (fun j hj => by rw [g2, if_neg (by omega)]), H3.other (s := 0) (by decide) (fun _ _ => rfl) (fun _ _ => rfl) (fun j hj => by rw [g2, if_neg (by omega)])⟩, F⟩
  · rw [X_copy_01]
    rcases copy_end (s := 0) (t := 1) (by decide) (by decide) H0 H1 (f_X_copy_2 l0 l1 l2 l3 fi) (f_X_copy_3 l0 l1 l2 l3 fi) (kb2 (f_X_finding fi 2) fun r f => some (r, l0, l1, l2, l3, f)) (some (x5, l0, va_cpy l0 l1 x2.toNatClampNeg x4.toNatClampNeg x5.toNatClampNeg, l2, l3, fi)) fo mv x2 x4 x5 with ⟨z1, z2⟩ | ⟨z1, z2⟩ | ⟨z1, z2⟩ | ⟨a, m, c, rfl, rfl, rfl, w1, w2, z1, nm', mv', z2, g2⟩
    · rw [z1, z2]; exact no2
    · rw [z1, z2]; exact no3
    · rw [z1, z2]; exact no4
    · rw [z1, z2, nI_clamp (show a < 2 ^ 31 by omega), nI_clamp (show c < 2 ^ 31 by omega), nI_clamp (show m < 2 ^ 31 by omega)]
      exact ⟨nI m, l0, va_cpy l0 l1 a c m, l2, l3, fi, fo, nm', mv', rfl, rfl, ⟨H0.other (s := 1) (by decide) (fun _ _ => rfl) (fun _ _ => rfl) (fun j hj => by rw [g2, if_neg (by omega)]), H1.cpy H0.2.2.1 w1 w2 g2, H2.other (s := 1) (by decide) (fun _ _ => rfl) (fun _ _ => rfl) (fun j hj => by rw [g2, if_neg (by omega)]), H3.other (s := 1) (by decide) (fun _ _ => rfl) (fun _ _ => rfl) (fun j hj => by rw [g2, if_neg (by omega)])⟩, F⟩
  · rw [X_copy_02]
    rcases copy_end (s := 0) (t := 2) (by decide) (by decide) H0 H2 (f_X_copy_2 l0 l1 l2 l3 fi) (f_X_copy_3 l0 l1 l2 l3 fi) (kb2 (f_X_finding fi 2) fun r f => some (r, l0, l1, l2, l3, f)) (some (x5, l0, l1, va_cpy l0 l2 x2.toNatClampNeg x4.toNatClampNeg x5.toNatClampNeg, l3, fi)) fo mv x2 x4 x5 with ⟨z1, z2⟩ | ⟨z1, z2⟩ | ⟨z1, z2⟩ | ⟨a, m, c, rfl, rfl, rfl, w1, w2, z1, nm', mv', z2, g2⟩
    · rw [z1, z2]; exact no2
    · rw [z1, z2]; exact no3
    · rw [z1, z2]; exact no4
    · rw [z1, z2, nI_clamp (show a < 2 ^ 31 by omega), nI_clamp (show c < 2 ^ 31 by omega), nI_clamp (show m < 2 ^ 31 by omega)]
      exact ⟨nI m, l0, l1, va_cpy l0 l2 a c m, l3, fi, fo, nm', mv', rfl, rfl, ⟨H0.other (s := 2) (by decide) (fun _ _ => rfl) (fun _ _ => rfl) (fun j hj => by rw [g2, if_neg (by omega)]), H1.other (s := 2) (by decide) (fun _ _ => rfl) (fun _ _ => rfl) (fun j hj => by rw [g2, if_neg (by omega)]), H2.cpy H0.2.2.1 w1 w2 g2, H3.other (s := 2) (by decide) (fun _ _ => rfl) (fun _ _ => rfl) (fun j hj => by rw [g2, if_neg (by omega)])⟩, F⟩
  · rw [X_copy_03]
    rcases copy_end (s := 0) (t := 3) (by decide) (by decide) H0 H3 (f_X_copy_2 l0 l1 l2 l3 fi) (f_X_copy_3 l0 l1 l2 l3 fi) (kb2 (f_X_finding fi 2) fun r f => some (r, l0, l1, l2, l3, f)) (some (x5, l0, l1, l2, va_cpy l0 l3 x2.toNatClampNeg x4.toNatClampNeg x5.toNatClampNeg, fi)) fo mv x2 x4 x5 with ⟨z1, z2⟩ | ⟨z1, z2⟩ | ⟨z1, z2⟩ | ⟨a, m, c, rfl, rfl, rfl, w1, w2, z1, nm', mv', z2, g2⟩
    · rw [z1, z2]; exact no2
    · rw [z1, z2]; exact no3
    · rw [z1, z2]; exact no4
    · rw [z1, z2, nI_clamp (show a < 2 ^ 31 by omega), nI_clamp (show c < 2 ^ 31 by omega), nI_clamp (show m < 2 ^ 31 by omega)]
      exact ⟨nI m, l0, l1, l2, va_cpy l0 l3 a c m, fi, fo, nm', mv', rfl, rfl, ⟨H0.other (s := 3) (by decide) (fun _ _ => rfl) (fun _ _ => rfl) (fun j hj => by rw [g2, if_neg (by omega)]), H1.other (s := 3) (by decide) (fun _ _ => rfl) (fun _ _ => rfl) (fun j hj => by rw [g2, if_neg (by omega)]), H2.other (s := 3) (by decide) (fun _ _ => rfl) (fun _ _ => rfl) (fun j hj => by rw [g2, if_neg (by omega)]), H3.cpy H0.2.2.1 w1 w2 g2⟩, F⟩
  · rw [X_copy_10]
    rcases copy_end (s := 1) (t := 0) (by decide) (by decide) H1 H0 (f_X_copy_2 l0 l1 l2 l3 fi) (f_X_copy_3 l0 l1 l2 l3 fi) (kb2 (f_X_finding fi 2) fun r f => some (r, l0, l1, l2, l3, f)) (some (x5, va_cpy l1 l0 x2.toNatClampNeg x4.toNatClampNeg x5.toNatClampNeg, l1, l2, l3, fi)) fo mv x2 x4 x5 with ⟨z1, z2⟩ | ⟨z1, z2⟩ | ⟨z1, z2⟩ | ⟨a, m, c, rfl, rfl, rfl, w1, w2, z1, nm', mv', z2, g2⟩
    · rw [z1, z2]; exact no2
    · rw [z1, z2]; exact no3
    · rw [z1, z2]; exact no4
    · rw [z1, z2, nI_clamp (show a < 2 ^ 31 by omega), nI_clamp (show c < 2 ^ 31 by omega), nI_clamp (show m < 2 ^ 31 by omega)]
      exact ⟨nI m, va_cpy l1 l0 a c m, l1, l2, l3, fi, fo, nm', mv', rfl, rfl, ⟨H0.cpy H1.2.2.1 w1 w2 g2, H1.other (s := 0) (by decide) (fun _ _ => rfl) (fun _ _ => rfl) (fun j hj => by rw [g2, if_neg (by omega)]), H2.other (s := 0) (by decide) (fun _ _ => rfl) (fun _ _ => rfl) (fun j hj => by rw [g2, if_neg (by omega)]), H3.other (s := 0) (by decide) (fun _ _ => rfl) (fun _ _ => rfl) (fun j hj => by rw [g2, if_neg (by omega)])⟩, F⟩
  · rw [X_copy_11]
    rcases copy_end (s := 1) (t := 1) (by decide) (by decide) H1 H1 (f_X_copy_2 l0 l1 l2 l3 fi) (f_X_copy_3 l0 l1 l2 l3 fi) (kb2 (f_X_finding fi 2) fun r f => some (r, l0, l1, l2, l3, f)) (some (x5, l0, va_cpy l1 l1 x2.toNatClampNeg x4.toNatClampNeg x5.toNatClampNeg, l2, l3, fi)) fo mv x2 x4 x5 with ⟨z1, z2⟩ | ⟨z1, z2⟩ | ⟨z1, z2⟩ | ⟨a, m, c, rfl, rfl, rfl, w1, w2, z1, nm', mv', z2, g2⟩
    · rw [z1, z2]; exact no2
    · rw [z1, z2]; exact no3
    · rw [z1, z2]; exact no4
    · rw [z1, z2, nI_clamp (show a < 2 ^ 31 by omega), nI_clamp (show c < 2 ^ 31 by omega), nI_clamp (show m < 2 ^ 31 by omega)]
      exact ⟨nI m, l0, va_cpy l1 l1 a c m, l2, l3, fi, fo, nm', mv', rfl, rfl, ⟨H0.other (s := 1) (by decide) (fun _ _ => rfl) (fun _ _ => rfl) (fun j hj => by rw [g2, if_neg (by omega)]), H1.cpy H1.2.2.1 w1 w2 g2, H2.other (s := 1) (by decide) (fun _ _ => rfl) (fun _ _ => rfl) (fun j hj => by rw [g2, if_neg (by omega)]), H3.other (s := 1) (by decide) (fun _ _ => rfl) (fun _ _ => rfl) (fun j hj => by rw [g2, if_neg (by omega)])⟩, F⟩
  · rw [X_copy_12]
    rcases copy_end (s := 1) (t := 2) (by decide) (by decide) H1 H2 (f_X_copy_2 l0 l1 l2 l3 fi) (f_X_copy_3 l0 l1 l2 l3 fi) (kb2 (f_X_finding fi 2) fun r f => some (r, l0, l1, l2, l3, f)) (some (x5, l0, l1, va_cpy l1 l2 x2.toNatClampNeg x4.toNatClampNeg x5.toNatClampNeg, l3, fi)) fo mv x2 x4 x5 with ⟨z1, z2⟩ | ⟨z1, z2⟩ | ⟨z1, z2⟩ | ⟨a, m, c, rfl, rfl, rfl, w1, w2, z1, nm', mv', z2, g2⟩
    · rw [z1, z2]; exact no2
    · rw [z1, z2]; exact no3
    · rw [z1, z2]; exact no4
    · rw [z1, z2, nI_clamp (show a < 2 ^ 31 by omega), nI_clamp (show c < 2 ^ 31 by omega), nI_clamp (show m < 2 ^ 31 by omega)]
      exact ⟨nI m, l0, l1, va_cpy l1 l2 a c m, l3, fi, fo, nm', mv', rfl, rfl, ⟨H0.other (s := 2) (by decide) (fun _ _ => rfl) (fun _ _ => rfl) (fun j hj => by rw [g2, if_neg (by omega)]), H1.other (s := 2) (by decide) (fun _ _ => rfl) (fun _ _ => rfl) (fun j hj => by rw [g2, if_neg (by omega)]), H2.cpy H1.2.2.1 w1 w2 g2, H3.other (s := 2) (by decide) (fun _ _ => rfl) (fun _ _ => rfl) (fun j hj => by rw [g2, if_neg (by omega)])⟩, F⟩
  · rw [X_copy_13]
    rcases copy_end (s := 1) (t := 3) (by decide) (by decide) H1 H3 (f_X_copy_2 l0 l1 l2 l3 fi) (f_X_copy_3 l0 l1 l2 l3 fi) (kb2 (f_X_finding fi 2) fun r f => some (r, l0, l1, l2, l3, f)) (some (x5, l0, l1, l2, va_cpy l1 l3 x2.toNatClampNeg x4.toNatClampNeg x5.toNatClampNeg, fi)) fo mv x2 x4 x5 with ⟨z1, z2⟩ | ⟨z1, z2⟩ | ⟨z1, z2⟩ | ⟨a, m, c, rfl, rfl, rfl, w1, w2, z1, nm', mv', z2, g2⟩
    · rw [z1, z2]; exact no2
    · rw [z1, z2]; exact no3
    · rw [z1, z2]; exact no4
    · rw [z1, z2, nI_clamp (show a < 2 ^ 31 by omega), nI_clamp (show c < 2 ^ 31 by omega), nI_clamp (show m < 2 ^ 31 by omega)]
      exact ⟨nI m, l0, l1, l2, va_cpy l1 l3 a c m, fi, fo, nm', mv', rfl, rfl, ⟨H0.other (s := 3) (by decide) (fun _ _ => rfl) (fun _ _ => rfl) (fun j hj => by rw [g2, if_neg (by omega)]), H1.other (s := 3) (by decide) (fun _ _ => rfl) (fun _ _ => rfl) (fun j hj => by rw [g2, if_neg (by omega)]), H2.other (s := 3) (by decide) (fun _ _ => rfl) (fun _ _ => rfl) (fun j hj => by rw [g2, if_neg (by omega)]), H3.cpy H1.2.2.1 w1 w2 g2⟩, F⟩
  · rw [X_copy_20]
    rcases copy_end (s := 2) (t := 0) (by decide) (by decide) H2 H0 (f_X_copy_2 l0 l1 l2 l3 fi) (f_X_copy_3 l0 l1 l2 l3 fi) (kb2 (f_X_finding fi 2) fun r f => some (r, l0, l1, l2, l3, f)) (some (x5, va_cpy l2 l0 x2.toNatClampNeg x4.toNatClampNeg x5.toNatClampNeg, l1, l2, l3, fi)) fo mv x2 x4 x5 with ⟨z1, z2⟩ | ⟨z1, z2⟩ | ⟨z1, z2⟩ | ⟨a, m, c, rfl, rfl, rfl, w1, w2, z1, nm', mv', z2, g2⟩
    · rw [z1, z2]; exact no2
    · rw [z1, z2]; exact no3
    · rw [z1, z2]; exact no4
    · rw [z1, z2, nI_clamp (show a < 2 ^ 31 by omega), nI_clamp (show c < 2 ^ 31 by omega), nI_clamp (show m < 2 ^ 31 by omega)]
      exact ⟨nI m, va_cpy l2 l0 a c m, l1, l2, l3, fi, fo, nm', mv', rfl, rfl, ⟨H0.cpy H2.2.2.1 w1 w2 g2, H1.other (s := 0) (by decide) (fun _ _ => rfl) (fun _ _ => rfl) (fun j hj => by rw [g2, if_neg (by omega)]), H2.other (s := 0) (by decide) (fun _ _ => rfl) (fun _ _ => rfl) (fun j hj => by rw [g2, if_neg (by omega)]), H3.other (s := 0) (by decide) (fun _ _ => rfl) (fun _ _ => rfl) (fun j hj => by rw [g2, if_neg (by omega)])⟩, F⟩
  · rw [X_copy_21]
    rcases copy_end (s := 2) (t := 1) (by decide) (by decide) H2 H1 (f_X_copy_2 l0 l1 l2 l3 fi) (f_X_copy_3 l0 l1 l2 l3 fi) (kb2 (f_X_finding fi 2) fun r f => some (r, l0, l1, l2, l3, f)) (some (x5, l0, va_cpy l2 l1 x2.toNatClampNeg x4.toNatClampNeg x5.toNatClampNeg, l2, l3, fi)) fo mv x2 x4 x5 with ⟨z1, z2⟩ | ⟨z1, z2⟩ | ⟨z1, z2⟩ | ⟨a, m, c, rfl, rfl, rfl, w1, w2, z1, nm', mv', z2, g2⟩
    · rw [z1, z2]; exact no2
    · rw [z1, z2]; exact no3
    · rw [z1, z2]; exact no4
    · rw [z1, z2, nI_clamp (show a < 2 ^ 31 by omega), nI_clamp (show c < 2 ^ 31 by omega), nI_clamp (show m < 2 ^ 31 by omega)]
      exact ⟨nI m, l0, va_cpy l2 l1 a c m, l2, l3, fi, fo, nm', mv', rfl, rfl, ⟨H0.other (s := 1) (by decide) (fun _ _ => rfl) (fun _ _ => rfl) (fun j hj => by rw [g2, if_neg (by omega)]), H1.cpy H2.2.2.1 w1 w2 g2, H2.other (s := 1) (by decide) (fun _ _ => rfl) (fun _ _ => rfl) (fun j hj => by rw [g2, if_neg (by omega)]), H3.other (s := 1) (by decide) (fun _ _ => rfl) (fun _ _ => rfl) (fun j hj => by rw [g2, if_neg (by omega)])⟩, F⟩
  · rw [X_copy_22]
    rcases copy_end (s := 2) (t := 2) (by decide) (by decide) H2 H2 (f_X_copy_2 l0 l1 l2 l3 fi) (f_X_copy_3 l0 l1 l2 l3 fi) (kb2 (f_X_finding fi 2) fun r f => some (r, l0, l1, l2, l3, f)) (some (x5, l0, l1, va_cpy l2 l2 x2.toNatClampNeg x4.toNatClampNeg x5.toNatClampNeg, l3, fi)) fo mv x2 x4 x5 with ⟨z1, z2⟩ | ⟨z1, z2⟩ | ⟨z1, z2⟩ | ⟨a, m, c, rfl, rfl, rfl, w1, w2, z1, nm', mv', z2, g2⟩
    · rw [z1, z2]; exact no2
    · rw [z1, z2]; exact no3
    · rw [z1, z2]; exact no4
    · rw [z1, z2, nI_clamp (show a < 2 ^ 31 by omega), nI_clamp (show c < 2 ^ 31 by omega), nI_clamp (show m < 2 ^ 31 by omega)]
      exact ⟨nI m, l0, l1, va_cpy l2 l2 a c m, l3, fi, fo, nm', mv', rfl, rfl, ⟨H0.other (s := 2) (by decide) (fun _ _ => rfl) (fun _ _ => rfl) (fun j hj => by rw [g2, if_neg (by omega)]), H1.other (s := 2) (by decide) (fun _ _ => rfl) (fun _ _ => rfl) (fun j hj => by rw [g2, if_neg (by omega)]), H2.cpy H2.2.2.1 w1 w2 g2, H3.other (s := 2) (by decide) (fun _ _ => rfl) (fun _ _ => rfl) (fun j hj => by rw [g2, if_neg (by omega)])⟩, F⟩
  · rw [X_copy_23]
    rcases copy_end (s := 2) (t := 3) (by decide) (by decide) H2 H3 (f_X_copy_2 l0 l1 l2 l3 fi) (f_X_copy_3 l0 l1 l2 l3 fi) (kb2 (f_X_finding fi 2) fun r f => some (r, l0, l1, l2, l3, f)) (some (x5, l0, l1, l2, va_cpy l2 l3 x2.toNatClampNeg x4.toNatClampNeg x5.toNatClampNeg, fi)) fo mv x2 x4 x5 with ⟨z1, z2⟩ | ⟨z1, z2⟩ | ⟨z1, z2⟩ | ⟨a, m, c, rfl, rfl, rfl, w1, w2, z1, nm', mv', z2, g2⟩
    · rw [z1, z2]; exact no2
    · rw [z1, z2]; exact no3
    · rw [z1, z2]; exact no4
    · rw [z1, z2, nI_clamp (show a < 2 ^ 31 by omega), nI_clamp (show c < 2 ^ 31 by omega), nI_clamp (show m < 2 ^ 31 by omega)]
      exact ⟨nI m, l0, l1, l2, va_cpy l2 l3 a c m, fi, fo, nm', mv', rfl, rfl, ⟨H0.other (s := 3) (by decide) (fun _ _ => rfl) (fun _ _ => rfl) (fun j hj => by rw [g2, if_neg (by omega)]), H1.other (s := 3) (by decide) (fun _ _ => rfl) (fun _ _ => rfl) (fun j hj => by rw [g2, if_neg (by omega)]), H2.other (s := 3) (by decide) (fun _ _ => rfl) (fun _ _ => rfl) (fun j hj => by rw [g2, if_neg (by omega)]), H3.cpy H2.2.2.1 w1 w2 g2⟩, F⟩
  · rw [X_copy_30]
    rcases copy_end (s := 3) (t := 0) (by decide) (by decide) H3 H0 (f_X_copy_2 l0 l1 l2 l3 fi) (f_X_copy_3 l0 l1 l2 l3 fi) (kb2 (f_X_finding fi 2) fun r f => some (r, l0, l1, l2, l3, f)) (some (x5, va_cpy l3 l0 x2.toNatClampNeg x4.toNatClampNeg x5.toNatClampNeg, l1, l2, l3, fi)) fo mv x2 x4 x5 with ⟨z1, z2⟩ | ⟨z1, z2⟩ | ⟨z1, z2⟩ | ⟨a, m, c, rfl, rfl, rfl, w1, w2, z1, nm', mv', z2, g2⟩
    · rw [z1, z2]; exact no2
    · rw [z1, z2]; exact no3
    · rw [z1, z2]; exact no4
    · rw [z1, z2, nI_clamp (show a < 2 ^ 31 by omega), nI_clamp (show c < 2 ^ 31 by omega), nI_clamp (show m < 2 ^ 31 by omega)]
      exact ⟨nI m, va_cpy l3 l0 a c m, l1, l2, l3, fi, fo, nm', mv', rfl, rfl, ⟨H0.cpy H3.2.2.1 w1 w2 g2, H1.other (s := 0) (by decide) (fun _ _ => rfl) (fun _ _ => rfl) (fun j hj => by rw [g2, if_neg (by omega)]), H2.other (s := 0) (by decide) (fun _ _ => rfl) (fun _ _ => rfl) (fun j hj => by rw [g2, if_neg (by omega)]), H3.other (s := 0) (by decide) (fun _ _ => rfl) (fun _ _ => rfl) (fun j hj => by rw [g2, if_neg (by omega)])⟩, F⟩
  · rw [X_copy_31]
    rcases copy_end (s := 3) (t := 1) (by decide) (by decide) H3 H1 (f_X_copy_2 l0 l1 l2 l3 fi) (f_X_copy_3 l0 l1 l2 l3 fi) (kb2 (f_X_finding fi 2) fun r f => some (r, l0, l1, l2, l3, f)) (some (x5, l0, va_cpy l3 l1 x2.toNatClampNeg x4.toNatClampNeg x5.toNatClampNeg, l2, l3, fi)) fo mv x2 x4 x5 with ⟨z1, z2⟩ | ⟨z1, z2⟩ | ⟨z1, z2⟩ | ⟨a, m, c, rfl, rfl, rfl, w1, w2, z1, nm', mv', z2, g2⟩
    · rw [z1, z2]; exact no2
    · rw [z1, z2]; exact no3
    · rw [z1, z2]; exact no4
    · rw [z1, z2, nI_clamp (show a < 2 ^ 31 by omega), nI_clamp (show c < 2 ^ 31 by omega), nI_clamp (show m < 2 ^ 31 by omega)]
      exact ⟨nI m, l0, va_cpy l3 l1 a c m, l2, l3, fi, fo, nm', mv', rfl, rfl, ⟨H0.other (s := 1) (by decide) (fun _ _ => rfl) (fun _ _ => rfl) (fun j hj => by rw [g2, if_neg (by omega)]), H1.cpy H3.2.2.1 w1 w2 g2, H2.other (s := 1) (by decide) (fun _ _ => rfl) (fun _ _ => rfl) (fun j hj => by rw [g2, if_neg (by omega)]), H3.other (s := 1) (by decide) (fun _ _ => rfl) (fun _ _ => rfl) (fun j hj => by rw [g2, if_neg (by omega)])⟩, F⟩
  · rw [X_copy_32]
    rcases copy_end (s := 3) (t := 2) (by decide) (by decide) H3 H2 (f_X_copy_2 l0 l1 l2 l3 fi) (f_X_copy_3 l0 l1 l2 l3 fi) (kb2 (f_X_finding fi 2) fun r f => some (r, l0, l1, l2, l3, f)) (some (x5, l0, l1, va_cpy l3 l2 x2.toNatClampNeg x4.toNatClampNeg x5.toNatClampNeg, l3, fi)) fo mv x2 x4 x5 with ⟨z1, z2⟩ | ⟨z1, z2⟩ | ⟨z1, z2⟩ | ⟨a, m, c, rfl, rfl, rfl, w1, w2, z1, nm', mv', z2, g2⟩
    · rw [z1, z2]; exact no2
    · rw [z1, z2]; exact no3
    · rw [z1, z2]; exact no4
    · rw [z1, z2, nI_clamp (show a < 2 ^ 31 by omega), nI_clamp (show c < 2 ^ 31 by omega), nI_clamp (show m < 2 ^ 31 by omega)]
      exact ⟨nI m, l0, l1, va_cpy l3 l2 a c m, l3, fi, fo, nm', mv', rfl, rfl, ⟨H0.other (s := 2) (by decide) (fun _ _ => rfl) (fun _ _ => rfl) (fun j hj => by rw [g2, if_neg (by omega)]), H1.other (s := 2) (by decide) (fun _ _ => rfl) (fun _ _ => rfl) (fun j hj => by rw [g2, if_neg (by omega)]), H2.cpy H3.2.2.1 w1 w2 g2, H3.other (s := 2) (by decide) (fun _ _ => rfl) (fun _ _ => rfl) (fun j hj => by rw [g2, if_neg (by omega)])⟩, F⟩
  · rw [X_copy_33]
    rcases copy_end (s := 3) (t := 3) (by decide) (by decide) H3 H3 (f_X_copy_2 l0 l1 l2 l3 fi) (f_X_copy_3 l0 l1 l2 l3 fi) (kb2 (f_X_finding fi 2) fun r f => some (r, l0, l1, l2, l3, f)) (some (x5, l0, l1, l2, va_cpy l3 l3 x2.toNatClampNeg x4.toNatClampNeg x5.toNatClampNeg, fi)) fo mv x2 x4 x5 with ⟨z1, z2⟩ | ⟨z1, z2⟩ | ⟨z1, z2⟩ | ⟨a, m, c, rfl, rfl, rfl, w1, w2, z1, nm', mv', z2, g2⟩
    · rw [z1, z2]; exact no2
    · rw [z1, z2]; exact no3
    · rw [z1, z2]; exact no4
    · rw [z1, z2, nI_clamp (show a < 2 ^ 31 by omega), nI_clamp (show c < 2 ^ 31 by omega), nI_clamp (show m < 2 ^ 31 by omega)]
      exact ⟨nI m, l0, l1, l2, va_cpy l3 l3 a c m, fi, fo, nm', mv', rfl, rfl, ⟨H0.other (s := 3) (by decide) (fun _ _ => rfl) (fun _ _ => rfl) (fun j hj => by rw [g2, if_neg (by omega)]), H1.other (s := 3) (by decide) (fun _ _ => rfl) (fun _ _ => rfl) (fun j hj => by rw [g2, if_neg (by omega)]), H2.other (s := 3) (by decide) (fun _ _ => rfl) (fun _ _ => rfl) (fun j hj => by rw [g2, if_neg (by omega)]), H3.cpy H3.2.2.1 w1 w2 g2⟩, F⟩
