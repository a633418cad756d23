/-! copy -/
theorem copy5_l {t c n : Nat} (ht : t < 4) (hc : c + n ≤ 40) (fo : Nat → Int32) (mv : Nat → Int64) : ∀ k i nm, n - i < k → i ≤ n → ∃ nm', fl_M_copy_5 (nI t) (nI c) (nI n) fo mv k (nI i) nm = some (nI n, fo, nm', mv) ∧ ∀ j, nm' j = if 40 * t + c + i ≤ j ∧ j < 40 * t + c + n then mv (j - (40 * t + c)) else nm j := by
  intro k
  induction k with
  | zero => intro i _ h; exact absurd h (by omega)
  | succ k ih =>
    intro i nm h hi
    rw [fl_M_copy_5_s]
    unfold fb_M_copy_5
    by_cases q : i = n
    · subst q
      exact ⟨nm, by rw [if_pos (nI_le (Nat.le_refl _) (by omega))], fun j => (if_neg (by omega)).symm⟩
    · have k1 : (nI (40 * t + c + i)).toNatClampNeg = 40 * t + c + i := nI_clamp (by omega)
      have k2 : (nI i).toNatClampNeg = i := nI_clamp (by omega)
      rw [if_neg (nI_ge (by omega) (by omega)), nl40, pk_mul, nI_add, nI_add, kx (k := i) (n := 40) (by omega) (by decide), kx (k := 40 * t + c + i) (n := 160) (by omega) (by decide), k1, k2, nI_1]
      obtain ⟨nm', e1, e2⟩ := ih (i + 1) (vp_updL nm (40 * t + c + i) (mv i)) (by omega) (by omega)
      refine ⟨nm', e1, fun j => ?_⟩
      rw [e2]
      by_cases z : j = 40 * t + c + i
      · subst z
        rw [if_neg (by omega), vl_us, if_pos (by omega), show 40 * t + c + i - (40 * t + c) = i by omega]
      · rw [vl_un z]
        exact ite_iff' (by omega) _ _
theorem copy4_l {s t a c n : Nat} (hs : s < 4) (ht : t < 4) (ha : a + n ≤ 40) (hc : c + n ≤ 40) (fo : Nat → Int32) (nm : Nat → Int64) : ∀ k i mv, n - i < k → i ≤ n → (∀ j, j < i → mv j = nm (40 * s + a + j)) → ∃ nm' mv', fl_M_copy_4 (nI s) (nI a) (nI t) (nI c) (nI n) fo nm k (nI i) mv = some (nI n, fo, nm', mv') ∧ ∀ j, nm' j = if 40 * t + c ≤ j ∧ j < 40 * t + c + n then nm (40 * s + a + (j - (40 * t + c))) else nm j := by
  intro k
  induction k with
  | zero => intro i _ h; exact absurd h (by omega)
  | succ k ih =>
    intro i mv h hi hm
    rw [fl_M_copy_4_s]
    unfold fb_M_copy_4
    by_cases q : i = n
    · subst q
      obtain ⟨nm', e1, e2⟩ := copy5_l ht hc fo mv kFuel 0 nm (by unfold kFuel; omega) (by omega)
      refine ⟨nm', mv, by rw [if_pos (nI_le (Nat.le_refl _) (by omega))]; exact e1, fun j => ?_⟩
      rw [e2, Nat.add_zero]
      by_cases z : 40 * t + c ≤ j ∧ j < 40 * t + c + i
      · rw [if_pos z, if_pos z, hm _ (by omega)]
      · rw [if_neg z, if_neg z]
    · have k1 : (nI (40 * s + a + i)).toNatClampNeg = 40 * s + a + i := nI_clamp (by omega)
      have k2 : (nI i).toNatClampNeg = i := nI_clamp (by omega)
      rw [if_neg (nI_ge (by omega) (by omega)), nl40, pk_mul, nI_add, nI_add, kx (k := 40 * s + a + i) (n := 160) (by omega) (by decide), kx (k := i) (n := 40) (by omega) (by decide), k1, k2, nI_1]
      refine ih (i + 1) _ (by omega) (by omega) (fun j hj => ?_)
      by_cases z : j = i
      · subst z; rw [vl_us]
      · rw [vl_un z]; exact hm j (by omega)

theorem hasRun_or {n : Int32} {kk : Nat} (hkk : kk ≤ 40) (hn : n = nI kk) (x y : Int32) : (f_Sh_hasRun n x y = some 0 ∧ (x < 0 ∨ y < 0 ∨ (¬ x < 0 ∧ ¬ y < 0 ∧ 0 < lg_cmp (x.toInt64 + y.toInt64) n.toInt64))) ∨ ∃ a m, x = nI a ∧ y = nI m ∧ a + m ≤ kk ∧ f_Sh_hasRun n x y = some 1 ∧ lg_cmp (x.toInt64 + y.toInt64) n.toInt64 ≤ 0 := by
  unfold f_Sh_hasRun
  by_cases q1 : x < 0
  · exact Or.inl ⟨by rw [if_pos q1], Or.inl q1⟩
  by_cases q2 : y < 0
  · exact Or.inl ⟨by rw [if_neg q1, if_pos q2], Or.inr (Or.inl q2)⟩
  obtain ⟨a, ha, rfl⟩ := nI_of q1
  obtain ⟨m, hm, rfl⟩ := nI_of q2
  subst hn
  rw [if_neg q1, if_neg q2, nI_l ha, nI_l hm, nI_l (show kk < 2 ^ 31 by omega), lN_add]
  have key : (nI kk - nI a < nI m) ↔ kk < a + m := by
    rw [Int32.lt_iff_toInt_lt, Int32.toInt_sub, nI_toInt (show kk < 2 ^ 31 by omega), nI_toInt ha, nI_toInt hm, Int.bmod_def]
    split <;> omega
  by_cases z : kk < a + m
  · refine Or.inl ⟨by rw [if_pos (key.mpr z)], Or.inr (Or.inr ⟨q1, q2, ?_⟩)⟩
    rw [lg_cmp_gt]
    exact (pk_lLT (by omega) (by omega)).mpr z
  · refine Or.inr ⟨a, m, rfl, rfl, by omega, by rw [if_neg (fun c => z (key.mp c))], ?_⟩
    rw [lg_cmp_le]
    exact (pk_lLE (by omega) (by omega)).mpr (by omega)

