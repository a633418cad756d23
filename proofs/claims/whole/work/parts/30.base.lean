/-! numbers, ranges, findings -/
theorem nl0 : (0 : Int32) = nI 0 := rfl
theorem nl1 : (1 : Int32) = nI 1 := rfl
theorem nl2 : (2 : Int32) = nI 2 := rfl
theorem nl3 : (3 : Int32) = nI 3 := rfl
theorem nl4 : (4 : Int32) = nI 4 := rfl
theorem nl5 : (5 : Int32) = nI 5 := rfl
theorem nl6 : (6 : Int32) = nI 6 := rfl
theorem nl7 : (7 : Int32) = nI 7 := rfl
theorem nl8 : (8 : Int32) = nI 8 := rfl
theorem nl9 : (9 : Int32) = nI 9 := rfl
theorem nl10 : (10 : Int32) = nI 10 := rfl
theorem nl11 : (11 : Int32) = nI 11 := rfl
theorem nl12 : (12 : Int32) = nI 12 := rfl
theorem nl13 : (13 : Int32) = nI 13 := rfl
theorem nl14 : (14 : Int32) = nI 14 := rfl
theorem nl15 : (15 : Int32) = nI 15 := rfl
theorem nl16 : (16 : Int32) = nI 16 := rfl
theorem nl17 : (17 : Int32) = nI 17 := rfl
theorem nl18 : (18 : Int32) = nI 18 := rfl
theorem nl19 : (19 : Int32) = nI 19 := rfl
theorem nl20 : (20 : Int32) = nI 20 := rfl
theorem nl21 : (21 : Int32) = nI 21 := rfl
theorem nl22 : (22 : Int32) = nI 22 := rfl
theorem nl23 : (23 : Int32) = nI 23 := rfl
theorem nl24 : (24 : Int32) = nI 24 := rfl
theorem nl25 : (25 : Int32) = nI 25 := rfl
theorem nl26 : (26 : Int32) = nI 26 := rfl
theorem nl27 : (27 : Int32) = nI 27 := rfl
theorem nl28 : (28 : Int32) = nI 28 := rfl
theorem nl29 : (29 : Int32) = nI 29 := rfl
theorem nl30 : (30 : Int32) = nI 30 := rfl
theorem nl31 : (31 : Int32) = nI 31 := rfl
theorem nl32 : (32 : Int32) = nI 32 := rfl
theorem nl33 : (33 : Int32) = nI 33 := rfl
theorem nl34 : (34 : Int32) = nI 34 := rfl
theorem nl35 : (35 : Int32) = nI 35 := rfl
theorem nl36 : (36 : Int32) = nI 36 := rfl
theorem nl37 : (37 : Int32) = nI 37 := rfl
theorem nl38 : (38 : Int32) = nI 38 := rfl
theorem nl39 : (39 : Int32) = nI 39 := rfl
theorem nl40 : (40 : Int32) = nI 40 := rfl
theorem nl41 : (41 : Int32) = nI 41 := rfl
theorem nl42 : (42 : Int32) = nI 42 := rfl
theorem nl43 : (43 : Int32) = nI 43 := rfl
theorem nl44 : (44 : Int32) = nI 44 := rfl
theorem nl45 : (45 : Int32) = nI 45 := rfl
theorem nl46 : (46 : Int32) = nI 46 := rfl
theorem nl47 : (47 : Int32) = nI 47 := rfl
theorem nl48 : (48 : Int32) = nI 48 := rfl
theorem nl49 : (49 : Int32) = nI 49 := rfl
theorem nl50 : (50 : Int32) = nI 50 := rfl
theorem nl86 : (86 : Int32) = nI 86 := rfl
theorem nl87 : (87 : Int32) = nI 87 := rfl
theorem nl99 : (99 : Int32) = nI 99 := rfl
theorem nl100 : (100 : Int32) = nI 100 := rfl
theorem nl120 : (120 : Int32) = nI 120 := rfl
theorem nl122 : (122 : Int32) = nI 122 := rfl
theorem nl158 : (158 : Int32) = nI 158 := rfl
theorem nl218 : (218 : Int32) = nI 218 := rfl
theorem nl240 : (240 : Int32) = nI 240 := rfl
theorem nl1000 : (1000 : Int32) = nI 1000 := rfl
theorem nl9999 : (9999 : Int32) = nI 9999 := rfl

theorem kx {α : Type} {k n : Nat} (h : k < n) (hn : n < 2 ^ 31) (x : Option α) : kidx (nI k) n x = x := kidx_of (vp_in_nI h hn)
theorem isWithin_eq : f_X_isWithin = f_M_within := rfl
theorem within_y {x lo hi : Int32} (h1 : ¬ x < lo) (h2 : ¬ hi < x) : f_M_within x lo hi = some 1 := by
  unfold f_M_within
  rw [if_neg h1, if_neg h2]
theorem within_n {x lo hi : Int32} (h : x < lo ∨ hi < x) : f_M_within x lo hi = some 0 := by
  unfold f_M_within
  by_cases h1 : x < lo
  · rw [if_pos h1]
  · rw [if_neg h1, if_pos (h.resolve_left h1)]
theorem within_or (x lo hi : Int32) : (f_M_within x lo hi = some 0 ∧ (x < lo ∨ hi < x)) ∨ (f_M_within x lo hi = some 1 ∧ ¬ x < lo ∧ ¬ hi < x) := by
  by_cases h1 : x < lo
  · exact Or.inl ⟨within_n (Or.inl h1), Or.inl h1⟩
  · by_cases h2 : hi < x
    · exact Or.inl ⟨within_n (Or.inr h2), Or.inr h2⟩
    · exact Or.inr ⟨within_y h1 h2, h1, h2⟩
/-- 0 to n -/
theorem rg (n : Nat) (hn : n < 2 ^ 30) (x : Int32) : (f_M_within x 0 (nI n) = some 0 ∧ (x < 0 ∨ nI n < x)) ∨ ∃ k, k < n + 1 ∧ x = nI k ∧ f_M_within x 0 (nI n) = some 1 := by
  rcases within_or x 0 (nI n) with h | ⟨h1, h2, h3⟩
  · exact Or.inl h
  · obtain ⟨j, hj, rfl⟩ := nI_of h2
    refine Or.inr ⟨j, ?_, rfl, h1⟩
    rcases Nat.lt_or_ge j (n + 1) with q | q
    · exact q
    · exact absurd (nI_lt (a := n) (b := j) q hj) h3
/-- lo to n -/
theorem rg2 (lo n : Nat) (hn : n < 2 ^ 30) (hl : lo ≤ n) (x : Int32) : (f_M_within x (nI lo) (nI n) = some 0 ∧ (x < nI lo ∨ nI n < x)) ∨ ∃ k, lo ≤ k ∧ k < n + 1 ∧ x = nI k ∧ f_M_within x (nI lo) (nI n) = some 1 := by
  rcases within_or x (nI lo) (nI n) with h | ⟨h1, h2, h3⟩
  · exact Or.inl h
  · have h0 : ¬ x < 0 := fun q => h2 (by
      rw [Int32.lt_iff_toInt_lt] at q ⊢
      rw [nI_toInt (by omega)]
      have : (0 : Int32).toInt = 0 := by decide
      omega)
    obtain ⟨j, hj, rfl⟩ := nI_of h0
    refine Or.inr ⟨j, ?_, ?_, rfl, h1⟩
    · rcases Nat.lt_or_ge j lo with q | q
      · exact absurd (nI_lt (a := j) (b := lo) q (by omega)) h2
      · exact q
    · rcases Nat.lt_or_ge j (n + 1) with q | q
      · exact q
      · exact absurd (nI_lt (a := n) (b := j) q hj) h3
theorem b01 {α : Type} {r : Int32} {x : Option α} (h : r = 0 ∨ r = 1) : (if r = 0 ∨ r = 1 then x else none) = x := if_pos h
theorem i10 : ¬ (1 : Int32) = 0 := by decide
theorem isCell_cases (x : Int32) : (f_X_isCell x = some 0 ∧ f_M_isCell x = some 0) ∨ ∃ k, k < 36 ∧ x = nI k ∧ f_X_isCell x = some 1 ∧ f_M_isCell x = some 1 := by
  rcases rg 35 (by decide) x with ⟨h1, h2⟩ | ⟨k, hk, rfl, h1⟩
  · have h1 : f_M_within x 0 35 = some 0 := h1
    refine Or.inl ⟨?_, ?_⟩
    · unfold f_X_isCell
      by_cases q : x < 0
      · rw [if_pos q]
      · rw [if_neg q]
        obtain ⟨j, hj, rfl⟩ := nI_of q
        have h3 := h2.resolve_left q
        have h4 : 35 < j := (nI_ltI (by decide) hj).mp h3
        rw [if_pos (show (36 : Int32) ≤ nI j from nI_le (a := 36) h4 hj)]
    · unfold f_M_isCell
      rw [h1, kb1_eq, b01 (Or.inl rfl)]
  · have h1 : f_M_within (nI k) 0 35 = some 1 := h1
    refine Or.inr ⟨k, hk, rfl, ?_, ?_⟩
    · unfold f_X_isCell
      rw [if_neg (nI_pos (by omega)), if_neg (show ¬ (36 : Int32) ≤ nI k from nI_ge (b := 36) hk (by decide))]
    · unfold f_M_isCell
      rw [h1, kb1_eq, b01 (Or.inr rfl)]

theorem isKind_cases (x : Int32) : (f_X_isKind x = some 0 ∧ f_M_isKind x = some 0) ∨ ∃ k, k < 6 ∧ x = nI k ∧ f_X_isKind x = some 1 ∧ f_M_isKind x = some 1 := by
  rcases rg 5 (by decide) x with ⟨h1, -⟩ | ⟨k, hk, rfl, h1⟩
  · have h1 : f_M_within x 0 5 = some 0 := h1
    refine Or.inl ⟨?_, ?_⟩
    · unfold f_X_isKind
      rw [isWithin_eq, h1, kb1_eq, b01 (Or.inl rfl)]
    · unfold f_M_isKind
      rw [h1, kb1_eq, b01 (Or.inl rfl)]
  · have h1 : f_M_within (nI k) 0 5 = some 1 := h1
    refine Or.inr ⟨k, hk, rfl, ?_, ?_⟩
    · unfold f_X_isKind
      rw [isWithin_eq, h1, kb1_eq, b01 (Or.inr rfl)]
    · unfold f_M_isKind
      rw [h1, kb1_eq, b01 (Or.inr rfl)]
theorem isState_cases (x : Int32) : (f_X_isState x = some 0 ∧ f_M_isState x = some 0) ∨ ∃ k, k < 4 ∧ x = nI k ∧ f_X_isState x = some 1 ∧ f_M_isState x = some 1 := by
  rcases rg 3 (by decide) x with ⟨h1, -⟩ | ⟨k, hk, rfl, h1⟩
  · have h1 : f_M_within x 0 3 = some 0 := h1
    refine Or.inl ⟨?_, ?_⟩
    · unfold f_X_isState
      rw [isWithin_eq, h1, kb1_eq, b01 (Or.inl rfl)]
    · unfold f_M_isState
      rw [h1, kb1_eq, b01 (Or.inl rfl)]
  · have h1 : f_M_within (nI k) 0 3 = some 1 := h1
    refine Or.inr ⟨k, hk, rfl, ?_, ?_⟩
    · unfold f_X_isState
      rw [isWithin_eq, h1, kb1_eq, b01 (Or.inr rfl)]
    · unfold f_M_isState
      rw [h1, kb1_eq, b01 (Or.inr rfl)]
theorem isSign_cases (x : Int32) : (f_X_isSign x = some 0 ∧ f_M_isState x = some 0) ∨ ∃ k, k < 4 ∧ x = nI k ∧ f_X_isSign x = some 1 ∧ f_M_isState x = some 1 := by
  rcases rg 3 (by decide) x with ⟨h1, -⟩ | ⟨k, hk, rfl, h1⟩
  · have h1 : f_M_within x 0 3 = some 0 := h1
    refine Or.inl ⟨?_, ?_⟩
    · unfold f_X_isSign
      rw [isWithin_eq, h1, kb1_eq, b01 (Or.inl rfl)]
    · unfold f_M_isState
      rw [h1, kb1_eq, b01 (Or.inl rfl)]
  · have h1 : f_M_within (nI k) 0 3 = some 1 := h1
    refine Or.inr ⟨k, hk, rfl, ?_, ?_⟩
    · unfold f_X_isSign
      rw [isWithin_eq, h1, kb1_eq, b01 (Or.inr rfl)]
    · unfold f_M_isState
      rw [h1, kb1_eq, b01 (Or.inr rfl)]
theorem isSheet_cases (x : Int32) : (f_X_isSheet x = some 0 ∧ f_M_isSheet x = some 0) ∨ ∃ k, k < 4 ∧ x = nI k ∧ f_X_isSheet x = some 1 ∧ f_M_isSheet x = some 1 := by
  rcases rg 3 (by decide) x with ⟨h1, -⟩ | ⟨k, hk, rfl, h1⟩
  · have h1 : f_M_within x 0 3 = some 0 := h1
    refine Or.inl ⟨?_, ?_⟩
    · unfold f_X_isSheet
      rw [isWithin_eq, h1, kb1_eq, b01 (Or.inl rfl)]
    · unfold f_M_isSheet
      rw [h1, kb1_eq, b01 (Or.inl rfl)]
  · have h1 : f_M_within (nI k) 0 3 = some 1 := h1
    refine Or.inr ⟨k, hk, rfl, ?_, ?_⟩
    · unfold f_X_isSheet
      rw [isWithin_eq, h1, kb1_eq, b01 (Or.inr rfl)]
    · unfold f_M_isSheet
      rw [h1, kb1_eq, b01 (Or.inr rfl)]
theorem isOwner_cases (x : Int32) : (f_X_isOwner x = some 0 ∧ f_M_within x 0 5 = some 0) ∨ ∃ k, k < 6 ∧ x = nI k ∧ f_X_isOwner x = some 1 ∧ f_M_within x 0 5 = some 1 := by
  rcases rg 5 (by decide) x with ⟨h1, -⟩ | ⟨k, hk, rfl, h1⟩
  · have h1 : f_M_within x 0 5 = some 0 := h1
    refine Or.inl ⟨?_, h1⟩
    unfold f_X_isOwner
    rw [isWithin_eq, h1, kb1_eq, b01 (Or.inl rfl)]
  · have h1 : f_M_within (nI k) 0 5 = some 1 := h1
    refine Or.inr ⟨k, hk, rfl, ?_, h1⟩
    unfold f_X_isOwner
    rw [isWithin_eq, h1, kb1_eq, b01 (Or.inr rfl)]
theorem isVolume_cases (x : Int32) : (f_X_isVolume x = some 0 ∧ f_M_isVolume x = some 0) ∨ ∃ k, 1 ≤ k ∧ k ≤ 99 ∧ x = nI k ∧ f_X_isVolume x = some 1 ∧ f_M_isVolume x = some 1 := by
  rcases rg2 1 99 (by decide) (by decide) x with ⟨h1, -⟩ | ⟨k, hk, hk2, rfl, h1⟩
  · have h1 : f_M_within x 1 99 = some 0 := h1
    refine Or.inl ⟨?_, ?_⟩
    · unfold f_X_isVolume
      rw [isWithin_eq, h1, kb1_eq, b01 (Or.inl rfl)]
    · unfold f_M_isVolume
      rw [h1, kb1_eq, b01 (Or.inl rfl)]
  · have h1 : f_M_within (nI k) 1 99 = some 1 := h1
    refine Or.inr ⟨k, hk, by omega, rfl, ?_, ?_⟩
    · unfold f_X_isVolume
      rw [isWithin_eq, h1, kb1_eq, b01 (Or.inr rfl)]
    · unfold f_M_isVolume
      rw [h1, kb1_eq, b01 (Or.inr rfl)]
/-- the findings of both -/
def RF (fi fo : Nat → Int32) : Prop := (∀ j, j < 7 → fo (j + 1) = fi j) ∧ fo 0 = 0 + fi 0 + fi 1 + fi 2 + fi 3 + fi 4 + fi 5 + fi 6
theorem RF.inc {fi fo : Nat → Int32} (F : RF fi fo) {j : Nat} (hj : j < 7) : RF (upd fi j (fi j + 1)) (upd (upd fo (j + 1) (fo (j + 1) + 1)) 0 (fo 0 + 1)) := by
  obtain ⟨h1, h2⟩ := F
  refine ⟨fun i hi => ?_, ?_⟩
  · rw [pk_un (by omega : i + 1 ≠ 0)]
    by_cases q : i = j
    · subst q
      rw [pk_us, pk_us, h1 i hi]
    · rw [pk_un (by omega : i + 1 ≠ j + 1), pk_un q, h1 i hi]
  · rw [pk_us, h2]
    have cases7 : j = 0 ∨ j = 1 ∨ j = 2 ∨ j = 3 ∨ j = 4 ∨ j = 5 ∨ j = 6 := by omega
    rcases cases7 with rfl | rfl | rfl | rfl | rfl | rfl | rfl <;> simp only [upd] <;> simp <;> ac_rfl

theorem fnd0 {fi fo : Nat → Int32} (F : RF fi fo) : ∃ fi' fo', f_X_finding fi 0 = some (-1000000001, fi') ∧ f_M_finding fo (-1000000001) = some (-1000000001, fo') ∧ RF fi' fo' := by
  refine ⟨_, _, ?_, ?_, F.inc (j := 0) (by decide)⟩
  · unfold f_X_finding
    rw [isWithin_eq, within_y (by decide) (by decide), kb1_eq, if_neg i10, nl0, kx (by decide) (by decide), kx (by decide) (by decide), nI_clamp (by decide)]
    rfl
  · unfold f_M_finding
    rw [show ((-1000000001 : Int32) - (-1000000001)) + 1 = nI 1 by decide]
    simp only [kx (k := 1) (n := 8) (by decide) (by decide), klet_eq, nI_clamp (n := 1) (by decide)]
    rw [pk_un (by decide)]
theorem fnd1 {fi fo : Nat → Int32} (F : RF fi fo) : ∃ fi' fo', f_X_finding fi 1 = some (-1000000002, fi') ∧ f_M_finding fo (-1000000002) = some (-1000000002, fo') ∧ RF fi' fo' := by
  refine ⟨_, _, ?_, ?_, F.inc (j := 1) (by decide)⟩
  · unfold f_X_finding
    rw [isWithin_eq, within_y (by decide) (by decide), kb1_eq, if_neg i10, nl1, kx (by decide) (by decide), kx (by decide) (by decide), nI_clamp (by decide)]
    rfl
  · unfold f_M_finding
    rw [show ((-1000000001 : Int32) - (-1000000002)) + 1 = nI 2 by decide]
    simp only [kx (k := 2) (n := 8) (by decide) (by decide), klet_eq, nI_clamp (n := 2) (by decide)]
    rw [pk_un (by decide)]
theorem fnd2 {fi fo : Nat → Int32} (F : RF fi fo) : ∃ fi' fo', f_X_finding fi 2 = some (-1000000003, fi') ∧ f_M_finding fo (-1000000003) = some (-1000000003, fo') ∧ RF fi' fo' := by
  refine ⟨_, _, ?_, ?_, F.inc (j := 2) (by decide)⟩
  · unfold f_X_finding
    rw [isWithin_eq, within_y (by decide) (by decide), kb1_eq, if_neg i10, nl2, kx (by decide) (by decide), kx (by decide) (by decide), nI_clamp (by decide)]
    rfl
  · unfold f_M_finding
    rw [show ((-1000000001 : Int32) - (-1000000003)) + 1 = nI 3 by decide]
    simp only [kx (k := 3) (n := 8) (by decide) (by decide), klet_eq, nI_clamp (n := 3) (by decide)]
    rw [pk_un (by decide)]
theorem fnd3 {fi fo : Nat → Int32} (F : RF fi fo) : ∃ fi' fo', f_X_finding fi 3 = some (-1000000004, fi') ∧ f_M_finding fo (-1000000004) = some (-1000000004, fo') ∧ RF fi' fo' := by
  refine ⟨_, _, ?_, ?_, F.inc (j := 3) (by decide)⟩
  · unfold f_X_finding
    rw [isWithin_eq, within_y (by decide) (by decide), kb1_eq, if_neg i10, nl3, kx (by decide) (by decide), kx (by decide) (by decide), nI_clamp (by decide)]
    rfl
  · unfold f_M_finding
    rw [show ((-1000000001 : Int32) - (-1000000004)) + 1 = nI 4 by decide]
    simp only [kx (k := 4) (n := 8) (by decide) (by decide), klet_eq, nI_clamp (n := 4) (by decide)]
    rw [pk_un (by decide)]
theorem fnd4 {fi fo : Nat → Int32} (F : RF fi fo) : ∃ fi' fo', f_X_finding fi 4 = some (-1000000005, fi') ∧ f_M_finding fo (-1000000005) = some (-1000000005, fo') ∧ RF fi' fo' := by
  refine ⟨_, _, ?_, ?_, F.inc (j := 4) (by decide)⟩
  · unfold f_X_finding
    rw [isWithin_eq, within_y (by decide) (by decide), kb1_eq, if_neg i10, nl4, kx (by decide) (by decide), kx (by decide) (by decide), nI_clamp (by decide)]
    rfl
  · unfold f_M_finding
    rw [show ((-1000000001 : Int32) - (-1000000005)) + 1 = nI 5 by decide]
    simp only [kx (k := 5) (n := 8) (by decide) (by decide), klet_eq, nI_clamp (n := 5) (by decide)]
    rw [pk_un (by decide)]
theorem fnd5 {fi fo : Nat → Int32} (F : RF fi fo) : ∃ fi' fo', f_X_finding fi 5 = some (-1000000006, fi') ∧ f_M_finding fo (-1000000006) = some (-1000000006, fo') ∧ RF fi' fo' := by
  refine ⟨_, _, ?_, ?_, F.inc (j := 5) (by decide)⟩
  · unfold f_X_finding
    rw [isWithin_eq, within_y (by decide) (by decide), kb1_eq, if_neg i10, nl5, kx (by decide) (by decide), kx (by decide) (by decide), nI_clamp (by decide)]
    rfl
  · unfold f_M_finding
    rw [show ((-1000000001 : Int32) - (-1000000006)) + 1 = nI 6 by decide]
    simp only [kx (k := 6) (n := 8) (by decide) (by decide), klet_eq, nI_clamp (n := 6) (by decide)]
    rw [pk_un (by decide)]
theorem fnd6 {fi fo : Nat → Int32} (F : RF fi fo) : ∃ fi' fo', f_X_finding fi 6 = some (-1000000007, fi') ∧ f_M_finding fo (-1000000007) = some (-1000000007, fo') ∧ RF fi' fo' := by
  refine ⟨_, _, ?_, ?_, F.inc (j := 6) (by decide)⟩
  · unfold f_X_finding
    rw [isWithin_eq, within_y (by decide) (by decide), kb1_eq, if_neg i10, nl6, kx (by decide) (by decide), kx (by decide) (by decide), nI_clamp (by decide)]
    rfl
  · unfold f_M_finding
    rw [show ((-1000000001 : Int32) - (-1000000007)) + 1 = nI 7 by decide]
    simp only [kx (k := 7) (n := 8) (by decide) (by decide), klet_eq, nI_clamp (n := 7) (by decide)]
    rw [pk_un (by decide)]
/-- the cell beside another one in a way; 99: none -/
def nb (c w : Nat) : Nat := if w = 0 then (if c < 6 then 99 else c - 6) else if w = 1 then (if c % 6 = 5 then 99 else c + 1) else if w = 2 then (if 30 ≤ c then 99 else c + 6) else (if c % 6 = 0 then 99 else c - 1)
/-- a part of the reference's row is an array of the class -/
def RA (off n : Nat) (a A : Nat → Int32) : Prop := ∀ i, i < n → A (off + i) = a i
def RFm (ki ce ow pu : Nat → Int32) (bu : Int32) (A : Nat → Int32) : Prop := ∀ f, f < 12 → A (158 + 5 * f) = ki f ∧ A (158 + 5 * f + 1) = ce f ∧ A (158 + 5 * f + 2) = ow f ∧ A (158 + 5 * f + 3) = pu f ∧ A (158 + 5 * f + 4) = (bu >>> (nI f &&& 31)) &&& 1
def RSc (z mo st vt ash vo ou fe fq pi nu se : Int32) (A : Nat → Int32) : Prop := A 0 = z ∧ A 1 = mo ∧ A 2 = st ∧ A 3 = vt ∧ A 4 = ash ∧ A 5 = vo ∧ A 6 = ou ∧ A 7 = fe ∧ A 8 = fq ∧ A 9 = pi ∧ A 10 = nu ∧ A 11 = se
def RS (mo : Int32) (vo : Int32) (ou : Int32) (fe : Int32) (fq : Int32) (pi : Int32) (vt : Int32) (ash : Int32) (hs : Nat → Int32) (ag : Nat → Int32) (ws : Nat → Int32) (nu : Int32) (bu : Int32) (ki : Nat → Int32) (ce : Nat → Int32) (ow : Nat → Int32) (pu : Nat → Int32) (se : Int32) (st : Int32) (z : Int32) (ch : Nat → Int32) (sh : Nat → Int32) (di : Nat → Int32) (A : Nat → Int32) : Prop :=
  (RA 50 36 hs A ∧ RA 86 36 ag A ∧ RA 122 36 ws A ∧ RA 18 16 ch A ∧ RA 34 16 sh A ∧ RA 12 6 di A) ∧ RFm ki ce ow pu bu A ∧ RSc z mo st vt ash vo ou fe fq pi nu se A
/-- what always holds of a slope -/
def IS (mo : Int32) (vo : Int32) (ou : Int32) (fe : Int32) (fq : Int32) (pi : Int32) (vt : Int32) (ash : Int32) (hs : Nat → Int32) (ag : Nat → Int32) (ws : Nat → Int32) (nu : Int32) (bu : Int32) (ki : Nat → Int32) (ce : Nat → Int32) (ow : Nat → Int32) (pu : Nat → Int32) (se : Int32) (st : Int32) (z : Int32) (ch : Nat → Int32) (sh : Nat → Int32) (di : Nat → Int32) : Prop :=
  (∃ N, N ≤ 12 ∧ nu = nI N ∧ (∀ f, f < N → ∃ c, c < 36 ∧ ce f = nI c) ∧ (∀ f g, f < N → g < N → ce f = ce g → f = g) ∧ (∀ f, f < N → ∃ k, k < 6 ∧ ki f = nI k) ∧ ∃ B, B < 2 ^ N ∧ bu = nI B) ∧
  (∃ v, v < 36 ∧ vt = nI v) ∧ (∃ v, 1 ≤ v ∧ v ≤ 99 ∧ vo = nI v) ∧ (∃ W : Nat → Nat, (∀ i, i < 36 → W i < 16 ∧ ws i = nI (W i)) ∧ ∀ c w, c < 36 → w < 4 → nb c w < 36 → (W c).testBit w = (W (nb c w)).testBit ((w + 2) % 4)) ∧
  (∀ s, s < 4 → ∃ a b c d, a + b + c + d = 10 ∧ ch (4 * s) = nI a ∧ ch (4 * s + 1) = nI b ∧ ch (4 * s + 2) = nI c ∧ ch (4 * s + 3) = nI d) ∧ (∀ i, i < 16 → ∃ k, k ≤ 10 ∧ sh i = nI k) ∧
  (∃ q, q ≤ 6 ∧ se = nI q ∧ ∀ i, i < q → ∃ k, k < 4 ∧ di i = nI k) ∧ (∃ k, k < 4 ∧ st = nI k) ∧
  (∃ m o f q, mo = nI m ∧ ou = nI o ∧ fe = nI f ∧ fq = nI q ∧ m ≤ 9999 ∧ q ≤ f ∧ q ≤ o ∧ o ≤ m ∧ f ≤ m) ∧ (pi = 0 ∨ pi = 1)
theorem RA.out {off n p : Nat} {a A : Nat → Int32} {v : Int32} (h : RA off n a A) (hp : p < off ∨ off + n ≤ p) : RA off n a (upd A p v) := fun i hi => by rw [pk_un (by omega)]; exact h i hi
theorem RA.at {off n i : Nat} {a A : Nat → Int32} {v : Int32} (h : RA off n a A) (hi : i < n) : RA off n (upd a i v) (upd A (off + i) v) := fun j hj => by
  by_cases q : j = i
  · subst q; rw [pk_us, pk_us]
  · rw [pk_un (by omega), pk_un q]; exact h j hj
theorem RSc.out {z mo st vt ash vo ou fe fq pi nu se : Int32} {A : Nat → Int32} {p : Nat} {v : Int32} (h : RSc z mo st vt ash vo ou fe fq pi nu se A) (hp : 12 ≤ p) : RSc z mo st vt ash vo ou fe fq pi nu se (upd A p v) := by
  obtain ⟨h0, h1, h2, h3, h4, h5, h6, h7, h8, h9, h10, h11⟩ := h
  refine ⟨?_, ?_, ?_, ?_, ?_, ?_, ?_, ?_, ?_, ?_, ?_, ?_⟩ <;> (rw [pk_un (by omega)]; assumption)
theorem RSc.s0 {z mo st vt ash vo ou fe fq pi nu se : Int32} {A : Nat → Int32} {v : Int32} (h : RSc z mo st vt ash vo ou fe fq pi nu se A) : RSc v mo st vt ash vo ou fe fq pi nu se (upd A 0 v) := by
  obtain ⟨h0, h1, h2, h3, h4, h5, h6, h7, h8, h9, h10, h11⟩ := h
  exact ⟨pk_us, (pk_un (by decide)).trans h1, (pk_un (by decide)).trans h2, (pk_un (by decide)).trans h3, (pk_un (by decide)).trans h4, (pk_un (by decide)).trans h5, (pk_un (by decide)).trans h6, (pk_un (by decide)).trans h7, (pk_un (by decide)).trans h8, (pk_un (by decide)).trans h9, (pk_un (by decide)).trans h10, (pk_un (by decide)).trans h11⟩
theorem RSc.s1 {z mo st vt ash vo ou fe fq pi nu se : Int32} {A : Nat → Int32} {v : Int32} (h : RSc z mo st vt ash vo ou fe fq pi nu se A) : RSc z v st vt ash vo ou fe fq pi nu se (upd A 1 v) := by
  obtain ⟨h0, h1, h2, h3, h4, h5, h6, h7, h8, h9, h10, h11⟩ := h
  exact ⟨(pk_un (by decide)).trans h0, pk_us, (pk_un (by decide)).trans h2, (pk_un (by decide)).trans h3, (pk_un (by decide)).trans h4, (pk_un (by decide)).trans h5, (pk_un (by decide)).trans h6, (pk_un (by decide)).trans h7, (pk_un (by decide)).trans h8, (pk_un (by decide)).trans h9, (pk_un (by decide)).trans h10, (pk_un (by decide)).trans h11⟩
theorem RSc.s2 {z mo st vt ash vo ou fe fq pi nu se : Int32} {A : Nat → Int32} {v : Int32} (h : RSc z mo st vt ash vo ou fe fq pi nu se A) : RSc z mo v vt ash vo ou fe fq pi nu se (upd A 2 v) := by
  obtain ⟨h0, h1, h2, h3, h4, h5, h6, h7, h8, h9, h10, h11⟩ := h
  exact ⟨(pk_un (by decide)).trans h0, (pk_un (by decide)).trans h1, pk_us, (pk_un (by decide)).trans h3, (pk_un (by decide)).trans h4, (pk_un (by decide)).trans h5, (pk_un (by decide)).trans h6, (pk_un (by decide)).trans h7, (pk_un (by decide)).trans h8, (pk_un (by decide)).trans h9, (pk_un (by decide)).trans h10, (pk_un (by decide)).trans h11⟩
theorem RSc.s3 {z mo st vt ash vo ou fe fq pi nu se : Int32} {A : Nat → Int32} {v : Int32} (h : RSc z mo st vt ash vo ou fe fq pi nu se A) : RSc z mo st v ash vo ou fe fq pi nu se (upd A 3 v) := by
  obtain ⟨h0, h1, h2, h3, h4, h5, h6, h7, h8, h9, h10, h11⟩ := h
  exact ⟨(pk_un (by decide)).trans h0, (pk_un (by decide)).trans h1, (pk_un (by decide)).trans h2, pk_us, (pk_un (by decide)).trans h4, (pk_un (by decide)).trans h5, (pk_un (by decide)).trans h6, (pk_un (by decide)).trans h7, (pk_un (by decide)).trans h8, (pk_un (by decide)).trans h9, (pk_un (by decide)).trans h10, (pk_un (by decide)).trans h11⟩
theorem RSc.s4 {z mo st vt ash vo ou fe fq pi nu se : Int32} {A : Nat → Int32} {v : Int32} (h : RSc z mo st vt ash vo ou fe fq pi nu se A) : RSc z mo st vt v vo ou fe fq pi nu se (upd A 4 v) := by
  obtain ⟨h0, h1, h2, h3, h4, h5, h6, h7, h8, h9, h10, h11⟩ := h
  exact ⟨(pk_un (by decide)).trans h0, (pk_un (by decide)).trans h1, (pk_un (by decide)).trans h2, (pk_un (by decide)).trans h3, pk_us, (pk_un (by decide)).trans h5, (pk_un (by decide)).trans h6, (pk_un (by decide)).trans h7, (pk_un (by decide)).trans h8, (pk_un (by decide)).trans h9, (pk_un (by decide)).trans h10, (pk_un (by decide)).trans h11⟩
theorem RSc.s5 {z mo st vt ash vo ou fe fq pi nu se : Int32} {A : Nat → Int32} {v : Int32} (h : RSc z mo st vt ash vo ou fe fq pi nu se A) : RSc z mo st vt ash v ou fe fq pi nu se (upd A 5 v) := by
  obtain ⟨h0, h1, h2, h3, h4, h5, h6, h7, h8, h9, h10, h11⟩ := h
  exact ⟨(pk_un (by decide)).trans h0, (pk_un (by decide)).trans h1, (pk_un (by decide)).trans h2, (pk_un (by decide)).trans h3, (pk_un (by decide)).trans h4, pk_us, (pk_un (by decide)).trans h6, (pk_un (by decide)).trans h7, (pk_un (by decide)).trans h8, (pk_un (by decide)).trans h9, (pk_un (by decide)).trans h10, (pk_un (by decide)).trans h11⟩
theorem RSc.s6 {z mo st vt ash vo ou fe fq pi nu se : Int32} {A : Nat → Int32} {v : Int32} (h : RSc z mo st vt ash vo ou fe fq pi nu se A) : RSc z mo st vt ash vo v fe fq pi nu se (upd A 6 v) := by
  obtain ⟨h0, h1, h2, h3, h4, h5, h6, h7, h8, h9, h10, h11⟩ := h
  exact ⟨(pk_un (by decide)).trans h0, (pk_un (by decide)).trans h1, (pk_un (by decide)).trans h2, (pk_un (by decide)).trans h3, (pk_un (by decide)).trans h4, (pk_un (by decide)).trans h5, pk_us, (pk_un (by decide)).trans h7, (pk_un (by decide)).trans h8, (pk_un (by decide)).trans h9, (pk_un (by decide)).trans h10, (pk_un (by decide)).trans h11⟩
theorem RSc.s7 {z mo st vt ash vo ou fe fq pi nu se : Int32} {A : Nat → Int32} {v : Int32} (h : RSc z mo st vt ash vo ou fe fq pi nu se A) : RSc z mo st vt ash vo ou v fq pi nu se (upd A 7 v) := by
  obtain ⟨h0, h1, h2, h3, h4, h5, h6, h7, h8, h9, h10, h11⟩ := h
  exact ⟨(pk_un (by decide)).trans h0, (pk_un (by decide)).trans h1, (pk_un (by decide)).trans h2, (pk_un (by decide)).trans h3, (pk_un (by decide)).trans h4, (pk_un (by decide)).trans h5, (pk_un (by decide)).trans h6, pk_us, (pk_un (by decide)).trans h8, (pk_un (by decide)).trans h9, (pk_un (by decide)).trans h10, (pk_un (by decide)).trans h11⟩
theorem RSc.s8 {z mo st vt ash vo ou fe fq pi nu se : Int32} {A : Nat → Int32} {v : Int32} (h : RSc z mo st vt ash vo ou fe fq pi nu se A) : RSc z mo st vt ash vo ou fe v pi nu se (upd A 8 v) := by
  obtain ⟨h0, h1, h2, h3, h4, h5, h6, h7, h8, h9, h10, h11⟩ := h
  exact ⟨(pk_un (by decide)).trans h0, (pk_un (by decide)).trans h1, (pk_un (by decide)).trans h2, (pk_un (by decide)).trans h3, (pk_un (by decide)).trans h4, (pk_un (by decide)).trans h5, (pk_un (by decide)).trans h6, (pk_un (by decide)).trans h7, pk_us, (pk_un (by decide)).trans h9, (pk_un (by decide)).trans h10, (pk_un (by decide)).trans h11⟩
theorem RSc.s9 {z mo st vt ash vo ou fe fq pi nu se : Int32} {A : Nat → Int32} {v : Int32} (h : RSc z mo st vt ash vo ou fe fq pi nu se A) : RSc z mo st vt ash vo ou fe fq v nu se (upd A 9 v) := by
  obtain ⟨h0, h1, h2, h3, h4, h5, h6, h7, h8, h9, h10, h11⟩ := h
  exact ⟨(pk_un (by decide)).trans h0, (pk_un (by decide)).trans h1, (pk_un (by decide)).trans h2, (pk_un (by decide)).trans h3, (pk_un (by decide)).trans h4, (pk_un (by decide)).trans h5, (pk_un (by decide)).trans h6, (pk_un (by decide)).trans h7, (pk_un (by decide)).trans h8, pk_us, (pk_un (by decide)).trans h10, (pk_un (by decide)).trans h11⟩
theorem RSc.s10 {z mo st vt ash vo ou fe fq pi nu se : Int32} {A : Nat → Int32} {v : Int32} (h : RSc z mo st vt ash vo ou fe fq pi nu se A) : RSc z mo st vt ash vo ou fe fq pi v se (upd A 10 v) := by
  obtain ⟨h0, h1, h2, h3, h4, h5, h6, h7, h8, h9, h10, h11⟩ := h
  exact ⟨(pk_un (by decide)).trans h0, (pk_un (by decide)).trans h1, (pk_un (by decide)).trans h2, (pk_un (by decide)).trans h3, (pk_un (by decide)).trans h4, (pk_un (by decide)).trans h5, (pk_un (by decide)).trans h6, (pk_un (by decide)).trans h7, (pk_un (by decide)).trans h8, (pk_un (by decide)).trans h9, pk_us, (pk_un (by decide)).trans h11⟩
theorem RSc.s11 {z mo st vt ash vo ou fe fq pi nu se : Int32} {A : Nat → Int32} {v : Int32} (h : RSc z mo st vt ash vo ou fe fq pi nu se A) : RSc z mo st vt ash vo ou fe fq pi nu v (upd A 11 v) := by
  obtain ⟨h0, h1, h2, h3, h4, h5, h6, h7, h8, h9, h10, h11⟩ := h
  exact ⟨(pk_un (by decide)).trans h0, (pk_un (by decide)).trans h1, (pk_un (by decide)).trans h2, (pk_un (by decide)).trans h3, (pk_un (by decide)).trans h4, (pk_un (by decide)).trans h5, (pk_un (by decide)).trans h6, (pk_un (by decide)).trans h7, (pk_un (by decide)).trans h8, (pk_un (by decide)).trans h9, (pk_un (by decide)).trans h10, pk_us⟩
theorem RFm.out {ki ce ow pu : Nat → Int32} {bu v : Int32} {A : Nat → Int32} {p : Nat} (h : RFm ki ce ow pu bu A) (hp : p < 158) : RFm ki ce ow pu bu (upd A p v) := fun f hf => by
  obtain ⟨h1, h2, h3, h4, h5⟩ := h f hf
  refine ⟨?_, ?_, ?_, ?_, ?_⟩ <;> (rw [pk_un (by omega)]; assumption)
theorem RFm.ki {ki ce ow pu : Nat → Int32} {bu v : Int32} {A : Nat → Int32} {f : Nat} (h : RFm ki ce ow pu bu A) : RFm (upd ki f v) ce ow pu bu (upd A (158 + 5 * f) v) := fun g hg => by
  obtain ⟨h0, h1, h2, h3, h4⟩ := h g hg
  by_cases q : g = f
  · subst q
    refine ⟨pk_us.trans pk_us.symm, (pk_un (by omega)).trans h1, (pk_un (by omega)).trans h2, (pk_un (by omega)).trans h3, (pk_un (by omega)).trans h4⟩
  · refine ⟨(pk_un (by omega)).trans (h0.trans (pk_un q).symm), (pk_un (by omega)).trans h1, (pk_un (by omega)).trans h2, (pk_un (by omega)).trans h3, (pk_un (by omega)).trans h4⟩
theorem RFm.ce {ki ce ow pu : Nat → Int32} {bu v : Int32} {A : Nat → Int32} {f : Nat} (h : RFm ki ce ow pu bu A) : RFm ki (upd ce f v) ow pu bu (upd A (158 + 5 * f + 1) v) := fun g hg => by
  obtain ⟨h0, h1, h2, h3, h4⟩ := h g hg
  by_cases q : g = f
  · subst q
    refine ⟨(pk_un (by omega)).trans h0, pk_us.trans pk_us.symm, (pk_un (by omega)).trans h2, (pk_un (by omega)).trans h3, (pk_un (by omega)).trans h4⟩
  · refine ⟨(pk_un (by omega)).trans h0, (pk_un (by omega)).trans (h1.trans (pk_un q).symm), (pk_un (by omega)).trans h2, (pk_un (by omega)).trans h3, (pk_un (by omega)).trans h4⟩
theorem RFm.ow {ki ce ow pu : Nat → Int32} {bu v : Int32} {A : Nat → Int32} {f : Nat} (h : RFm ki ce ow pu bu A) : RFm ki ce (upd ow f v) pu bu (upd A (158 + 5 * f + 2) v) := fun g hg => by
  obtain ⟨h0, h1, h2, h3, h4⟩ := h g hg
  by_cases q : g = f
  · subst q
    refine ⟨(pk_un (by omega)).trans h0, (pk_un (by omega)).trans h1, pk_us.trans pk_us.symm, (pk_un (by omega)).trans h3, (pk_un (by omega)).trans h4⟩
  · refine ⟨(pk_un (by omega)).trans h0, (pk_un (by omega)).trans h1, (pk_un (by omega)).trans (h2.trans (pk_un q).symm), (pk_un (by omega)).trans h3, (pk_un (by omega)).trans h4⟩
theorem RFm.pu {ki ce ow pu : Nat → Int32} {bu v : Int32} {A : Nat → Int32} {f : Nat} (h : RFm ki ce ow pu bu A) : RFm ki ce ow (upd pu f v) bu (upd A (158 + 5 * f + 3) v) := fun g hg => by
  obtain ⟨h0, h1, h2, h3, h4⟩ := h g hg
  by_cases q : g = f
  · subst q
    refine ⟨(pk_un (by omega)).trans h0, (pk_un (by omega)).trans h1, (pk_un (by omega)).trans h2, pk_us.trans pk_us.symm, (pk_un (by omega)).trans h4⟩
  · refine ⟨(pk_un (by omega)).trans h0, (pk_un (by omega)).trans h1, (pk_un (by omega)).trans h2, (pk_un (by omega)).trans (h3.trans (pk_un q).symm), (pk_un (by omega)).trans h4⟩
theorem RFm.bu {ki ce ow pu : Nat → Int32} {bu bu' v : Int32} {A : Nat → Int32} {f : Nat} (h : RFm ki ce ow pu bu A) (h1 : v = (bu' >>> (nI f &&& 31)) &&& 1) (h2 : ∀ g, g < 12 → g ≠ f → (bu' >>> (nI g &&& 31)) &&& 1 = (bu >>> (nI g &&& 31)) &&& 1) : RFm ki ce ow pu bu' (upd A (158 + 5 * f + 4) v) := fun g hg => by
  obtain ⟨k0, k1, k2, k3, k4⟩ := h g hg
  refine ⟨(pk_un (by omega)).trans k0, (pk_un (by omega)).trans k1, (pk_un (by omega)).trans k2, (pk_un (by omega)).trans k3, ?_⟩
  by_cases q : g = f
  · subst q; rw [pk_us]; exact h1
  · rw [pk_un (by omega), h2 g hg q]; exact k4
theorem M_farmIs_eq (A : Nat → Int32) {f j : Nat} (hf : f < 12) (hj : j < 5) : f_M_farmIs A (nI f) (nI j) = some (A (158 + 5 * f + j)) := by
  unfold f_M_farmIs
  simp only [nl158, nl5, pk_mul, nI_add]
  rw [kx (by omega) (by decide), nI_clamp (by omega)]
theorem M_become_eq (A : Nat → Int32) {p : Nat} (hp : p < 218) (v : Int32) : f_M_become A (nI p) v = some (A p, upd A p v) := by
  unfold f_M_become
  rw [kx hp (by decide), kx hp (by decide), nI_clamp (by omega)]
def RI (mo : Int32) (vo : Int32) (ou : Int32) (fe : Int32) (fq : Int32) (pi : Int32) (vt : Int32) (ash : Int32) (hs : Nat → Int32) (ag : Nat → Int32) (ws : Nat → Int32) (nu : Int32) (bu : Int32) (ki : Nat → Int32) (ce : Nat → Int32) (ow : Nat → Int32) (pu : Nat → Int32) (se : Int32) (st : Int32) (z : Int32) (ch : Nat → Int32) (sh : Nat → Int32) (di : Nat → Int32) (A : Nat → Int32) : Prop := RS mo vo ou fe fq pi vt ash hs ag ws nu bu ki ce ow pu se st z ch sh di A ∧ IS mo vo ou fe fq pi vt ash hs ag ws nu bu ki ce ow pu se st z ch sh di
