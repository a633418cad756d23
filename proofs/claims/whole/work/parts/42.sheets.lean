/-! sheets -/
/-- one sheet of both -/
def RQ (s : Nat) (b n : Int32) (L : Nat → Int64) (wd sz : Nat → Int32) (nu : Nat → Int64) : Prop := wd s = b ∧ sz s = n ∧ (∀ i, i < 40 → nu (40 * s + i) = L i) ∧ (b = 0 ∨ b = 8 ∨ b = 16 ∨ b = 64) ∧ ∃ k, k ≤ 40 ∧ n = nI k
def RH (b0 n0 : Int32) (l0 : Nat → Int64) (b1 n1 : Int32) (l1 : Nat → Int64) (b2 n2 : Int32) (l2 : Nat → Int64) (b3 n3 : Int32) (l3 : Nat → Int64) (wd sz : Nat → Int32) (nu : Nat → Int64) : Prop := RQ 0 b0 n0 l0 wd sz nu ∧ RQ 1 b1 n1 l1 wd sz nu ∧ RQ 2 b2 n2 l2 wd sz nu ∧ RQ 3 b3 n3 l3 wd sz nu
theorem RQ.other {s t : Nat} {b n : Int32} {L nu nu' : Nat → Int64} {wd sz wd' sz' : Nat → Int32} (h : RQ t b n L wd sz nu) (st : t ≠ s) (h1 : ∀ j, j ≠ s → wd' j = wd j) (h2 : ∀ j, j ≠ s → sz' j = sz j) (h3 : ∀ j, j < 40 * s ∨ 40 * s + 40 ≤ j → nu' j = nu j) : RQ t b n L wd' sz' nu' :=
  ⟨(h1 t st).trans h.1, (h2 t st).trans h.2.1, fun i hi => (h3 _ (by omega)).trans (h.2.2.1 i hi), h.2.2.2⟩
theorem lay_l (b n : Int32) : ∀ k i L, 40 - i < k → i ≤ 40 → (∀ j, j < i → L j = 0) → ∃ L', fl_Sh_lay_2 b n k (nI i) L = some (b, n, L') ∧ ∀ j, j < 40 → L' j = 0 := by
  intro k
  induction k with
  | zero => intro i _ h; exact absurd h (by omega)
  | succ k ih =>
    intro i L h hi hL
    rw [fl_Sh_lay_2_s]
    unfold fb_Sh_lay_2
    by_cases q : i = 40
    · subst q
      exact ⟨L, by rw [if_pos (show (40 : Int32) ≤ nI 40 by decide)], hL⟩
    · rw [if_neg (show ¬ (40 : Int32) ≤ nI i from nI_ge (b := 40) (by omega) (by decide)), kx (by omega) (by decide), nI_clamp (by omega), nI_1]
      refine ih (i + 1) _ (by omega) (by omega) (fun j hj => ?_)
      by_cases z : j = i
      · subst z; rw [vl_us]
      · rw [vl_un z]; exact hL j (by omega)
theorem lay_x (b n b' v : Int32) (L : Nat → Int64) : ∃ L', f_Sh_lay b n L b' v = some (b', (if b' = 0 then 0 else v), L') ∧ ∀ j, j < 40 → L' j = 0 := by
  have key : ∀ w, ∃ L', f_Sh_lay_1 w b' n L = some (b', w, L') ∧ ∀ j, j < 40 → L' j = 0 := fun w => lay_l b' w kFuel 0 L (by unfold kFuel; omega) (by omega) (fun j hj => absurd hj (by omega))
  unfold f_Sh_lay
  by_cases q : b' = 0
  · rw [if_pos q, if_pos q]; exact key 0
  · rw [if_neg q, if_neg q]; exact key v
theorem sheet4_l {s : Nat} (hs : s < 4) (fo wd sz : Nat → Int32) : ∀ k i nu, 40 - i < k → i ≤ 40 → (∀ j, j < i → nu (40 * s + j) = 0) → ∃ nu', fl_M_sheet_4 (nI s) fo wd sz k (nI i) nu = some (sz s, fo, wd, sz, nu') ∧ (∀ j, j < 40 → nu' (40 * s + j) = 0) ∧ ∀ j, j < 40 * s ∨ 40 * s + 40 ≤ j → nu' j = nu j := by
  intro k
  induction k with
  | zero => intro i _ h; exact absurd h (by omega)
  | succ k ih =>
    intro i nu h hi hL
    rw [fl_M_sheet_4_s]
    unfold fb_M_sheet_4
    have ks : (nI s).toNatClampNeg = s := nI_clamp (by omega)
    by_cases q : i = 40
    · subst q
      exact ⟨nu, by rw [if_pos (show (40 : Int32) ≤ nI 40 by decide), kx hs (by decide), ks], hL, fun _ _ => rfl⟩
    · have k1 : (nI (40 * s + i)).toNatClampNeg = 40 * s + i := nI_clamp (by omega)
      rw [if_neg (show ¬ (40 : Int32) ≤ nI i from nI_ge (b := 40) (by omega) (by decide)), nl40, pk_mul, nI_add, nI_1, kx (k := 40 * s + i) (n := 160) (by omega) (by decide), k1]
      obtain ⟨nu', e1, e2, e3⟩ := ih (i + 1) (vp_updL nu (40 * s + i) 0) (by omega) (by omega) (fun j hj => by
        by_cases z : j = i
        · subst z; rw [vl_us]
        · rw [vl_un (by omega)]; exact hL j (by omega))
      exact ⟨nu', e1, e2, fun j hj => (e3 j hj).trans (vl_un (by omega))⟩
theorem sheet3_m {s : Nat} (hs : s < 4) (fo wd sz : Nat → Int32) (nu : Nat → Int64) (b v : Int32) : ∃ nu', (if b = 0 then f_M_sheet_3 (nI s) 0 (nI s) fo (upd wd s b) sz nu else f_M_sheet_3 (nI s) v (nI s) fo (upd wd s b) sz nu) = some ((if b = 0 then 0 else v), fo, upd wd s b, upd sz s (if b = 0 then 0 else v), nu') ∧ (∀ j, j < 40 → nu' (40 * s + j) = 0) ∧ ∀ j, j < 40 * s ∨ 40 * s + 40 ≤ j → nu' j = nu j := by
  have ks : (nI s).toNatClampNeg = s := nI_clamp (by omega)
  have key : ∀ w, ∃ nu', f_M_sheet_3 (nI s) w (nI s) fo (upd wd s b) sz nu = some (w, fo, upd wd s b, upd sz s w, nu') ∧ (∀ j, j < 40 → nu' (40 * s + j) = 0) ∧ ∀ j, j < 40 * s ∨ 40 * s + 40 ≤ j → nu' j = nu j := by
    intro w
    unfold f_M_sheet_3
    rw [kx hs (by decide), ks]
    obtain ⟨nu', e1, e2, e3⟩ := sheet4_l hs fo (upd wd s b) (upd sz s w) kFuel 0 nu (by unfold kFuel; omega) (by omega) (fun j hj => absurd hj (by omega))
    rw [pk_us] at e1
    exact ⟨nu', e1, e2, e3⟩
  by_cases q : b = 0
  · rw [if_pos q, if_pos q]; exact key 0
  · rw [if_neg q, if_neg q]; exact key v

theorem sheet_2 {b0 n0 b1 n1 b2 n2 b3 n3 : Int32} {l0 l1 l2 l3 : Nat → Int64} {wd sz fi fo : Nat → Int32} {nu : Nat → Int64} (H : RH b0 n0 l0 b1 n1 l1 b2 n2 l2 b3 n3 l3 wd sz nu) (F : RF fi fo) {s : Nat} (hs : s < 4) {x2 : Int32} (hb : x2 = 0 ∨ x2 = 8 ∨ x2 = 16 ∨ x2 = 64) (x3 : Int32) : ∃ r b0' n0' l0' b1' n1' l1' b2' n2' l2' b3' n3' l3' fi' fo' wd' sz' nu', f_X_sheet_2 (nI s) x2 x3 b0 n0 l0 b1 n1 l1 b2 n2 l2 b3 n3 l3 fi = some (r, b0', n0', l0', b1', n1', l1', b2', n2', l2', b3', n3', l3', fi') ∧ f_M_sheet_2 (nI s) x2 x3 fo wd sz nu = some (r, fo', wd', sz', nu') ∧ RH b0' n0' l0' b1' n1' l1' b2' n2' l2' b3' n3' l3' wd' sz' nu' ∧ RF fi' fo' := by
  obtain ⟨H0, H1, H2, H3⟩ := id H
  unfold f_X_sheet_2 f_M_sheet_2
  by_cases q : 0 ≤ x3
  · rw [if_pos q, if_pos q]
    by_cases q2 : x3 ≤ 40
    · rw [if_pos q2, if_pos q2]
      obtain ⟨v, hv, rfl⟩ := nI_of2 (M := 40) (n := 40) (by decide) (by rw [Int32.lt_iff_toInt_lt]; rw [Int32.le_iff_toInt_le] at q; omega) q2
      have hn : ∃ k, k ≤ 40 ∧ (if x2 = 0 then 0 else nI v) = nI k := by
        by_cases z : x2 = 0
        · exact ⟨0, by omega, by rw [if_pos z]; rfl⟩
        · exact ⟨v, hv, by rw [if_neg z]⟩
      have c4 : s = 0 ∨ s = 1 ∨ s = 2 ∨ s = 3 := by omega
      rcases c4 with rfl | rfl | rfl | rfl
      · obtain ⟨L', d1, d2⟩ := lay_x b0 n0 x2 (nI v) l0
        obtain ⟨nu', g1, g2, g3⟩ := sheet3_m (s := 0) (by decide) fo wd sz nu x2 (nI v)
        refine ⟨(if x2 = 0 then 0 else nI v), x2, (if x2 = 0 then 0 else nI v), L', b1, n1, l1, b2, n2, l2, b3, n3, l3, fi, fo, upd wd 0 x2, upd sz 0 (if x2 = 0 then 0 else nI v), nu', ?_, ?_, ⟨⟨pk_us, pk_us, fun i hi => (g2 i hi).trans (d2 i hi).symm, hb, hn⟩, H1.other (s := 0) (by decide) (fun j hj => pk_un hj) (fun j hj => pk_un hj) g3, H2.other (s := 0) (by decide) (fun j hj => pk_un hj) (fun j hj => pk_un hj) g3, H3.other (s := 0) (by decide) (fun j hj => pk_un hj) (fun j hj => pk_un hj) g3⟩, F⟩
        · rw [if_pos (by decide), d1, kb3_eq]
        · rw [kx (by decide) (by decide), nI_clamp (by decide)]; exact g1
      · obtain ⟨L', d1, d2⟩ := lay_x b1 n1 x2 (nI v) l1
        obtain ⟨nu', g1, g2, g3⟩ := sheet3_m (s := 1) (by decide) fo wd sz nu x2 (nI v)
        refine ⟨(if x2 = 0 then 0 else nI v), b0, n0, l0, x2, (if x2 = 0 then 0 else nI v), L', b2, n2, l2, b3, n3, l3, fi, fo, upd wd 1 x2, upd sz 1 (if x2 = 0 then 0 else nI v), nu', ?_, ?_, ⟨H0.other (s := 1) (by decide) (fun j hj => pk_un hj) (fun j hj => pk_un hj) g3, ⟨pk_us, pk_us, fun i hi => (g2 i hi).trans (d2 i hi).symm, hb, hn⟩, H2.other (s := 1) (by decide) (fun j hj => pk_un hj) (fun j hj => pk_un hj) g3, H3.other (s := 1) (by decide) (fun j hj => pk_un hj) (fun j hj => pk_un hj) g3⟩, F⟩
        · rw [if_neg (by decide), if_pos (by decide), d1, kb3_eq]
        · rw [kx (by decide) (by decide), nI_clamp (by decide)]; exact g1
      · obtain ⟨L', d1, d2⟩ := lay_x b2 n2 x2 (nI v) l2
        obtain ⟨nu', g1, g2, g3⟩ := sheet3_m (s := 2) (by decide) fo wd sz nu x2 (nI v)
        refine ⟨(if x2 = 0 then 0 else nI v), b0, n0, l0, b1, n1, l1, x2, (if x2 = 0 then 0 else nI v), L', b3, n3, l3, fi, fo, upd wd 2 x2, upd sz 2 (if x2 = 0 then 0 else nI v), nu', ?_, ?_, ⟨H0.other (s := 2) (by decide) (fun j hj => pk_un hj) (fun j hj => pk_un hj) g3, H1.other (s := 2) (by decide) (fun j hj => pk_un hj) (fun j hj => pk_un hj) g3, ⟨pk_us, pk_us, fun i hi => (g2 i hi).trans (d2 i hi).symm, hb, hn⟩, H3.other (s := 2) (by decide) (fun j hj => pk_un hj) (fun j hj => pk_un hj) g3⟩, F⟩
        · rw [if_neg (by decide), if_neg (by decide), if_pos (by decide), d1, kb3_eq]
        · rw [kx (by decide) (by decide), nI_clamp (by decide)]; exact g1
      · obtain ⟨L', d1, d2⟩ := lay_x b3 n3 x2 (nI v) l3
        obtain ⟨nu', g1, g2, g3⟩ := sheet3_m (s := 3) (by decide) fo wd sz nu x2 (nI v)
        refine ⟨(if x2 = 0 then 0 else nI v), b0, n0, l0, b1, n1, l1, b2, n2, l2, x2, (if x2 = 0 then 0 else nI v), L', fi, fo, upd wd 3 x2, upd sz 3 (if x2 = 0 then 0 else nI v), nu', ?_, ?_, ⟨H0.other (s := 3) (by decide) (fun j hj => pk_un hj) (fun j hj => pk_un hj) g3, H1.other (s := 3) (by decide) (fun j hj => pk_un hj) (fun j hj => pk_un hj) g3, H2.other (s := 3) (by decide) (fun j hj => pk_un hj) (fun j hj => pk_un hj) g3, ⟨pk_us, pk_us, fun i hi => (g2 i hi).trans (d2 i hi).symm, hb, hn⟩⟩, F⟩
        · rw [if_neg (by decide), if_neg (by decide), if_neg (by decide), if_pos (by decide), d1, kb3_eq]
        · rw [kx (by decide) (by decide), nI_clamp (by decide)]; exact g1
    · rw [if_neg q2, if_neg q2]
      obtain ⟨fi', fo', z1, z2, F'⟩ := fnd0 F
      exact ⟨-1000000001, b0, n0, l0, b1, n1, l1, b2, n2, l2, b3, n3, l3, fi', fo', wd, sz, nu, by rw [z1, kb2_eq], by rw [z2, kb2_eq], H, F'⟩
  · rw [if_neg q, if_neg q]
    obtain ⟨fi', fo', z1, z2, F'⟩ := fnd6 F
    exact ⟨-1000000007, b0, n0, l0, b1, n1, l1, b2, n2, l2, b3, n3, l3, fi', fo', wd, sz, nu, by rw [z1, kb2_eq], by rw [z2, kb2_eq], H, F'⟩
/-- sheet -/
theorem sim_sheet {b0 n0 b1 n1 b2 n2 b3 n3 : Int32} {l0 l1 l2 l3 : Nat → Int64} {wd sz fi fo : Nat → Int32} {nu : Nat → Int64} (H : RH b0 n0 l0 b1 n1 l1 b2 n2 l2 b3 n3 l3 wd sz nu) (F : RF fi fo) (x1 x2 x3 : Int32) : ∃ r b0' n0' l0' b1' n1' l1' b2' n2' l2' b3' n3' l3' fi' fo' wd' sz' nu', f_X_sheet b0 n0 l0 b1 n1 l1 b2 n2 l2 b3 n3 l3 fi x1 x2 x3 = some (r, b0', n0', l0', b1', n1', l1', b2', n2', l2', b3', n3', l3', fi') ∧ f_M_sheet fo wd sz nu x1 x2 x3 = some (r, fo', wd', sz', nu') ∧ RH b0' n0' l0' b1' n1' l1' b2' n2' l2' b3' n3' l3' wd' sz' nu' ∧ RF fi' fo' := by
  obtain ⟨fi', fo', z1, z2, F'⟩ := fnd0 F
  have c1 : f_X_sheet_1 b0 n0 l0 b1 n1 l1 b2 n2 l2 b3 n3 l3 fi = some (-1000000001, b0, n0, l0, b1, n1, l1, b2, n2, l2, b3, n3, l3, fi') := by unfold f_X_sheet_1; rw [z1, kb2_eq]
  have c2 : f_M_sheet_1 fo wd sz nu = some (-1000000001, fo', wd, sz, nu) := by unfold f_M_sheet_1; rw [z2, kb2_eq]
  have no : ∃ r b0' n0' l0' b1' n1' l1' b2' n2' l2' b3' n3' l3' fi' fo' wd' sz' nu', f_X_sheet_1 b0 n0 l0 b1 n1 l1 b2 n2 l2 b3 n3 l3 fi = some (r, b0', n0', l0', b1', n1', l1', b2', n2', l2', b3', n3', l3', fi') ∧ f_M_sheet_1 fo wd sz nu = some (r, fo', wd', sz', nu') ∧ RH b0' n0' l0' b1' n1' l1' b2' n2' l2' b3' n3' l3' wd' sz' nu' ∧ RF fi' fo' := ⟨-1000000001, b0, n0, l0, b1, n1, l1, b2, n2, l2, b3, n3, l3, fi', fo', wd, sz, nu, c1, c2, H, F'⟩
  unfold f_X_sheet f_M_sheet
  rcases isSheet_cases x1 with ⟨hx, hm⟩ | ⟨s, hs, rfl, hx, hm⟩
  · rw [hx, hm, kb1_eq, kb1_eq, if_pos rfl, if_pos rfl]
    exact no
  rw [hx, hm, kb1_eq, kb1_eq, if_neg i10, if_neg i10]
  by_cases q0 : x2 = 0
  · rw [if_pos q0, if_pos q0]; exact sheet_2 H F hs (Or.inl q0) x3
  rw [if_neg q0, if_neg q0]
  by_cases q1 : x2 = 8
  · rw [if_pos q1, if_pos q1]; exact sheet_2 H F hs (Or.inr (Or.inl q1)) x3
  rw [if_neg q1, if_neg q1]
  by_cases q2 : x2 = 16
  · rw [if_pos q2, if_pos q2]; exact sheet_2 H F hs (Or.inr (Or.inr (Or.inl q2))) x3
  rw [if_neg q2, if_neg q2]
  by_cases q3 : x2 = 64
  · rw [if_pos q3, if_pos q3]; exact sheet_2 H F hs (Or.inr (Or.inr (Or.inr q3))) x3
  rw [if_neg q3, if_neg q3]
  exact no
