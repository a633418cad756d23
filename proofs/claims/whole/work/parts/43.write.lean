/-! write -/
theorem RQ.put {s k : Nat} {b n : Int32} {L nu : Nat → Int64} {wd sz : Nat → Int32} {w : Int64} (h : RQ s b n L wd sz nu) : RQ s b n (vp_updL L k w) wd sz (vp_updL nu (40 * s + k) w) :=
  ⟨h.1, h.2.1, fun i hi => by
    by_cases q : i = k
    · subst q; rw [vl_us, vl_us]
    · rw [vl_un q, vl_un (by omega)]; exact h.2.2.1 i hi, h.2.2.2⟩
theorem RQ.oput {s t k : Nat} {b n : Int32} {L nu : Nat → Int64} {wd sz : Nat → Int32} {w : Int64} (h : RQ t b n L wd sz nu) (st : t ≠ s) (hk : k < 40) : RQ t b n L wd sz (vp_updL nu (40 * s + k) w) :=
  h.other st (fun _ _ => rfl) (fun _ _ => rfl) (fun j hj => vl_un (by omega))
theorem cut_some (v : Int64) (b : Int32) : ∃ w, f_M_cutTo v b = some w := by
  unfold f_M_cutTo
  repeat' split
  all_goals exact ⟨_, rfl⟩
theorem put_x {b n : Int32} {L : Nat → Int64} {k : Nat} {v w : Int64} (hk : k < 40) (hw : f_M_within (nI k) 0 (n - 1) = some 1) (hc : f_M_cutTo v b = some w) : f_Sh_put b n L (nI k) v = some (vp_updL L k w) := by
  unfold f_Sh_put
  unfold f_M_cutTo at hc
  rw [isWithin_eq, hw, kb1_eq, if_neg i10]
  by_cases q : b = 8
  · rw [if_pos q] at hc ⊢
    rw [kx hk (by decide), nI_clamp (by omega), Option.some.inj hc]
  · rw [if_neg q] at hc ⊢
    by_cases q2 : b = 16
    · rw [if_pos q2] at hc ⊢
      rw [kx hk (by decide), nI_clamp (by omega), Option.some.inj hc]
    · rw [if_neg q2] at hc ⊢
      rw [kx hk (by decide), nI_clamp (by omega), Option.some.inj hc]
theorem at_or {n : Int32} {kk : Nat} (hkk : kk ≤ 40) (hn : n = nI kk) (x : Int32) : f_M_within x 0 (n - 1) = some 0 ∨ ∃ k, k < kk ∧ x = nI k ∧ f_M_within x 0 (n - 1) = some 1 := by
  rcases within_or x 0 (n - 1) with ⟨h, -⟩ | ⟨h, h1, h2⟩
  · exact Or.inl h
  · obtain ⟨k, hk, rfl⟩ := nI_of h1
    refine Or.inr ⟨k, ?_, rfl, h⟩
    cases kk with
    | zero =>
      exfalso
      rw [hn, show nI 0 - 1 = (-1 : Int32) by decide, Int32.lt_iff_toInt_lt, nI_toInt hk, show (-1 : Int32).toInt = -1 by decide] at h2
      omega
    | succ j =>
      rw [hn, nI_pred] at h2
      rcases Nat.lt_or_ge k (j + 1) with z | z
      · exact z
      · exact absurd (nI_lt (a := j) (b := k) (by omega) hk) h2

/-- write -/
theorem sim_write {b0 n0 b1 n1 b2 n2 b3 n3 : Int32} {l0 l1 l2 l3 : Nat → Int64} {wd sz fi fo : Nat → Int32} {nu : Nat → Int64} (H : RH b0 n0 l0 b1 n1 l1 b2 n2 l2 b3 n3 l3 wd sz nu) (F : RF fi fo) (x1 x2 : Int32) (x3 : Int64) : ∃ r l0' l1' l2' l3' fi' fo' nu', f_X_write b0 n0 l0 b1 n1 l1 b2 n2 l2 b3 n3 l3 fi x1 x2 x3 = some (r, l0', l1', l2', l3', fi') ∧ f_M_write fo wd sz nu x1 x2 x3 = some (r, fo', nu') ∧ RH b0 n0 l0' b1 n1 l1' b2 n2 l2' b3 n3 l3' wd sz nu' ∧ RF fi' fo' := by
  obtain ⟨H0, H1, H2, H3⟩ := id H
  unfold f_X_write f_M_write
  rcases isSheet_cases x1 with ⟨hx, hm⟩ | ⟨s, hs, rfl, hx, hm⟩
  · obtain ⟨fi', fo', z1, z2, F'⟩ := fnd0 F
    exact ⟨(-1000000001 : Int32).toInt64, l0, l1, l2, l3, fi', fo', nu, by rw [hx, kb1_eq, if_pos rfl, z1, kb2_eq], by rw [hm, kb1_eq, if_pos rfl, z2, kb2_eq], H, F'⟩
  rw [hx, hm, kb1_eq, kb1_eq, if_neg i10, if_neg i10]
  have c4 : s = 0 ∨ s = 1 ∨ s = 2 ∨ s = 3 := by omega
  rcases c4 with rfl | rfl | rfl | rfl
  · obtain ⟨hw, hz, hl, -, kk, hkk, hn⟩ := id H0
    have kk4 : ∀ {α : Type} (x : Option α), kidx (nI 0) 4 x = x := fun x => kx (by decide) (by decide) x
    have cs : (nI 0).toNatClampNeg = 0 := nI_clamp (by decide)
    simp only [kk4, cs, hw, hz]
    rw [if_pos (by decide)]
    unfold f_Sh_isMissing
    by_cases zb : b0 = 0
    · obtain ⟨fi', fo', z1, z2, F'⟩ := fnd5 F
      refine ⟨(-1000000006 : Int32).toInt64, l0, l1, l2, l3, fi', fo', nu, ?_, ?_, H, F'⟩
      · rw [if_pos zb, kb1_eq, if_neg i10, z1, kb2_eq]
      · rw [if_pos zb, z2, kb2_eq]
    · rw [if_neg zb, kb1_eq, if_pos rfl, if_neg zb, isWithin_eq]
      rcases at_or hkk hn x2 with h | ⟨k, hk, rfl, h⟩
      · obtain ⟨fi', fo', z1, z2, F'⟩ := fnd0 F
        refine ⟨(-1000000001 : Int32).toInt64, l0, l1, l2, l3, fi', fo', nu, ?_, ?_, H, F'⟩
        · rw [h, kb1_eq, if_pos rfl, z1, kb2_eq]
        · rw [h, kb1_eq, if_pos rfl, z2, kb2_eq]
      · obtain ⟨w, c1⟩ := cut_some x3 b0
        have k1 : (nI (40 * 0 + k)).toNatClampNeg = 40 * 0 + k := nI_clamp (by omega)
        refine ⟨l0 k, vp_updL l0 k w, l1, l2, l3, fi, fo, vp_updL nu (40 * 0 + k) w, ?_, ?_, ⟨H0.put, H1.oput (s := 0) (by decide) (by omega), H2.oput (s := 0) (by decide) (by omega), H3.oput (s := 0) (by decide) (by omega)⟩, F⟩
        · rw [h, kb1_eq, if_neg i10, kx (show k < 40 by omega) (by decide), klet_eq, nI_clamp (by omega), put_x (by omega) h c1, kb1_eq]
        · rw [h, kb1_eq, if_neg i10, nl40, pk_mul, nI_add, kx (k := 40 * 0 + k) (by omega) (by decide), klet_eq, c1, kb1_eq, kx (k := 40 * 0 + k) (by omega) (by decide), k1, hl k (by omega)]
  · obtain ⟨hw, hz, hl, -, kk, hkk, hn⟩ := id H1
    have kk4 : ∀ {α : Type} (x : Option α), kidx (nI 1) 4 x = x := fun x => kx (by decide) (by decide) x
    have cs : (nI 1).toNatClampNeg = 1 := nI_clamp (by decide)
    simp only [kk4, cs, hw, hz]
    rw [if_neg (by decide), if_pos (by decide)]
    unfold f_Sh_isMissing
    by_cases zb : b1 = 0
    · obtain ⟨fi', fo', z1, z2, F'⟩ := fnd5 F
      refine ⟨(-1000000006 : Int32).toInt64, l0, l1, l2, l3, fi', fo', nu, ?_, ?_, H, F'⟩
      · rw [if_pos zb, kb1_eq, if_neg i10, z1, kb2_eq]
      · rw [if_pos zb, z2, kb2_eq]
    · rw [if_neg zb, kb1_eq, if_pos rfl, if_neg zb, isWithin_eq]
      rcases at_or hkk hn x2 with h | ⟨k, hk, rfl, h⟩
      · obtain ⟨fi', fo', z1, z2, F'⟩ := fnd0 F
        refine ⟨(-1000000001 : Int32).toInt64, l0, l1, l2, l3, fi', fo', nu, ?_, ?_, H, F'⟩
        · rw [h, kb1_eq, if_pos rfl, z1, kb2_eq]
        · rw [h, kb1_eq, if_pos rfl, z2, kb2_eq]
      · obtain ⟨w, c1⟩ := cut_some x3 b1
        have k1 : (nI (40 * 1 + k)).toNatClampNeg = 40 * 1 + k := nI_clamp (by omega)
        refine ⟨l1 k, l0, vp_updL l1 k w, l2, l3, fi, fo, vp_updL nu (40 * 1 + k) w, ?_, ?_, ⟨H0.oput (s := 1) (by decide) (by omega), H1.put, H2.oput (s := 1) (by decide) (by omega), H3.oput (s := 1) (by decide) (by omega)⟩, F⟩
        · rw [h, kb1_eq, if_neg i10, kx (show k < 40 by omega) (by decide), klet_eq, nI_clamp (by omega), put_x (by omega) h c1, kb1_eq]
        · rw [h, kb1_eq, if_neg i10, nl40, pk_mul, nI_add, kx (k := 40 * 1 + k) (by omega) (by decide), klet_eq, c1, kb1_eq, kx (k := 40 * 1 + k) (by omega) (by decide), k1, hl k (by omega)]
  · obtain ⟨hw, hz, hl, -, kk, hkk, hn⟩ := id H2
    have kk4 : ∀ {α : Type} (x : Option α), kidx (nI 2) 4 x = x := fun x => kx (by decide) (by decide) x
    have cs : (nI 2).toNatClampNeg = 2 := nI_clamp (by decide)
    simp only [kk4, cs, hw, hz]
    rw [if_neg (by decide), if_neg (by decide), if_pos (by decide)]
    unfold f_Sh_isMissing
    by_cases zb : b2 = 0
    · obtain ⟨fi', fo', z1, z2, F'⟩ := fnd5 F
      refine ⟨(-1000000006 : Int32).toInt64, l0, l1, l2, l3, fi', fo', nu, ?_, ?_, H, F'⟩
      · rw [if_pos zb, kb1_eq, if_neg i10, z1, kb2_eq]
      · rw [if_pos zb, z2, kb2_eq]
    · rw [if_neg zb, kb1_eq, if_pos rfl, if_neg zb, isWithin_eq]
      rcases at_or hkk hn x2 with h | ⟨k, hk, rfl, h⟩
      · obtain ⟨fi', fo', z1, z2, F'⟩ := fnd0 F
        refine ⟨(-1000000001 : Int32).toInt64, l0, l1, l2, l3, fi', fo', nu, ?_, ?_, H, F'⟩
        · rw [h, kb1_eq, if_pos rfl, z1, kb2_eq]
        · rw [h, kb1_eq, if_pos rfl, z2, kb2_eq]
      · obtain ⟨w, c1⟩ := cut_some x3 b2
        have k1 : (nI (40 * 2 + k)).toNatClampNeg = 40 * 2 + k := nI_clamp (by omega)
        refine ⟨l2 k, l0, l1, vp_updL l2 k w, l3, fi, fo, vp_updL nu (40 * 2 + k) w, ?_, ?_, ⟨H0.oput (s := 2) (by decide) (by omega), H1.oput (s := 2) (by decide) (by omega), H2.put, H3.oput (s := 2) (by decide) (by omega)⟩, F⟩
        · rw [h, kb1_eq, if_neg i10, kx (show k < 40 by omega) (by decide), klet_eq, nI_clamp (by omega), put_x (by omega) h c1, kb1_eq]
        · rw [h, kb1_eq, if_neg i10, nl40, pk_mul, nI_add, kx (k := 40 * 2 + k) (by omega) (by decide), klet_eq, c1, kb1_eq, kx (k := 40 * 2 + k) (by omega) (by decide), k1, hl k (by omega)]
  · obtain ⟨hw, hz, hl, -, kk, hkk, hn⟩ := id H3
    have kk4 : ∀ {α : Type} (x : Option α), kidx (nI 3) 4 x = x := fun x => kx (by decide) (by decide) x
    have cs : (nI 3).toNatClampNeg = 3 := nI_clamp (by decide)
    simp only [kk4, cs, hw, hz]
    rw [if_neg (by decide), if_neg (by decide), if_neg (by decide), if_pos (by decide)]
    unfold f_Sh_isMissing
    by_cases zb : b3 = 0
    · obtain ⟨fi', fo', z1, z2, F'⟩ := fnd5 F
      refine ⟨(-1000000006 : Int32).toInt64, l0, l1, l2, l3, fi', fo', nu, ?_, ?_, H, F'⟩
      · rw [if_pos zb, kb1_eq, if_neg i10, z1, kb2_eq]
      · rw [if_pos zb, z2, kb2_eq]
    · rw [if_neg zb, kb1_eq, if_pos rfl, if_neg zb, isWithin_eq]
      rcases at_or hkk hn x2 with h | ⟨k, hk, rfl, h⟩
      · obtain ⟨fi', fo', z1, z2, F'⟩ := fnd0 F
        refine ⟨(-1000000001 : Int32).toInt64, l0, l1, l2, l3, fi', fo', nu, ?_, ?_, H, F'⟩
        · rw [h, kb1_eq, if_pos rfl, z1, kb2_eq]
        · rw [h, kb1_eq, if_pos rfl, z2, kb2_eq]
      · obtain ⟨w, c1⟩ := cut_some x3 b3
        have k1 : (nI (40 * 3 + k)).toNatClampNeg = 40 * 3 + k := nI_clamp (by omega)
        refine ⟨l3 k, l0, l1, l2, vp_updL l3 k w, fi, fo, vp_updL nu (40 * 3 + k) w, ?_, ?_, ⟨H0.oput (s := 3) (by decide) (by omega), H1.oput (s := 3) (by decide) (by omega), H2.oput (s := 3) (by decide) (by omega), H3.put⟩, F⟩
        · rw [h, kb1_eq, if_neg i10, kx (show k < 40 by omega) (by decide), klet_eq, nI_clamp (by omega), put_x (by omega) h c1, kb1_eq]
        · rw [h, kb1_eq, if_neg i10, nl40, pk_mul, nI_add, kx (k := 40 * 3 + k) (by omega) (by decide), klet_eq, c1, kb1_eq, kx (k := 40 * 3 + k) (by omega) (by decide), k1, hl k (by omega)]
