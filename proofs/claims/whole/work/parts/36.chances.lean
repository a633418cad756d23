/-! weight, likeliest, flee, dread, doPigs -/
theorem vl_us {f : Nat → Int64} {k : Nat} {x : Int64} : vp_updL f k x k = x := if_pos rfl
theorem vl_un {f : Nat → Int64} {k j : Nat} {x : Int64} (h : j ≠ k) : vp_updL f k x j = f j := if_neg h
theorem vl_uu {f : Nat → Int64} {k : Nat} {x y : Int64} : vp_updL (vp_updL f k x) k y = vp_updL f k y := by
  funext j
  by_cases q : j = k
  · rw [q, vl_us, vl_us]
  · rw [vl_un q, vl_un q, vl_un q]
def sOf (P : Nat → Int64) (ch : Nat → Int32) (t : Nat) : Nat → Int64
  | 0 => 0
  | f + 1 => sOf P ch t f + P f * (ch (4 * f + t)).toInt64
def pSee (P : Nat → Int64) (ch sh : Nat → Int32) (k t : Nat) : Int64 := sOf P ch t 4 * (sh (4 * t + k)).toInt64
def wt (ch sh di : Nat → Int32) : Nat → Nat → Int64
  | 0 => fun t => if t = 0 then 10 else 0
  | q + 1 => pSee (wt ch sh di q) ch sh (di q).toNatClampNeg
theorem pSee_c {P Q : Nat → Int64} (h : ∀ t, t < 4 → P t = Q t) (ch sh : Nat → Int32) (k t : Nat) : pSee P ch sh k t = pSee Q ch sh k t := by
  unfold pSee
  simp only [sOf, h 0 (by decide), h 1 (by decide), h 2 (by decide), h 3 (by decide)]
theorem see2_x {rec1 : Int32 → (Nat → Int64) → Option ((Nat → Int64) × (Nat → Int64))} (P next : Nat → Int64) (ch sh : Nat → Int32) (x2 : Int32) {t : Nat} (ht : t < 4) : ∀ n f, 4 - f < n → f ≤ 4 → fl_Pa_see_2 rec1 x2 P ch sh n (nI t) (nI f) (vp_updL next t (sOf P ch t f)) = rec1 (nI (t + 1)) (vp_updL next t (sOf P ch t 4)) := by
  intro n
  induction n with
  | zero => intro f h; exact absurd h (by omega)
  | succ n ih =>
    intro f h hf
    rw [fl_Pa_see_2_s]
    unfold fb_Pa_see_2
    by_cases q : f = 4
    · subst q
      rw [if_pos (show (4 : Int32) ≤ nI 4 by decide), nI_1]
    · have c1 : (nI t).toNatClampNeg = t := nI_clamp (by omega)
      have c2 : (nI f).toNatClampNeg = f := nI_clamp (by omega)
      rw [if_neg (show ¬ (4 : Int32) ≤ nI f from nI_ge (b := 4) (by omega) (by decide)), kx ht (by decide), kx (by omega) (by decide), Mo_tenthAt_0 ch sh (by omega) ht, kb1_eq, klet_eq, kx ht (by decide), c1, c2, vl_us, vl_uu, nI_1]
      exact ih (f + 1) (by omega) (by omega)
theorem see3_x (next : Nat → Int64) (ch sh : Nat → Int32) {k : Nat} (hk : k < 4) : ∀ n t rows, 4 - t < n → t ≤ 4 → (∀ t', t' < t → rows t' = next t' * (sh (4 * t' + k)).toInt64) → ∃ rows', fl_Pa_see_3 (nI k) next ch sh n (nI t) rows = some (rows', next) ∧ ∀ t', t' < 4 → rows' t' = next t' * (sh (4 * t' + k)).toInt64 := by
  intro n
  induction n with
  | zero => intro t _ h; exact absurd h (by omega)
  | succ n ih =>
    intro t rows h ht hr
    rw [fl_Pa_see_3_s]
    unfold fb_Pa_see_3
    by_cases q : t = 4
    · subst q
      exact ⟨rows, by rw [if_pos (show (4 : Int32) ≤ nI 4 by decide)], hr⟩
    · have c1 : (nI t).toNatClampNeg = t := nI_clamp (by omega)
      rw [if_neg (show ¬ (4 : Int32) ≤ nI t from nI_ge (b := 4) (by omega) (by decide)), kx (by omega) (by decide), Mo_tenthAt_1 ch sh i10 (by omega) hk, kb1_eq, kx (by omega) (by decide), c1, nI_1]
      refine ih (t + 1) _ (by omega) (by omega) (fun t' h' => ?_)
      by_cases z : t' = t
      · subst z; rw [vl_us]
      · rw [vl_un z]; exact hr t' (by omega)
theorem see1_x (P : Nat → Int64) (ch sh : Nat → Int32) {k : Nat} (hk : k < 4) : ∀ n t next, 4 - t < n → t ≤ 4 → (∀ t', t' < t → next t' = sOf P ch t' 4) → ∃ rows' next', fl_Pa_see_1 (nI k) P ch sh n (nI t) next = some (rows', next') ∧ ∀ t', t' < 4 → rows' t' = pSee P ch sh k t' := by
  intro n
  induction n with
  | zero => intro t _ h; exact absurd h (by omega)
  | succ n ih =>
    intro t next h ht hr
    rw [fl_Pa_see_1_s]
    unfold fb_Pa_see_1
    by_cases q : t = 4
    · subst q
      obtain ⟨rows', e1, e2⟩ := see3_x next ch sh hk kFuel 0 P (by unfold kFuel; omega) (by omega) (fun t' h' => absurd h' (by omega))
      exact ⟨rows', next, by rw [if_pos (show (4 : Int32) ≤ nI 4 by decide)]; exact e1, fun t' h' => by rw [e2 t' h', hr t' h']; rfl⟩
    · rw [if_neg (show ¬ (4 : Int32) ≤ nI t from nI_ge (b := 4) (by omega) (by decide)), kx (by omega) (by decide), nI_clamp (by omega)]
      obtain ⟨r', n', h1, h2⟩ := ih (t + 1) (vp_updL next t (sOf P ch t 4)) (by omega) (by omega) (fun t' h' => by
        by_cases z : t' = t
        · subst z; rw [vl_us]
        · rw [vl_un z]; exact hr t' (by omega))
      exact ⟨r', n', (see2_x P next ch sh (nI k) (by omega) kFuel 0 (by unfold kFuel; omega) (by omega)).trans h1, h2⟩
theorem see_x (P next : Nat → Int64) (ch sh : Nat → Int32) {k : Nat} (hk : k < 4) : ∃ rows' next', f_Pa_see P next ch sh (nI k) = some (rows', next') ∧ ∀ t', t' < 4 → rows' t' = pSee P ch sh k t' :=
  see1_x P ch sh hk kFuel 0 next (by unfold kFuel; omega) (by omega) (fun t' h' => absurd h' (by omega))
theorem see2_m {rec1 : Int32 → (Nat → Int64) → Option ((Nat → Int64) × (Nat → Int64))} {A : Nat → Int32} (P gone : Nat → Int64) {ch sh : Nat → Int32} (R1 : RA 18 16 ch A) (R2 : RA 34 16 sh A) {k t : Nat} (hk : k < 4) (ht : t < 4) : ∀ n f, 4 - f < n → f ≤ 4 → fl_M_seen_2 rec1 (nI k) A P n (nI t) (sOf P ch t f) (nI f) gone = rec1 (nI (t + 1)) (vp_updL gone t (pSee P ch sh k t)) := by
  intro n
  induction n with
  | zero => intro f h; exact absurd h (by omega)
  | succ n ih =>
    intro f h hf
    rw [fl_M_seen_2_s]
    unfold fb_M_seen_2
    have c1 : (nI t).toNatClampNeg = t := nI_clamp (by omega)
    by_cases q : f = 4
    · subst q
      rw [if_pos (show (4 : Int32) ≤ nI 4 by decide)]
      simp only [nl34, nl4, pk_mul, nI_add]
      rw [kx (by omega) (by decide), klet_eq, nI_clamp (n := 34 + 4 * t + k) (by omega), Nat.add_assoc, R2 (4 * t + k) (by omega), nI_1, kx ht (by decide), c1]
      rfl
    · rw [if_neg (show ¬ (4 : Int32) ≤ nI f from nI_ge (b := 4) (by omega) (by decide)), kx (by omega) (by decide)]
      simp only [nl18, nl4, pk_mul, nI_add]
      rw [kx (by omega) (by decide), klet_eq, nI_clamp (by omega), nI_clamp (n := 18 + 4 * f + t) (by omega), Nat.add_assoc, R1 (4 * f + t) (by omega), nI_1]
      exact ih (f + 1) (by omega) (by omega)
theorem see3_m (gone : Nat → Int64) : ∀ n t parts, 4 - t < n → t ≤ 4 → (∀ t', t' < t → parts t' = gone t') → ∃ parts', fl_M_seen_3 gone n (nI t) parts = some (parts', gone) ∧ ∀ t', t' < 4 → parts' t' = gone t' := by
  intro n
  induction n with
  | zero => intro t _ h; exact absurd h (by omega)
  | succ n ih =>
    intro t rows h ht hr
    rw [fl_M_seen_3_s]
    unfold fb_M_seen_3
    by_cases q : t = 4
    · subst q
      exact ⟨rows, by rw [if_pos (show (4 : Int32) ≤ nI 4 by decide)], hr⟩
    · have c1 : (nI t).toNatClampNeg = t := nI_clamp (by omega)
      rw [if_neg (show ¬ (4 : Int32) ≤ nI t from nI_ge (b := 4) (by omega) (by decide)), kx (by omega) (by decide), kx (by omega) (by decide), c1, nI_1]
      refine ih (t + 1) _ (by omega) (by omega) (fun t' h' => ?_)
      by_cases z : t' = t
      · subst z; rw [vl_us]
      · rw [vl_un z]; exact hr t' (by omega)
theorem see1_m {A : Nat → Int32} (P : Nat → Int64) {ch sh : Nat → Int32} (R1 : RA 18 16 ch A) (R2 : RA 34 16 sh A) {k : Nat} (hk : k < 4) : ∀ n t gone, 4 - t < n → t ≤ 4 → (∀ t', t' < t → gone t' = pSee P ch sh k t') → ∃ parts' gone', fl_M_seen_1 (nI k) A P n (nI t) gone = some (parts', gone') ∧ ∀ t', t' < 4 → parts' t' = pSee P ch sh k t' := by
  intro n
  induction n with
  | zero => intro t _ h; exact absurd h (by omega)
  | succ n ih =>
    intro t gone h ht hr
    rw [fl_M_seen_1_s]
    unfold fb_M_seen_1
    by_cases q : t = 4
    · subst q
      obtain ⟨rows', e1, e2⟩ := see3_m gone kFuel 0 P (by unfold kFuel; omega) (by omega) (fun t' h' => absurd h' (by omega))
      exact ⟨rows', gone, by rw [if_pos (show (4 : Int32) ≤ nI 4 by decide)]; exact e1, fun t' h' => by rw [e2 t' h', hr t' h']⟩
    · rw [if_neg (show ¬ (4 : Int32) ≤ nI t from nI_ge (b := 4) (by omega) (by decide))]
      obtain ⟨r', n', h1, h2⟩ := ih (t + 1) (vp_updL gone t (pSee P ch sh k t)) (by omega) (by omega) (fun t' h' => by
        by_cases z : t' = t
        · subst z; rw [vl_us]
        · rw [vl_un z]; exact hr t' (by omega))
      exact ⟨r', n', (see2_m P gone R1 R2 hk (by omega) kFuel 0 (by unfold kFuel; omega) (by omega)).trans h1, h2⟩
theorem see_m {A : Nat → Int32} (P gone : Nat → Int64) {ch sh : Nat → Int32} (R1 : RA 18 16 ch A) (R2 : RA 34 16 sh A) {k : Nat} (hk : k < 4) : ∃ parts' gone', f_M_seen A P gone (nI k) = some (parts', gone') ∧ ∀ t', t' < 4 → parts' t' = pSee P ch sh k t' :=
  see1_m P R1 R2 hk kFuel 0 gone (by unfold kFuel; omega) (by omega) (fun t' h' => absurd h' (by omega))
theorem weigh2_x {ch sh di : Nat → Int32} {Q : Nat} (hQ : Q ≤ 6) (hd : ∀ i, i < Q → ∃ k, k < 4 ∧ di i = nI k) : ∀ n q rows next, Q - q < n → q ≤ Q → (∀ t, t < 4 → rows t = wt ch sh di q t) → ∃ rows' next', fl_Pa_weigh_2 (nI Q) ch sh di n (nI q) rows next = some (rows', next') ∧ ∀ t, t < 4 → rows' t = wt ch sh di Q t := by
  intro n
  induction n with
  | zero => intro t _ _ h; exact absurd h (by omega)
  | succ n ih =>
    intro q rows next h hq hr
    rw [fl_Pa_weigh_2_s]
    unfold fb_Pa_weigh_2
    by_cases z : q = Q
    · subst z
      exact ⟨rows, next, by rw [if_pos (nI_le (Nat.le_refl _) (by omega))], hr⟩
    · obtain ⟨k, hk, ek⟩ := hd q (by omega)
      obtain ⟨r1, n1, e1, e2⟩ := see_x rows next ch sh hk
      rw [if_neg (nI_ge (by omega) (by omega)), kx (by omega) (by decide), nI_clamp (by omega), ek, e1, kb2_eq, nI_1]
      refine ih (q + 1) r1 n1 (by omega) (by omega) (fun t ht => ?_)
      rw [e2 t ht, pSee_c hr]
      show _ = pSee (wt ch sh di q) ch sh (di q).toNatClampNeg t
      rw [ek, nI_clamp (by omega)]
theorem weigh1_x {ch sh di : Nat → Int32} {Q : Nat} (hQ : Q ≤ 6) (hd : ∀ i, i < Q → ∃ k, k < 4 ∧ di i = nI k) (next : Nat → Int64) : ∀ n t rows, 4 - t < n → 1 ≤ t → t ≤ 4 → (∀ t', t' < t → rows t' = wt ch sh di 0 t') → ∃ rows' next', fl_Pa_weigh_1 next (nI Q) ch sh di n (nI t) rows = some (rows', next') ∧ ∀ t, t < 4 → rows' t = wt ch sh di Q t := by
  intro n
  induction n with
  | zero => intro t _ h; exact absurd h (by omega)
  | succ n ih =>
    intro t rows h h1 ht hr
    rw [fl_Pa_weigh_1_s]
    unfold fb_Pa_weigh_1
    by_cases q : t = 4
    · subst q
      rw [if_pos (show (4 : Int32) ≤ nI 4 by decide)]
      exact weigh2_x hQ hd kFuel 0 rows next (by unfold kFuel; omega) (by omega) hr
    · rw [if_neg (show ¬ (4 : Int32) ≤ nI t from nI_ge (b := 4) (by omega) (by decide)), kx (by omega) (by decide), nI_clamp (by omega), nI_1]
      refine ih (t + 1) _ (by omega) (by omega) (by omega) (fun t' h' => ?_)
      by_cases z : t' = t
      · subst z; rw [vl_us]; exact (if_neg (by omega)).symm
      · rw [vl_un z]; exact hr t' (by omega)
theorem weigh_x {ch sh di : Nat → Int32} {Q : Nat} (hQ : Q ≤ 6) (hd : ∀ i, i < Q → ∃ k, k < 4 ∧ di i = nI k) (rows next : Nat → Int64) : ∃ rows' next', f_Pa_weigh rows next (nI Q) ch sh di = some (rows', next') ∧ ∀ t, t < 4 → rows' t = wt ch sh di Q t :=
  weigh1_x hQ hd next kFuel 1 _ (by unfold kFuel; omega) (by omega) (by omega) (fun t' h' => by
    have : t' = 0 := by omega
    subst this
    rw [vl_us]; rfl)
def pAll (P : Nat → Int64) : Nat → Int64
  | 0 => 0
  | k + 1 => pAll P k + P k
theorem all_l (P : Nat → Int64) : ∀ n k, 4 - k < n → k ≤ 4 → fl_Pa_all_1 4 P n (pAll P k) (nI k) = some (pAll P 4) := by
  intro n
  induction n with
  | zero => intro k h; exact absurd h (by omega)
  | succ n ih =>
    intro k h hk
    rw [fl_Pa_all_1_s]
    unfold fb_Pa_all_1
    by_cases q : k = 4
    · subst q; rw [if_pos (show (4 : Int32) ≤ nI 4 by decide)]
    · rw [if_neg (show ¬ (4 : Int32) ≤ nI k from nI_ge (b := 4) (by omega) (by decide)), kx (by omega) (by decide), nI_clamp (by omega), klet_eq, nI_1]
      exact ih (k + 1) (by omega) (by omega)
theorem all_x (P : Nat → Int64) : f_Pa_all P = some (P 0 + P 1 + P 2 + P 3) := by
  have key : f_Pa_all P = some (0 + P 0 + P 1 + P 2 + P 3) := all_l P kFuel 0 (by unfold kFuel; omega) (by omega)
  rw [key, Int64.zero_add]
theorem weigh3_m {A ch sh di : Nat → Int32} (R1 : RA 18 16 ch A) (R2 : RA 34 16 sh A) (R3 : RA 12 6 di A) {Q : Nat} (hA : A 11 = nI Q) (hQ : Q ≤ 6) (hd : ∀ i, i < Q → ∃ k, k < 4 ∧ di i = nI k) : ∀ n q rows next, Q - q < n → q ≤ Q → (∀ t, t < 4 → rows t = wt ch sh di q t) → ∃ rows' next', fl_M_weigh_3 A n (nI q) rows next = some (rows' 0 + rows' 1 + rows' 2 + rows' 3, rows', next') ∧ ∀ t, t < 4 → rows' t = wt ch sh di Q t := by
  intro n
  induction n with
  | zero => intro t _ _ h; exact absurd h (by omega)
  | succ n ih =>
    intro q rows next h hq hr
    rw [fl_M_weigh_3_s]
    unfold fb_M_weigh_3
    rw [hA]
    by_cases z : q = Q
    · subst z
      exact ⟨rows, next, by rw [if_pos (nI_le (Nat.le_refl _) (by omega))]; rfl, hr⟩
    · obtain ⟨k, hk, ek⟩ := hd q (by omega)
      obtain ⟨r1, n1, e1, e2⟩ := see_m rows next R1 R2 hk
      rw [if_neg (nI_ge (by omega) (by omega)), nl12, nI_add, kx (by omega) (by decide), nI_clamp (by omega), R3 q (by omega), ek, e1, kb2_eq, nI_1]
      refine ih (q + 1) r1 n1 (by omega) (by omega) (fun t ht => ?_)
      rw [e2 t ht, pSee_c hr]
      show _ = pSee (wt ch sh di q) ch sh (di q).toNatClampNeg t
      rw [ek, nI_clamp (by omega)]
theorem weigh1_m {A ch sh di : Nat → Int32} (R1 : RA 18 16 ch A) (R2 : RA 34 16 sh A) (R3 : RA 12 6 di A) {Q : Nat} (hA : A 11 = nI Q) (hQ : Q ≤ 6) (hd : ∀ i, i < Q → ∃ k, k < 4 ∧ di i = nI k) (next : Nat → Int64) : ∀ n t rows, 4 - t < n → t ≤ 4 → (∀ t', t' < t → rows t' = wt ch sh di 0 t') → ∃ rows' next', fl_M_weigh_1 A next n (nI t) rows = some (rows' 0 + rows' 1 + rows' 2 + rows' 3, rows', next') ∧ ∀ t, t < 4 → rows' t = wt ch sh di Q t := by
  intro n
  induction n with
  | zero => intro t _ h; exact absurd h (by omega)
  | succ n ih =>
    intro t rows h ht hr
    rw [fl_M_weigh_1_s]
    unfold fb_M_weigh_1
    by_cases q : t = 4
    · subst q
      rw [if_pos (show (4 : Int32) ≤ nI 4 by decide)]
      exact weigh3_m R1 R2 R3 hA hQ hd kFuel 0 rows next (by unfold kFuel; omega) (by omega) hr
    · rw [if_neg (show ¬ (4 : Int32) ≤ nI t from nI_ge (b := 4) (by omega) (by decide))]
      have key : ∀ v : Int64, v = wt ch sh di 0 t → ∃ rows' next', f_M_weigh_2 (fl_M_weigh_1 A next n) (nI t) v (nI t) A rows next = some (rows' 0 + rows' 1 + rows' 2 + rows' 3, rows', next') ∧ ∀ t, t < 4 → rows' t = wt ch sh di Q t := by
        intro v hv
        unfold f_M_weigh_2
        rw [kx (by omega) (by decide), nI_clamp (by omega), nI_1]
        refine ih (t + 1) _ (by omega) (by omega) (fun t' h' => ?_)
        by_cases z : t' = t
        · subst z; rw [vl_us]; exact hv
        · rw [vl_un z]; exact hr t' (by omega)
      by_cases z : t = 0
      · subst z
        rw [if_pos (show nI 0 = (0 : Int32) from rfl)]
        exact key _ rfl
      · rw [if_neg (fun c : nI t = (0 : Int32) => z ((nI_eq (b := 0) (by omega) (by decide)).mp c))]
        exact key _ (if_neg z).symm
theorem weigh_m {A ch sh di : Nat → Int32} (R1 : RA 18 16 ch A) (R2 : RA 34 16 sh A) (R3 : RA 12 6 di A) {Q : Nat} (hA : A 11 = nI Q) (hQ : Q ≤ 6) (hd : ∀ i, i < Q → ∃ k, k < 4 ∧ di i = nI k) (rows next : Nat → Int64) : ∃ rows' next', f_M_weigh A rows next = some (rows' 0 + rows' 1 + rows' 2 + rows' 3, rows', next') ∧ ∀ t, t < 4 → rows' t = wt ch sh di Q t :=
  weigh1_m R1 R2 R3 hA hQ hd next kFuel 0 _ (by unfold kFuel; omega) (by omega) (fun t' h' => absurd h' (by omega))

/-- natural values -/
def ofN (P : Nat → Int64) (N : Nat → Nat) : Prop := ∀ t, t < 4 → P t = Int64.ofNat (N t)
theorem i64_of {k : Nat} (h : k ≤ 10) : (nI k).toInt64 = Int64.ofNat k := by
  have : ∀ k, k < 11 → (nI k).toInt64 = Int64.ofNat k := by decide +kernel
  exact this k (by omega)
theorem pSee_n {P : Nat → Int64} {N : Nat → Nat} (hP : ofN P N) {ch sh : Nat → Int32} (i5 : ∀ s, s < 4 → ∃ a b c d, a + b + c + d = 10 ∧ ch (4 * s) = nI a ∧ ch (4 * s + 1) = nI b ∧ ch (4 * s + 2) = nI c ∧ ch (4 * s + 3) = nI d) (i6 : ∀ i, i < 16 → ∃ k, k ≤ 10 ∧ sh i = nI k) {k : Nat} (hk : k < 4) : ∃ N', ofN (pSee P ch sh k) N' ∧ N' 0 + N' 1 + N' 2 + N' 3 ≤ 100 * (N 0 + N 1 + N 2 + N 3) := by
  have hC : ∃ C : Nat → Nat → Nat, ∀ s, s < 4 → C s 0 + C s 1 + C s 2 + C s 3 = 10 ∧ ∀ t, t < 4 → C s t ≤ 10 ∧ ch (4 * s + t) = nI (C s t) := by
    refine ⟨fun s t => (ch (4 * s + t)).toNatClampNeg, fun s hs => ?_⟩
    obtain ⟨a, b, c, d, h0, h1, h2, h3, h4⟩ := i5 s hs
    have g1 : (ch (4 * s + 0)).toNatClampNeg = a := by rw [Nat.add_zero, h1, nI_clamp (by omega)]
    have g2 : (ch (4 * s + 1)).toNatClampNeg = b := by rw [h2, nI_clamp (by omega)]
    have g3 : (ch (4 * s + 2)).toNatClampNeg = c := by rw [h3, nI_clamp (by omega)]
    have g4 : (ch (4 * s + 3)).toNatClampNeg = d := by rw [h4, nI_clamp (by omega)]
    refine ⟨by dsimp only; rw [g1, g2, g3, g4, h0], fun t ht => ?_⟩
    have c4 : t = 0 ∨ t = 1 ∨ t = 2 ∨ t = 3 := by omega
    dsimp only
    rcases c4 with rfl | rfl | rfl | rfl
    · rw [g1]; exact ⟨by omega, h1⟩
    · rw [g2]; exact ⟨by omega, h2⟩
    · rw [g3]; exact ⟨by omega, h3⟩
    · rw [g4]; exact ⟨by omega, h4⟩
  obtain ⟨C, hC⟩ := hC
  have hH : ∃ H : Nat → Nat, ∀ t, t < 4 → H t ≤ 10 ∧ sh (4 * t + k) = nI (H t) := by
    refine ⟨fun t => (sh (4 * t + k)).toNatClampNeg, fun t ht => ?_⟩
    obtain ⟨j, h1, h2⟩ := i6 (4 * t + k) (by omega)
    dsimp only
    rw [h2, nI_clamp (by omega)]
    exact ⟨h1, rfl⟩
  obtain ⟨H, hH⟩ := hH
  refine ⟨fun t => (N 0 * C 0 t + N 1 * C 1 t + N 2 * C 2 t + N 3 * C 3 t) * H t, fun t ht => ?_, ?_⟩
  · unfold pSee
    simp only [sOf]
    rw [hP 0 (by decide), hP 1 (by decide), hP 2 (by decide), hP 3 (by decide), ((hC 0 (by decide)).2 t ht).2, ((hC 1 (by decide)).2 t ht).2, ((hC 2 (by decide)).2 t ht).2, ((hC 3 (by decide)).2 t ht).2, (hH t ht).2,
      i64_of ((hC 0 (by decide)).2 t ht).1, i64_of ((hC 1 (by decide)).2 t ht).1, i64_of ((hC 2 (by decide)).2 t ht).1, i64_of ((hC 3 (by decide)).2 t ht).1, i64_of (hH t ht).1, Int64.zero_add]
    simp only [Int64.ofNat_add, Int64.ofNat_mul]
  · dsimp only
    have m : ∀ t, t < 4 → (N 0 * C 0 t + N 1 * C 1 t + N 2 * C 2 t + N 3 * C 3 t) * H t ≤ (N 0 * C 0 t + N 1 * C 1 t + N 2 * C 2 t + N 3 * C 3 t) * 10 := fun t ht => Nat.mul_le_mul_left _ (hH t ht).1
    have m0 := m 0 (by decide)
    have m1 := m 1 (by decide)
    have m2 := m 2 (by decide)
    have m3 := m 3 (by decide)
    have s : ∀ f, f < 4 → N f * C f 0 + N f * C f 1 + N f * C f 2 + N f * C f 3 = N f * 10 := fun f hf => by rw [← Nat.mul_add, ← Nat.mul_add, ← Nat.mul_add, (hC f hf).1]
    have s0 := s 0 (by decide)
    have s1 := s 1 (by decide)
    have s2 := s 2 (by decide)
    have s3 := s 3 (by decide)
    omega
theorem wt_n {ch sh di : Nat → Int32} (i5 : ∀ s, s < 4 → ∃ a b c d, a + b + c + d = 10 ∧ ch (4 * s) = nI a ∧ ch (4 * s + 1) = nI b ∧ ch (4 * s + 2) = nI c ∧ ch (4 * s + 3) = nI d) (i6 : ∀ i, i < 16 → ∃ k, k ≤ 10 ∧ sh i = nI k) {Q : Nat} (hd : ∀ i, i < Q → ∃ k, k < 4 ∧ di i = nI k) : ∀ q, q ≤ Q → ∃ N, ofN (wt ch sh di q) N ∧ N 0 + N 1 + N 2 + N 3 ≤ 10 * 100 ^ q := by
  intro q
  induction q with
  | zero =>
    intro _
    refine ⟨fun t => if t = 0 then 10 else 0, fun t ht => ?_, by simp⟩
    dsimp only [wt]
    by_cases z : t = 0
    · rw [if_pos z, if_pos z]; rfl
    · rw [if_neg z, if_neg z]; rfl
  | succ q ih =>
    intro hq
    obtain ⟨N, h1, h2⟩ := ih (by omega)
    obtain ⟨k, hk, ek⟩ := hd q (by omega)
    obtain ⟨N', g1, g2⟩ := pSee_n h1 i5 i6 hk
    refine ⟨N', ?_, ?_⟩
    · show ofN (pSee (wt ch sh di q) ch sh (di q).toNatClampNeg) N'
      rw [ek, nI_clamp (by omega)]; exact g1
    · rw [Nat.pow_succ]
      generalize 100 ^ q = z at *
      omega

/-- weight -/
theorem sim_weight {mo vo ou fe fq pi vt ash nu bu se st z : Int32} {hs ag ws ki ce ow pu ch sh di : Nat → Int32} {A fi fo : Nat → Int32} (R : RI mo vo ou fe fq pi vt ash hs ag ws nu bu ki ce ow pu se st z ch sh di A) (F : RF fi fo) (rows next parts gone : Nat → Int64) (x1 : Int32) : ∃ r rows' next' parts' gone' fi' fo', f_X_weight se ch sh di rows next fi x1 = some (r, rows', next', fi') ∧ f_M_weight A fo parts gone x1 = some (r, fo', parts', gone') ∧ RF fi' fo' := by
  obtain ⟨⟨⟨r1, r2, r3, r4, r5, r6⟩, r7, r8⟩, i1, i2, i3, i4, i5, i6, i7, i8, i9, i10'⟩ := id R
  obtain ⟨Q, hQ, hse, hd⟩ := i7
  have hA : A 11 = nI Q := hse ▸ R.1.2.2.2.2.2.2.2.2.2.2.2.2.2
  unfold f_X_weight f_M_weight
  rw [isWithin_eq]
  rcases within_or x1 (-1) 3 with ⟨h1, -⟩ | ⟨h1, h2, h3⟩
  · obtain ⟨fi', fo', b1, b2, F'⟩ := fnd0 F
    refine ⟨(-1000000001 : Int32).toInt64, rows, next, parts, gone, fi', fo', ?_, ?_, F'⟩
    · rw [h1, kb1_eq, if_pos rfl, b1, kb2_eq]
    · rw [h1, kb1_eq, if_pos rfl, b2, kb2_eq]
  obtain ⟨rw', nx', e1, e2⟩ := weigh_x (ch := ch) (sh := sh) hQ hd rows next
  obtain ⟨pa', go', g1, g2⟩ := weigh_m (ch := ch) (sh := sh) r4 r5 r6 hA hQ hd parts gone
  rw [h1, kb1_eq, kb1_eq, if_neg i10, if_neg i10, hse, e1, kb2_eq, g1, kb3_eq]
  by_cases q : 0 ≤ x1
  · have q' : ¬ x1 < 0 := by rw [Int32.lt_iff_toInt_lt]; rw [Int32.le_iff_toInt_le] at q; omega
    obtain ⟨j, hj, rfl⟩ := nI_of q'
    have hj4 : j < 4 := by
      rcases Nat.lt_or_ge j 4 with z | z
      · exact z
      · exact absurd (show (3 : Int32) < nI j from nI_lt (a := 3) z hj) h3
    rw [if_pos q, if_pos q]
    refine ⟨rw' j, rw', nx', pa', go', fi, fo, ?_, ?_, F⟩
    · rw [kx hj4 (by decide), nI_clamp (by omega)]
    · rw [kx hj4 (by decide), nI_clamp (by omega), g2 j hj4, e2 j hj4]
  · rw [if_neg q, if_neg q]
    refine ⟨rw' 0 + rw' 1 + rw' 2 + rw' 3, rw', nx', pa', go', fi, fo, ?_, ?_, F⟩
    · rw [all_x, kb1_eq]
    · rw [g2 0 (by decide), g2 1 (by decide), g2 2 (by decide), g2 3 (by decide), e2 0 (by decide), e2 1 (by decide), e2 2 (by decide), e2 3 (by decide)]
theorem likeliest_l {P Q nx go : Nat → Int64} {fi fo : Nat → Int32} (h : ∀ t, t < 4 → P t = Q t) : ∀ n t b, 4 - t < n → t ≤ 4 → b < 4 → ∃ r, fl_X_likeliest_1 P nx fi n (nI b) (nI t) = some (r, P, nx, fi) ∧ fl_M_likeliest_1 fo Q go n (nI b) (nI t) = some (r, fo, Q, go) := by
  intro n
  induction n with
  | zero => intro t _ h; exact absurd h (by omega)
  | succ n ih =>
    intro t b hn ht hb
    rw [fl_X_likeliest_1_s, fl_M_likeliest_1_s]
    unfold fb_X_likeliest_1 fb_M_likeliest_1
    by_cases q : t = 4
    · subst q
      exact ⟨nI b, by rw [if_pos (show (4 : Int32) ≤ nI 4 by decide)], by rw [if_pos (show (4 : Int32) ≤ nI 4 by decide)]⟩
    · have ht4 : t < 4 := by omega
      rw [if_neg (show ¬ (4 : Int32) ≤ nI t from nI_ge (b := 4) (by omega) (by decide)), if_neg (show ¬ (4 : Int32) ≤ nI t from nI_ge (b := 4) (by omega) (by decide)), kx ht4 (by decide), kx hb (by decide), kx ht4 (by decide), kx hb (by decide), nI_clamp (n := t) (by omega), nI_clamp (n := b) (by omega), h t ht4, h b hb, nI_1]
      by_cases z : lg_cmp (Q t) (Q b) ≤ 0
      · rw [if_pos z, if_pos z]; exact ih (t + 1) b (by omega) (by omega) hb
      · rw [if_neg z, if_neg z]; exact ih (t + 1) t (by omega) (by omega) ht4
/-- likeliest -/
theorem sim_likeliest {mo vo ou fe fq pi vt ash nu bu se st z : Int32} {hs ag ws ki ce ow pu ch sh di : Nat → Int32} {A fi fo : Nat → Int32} (R : RI mo vo ou fe fq pi vt ash hs ag ws nu bu ki ce ow pu se st z ch sh di A) (F : RF fi fo) (rows next parts gone : Nat → Int64) : ∃ r rows' next' parts' gone' fi' fo', f_X_likeliest se ch sh di rows next fi = some (r, rows', next', fi') ∧ f_M_likeliest A fo parts gone = some (r, fo', parts', gone') ∧ RF fi' fo' := by
  obtain ⟨⟨⟨r1, r2, r3, r4, r5, r6⟩, r7, r8⟩, i1, i2, i3, i4, i5, i6, i7, i8, i9, i10'⟩ := id R
  obtain ⟨Q, hQ, hse, hd⟩ := i7
  have hA : A 11 = nI Q := hse ▸ R.1.2.2.2.2.2.2.2.2.2.2.2.2.2
  obtain ⟨rw', nx', e1, e2⟩ := weigh_x (ch := ch) (sh := sh) hQ hd rows next
  obtain ⟨pa', go', g1, g2⟩ := weigh_m (ch := ch) (sh := sh) r4 r5 r6 hA hQ hd parts gone
  have eq : ∀ t, t < 4 → rw' t = pa' t := fun t ht => (e2 t ht).trans (g2 t ht).symm
  unfold f_X_likeliest f_M_likeliest
  rw [hse, e1, kb2_eq, g1, kb3_eq, all_x, kb1_eq, eq 0 (by decide), eq 1 (by decide), eq 2 (by decide), eq 3 (by decide)]
  by_cases z : lg_cmp (pa' 0 + pa' 1 + pa' 2 + pa' 3) 0 = 0
  · obtain ⟨fi', fo', b1, b2, F'⟩ := fnd3 F
    refine ⟨-1000000004, rw', nx', pa', go', fi', fo', ?_, ?_, F'⟩
    · rw [if_pos z, b1, kb2_eq]
    · rw [if_pos z, b2, kb2_eq]
  · rw [if_neg z, if_neg z]
    obtain ⟨r, c1, c2⟩ := likeliest_l (nx := nx') (go := go') (fi := fi) (fo := fo) eq kFuel 1 0 (by unfold kFuel; omega) (by decide) (by decide)
    exact ⟨r, rw', nx', pa', go', fi, fo, c1, c2, F⟩
/-- flee -/
theorem sim_flee {mo vo ou fe fq pi vt ash nu bu se st z : Int32} {hs ag ws ki ce ow pu ch sh di : Nat → Int32} {A fi fo : Nat → Int32} (R : RI mo vo ou fe fq pi vt ash hs ag ws nu bu ki ce ow pu se st z ch sh di A) (F : RF fi fo) (rows next parts gone : Nat → Int64) (x1 : Int32) : ∃ r rows' next' parts' gone' fi' fo', f_X_flee se ch sh di rows next fi x1 = some (r, rows', next', fi') ∧ f_M_flee A fo parts gone x1 = some (r, fo', parts', gone') ∧ RF fi' fo' := by
  obtain ⟨⟨⟨r1, r2, r3, r4, r5, r6⟩, r7, r8⟩, i1, i2, i3, i4, i5, i6, i7, i8, i9, i10'⟩ := id R
  obtain ⟨Q, hQ, hse, hd⟩ := i7
  have hA : A 11 = nI Q := hse ▸ R.1.2.2.2.2.2.2.2.2.2.2.2.2.2
  unfold f_X_flee f_M_flee
  rw [isWithin_eq]
  rcases within_or x1 0 10 with ⟨h1, -⟩ | ⟨h1, h2, h3⟩
  · obtain ⟨fi', fo', b1, b2, F'⟩ := fnd0 F
    refine ⟨-1000000001, rows, next, parts, gone, fi', fo', ?_, ?_, F'⟩
    · rw [h1, kb1_eq, if_pos rfl, b1, kb2_eq]
    · rw [h1, kb1_eq, if_pos rfl, b2, kb2_eq]
  obtain ⟨rw', nx', e1, e2⟩ := weigh_x (ch := ch) (sh := sh) hQ hd rows next
  obtain ⟨pa', go', g1, g2⟩ := weigh_m (ch := ch) (sh := sh) r4 r5 r6 hA hQ hd parts gone
  have eq : ∀ t, t < 4 → rw' t = pa' t := fun t ht => (e2 t ht).trans (g2 t ht).symm
  rw [h1, kb1_eq, kb1_eq, if_neg i10, if_neg i10, hse, e1, kb2_eq, g1, kb3_eq, all_x, kb1_eq, eq 0 (by decide), eq 1 (by decide), eq 2 (by decide), eq 3 (by decide)]
  by_cases z : lg_cmp (pa' 0 + pa' 1 + pa' 2 + pa' 3) 0 = 0
  · obtain ⟨fi', fo', b1, b2, F'⟩ := fnd3 F
    refine ⟨-1000000004, rw', nx', pa', go', fi', fo', ?_, ?_, F'⟩
    · rw [if_pos z, b1, kb2_eq]
    · rw [if_pos z, b2, kb2_eq]
  · rw [if_neg z, if_neg z]
    by_cases y : lg_cmp (10 * (pa' 2 + pa' 3)) (x1.toInt64 * (pa' 0 + pa' 1 + pa' 2 + pa' 3)) < 0
    · exact ⟨0, rw', nx', pa', go', fi, fo, by rw [if_pos y], by rw [if_pos y], F⟩
    · exact ⟨1, rw', nx', pa', go', fi, fo, by rw [if_neg y], by rw [if_neg y], F⟩
theorem lcmp0 {a : Nat} (h : a < 2 ^ 63) : (lg_cmp (lN a) 0 = 0 ↔ a = 0) ∧ (lg_cmp (lN a) 0 ≤ 0 ↔ a = 0) := by
  refine ⟨(lg_cmp_eq _ _).trans ?_, (lg_cmp_le _ _).trans ?_⟩
  · exact pk_lEQ (b := 0) h (by decide)
  · exact (pk_lLE (b := 0) h (by decide)).trans (by omega)
/-- the search for the most dreaded sign, of both -/
theorem dread_l {A ch sh di fi fo : Nat → Int32} {Q : Nat} (r4 : RA 18 16 ch A) (r5 : RA 34 16 sh A) (r6 : RA 12 6 di A) (hA : A 11 = nI Q) (hQ : Q < 6) (hd : ∀ i, i < Q → ∃ k, k < 4 ∧ di i = nI k) (i5 : ∀ s, s < 4 → ∃ a b c d, a + b + c + d = 10 ∧ ch (4 * s) = nI a ∧ ch (4 * s + 1) = nI b ∧ ch (4 * s + 2) = nI c ∧ ch (4 * s + 3) = nI d) (i6 : ∀ i, i < 16 → ∃ k, k ≤ 10 ∧ sh i = nI k) (F : RF fi fo) : ∀ n t x1 (y1 y2 : Int64) rows next parts gone, 4 - t < n → t ≤ 4 → (x1 = -1 ∧ y1 = -1 ∨ (∃ j, j < 4 ∧ x1 = nI j) ∧ y1 = y2 ∧ ∃ v, v < 2 ^ 63 ∧ y1 = lN v) → ∃ r rows' next' parts' gone' fi' fo', fl_X_dread_1 (nI Q) ch sh di fi n x1 y1 (nI t) rows next = some (r, rows', next', fi') ∧ fl_M_dread_1 A fo n x1 y2 (nI t) parts gone = some (r, fo', parts', gone') ∧ RF fi' fo' := by
  obtain ⟨fi', fo', b1, b2, F'⟩ := fnd3 F
  intro n
  induction n with
  | zero => intro t _ _ _ _ _ _ _ h; exact absurd h (by omega)
  | succ n ih =>
    intro t x1 y1 y2 rows next parts gone h ht hr
    rw [fl_X_dread_1_s, fl_M_dread_1_s]
    unfold fb_X_dread_1 fb_M_dread_1
    by_cases q : t = 4
    · subst q
      rw [if_pos (show (4 : Int32) ≤ nI 4 by decide), if_pos (show (4 : Int32) ≤ nI 4 by decide)]
      unfold f_M_dread_3
      rcases hr with ⟨rfl, -⟩ | ⟨⟨j, hj, rfl⟩, -⟩
      · refine ⟨-1000000004, rows, next, parts, gone, fi', fo', ?_, ?_, F'⟩
        · rw [if_neg (by decide), b1, kb2_eq]
        · rw [if_neg (by decide), b2, kb2_eq]
      · exact ⟨nI j, rows, next, parts, gone, fi, fo, by rw [if_pos (nI_pos' (by omega))], by rw [if_pos (nI_pos' (by omega))], F⟩
    have ht4 : t < 4 := by omega
    rw [if_neg (show ¬ (4 : Int32) ≤ nI t from nI_ge (b := 4) (by omega) (by decide)), if_neg (show ¬ (4 : Int32) ≤ nI t from nI_ge (b := 4) (by omega) (by decide)), hA, if_neg (show ¬ (6 : Int32) ≤ nI Q from nI_ge (b := 6) (by omega) (by decide))]
    obtain ⟨rw', nx', e1, e2⟩ := weigh_x (ch := ch) (sh := sh) (by omega : Q ≤ 6) hd rows next
    obtain ⟨pa', go', g1, g2⟩ := weigh_m (ch := ch) (sh := sh) r4 r5 r6 hA (by omega) hd parts gone
    obtain ⟨rw2, nx2, e3, e4⟩ := see_x rw' nx' ch sh ht4
    obtain ⟨pa2, go2, g3, g4⟩ := see_m pa' go' r4 r5 ht4
    obtain ⟨N, w1, w2⟩ := wt_n i5 i6 hd Q (Nat.le_refl _)
    obtain ⟨N', v1, v2⟩ := pSee_n w1 i5 i6 ht4
    have eX : ∀ s, s < 4 → rw2 s = lN (N' s) := fun s hs => by rw [e4 s hs, pSee_c e2, v1 s hs]; rfl
    have eM : ∀ s, s < 4 → pa2 s = lN (N' s) := fun s hs => by rw [g4 s hs, pSee_c g2, v1 s hs]; rfl
    have hb : N' 0 + N' 1 + N' 2 + N' 3 ≤ 10000000000000 := by
      have : 100 ^ Q ≤ 100 ^ 5 := Nat.pow_le_pow_right (by decide) (by omega)
      rw [show 100 ^ 5 = 10000000000 by decide] at this
      omega
    have ladd : ∀ a b, lN a + lN b = lN (a + b) := fun a b => (Int64.ofNat_add a b).symm
    have lmul : ∀ b, (1000 : Int64) * lN b = lN (1000 * b) := fun b => (Int64.ofNat_mul 1000 b).symm
    rw [e1, kb2_eq, e3, kb2_eq, all_x, kb1_eq, g1, kb3_eq, g3, kb2_eq]
    unfold f_M_all
    rw [kb1_eq, eX 0 (by decide), eX 1 (by decide), eX 2 (by decide), eX 3 (by decide), eM 0 (by decide), eM 1 (by decide), eM 2 (by decide), eM 3 (by decide)]
    simp only [ladd, lmul]
    obtain ⟨c1, c2⟩ := lcmp0 (a := N' 0 + N' 1 + N' 2 + N' 3) (by omega)
    unfold f_X_dread_2 f_M_dread_2
    by_cases z : N' 0 + N' 1 + N' 2 + N' 3 = 0
    · rw [if_pos (c2.mpr z), if_pos (c1.mpr z), nI_1]
      have e5 : lg_cmp (-1) y1 ≤ 0 := by
        rw [lg_cmp_le]
        rcases hr with ⟨-, rfl⟩ | ⟨-, -, v, hv, rfl⟩
        · decide
        · rw [Int64.le_iff_toInt_le, pk_lT hv, show (-1 : Int64).toInt = -1 by decide]; omega
      rw [if_pos e5, if_pos (show lg_cmp (-1) 0 < 0 by decide)]
      exact ih (t + 1) x1 y1 y2 _ _ _ _ (by omega) (by omega) hr
    · have z' : ¬ lN (N' 0 + N' 1 + N' 2 + N' 3) = 0 := fun c => z ((pk_lEQ (b := 0) (by omega) (by decide)).mp c)
      rw [if_neg (fun c => z (c2.mp c)), if_neg (fun c => z (c1.mp c)), if_pos z', if_pos z', pk_lDiv (by omega) (by omega) (by omega), nI_1]
      have hv : 1000 * N' 3 / (N' 0 + N' 1 + N' 2 + N' 3) < 2 ^ 63 := Nat.lt_of_le_of_lt (Nat.div_le_self _ _) (by omega)
      generalize 1000 * N' 3 / (N' 0 + N' 1 + N' 2 + N' 3) = v at hv ⊢
      have e5 : ¬ lg_cmp (lN v) 0 < 0 := by
        rw [lg_cmp_lt]
        exact fun c => absurd ((pk_lLT (b := 0) hv (by decide)).mp c) (by omega)
      rw [if_neg e5]
      rcases hr with ⟨rfl, rfl⟩ | ⟨⟨j, hj, rfl⟩, rfl, v', hv', e6⟩
      · have e7 : ¬ lg_cmp (lN v) (-1) ≤ 0 := by
          rw [lg_cmp_le, Int64.le_iff_toInt_le, pk_lT hv, show (-1 : Int64).toInt = -1 by decide]; omega
        rw [if_neg e7, if_pos (by decide)]
        exact ih (t + 1) (nI t) _ _ _ _ _ _ (by omega) (by omega) (Or.inr ⟨⟨t, ht4, rfl⟩, rfl, v, hv, rfl⟩)
      · rw [if_neg (nI_pos (by omega))]
        by_cases y : lg_cmp (lN v) y1 ≤ 0
        · rw [if_pos y, if_pos y]
          exact ih (t + 1) (nI j) _ _ _ _ _ _ (by omega) (by omega) (Or.inr ⟨⟨j, hj, rfl⟩, rfl, v', hv', e6⟩)
        · rw [if_neg y, if_neg y]
          exact ih (t + 1) (nI t) _ _ _ _ _ _ (by omega) (by omega) (Or.inr ⟨⟨t, ht4, rfl⟩, rfl, v, hv, rfl⟩)

/-- dread -/
theorem sim_dread {mo vo ou fe fq pi vt ash nu bu se st z : Int32} {hs ag ws ki ce ow pu ch sh di : Nat → Int32} {A fi fo : Nat → Int32} (R : RI mo vo ou fe fq pi vt ash hs ag ws nu bu ki ce ow pu se st z ch sh di A) (F : RF fi fo) (rows next parts gone : Nat → Int64) : ∃ r rows' next' parts' gone' fi' fo', f_X_dread se ch sh di rows next fi = some (r, rows', next', fi') ∧ f_M_dread A fo parts gone = some (r, fo', parts', gone') ∧ RF fi' fo' := by
  obtain ⟨⟨⟨r1, r2, r3, r4, r5, r6⟩, r7, r8⟩, i1, i2, i3, i4, i5, i6, i7, i8, i9, i10'⟩ := id R
  obtain ⟨Q, hQ, hse, hd⟩ := i7
  have hA : A 11 = nI Q := hse ▸ R.1.2.2.2.2.2.2.2.2.2.2.2.2.2
  unfold f_X_dread f_M_dread
  rw [hse]
  by_cases q : Q = 6
  · subst q
    obtain ⟨fi', fo', b1, b2, F'⟩ := fnd3 F
    have hd : f_Mo_isDiaryFull (nI 6) = some 1 := by decide +kernel
    refine ⟨-1000000004, rows, next, parts, gone, fi', fo', ?_, ?_, F'⟩
    · rw [hd, kb1_eq, if_neg i10, b1, kb2_eq]
    · show fl_M_dread_1 A fo (1023 + 1) (-1) 0 0 parts gone = _
      rw [fl_M_dread_1_s]
      unfold fb_M_dread_1 f_M_dread_3
      rw [if_neg (by decide), hA, if_pos (by decide), if_neg (by decide), b2, kb2_eq]
  · have hf : f_Mo_isDiaryFull (nI Q) = some 0 := by
      unfold f_Mo_isDiaryFull
      rw [if_pos (show nI Q < (6 : Int32) from nI_lt (b := 6) (by omega) (by decide))]
    rw [hf, kb1_eq, if_pos rfl]
    exact dread_l r4 r5 r6 hA (by omega) hd i5 i6 F kFuel 0 (-1) (-1) 0 rows next parts gone (by unfold kFuel; omega) (by decide) (Or.inl ⟨rfl, rfl⟩)
/-- doPigs -/
theorem sim_doPigs {mo vo ou fe fq pi vt ash nu bu se st z : Int32} {hs ag ws ki ce ow pu ch sh di : Nat → Int32} {A fi fo : Nat → Int32} (R : RI mo vo ou fe fq pi vt ash hs ag ws nu bu ki ce ow pu se st z ch sh di A) (F : RF fi fo) : ∃ r fi' fo', f_X_doPigs mo ou fe fq fi = some (r, fi') ∧ f_M_doPigs A fo = some (r, fo') ∧ RF fi' fo' := by
  obtain ⟨fi', fo', b1, b2, F'⟩ := fnd3 F
  have c1 : f_X_doPigs_1 fi = some (-1000000004, fi') := by unfold f_X_doPigs_1; rw [b1, kb2_eq]
  have c2 : f_M_doPigs_1 fo = some (-1000000004, fo') := by unfold f_M_doPigs_1; rw [b2, kb2_eq]
  obtain ⟨s0, s1, s2, s3, s4, s5, s6, s7, s8, s9, s10, s11⟩ := R.1.2.2
  obtain ⟨m, o, f, q, rfl, rfl, rfl, rfl, h1, h2, h3, h4, h5⟩ := id R.2.2.2.2.2.2.2.2.2.1
  unfold f_X_doPigs f_M_doPigs
  rw [s1, s6, s7, s8]
  by_cases z : f = 0
  · subst z
    exact ⟨-1000000004, fi', fo', by rw [if_pos (show nI 0 = (0 : Int32) from rfl), c1], by rw [if_pos (show nI 0 = (0 : Int32) from rfl), c2], F'⟩
  have z' : ¬ nI f = (0 : Int32) := fun c => z ((nI_eq (b := 0) (by omega) (by decide)).mp c)
  rw [if_neg z', if_neg z', pk_sub h5, pk_sub h3]
  by_cases y : f = m
  · subst y
    exact ⟨-1000000004, fi', fo', by rw [if_pos rfl, c1], by rw [if_pos (by rw [Nat.sub_self]; rfl), c2], F'⟩
  rw [if_neg (fun c => y ((nI_eq (by omega) (by omega)).mp c)), if_neg (fun c : nI (m - f) = (0 : Int32) => absurd ((nI_eq (b := 0) (by omega) (by decide)).mp c) (by omega)), klet_eq, klet_eq, nI_l (by omega), nI_l (by omega), nI_l (by omega), nI_l (by omega), pk_mul, pk_mul]
  have lmul : ∀ a b, lN a * lN b = lN (a * b) := fun a b => (Int64.ofNat_mul a b).symm
  have m1 : (o - q) * f ≤ 9999 * 9999 := Nat.mul_le_mul (by omega) (by omega)
  have m2 : q * (m - f) ≤ 9999 * 9999 := Nat.mul_le_mul (by omega) (by omega)
  rw [lmul, lmul]
  generalize (o - q) * f = a at *
  generalize q * (m - f) = b at *
  have key : f_Lo_compare (lN a) (lN b) = f_In_compare (nI a) (nI b) := by
    unfold f_Lo_compare f_In_compare
    by_cases l : b ≤ a
    · rw [if_pos ((lg_cmp_ge _ _).mpr ((pk_lLE (by omega) (by omega)).mpr l)), if_pos (nI_le l (by omega))]
      by_cases k : a = b
      · rw [if_pos ((lg_cmp_eq _ _).mpr (by rw [k])), if_pos (by rw [k])]
      · rw [if_neg (fun c => k ((pk_lEQ (by omega) (by omega)).mp ((lg_cmp_eq _ _).mp c))), if_neg (fun c => k ((nI_eq (by omega) (by omega)).mp c))]
    · rw [if_neg (fun c => l ((pk_lLE (by omega) (by omega)).mp ((lg_cmp_ge _ _).mp c))), if_neg (nI_ge (by omega) (by omega))]
  have ex : ∃ r, f_In_compare (nI a) (nI b) = some r := by
    unfold f_In_compare
    repeat' split
    all_goals exact ⟨_, rfl⟩
  obtain ⟨r, er⟩ := ex
  exact ⟨r, fi, fo, by rw [key, er, kb1_eq], by rw [er, kb1_eq], F⟩
