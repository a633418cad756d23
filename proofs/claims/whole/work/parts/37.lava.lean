/-! the lava: flow, hit -/
def kGo (h : Nat → Int32) (W : Nat → Nat) (c : Nat) : Nat → Nat
  | 0 => c
  | w + 1 => if nb c w = 99 then kGo h W c w else if (W c).testBit w = true then kGo h W c w else if h (kGo h W c w) ≤ h (nb c w) then kGo h W c w else nb c w
theorem kGo_lt {h : Nat → Int32} {W : Nat → Nat} {c : Nat} (hc : c < 36) : ∀ w, w ≤ 4 → kGo h W c w < 36 := by
  intro w
  induction w with
  | zero => intro _; exact hc
  | succ w ih =>
    intro hw
    have i := ih (by omega)
    rw [kGo]
    by_cases q1 : nb c w = 99
    · rw [if_pos q1]; exact i
    · rw [if_neg q1]
      have n : nb c w < 36 := (nb_or c hc w (by omega)).resolve_left q1
      by_cases q2 : (W c).testBit w = true
      · rw [if_pos q2]; exact i
      · rw [if_neg q2]
        by_cases q3 : h (kGo h W c w) ≤ h (nb c w)
        · rw [if_pos q3]; exact i
        · rw [if_neg q3]; exact n
theorem kGo_c {h h' : Nat → Int32} {W : Nat → Nat} {c : Nat} (hc : c < 36) (e : ∀ i, i < 36 → h' i = h i) : ∀ w, w ≤ 4 → kGo h' W c w = kGo h W c w := by
  intro w
  induction w with
  | zero => intro _; rfl
  | succ w ih =>
    intro hw
    have i := ih (by omega)
    rw [kGo, kGo, i]
    by_cases q1 : nb c w = 99
    · rw [if_pos q1, if_pos q1]
    · rw [if_neg q1, if_neg q1, e _ ((nb_or c hc w (by omega)).resolve_left q1), e _ (kGo_lt hc w (by omega))]
def kMn (x : Int32) : Int32 := if x + 3 < 99 then x + 3 else 99
theorem kMn_eq (x : Int32) : f_Ma_min 99 (x + 3) = some (kMn x) := by
  unfold f_Ma_min kMn
  by_cases q : x + 3 < 99
  · rw [if_pos q, if_pos q]
  · rw [if_neg q, if_neg q]
def kHt (h : Nat → Int32) (W : Nat → Nat) (c : Nat) : Nat → Int32 := if kGo h W c 4 = c then upd h c (kMn (h c)) else h
theorem kHt_c {h h' : Nat → Int32} {W : Nat → Nat} {c : Nat} (hc : c < 36) (e : ∀ i, i < 36 → h' i = h i) : ∀ i, i < 36 → kHt h' W c i = kHt h W c i := by
  intro i hi
  unfold kHt
  rw [kGo_c hc e 4 (by decide)]
  by_cases q : kGo h W c 4 = c
  · rw [if_pos q, if_pos q]
    by_cases z : i = c
    · subst z; rw [pk_us, pk_us, e _ hc]
    · rw [pk_un z, pk_un z, e _ hi]
  · rw [if_neg q, if_neg q, e _ hi]
def kLv (h : Nat → Int32) (W : Nat → Nat) (c : Nat) : Nat → Nat × (Nat → Int32)
  | 0 => (c, h)
  | k + 1 => (kGo (kLv h W c k).2 W (kLv h W c k).1 4, kHt (kLv h W c k).2 W (kLv h W c k).1)
theorem kLv_lt {h : Nat → Int32} {W : Nat → Nat} {c : Nat} (hc : c < 36) : ∀ k, (kLv h W c k).1 < 36 := by
  intro k
  induction k with
  | zero => exact hc
  | succ k ih => exact kGo_lt ih 4 (by decide)
theorem kLv_c {h h' : Nat → Int32} {W : Nat → Nat} {c : Nat} (hc : c < 36) (e : ∀ i, i < 36 → h' i = h i) : ∀ k, (kLv h' W c k).1 = (kLv h W c k).1 ∧ ∀ i, i < 36 → (kLv h' W c k).2 i = (kLv h W c k).2 i := by
  intro k
  induction k with
  | zero => exact ⟨rfl, e⟩
  | succ k ih =>
    have l := kLv_lt (h := h) (W := W) hc k
    refine ⟨?_, ?_⟩
    · show kGo (kLv h' W c k).2 W (kLv h' W c k).1 4 = kGo (kLv h W c k).2 W (kLv h W c k).1 4
      rw [ih.1]; exact kGo_c l ih.2 4 (by decide)
    · show ∀ i, i < 36 → kHt (kLv h' W c k).2 W (kLv h' W c k).1 i = kHt (kLv h W c k).2 W (kLv h W c k).1 i
      rw [ih.1]; exact kHt_c l ih.2
def kBit (c : Nat) : Int64 := (1 : Int64) <<< ((nI c).toInt64 &&& 63)
def kCm (h : Nat → Int32) (W : Nat → Nat) (c : Nat) : Nat → Int64
  | 0 => kBit c
  | k + 1 => kCm h W c k ||| kBit (kLv h W c (k + 1)).1
theorem kCm_c {h h' : Nat → Int32} {W : Nat → Nat} {c : Nat} (hc : c < 36) (e : ∀ i, i < 36 → h' i = h i) : ∀ k, kCm h' W c k = kCm h W c k := by
  intro k
  induction k with
  | zero => rfl
  | succ k ih => rw [kCm, kCm, ih, (kLv_c hc e (k + 1)).1]
theorem kCm_in {h : Nat → Int32} {W : Nat → Nat} {c : Nat} : ∀ k, kCm h W c k ||| kBit (kLv h W c k).1 = kCm h W c k := by
  intro k
  cases k with
  | zero => exact Int64.or_self
  | succ k => rw [kCm, Int64.or_assoc, Int64.or_self]
theorem goesOn_l {h ws : Nat → Int32} {W : Nat → Nat} (hW : ∀ i, i < 36 → W i < 16 ∧ ws i = nI (W i)) {c : Nat} (hc : c < 36) : ∀ n w, 4 - w < n → w ≤ 4 → fl_Gr_lavaGoesOn_1 (nI c) h ws n (nI (kGo h W c w)) (nI w) = some (nI (kGo h W c 4), kHt h W c) := by
  intro n
  induction n with
  | zero => intro w h; exact absurd h (by omega)
  | succ n ih =>
    intro w h1 hw
    have l := kGo_lt (h := h) (W := W) hc w hw
    rw [fl_Gr_lavaGoesOn_1_s]
    unfold fb_Gr_lavaGoesOn_1
    by_cases q : w = 4
    · subst q
      rw [if_pos (show (4 : Int32) ≤ nI 4 by decide), kHt]
      by_cases z : kGo h W c 4 = c
      · rw [if_pos (by rw [z]), if_pos z, kx hc (by decide), nI_clamp (by omega), kMn_eq, kb1_eq, kx hc (by decide)]
      · rw [if_neg (fun x => z ((nI_eq (by omega) (by omega)).mp x)), if_neg z]
    · have i := ih (w + 1) (by omega) (by omega)
      rw [kGo] at i
      rw [if_neg (show ¬ (4 : Int32) ≤ nI w from nI_ge (b := 4) (by omega) (by decide)), beside_eq c hc w (by omega), kb1_eq, nI_1]
      by_cases q1 : nb c w = 99
      · rw [if_pos q1] at i
        have e : nbI c w = -1 := if_pos q1
        rw [e, if_pos (by decide)]
        exact i
      · have nl : nb c w < 36 := (nb_or c hc w (by omega)).resolve_left q1
        rw [if_neg q1] at i
        rw [nbI_some nl, if_neg (nI_pos (by omega)), isWalled_x hc (by omega) (hW c hc).1 (hW c hc).2, kb1_eq]
        by_cases q2 : (W c).testBit w = true
        · rw [if_pos q2] at i
          rw [if_pos q2, if_neg i10]
          exact i
        · rw [if_neg q2] at i
          rw [if_neg q2, if_pos rfl, kx nl (by decide), kx l (by decide), nI_clamp (by omega), nI_clamp (n := nb c w) (by omega)]
          by_cases q3 : h (kGo h W c w) ≤ h (nb c w)
          · rw [if_pos q3] at i
            rw [if_pos q3]; exact i
          · rw [if_neg q3] at i
            rw [if_neg q3]; exact i
theorem goesOn_x {h ws : Nat → Int32} {W : Nat → Nat} (hW : ∀ i, i < 36 → W i < 16 ∧ ws i = nI (W i)) {c : Nat} (hc : c < 36) : f_Gr_lavaGoesOn h ws (nI c) = some (nI (kGo h W c 4), kHt h W c) := by
  unfold f_Gr_lavaGoesOn
  have hx : f_X_isCell (nI c) = some 1 := by
    unfold f_X_isCell
    rw [if_neg (nI_pos (by omega)), if_neg (show ¬ (36 : Int32) ≤ nI c from nI_ge (b := 36) hc (by decide))]
  rw [hx, kb1_eq, if_neg i10]
  exact goesOn_l hW hc kFuel 0 (by unfold kFuel; omega) (by omega)
theorem flowsTo_l {A h : Nat → Int32} {W : Nat → Nat} (R : RA 50 36 h A) (hW : ∀ i, i < 36 → W i < 16 ∧ A (122 + i) = nI (W i)) {c : Nat} (hc : c < 36) : ∀ n w x2, 4 - w < n → w ≤ 4 → (x2 = (if kGo h W c w = c then -1 else nI (kGo h W c w))) → (kGo h W c w ≠ c → h (kGo h W c w) < h c) → fl_M_flowsTo_1 (nI c) A kDown kAlong n x2 (nI w) = some (if kGo h W c 4 = c then -1 else nI (kGo h W c 4)) := by
  intro n
  induction n with
  | zero => intro w _ h; exact absurd h (by omega)
  | succ n ih =>
    intro w x2 h1 hw hx hlt
    have l := kGo_lt (h := h) (W := W) hc w hw
    rw [fl_M_flowsTo_1_s]
    unfold fb_M_flowsTo_1
    by_cases q : w = 4
    · subst q
      rw [if_pos (show (4 : Int32) ≤ nI 4 by decide), hx]
    · have i := ih (w + 1)
      rw [kGo] at i
      have skip : ∀ s0 : Int32, s0 < 0 → fl_M_flowsTo_1 (nI c) A kDown kAlong n x2 (nI (w + 1)) = some (if kGo h W c 4 = c then -1 else nI (kGo h W c 4)) → f_M_flowsTo_2 (fl_M_flowsTo_1 (nI c) A kDown kAlong n) s0 (nI c) x2 (nI w) A kDown kAlong = some (if kGo h W c 4 = c then -1 else nI (kGo h W c 4)) := by
        intro s0 hs hi
        unfold f_M_flowsTo_2
        rw [if_pos hs, nI_1]; exact hi
      rw [if_neg (show ¬ (4 : Int32) ≤ nI w from nI_ge (b := 4) (by omega) (by decide)), hasWall_m hc (by omega) (hW c hc).1 (hW c hc).2, kb1_eq]
      by_cases q2 : (W c).testBit w = true
      · rw [if_pos q2, if_neg i10]
        refine skip _ (by decide) ?_
        by_cases q1 : nb c w = 99
        · rw [if_pos q1] at i; exact i x2 (by omega) (by omega) hx hlt
        · rw [if_neg q1, if_pos q2] at i; exact i x2 (by omega) (by omega) hx hlt
      · rw [if_neg q2, if_pos rfl, cellIn_eq c hc w (by omega), kb1_eq]
        by_cases q1 : nb c w = 99
        · rw [if_pos q1] at i
          have e : nbI c w = -1 := if_pos q1
          rw [e]
          exact skip _ (by decide) (i x2 (by omega) (by omega) hx hlt)
        · have nl : nb c w < 36 := (nb_or c hc w (by omega)).resolve_left q1
          have nc : nb c w ≠ c := (nb_back c hc w (by omega) nl).2
          rw [if_neg q1, if_neg q2] at i
          rw [nbI_some nl]
          unfold f_M_flowsTo_2
          have g : ∀ p, p < 36 → ∀ {α : Type} (z : Option α), kidx ((50 : Int32) + nI p) 218 z = z := fun p hp α z => by rw [nl50, nI_add, kx (by omega) (by decide)]
          have v : ∀ p, p < 36 → A ((50 : Int32) + nI p).toNatClampNeg = h p := fun p hp => by rw [nl50, nI_add, nI_clamp (by omega), R p hp]
          rw [if_neg (nI_pos (by omega)), g _ nl, g _ hc, v _ nl, v _ hc, nI_1]
          by_cases z : kGo h W c w = c
          · rw [z] at i
            rw [if_pos z] at hx
            subst hx
            by_cases q3 : h c ≤ h (nb c w)
            · rw [if_pos q3] at i
              rw [if_pos q3]
              exact i _ (by omega) (by omega) (if_pos rfl).symm (fun y => absurd rfl y)
            · rw [if_neg q3] at i
              rw [if_neg q3, if_pos (by decide)]
              refine i _ (by omega) (by omega) (if_neg nc).symm (fun _ => ?_)
              rw [Int32.lt_iff_toInt_lt]; rw [Int32.le_iff_toInt_le] at q3; omega
          · have hl := hlt z
            rw [if_neg z] at hx
            subst hx
            by_cases q3 : h c ≤ h (nb c w)
            · have q4 : h (kGo h W c w) ≤ h (nb c w) := by
                rw [Int32.lt_iff_toInt_lt] at hl; rw [Int32.le_iff_toInt_le] at q3 ⊢; omega
              rw [if_pos q4] at i
              rw [if_pos q3]
              exact i _ (by omega) (by omega) (if_neg z).symm hlt
            · rw [if_neg q3, if_neg (nI_pos (by omega)), g _ nl, g _ l, v _ l]
              by_cases q4 : h (kGo h W c w) ≤ h (nb c w)
              · rw [if_pos q4] at i
                rw [if_pos q4]
                exact i _ (by omega) (by omega) (if_neg z).symm hlt
              · rw [if_neg q4] at i
                rw [if_neg q4]
                refine i _ (by omega) (by omega) (if_neg nc).symm (fun _ => ?_)
                rw [Int32.lt_iff_toInt_lt]; rw [Int32.le_iff_toInt_le] at q3; omega
theorem flowsTo_m {A h : Nat → Int32} {W : Nat → Nat} (R : RA 50 36 h A) (hW : ∀ i, i < 36 → W i < 16 ∧ A (122 + i) = nI (W i)) {c : Nat} (hc : c < 36) : f_M_flowsTo A kDown kAlong (nI c) = some (if kGo h W c 4 = c then -1 else nI (kGo h W c 4)) :=
  flowsTo_l R hW hc kFuel 0 (-1) (by unfold kFuel; omega) (by omega) (if_pos rfl).symm (fun y => absurd rfl y)
theorem lavaFrom_l {h ws : Nat → Int32} {W : Nat → Nat} (hW : ∀ i, i < 36 → W i < 16 ∧ ws i = nI (W i)) {c v : Nat} (hc : c < 36) (hv : v ≤ 99) : ∀ n k, v - (k + 1) < n → k + 1 ≤ v → fl_Gr_lavaFrom_1 (nI v) ws n (nI (kLv h W c k).1) (kCm h W c k) (nI (k + 1)) (kLv h W c k).2 = some (kCm h W c (v - 1), (kLv h W c (v - 1)).2) := by
  intro n
  induction n with
  | zero => intro w h; exact absurd h (by omega)
  | succ n ih =>
    intro k h1 hk
    rw [fl_Gr_lavaFrom_1_s]
    unfold fb_Gr_lavaFrom_1
    by_cases q : k + 1 = v
    · subst q
      rw [if_pos (nI_le (Nat.le_refl _) (by omega))]; rfl
    · rw [if_neg (nI_ge (by omega) (by omega)), goesOn_x hW (kLv_lt hc k), kb2_eq, klet_eq, nI_1]
      exact ih (k + 1) (by omega) (by omega)
theorem lavaFrom_x {h ws : Nat → Int32} {W : Nat → Nat} (hW : ∀ i, i < 36 → W i < 16 ∧ ws i = nI (W i)) {c v : Nat} (hc : c < 36) (h1 : 1 ≤ v) (hv : v ≤ 99) : f_Gr_lavaFrom h ws (nI c) (nI v) = some (kCm h W c (v - 1), (kLv h W c (v - 1)).2) := by
  unfold f_Gr_lavaFrom
  rw [klet_eq]
  exact lavaFrom_l hW hc hv kFuel 0 (by unfold kFuel; omega) h1
theorem lava_l {A h : Nat → Int32} {W : Nat → Nat} (hW : ∀ i, i < 36 → W i < 16 ∧ A (122 + i) = nI (W i)) {c v : Nat} (hc : c < 36) (hv : v ≤ 99) : ∀ n k B, v - (k + 1) < n → k + 1 ≤ v → RA 50 36 (kLv h W c k).2 B → (∀ j, j < 50 ∨ 86 ≤ j → B j = A j) → ∃ B', fl_M_lava_1 (nI v) kDown kAlong n (nI (kLv h W c k).1) (kCm h W c k) (nI (k + 1)) B = some (kCm h W c (v - 1), B') ∧ (∀ j, j < 50 ∨ 86 ≤ j → B' j = A j) ∧ RA 50 36 (kLv h W c (v - 1)).2 B' := by
  intro n
  induction n with
  | zero => intro k _ h; exact absurd h (by omega)
  | succ n ih =>
    intro k B h1 hk hB hA
    have l := kLv_lt (h := h) (W := W) hc k
    rw [fl_M_lava_1_s]
    unfold fb_M_lava_1
    by_cases q : k + 1 = v
    · subst q
      exact ⟨B, by rw [if_pos (nI_le (Nat.le_refl _) (by omega))]; rfl, hA, hB⟩
    · rw [if_neg (nI_ge (by omega) (by omega)), flowsTo_m hB (fun i hi => by rw [hA _ (by omega)]; exact hW i hi) l, kb1_eq, nI_1]
      by_cases z : kGo (kLv h W c k).2 W (kLv h W c k).1 4 = (kLv h W c k).1
      · rw [if_pos z, if_neg (by decide), nl50, nI_add, kx (by omega) (by decide), nI_clamp (by omega), kMn_eq, kb1_eq, kx (by omega) (by decide)]
        have e1 : (kLv h W c (k + 1)).1 = (kLv h W c k).1 := z
        have e2 : kCm h W c (k + 1) = kCm h W c k := by rw [kCm, e1, kCm_in]
        have e3 : (kLv h W c (k + 1)).2 = upd (kLv h W c k).2 (kLv h W c k).1 (kMn ((kLv h W c k).2 (kLv h W c k).1)) := if_pos z
        have r := ih (k + 1) (upd B (50 + (kLv h W c k).1) (kMn (B (50 + (kLv h W c k).1)))) (by omega) (by omega) (by rw [e3, hB _ l]; exact RA.at hB l) (fun j hj => by rw [pk_un (by omega)]; exact hA j hj)
        rw [e1, e2] at r
        exact r
      · have l2 := kGo_lt (h := (kLv h W c k).2) (W := W) l 4 (by decide)
        rw [if_neg z, if_pos (nI_pos' (by omega)), klet_eq]
        have e3 : (kLv h W c (k + 1)).2 = (kLv h W c k).2 := if_neg z
        exact ih (k + 1) B (by omega) (by omega) (by rw [e3]; exact hB) hA
theorem lava_m {A h : Nat → Int32} {W : Nat → Nat} (R : RA 50 36 h A) (hW : ∀ i, i < 36 → W i < 16 ∧ A (122 + i) = nI (W i)) {c v : Nat} (hc : c < 36) (h1 : 1 ≤ v) (hv : v ≤ 99) : ∃ B', f_M_lava A kDown kAlong (nI c) (nI v) = some (kCm h W c (v - 1), B') ∧ (∀ j, j < 50 ∨ 86 ≤ j → B' j = A j) ∧ RA 50 36 (kLv h W c (v - 1)).2 B' := by
  unfold f_M_lava
  rw [klet_eq]
  exact lava_l hW hc hv kFuel 0 A (by unfold kFuel; omega) h1 R (fun _ _ => rfl)
/-- a row is copied -/
def kRow (f g : Nat → Int32) : Nat → Int32 := fun j => if j < 218 then f j else g j
theorem copyRow_l (f : Nat → Int32) : ∀ n k g, 218 - k < n → k ≤ 218 → ∃ r, fl_M_copyRow_1 f n (nI k) g = some r ∧ ∀ j, r j = if k ≤ j ∧ j < 218 then f j else g j := by
  intro n
  induction n with
  | zero => intro k _ h; exact absurd h (by omega)
  | succ n ih =>
    intro k g h1 hk
    rw [fl_M_copyRow_1_s]
    unfold fb_M_copyRow_1
    by_cases q : k = 218
    · subst q
      exact ⟨g, by rw [if_pos (show (218 : Int32) ≤ nI 218 by decide)], fun j => (if_neg (by omega)).symm⟩
    · rw [if_neg (show ¬ (218 : Int32) ≤ nI k from nI_ge (b := 218) (by omega) (by decide)), kx (by omega) (by decide), kx (by omega) (by decide), nI_clamp (by omega), nI_1]
      obtain ⟨r, e1, e2⟩ := ih (k + 1) (upd g k (f k)) (by omega) (by omega)
      refine ⟨r, e1, fun j => ?_⟩
      rw [e2]
      by_cases z : j = k
      · subst z; rw [if_neg (by omega), pk_us, if_pos (by omega)]
      · rw [pk_un z]
        exact ite_iff' (by omega) _ _
theorem copyRow_m (f g : Nat → Int32) : f_M_copyRow f g = some (kRow f g) := by
  obtain ⟨r, e1, e2⟩ := copyRow_l f kFuel 0 g (by unfold kFuel; omega) (by omega)
  have : r = kRow f g := by
    funext j
    rw [e2 j]
    exact ite_iff' (by omega) _ _
  rw [← this]; exact e1
theorem asked_m {A h : Nat → Int32} {W : Nat → Nat} (R : RA 50 36 h A) (hW : ∀ i, i < 36 → W i < 16 ∧ A (122 + i) = nI (W i)) {c v : Nat} (hc : c < 36) (h1 : 1 ≤ v) (hv : v ≤ 99) (aside : Nat → Int32) : f_M_asked A aside kDown kAlong (nI c) (nI v) = some (kCm h W c (v - 1), A, kRow A aside) := by
  obtain ⟨B', e1, e2, -⟩ := lava_m R hW hc h1 hv
  unfold f_M_asked
  rw [copyRow_m, kb1_eq, e1, kb2_eq, copyRow_m, kb1_eq]
  have : kRow (kRow A aside) B' = A := by
    funext j
    unfold kRow
    by_cases q : j < 218
    · rw [if_pos q, if_pos q]
    · rw [if_neg q]; exact e2 j (by omega)
  rw [this]

theorem become_x (v a : Int32) (h ag ws : Nat → Int32) (v' a' : Int32) (h' ag' ws' : Nat → Int32) : ∃ th tg tw, f_Gr_become v a h ag ws v' a' h' ag' ws' = some (v', a', th, tg, tw) ∧ ∀ i, i < 36 → th i = h' i ∧ tg i = ag' i ∧ tw i = ws' i := by
  refine ⟨_, _, _, rfl, fun i hi => ?_⟩
  have c0 : ((0 : Int32)).toNatClampNeg = 0 := by decide
  have c1 : ((36 : Int32)).toNatClampNeg = 36 := by decide
  rw [c0, c1]
  unfold va_cpy
  rw [if_pos (by omega), if_pos (by omega), if_pos (by omega), Nat.zero_add, Nat.sub_zero]
  exact ⟨rfl, rfl, rfl⟩
theorem isVol_k {v : Nat} (h1 : 1 ≤ v) (hv : v ≤ 99) : f_X_isVolume (nI v) = some 1 ∧ f_M_isVolume (nI v) = some 1 := by
  rcases isVolume_cases (nI v) with ⟨h, -⟩ | ⟨k, -, -, -, h⟩
  · exfalso
    unfold f_X_isVolume at h
    rw [isWithin_eq, within_y (show ¬ nI v < (1 : Int32) from nI_nlt (a := v) (b := 1) h1 (by omega)) (show ¬ (99 : Int32) < nI v from nI_nlt (a := 99) hv (by decide)), kb1_eq, b01 (Or.inr rfl)] at h
    exact absurd h (by decide)
  · exact h
/-- flow -/
theorem sim_flow {mo vo ou fe fq pi vt ash nu bu se st z : Int32} {hs ag ws ki ce ow pu ch sh di : Nat → Int32} {A fi fo : Nat → Int32} (R : RI mo vo ou fe fq pi vt ash hs ag ws nu bu ki ce ow pu se st z ch sh di A) (F : RF fi fo) (tv ta : Int32) (th tg tw aside : Nat → Int32) (x1 x2 : Int32) : ∃ r tv' ta' th' tg' tw' aside' fi' fo', f_X_flow vt ash hs ag ws tv ta th tg tw fi x1 x2 = some (r, tv', ta', th', tg', tw', fi') ∧ f_M_flow A aside fo kDown kAlong x1 x2 = some (r, A, aside', fo') ∧ RF fi' fo' := by
  obtain ⟨fi', fo', b1, b2, F'⟩ := fnd0 F
  have c1 : f_X_flow_1 tv ta th tg tw fi = some ((-1000000001 : Int32).toInt64, tv, ta, th, tg, tw, fi') := by unfold f_X_flow_1; rw [b1, kb2_eq]
  have c2 : f_M_flow_1 A aside fo = some ((-1000000001 : Int32).toInt64, A, aside, fo') := by unfold f_M_flow_1; rw [b2, kb2_eq]
  unfold f_X_flow f_M_flow
  rcases isCell_cases x1 with ⟨hx, hm⟩ | ⟨c, hc, rfl, hx, hm⟩
  · exact ⟨_, tv, ta, th, tg, tw, aside, fi', fo', by rw [hx, kb1_eq, if_pos rfl]; exact c1, by rw [hm, kb1_eq, if_pos rfl]; exact c2, F'⟩
  rw [hx, hm, kb1_eq, kb1_eq, if_neg i10, if_neg i10]
  rcases isVolume_cases x2 with ⟨hx, hm⟩ | ⟨v, h1, hv, rfl, hx, hm⟩
  · exact ⟨_, tv, ta, th, tg, tw, aside, fi', fo', by rw [hx, kb1_eq, if_pos rfl]; exact c1, by rw [hm, kb1_eq, if_pos rfl]; exact c2, F'⟩
  rw [hx, hm, kb1_eq, kb1_eq, if_neg i10, if_neg i10]
  obtain ⟨W, hW, -⟩ := id R.2.2.2.2.1
  obtain ⟨th', tg', tw', e1, e2⟩ := become_x tv ta th tg tw vt ash hs ag ws
  have R' : RA 50 36 th' A := fun i hi => by rw [R.1.1.1 i hi, (e2 i hi).1]
  refine ⟨kCm th' W c (v - 1), vt, ash, (kLv th' W c (v - 1)).2, tg', tw', kRow A aside, fi, fo, ?_, ?_, F⟩
  · rw [e1, kb5_eq, lavaFrom_x (fun i hi => by rw [(e2 i hi).2.2]; exact hW i hi) hc h1 hv, kb2_eq]
  · rw [asked_m R' (fun i hi => by rw [R.1.1.2.2.1 i hi]; exact hW i hi) hc h1 hv, kb3_eq]
/-- the farms on which lava has come -/
def kHit (m : Int64) (x : Int32) : Bool := decide (lg_cmp ((m >>> (x.toInt64 &&& 63)) &&& 1) 1 = 0)
def kOn (m : Int64) (ce : Nat → Int32) : Nat → Nat
  | 0 => 0
  | k + 1 => if kHit m (ce k) then kOn m ce k ||| 2 ^ k else kOn m ce k
def kTo (m : Int64) (ce : Nat → Int32) (B : Nat) : Nat → Nat
  | 0 => 0
  | k + 1 => if B.testBit k then kTo m ce B k else if kHit m (ce k) then kTo m ce B k ||| 2 ^ k else kTo m ce B k
theorem kOn_bit {m : Int64} {ce : Nat → Int32} (k i : Nat) : (kOn m ce k).testBit i = (decide (i < k) && decide (kHit m (ce i))) := by
  induction k with
  | zero => rw [kOn, Nat.zero_testBit]; simp
  | succ k ih =>
    rw [kOn]
    by_cases q : i = k
    · subst q
      by_cases z : kHit m (ce i)
      · rw [if_pos z, Nat.testBit_or, Nat.testBit_two_pow]; simp [z]
      · rw [if_neg z, ih]; simp [z]
    · have e : decide (i < k + 1) = decide (i < k) := by by_cases y : i < k <;> simp [y] <;> omega
      rw [e]
      by_cases z : kHit m (ce k)
      · rw [if_pos z, Nat.testBit_or, Nat.testBit_two_pow, ih]
        have : decide (k = i) = false := by simp; omega
        rw [this, Bool.or_false]
      · rw [if_neg z, ih]
theorem kTo_bit {m : Int64} {ce : Nat → Int32} {B : Nat} (k i : Nat) : (kTo m ce B k).testBit i = (decide (i < k) && decide (kHit m (ce i)) && !B.testBit i) := by
  induction k with
  | zero => rw [kTo, Nat.zero_testBit]; simp
  | succ k ih =>
    rw [kTo]
    by_cases q : i = k
    · subst q
      by_cases y : B.testBit i
      · rw [if_pos y, ih]; simp [y]
      · rw [if_neg y]
        by_cases z : kHit m (ce i)
        · rw [if_pos z, Nat.testBit_or, Nat.testBit_two_pow]; simp [z, y]
        · rw [if_neg z, ih]; simp [z]
    · have e : decide (i < k + 1) = decide (i < k) := by by_cases y : i < k <;> simp [y] <;> omega
      rw [e]
      by_cases y : B.testBit k
      · rw [if_pos y, ih]
      · rw [if_neg y]
        by_cases z : kHit m (ce k)
        · rw [if_pos z, Nat.testBit_or, Nat.testBit_two_pow, ih]
          have : decide (k = i) = false := by simp; omega
          rw [this, Bool.or_false]
        · rw [if_neg z, ih]
theorem lt_bits {S n : Nat} (h : ∀ i, n ≤ i → S.testBit i = false) : S < 2 ^ n := Nat.lt_pow_two_of_testBit S h
theorem kTo_lt {m : Int64} {ce : Nat → Int32} {B k : Nat} : kTo m ce B k < 2 ^ k := lt_bits fun i hi => by
  rw [kTo_bit]
  have : decide (i < k) = false := by simp; omega
  rw [this]; rfl
theorem kOn_lt {m : Int64} {ce : Nat → Int32} {k : Nat} : kOn m ce k < 2 ^ k := lt_bits fun i hi => by
  rw [kOn_bit]
  have : decide (i < k) = false := by simp; omega
  rw [this]; rfl
theorem or12 {S f : Nat} (hS : S < 4096) (hf : f < 12) : nI S ||| ((1 : Int32) <<< (nI f &&& 31)) = nI (S ||| 2 ^ f) ∧ S ||| 2 ^ f < 4096 := by
  have key : ∀ f, f < 12 → ((1 : Int32) <<< (nI f &&& 31)).toBitVec.toNat = 2 ^ f := by decide +kernel
  have l : S ||| 2 ^ f < 4096 := Nat.or_lt_two_pow (n := 12) hS (Nat.pow_lt_pow_right (by decide) hf)
  refine ⟨?_, l⟩
  apply Int32.toBitVec_inj.mp
  apply BitVec.eq_of_toNat_eq
  rw [Int32.toBitVec_or, BitVec.toNat_or, pk_tn (by omega), key f hf, pk_tn (by omega)]
theorem not12 {S B : Nat} (hS : S < 4096) (hB : B < 4096) : nI S &&& (nI B ^^^ (-1 : Int32)) = nI (S &&& (B ^^^ 4095)) := by
  apply Int32.toBitVec_inj.mp
  apply BitVec.eq_of_toNat_eq
  rw [Int32.toBitVec_and, BitVec.toNat_and, Int32.toBitVec_xor, BitVec.toNat_xor, pk_tn (by omega), pk_tn (by omega), pk_tn (Nat.lt_of_le_of_lt Nat.and_le_left (by omega))]
  have e : ((-1 : Int32)).toBitVec.toNat = 2 ^ 32 - 1 := by decide
  rw [e]
  apply Nat.eq_of_testBit_eq
  intro i
  rw [Nat.testBit_and, Nat.testBit_and, Nat.testBit_xor, Nat.testBit_xor, Nat.testBit_two_pow_sub_one, show 4095 = 2 ^ 12 - 1 by decide, Nat.testBit_two_pow_sub_one]
  by_cases q : i < 12
  · have : i < 32 := by omega
    simp [q, this]
  · have hs : S.testBit i = false := Nat.testBit_lt_two_pow (Nat.lt_of_lt_of_le hS (by rw [show 4096 = 2 ^ 12 by decide]; exact Nat.pow_le_pow_right (by decide) (by omega)))
    rw [hs]; rfl
theorem kOn_kTo {m : Int64} {ce : Nat → Int32} {B N : Nat} (hN : N ≤ 12) : kOn m ce N &&& (B ^^^ 4095) = kTo m ce B N := by
  apply Nat.eq_of_testBit_eq
  intro i
  rw [Nat.testBit_and, kOn_bit, kTo_bit, Nat.testBit_xor, show 4095 = 2 ^ 12 - 1 by decide, Nat.testBit_two_pow_sub_one]
  by_cases q : i < N
  · have : i < 12 := by omega
    simp [q, this]
  · simp [q]
theorem standing_l (m : Int64) (ce : Nat → Int32) {N : Nat} (hN : N ≤ 12) : ∀ n k, N - k < n → k ≤ N → fl_Fa_standingOn_1 m (nI N) ce n (nI (kOn m ce k)) (nI k) = some (nI (kOn m ce N)) := by
  intro n
  induction n with
  | zero => intro k h; exact absurd h (by omega)
  | succ n ih =>
    intro k h hk
    rw [fl_Fa_standingOn_1_s]
    unfold fb_Fa_standingOn_1
    by_cases q : k = N
    · subst q; rw [if_pos (nI_le (Nat.le_refl _) (by omega))]
    · have i := ih (k + 1) (by omega) (by omega)
      rw [kOn] at i
      rw [if_neg (nI_ge (by omega) (by omega)), kx (by omega) (by decide), nI_clamp (by omega), nI_1, klet_eq, (or12 (pow_le12 (by omega) kOn_lt) (by omega)).1]
      by_cases z : kHit m (ce k)
      · rw [if_pos z] at i
        rw [if_pos (show lg_cmp ((m >>> ((ce k).toInt64 &&& 63)) &&& 1) 1 = 0 from of_decide_eq_true z)]; exact i
      · rw [if_neg z] at i
        rw [if_neg (show ¬ lg_cmp ((m >>> ((ce k).toInt64 &&& 63)) &&& 1) 1 = 0 from fun y => z (decide_eq_true y))]; exact i
theorem standing_x (m : Int64) (ce : Nat → Int32) {N : Nat} (hN : N ≤ 12) : f_Fa_standingOn (nI N) ce m = some (nI (kOn m ce N)) :=
  standing_l m ce hN kFuel 0 (by unfold kFuel; omega) (by omega)
theorem hits_l {A ki ce ow pu : Nat → Int32} (m : Int64) {N B : Nat} (hN : N ≤ 12) (hA : A 10 = nI N) (hB : B < 4096) (Rf : RFm ki ce ow pu (nI B) A) (aside : Nat → Int32) : ∀ n k, N - k < n → k ≤ N → fl_M_hits_1 m A aside n (nI (kTo m ce B k)) (nI k) = some (nI (kTo m ce B N), A, aside) := by
  intro n
  induction n with
  | zero => intro k h; exact absurd h (by omega)
  | succ n ih =>
    intro k h hk
    rw [fl_M_hits_1_s]
    unfold fb_M_hits_1
    rw [hA]
    by_cases q : k = N
    · subst q; rw [if_pos (nI_le (Nat.le_refl _) (by omega))]
    · have i := ih (k + 1) (by omega) (by omega)
      rw [kTo] at i
      obtain ⟨-, f1, -, -, f4⟩ := Rf k (by omega)
      rw [if_neg (nI_ge (by omega) (by omega)), nl4, M_farmIs_eq A (by omega) (by decide), kb1_eq, nI_1, nl1, M_farmIs_eq A (by omega) (by decide), kb1_eq, klet_eq, f1, f4, bit12 k (by omega) B hB, ← nl1, (or12 (pow_le12 (by omega) kTo_lt) (by omega)).1, Int32.or_zero]
      by_cases y : B.testBit k = true
      · rw [if_pos y] at i
        rw [if_pos y, if_neg i10]; exact i
      · rw [if_neg y] at i
        rw [if_neg y, if_pos rfl]
        by_cases z : kHit m (ce k)
        · rw [if_pos z] at i
          rw [if_pos (show lg_cmp ((m >>> ((ce k).toInt64 &&& 63)) &&& 1) 1 = 0 from of_decide_eq_true z)]; exact i
        · rw [if_neg z] at i
          rw [if_neg (show ¬ lg_cmp ((m >>> ((ce k).toInt64 &&& 63)) &&& 1) 1 = 0 from fun y => z (decide_eq_true y))]; exact i
theorem hits_m {A h ki ce ow pu : Nat → Int32} {W : Nat → Nat} (R : RA 50 36 h A) (hW : ∀ i, i < 36 → W i < 16 ∧ A (122 + i) = nI (W i)) {c v : Nat} (hc : c < 36) (h3 : A 3 = nI c) (h1 : 1 ≤ v) (hv : v ≤ 99) {N B : Nat} (hN : N ≤ 12) (hA : A 10 = nI N) (hB : B < 4096) (Rf : RFm ki ce ow pu (nI B) A) (aside : Nat → Int32) : f_M_hits A aside kDown kAlong (nI v) = some (nI (kTo (kCm h W c (v - 1)) ce B N), A, kRow A aside) := by
  unfold f_M_hits
  rw [h3, asked_m R hW hc h1 hv, kb3_eq]
  exact hits_l _ hN hA hB Rf _ kFuel 0 (by unfold kFuel; omega) (by omega)
theorem hitWith1_x {th tg tw ce : Nat → Int32} {ta : Int32} {W : Nat → Nat} (hW : ∀ i, i < 36 → W i < 16 ∧ tw i = nI (W i)) {c v : Nat} (hc : c < 36) (h1 : 1 ≤ v) (hv : v ≤ 99) {N B : Nat} (hN : N ≤ 12) (hB : B < 4096) {h : Nat → Int32} (hh : ∀ i, i < 36 → th i = h i) : ∃ th', f_X_hitWith_1 (nI v) (nI N) (nI B) ce (nI c) ta th tg tw = some (nI (kTo (kCm h W c (v - 1)) ce B N), nI c, ta, th', tg, tw) := by
  unfold f_X_hitWith_1
  rw [lavaFrom_x hW hc h1 hv, kb2_eq, standing_x _ _ hN, kb1_eq, not12 (pow_le12 hN kOn_lt) hB, kOn_kTo hN, kCm_c hc hh]
  exact ⟨_, rfl⟩

