/-! the relation at the start -/
def tHg : List Int32 := [30, 35, 40, 35, 30, 25, 35, 40, 45, 40, 35, 30, 40, 45, 50, 45, 40, 35, 35, 40, 45, 40, 35, 30, 30, 35, 40, 35, 30, 25, 25, 30, 35, 30, 25, 20]
def tCh : List Int32 := [7, 3, 0, 0, 0, 7, 3, 0, 0, 0, 7, 3, 3, 0, 0, 7]
def tSh : List Int32 := [7, 1, 1, 1, 1, 7, 1, 1, 1, 1, 7, 1, 1, 1, 1, 7]
def tNow : List Int32 := [1, 0, 0, 14, 99, 12, 0, 0, 0, 0, 0, 0, 0, 0, 0, 0, 0, 0, 7, 3, 0, 0, 0, 7, 3, 0, 0, 0, 7, 3, 3, 0, 0, 7, 7, 1, 1, 1, 1, 7, 1, 1, 1, 1, 7, 1, 1, 1, 1, 7, 30, 35, 40, 35, 30, 25, 35, 40, 45, 40, 35, 30, 40, 45, 50, 45, 40, 35, 35, 40, 45, 40, 35, 30, 30, 35, 40, 35, 30, 25, 25, 30, 35, 30, 25, 20, 20, 20, 20, 20, 20, 20, 20, 20, 20, 20, 20, 20, 20, 20, 20, 20, 20, 20, 20, 20, 20, 20, 20, 20, 20, 20, 20, 20, 20, 20, 20, 20, 20, 20, 20, 20, 0, 0, 0, 0, 0, 0, 0, 0, 0, 0, 0, 0, 0, 0, 0, 0, 0, 0, 0, 0, 0, 0, 0, 0, 0, 0, 0, 0, 0, 0, 0, 0, 0, 0, 0, 0, 0, 0, 0, 0, 0, 0, 0, 0, 0, 0, 0, 0, 0, 0, 0, 0, 0, 0, 0, 0, 0, 0, 0, 0, 0, 0, 0, 0, 0, 0, 0, 0, 0, 0, 0, 0, 0, 0, 0, 0, 0, 0, 0, 0, 0, 0, 0, 0, 0, 0, 0, 0, 0, 0, 0, 0, 0, 0, 0, 0]
theorem g_hg : ∀ i, i < 36 → g0_Gr_init.1 i = tHg.getD i 0 := by decide +kernel
theorem g_ag : ∀ i, i < 36 → g0_Gr_init.2 i = 20 := by decide +kernel
theorem g_ch : ∀ i, i < 16 → g0_Mo_init.1 i = tCh.getD i 0 := by decide +kernel
theorem g_sh : ∀ i, i < 16 → g0_Mo_init.2 i = tSh.getD i 0 := by decide +kernel
theorem g_now : ∀ i, i < 218 → g0_M_init i = tNow.getD i 0 := by decide +kernel
theorem t_hg : ∀ i, i < 36 → tNow.getD (50 + i) 0 = tHg.getD i 0 := by decide +kernel
theorem t_ag : ∀ i, i < 36 → tNow.getD (86 + i) 0 = 20 := by decide +kernel
theorem t_wl0 : ∀ i, i < 36 → tNow.getD (122 + i) 0 = 0 := by decide +kernel
theorem t_ch : ∀ i, i < 16 → tNow.getD (18 + i) 0 = tCh.getD i 0 := by decide +kernel
theorem t_sh : ∀ i, i < 16 → tNow.getD (34 + i) 0 = tSh.getD i 0 := by decide +kernel
theorem t_fm : ∀ i, i < 60 → tNow.getD (158 + i) 0 = 0 := by decide +kernel
theorem t_lo : ∀ i, i < 18 → tNow.getD i 0 = if i = 0 then 1 else if i = 3 then 14 else if i = 4 then 99 else if i = 5 then 12 else 0 := by decide +kernel
theorem t_c4 : ∀ s, s < 4 → ∃ a b c d : Fin 11, a.val + b.val + c.val + d.val = 10 ∧ tCh.getD (4 * s) 0 = nI a ∧ tCh.getD (4 * s + 1) 0 = nI b ∧ tCh.getD (4 * s + 2) 0 = nI c ∧ tCh.getD (4 * s + 3) 0 = nI d := by
  intro s hs
  rcases (show s = 0 ∨ s = 1 ∨ s = 2 ∨ s = 3 by omega) with rfl | rfl | rfl | rfl
  · exact ⟨7, 3, 0, 0, by decide, by decide, by decide, by decide, by decide⟩
  · exact ⟨0, 7, 3, 0, by decide, by decide, by decide, by decide, by decide⟩
  · exact ⟨0, 0, 7, 3, by decide, by decide, by decide, by decide, by decide⟩
  · exact ⟨3, 0, 0, 7, by decide, by decide, by decide, by decide, by decide⟩
theorem t_s1 : ∀ i, i < 16 → tSh.getD i 0 = nI 1 ∨ tSh.getD i 0 = nI 7 := by decide +kernel
theorem RI_start : RI 0 12 0 0 0 0 14 99 g0_Gr_init.1 g0_Gr_init.2 (fun _ => 0) 0 0 (fun _ => 0) (fun _ => 0) (fun _ => 0) (fun _ => 0) 0 0 1 g0_Mo_init.1 g0_Mo_init.2 (fun _ => 0) g0_M_init := by
  have lo : ∀ i, i < 18 → g0_M_init i = if i = 0 then 1 else if i = 3 then 14 else if i = 4 then 99 else if i = 5 then 12 else 0 := fun i hi => (g_now i (by omega)).trans (t_lo i hi)
  have fm : ∀ i, i < 60 → g0_M_init (158 + i) = 0 := fun i hi => (g_now _ (by omega)).trans (t_fm i hi)
  refine ⟨⟨⟨fun i hi => ?_, fun i hi => ?_, fun i hi => ?_, fun i hi => ?_, fun i hi => ?_, fun i hi => ?_⟩, fun f hf => ⟨?_, ?_, ?_, ?_, ?_⟩, ?_⟩, ?_⟩
  · rw [g_now _ (by omega), t_hg i hi, g_hg i hi]
  · rw [g_now _ (by omega), t_ag i hi, g_ag i hi]
  · rw [g_now _ (by omega), t_wl0 i hi]
  · rw [g_now _ (by omega), t_ch i hi, g_ch i hi]
  · rw [g_now _ (by omega), t_sh i hi, g_sh i hi]
  · rw [lo _ (by omega), if_neg (by omega), if_neg (by omega), if_neg (by omega), if_neg (by omega)]
  · exact fm (5 * f) (by omega)
  · rw [Nat.add_assoc]; exact fm (5 * f + 1) (by omega)
  · rw [Nat.add_assoc]; exact fm (5 * f + 2) (by omega)
  · rw [Nat.add_assoc]; exact fm (5 * f + 3) (by omega)
  · rw [Nat.add_assoc, fm (5 * f + 4) (by omega), show (0 : Int32) = nI 0 from rfl, bitN (by omega) (by decide), Nat.zero_testBit]
    rfl
  · exact ⟨lo 0 (by omega), lo 1 (by omega), lo 2 (by omega), lo 3 (by omega), lo 4 (by omega), lo 5 (by omega), lo 6 (by omega), lo 7 (by omega), lo 8 (by omega), lo 9 (by omega), lo 10 (by omega), lo 11 (by omega)⟩
  · refine ⟨⟨0, by omega, rfl, fun f hf => absurd hf (by omega), fun f g hf => absurd hf (by omega), fun f hf => absurd hf (by omega), 0, by decide, rfl⟩, ⟨14, by omega, rfl⟩, ⟨12, by omega, by omega, rfl⟩, ⟨fun _ => 0, fun i hi => ⟨Nat.zero_lt_succ 15, rfl⟩, fun c w _ _ _ => by rw [Nat.zero_testBit, Nat.zero_testBit]⟩, fun s hs => ?_, fun i hi => ?_, ⟨0, by omega, rfl, fun i hi => absurd hi (by omega)⟩, ⟨0, by omega, rfl⟩, ⟨0, 0, 0, 0, rfl, rfl, rfl, rfl, by omega, by omega, by omega, by omega, by omega⟩, Or.inl rfl⟩
    · obtain ⟨a, b, c, d, h1, h2, h3, h4, h5⟩ := t_c4 s hs
      exact ⟨a, b, c, d, h1, (g_ch _ (by omega)).trans h2, (g_ch _ (by omega)).trans h3, (g_ch _ (by omega)).trans h4, (g_ch _ (by omega)).trans h5⟩
    · rw [g_sh i hi]
      rcases t_s1 i hi with h | h
      · exact ⟨1, by omega, h⟩
      · exact ⟨7, by omega, h⟩
theorem RH_start : RH 0 0 (fun _ => 0) 0 0 (fun _ => 0) 0 0 (fun _ => 0) 0 0 (fun _ => 0) (fun _ => 0) (fun _ => 0) (fun _ => 0) :=
  ⟨⟨rfl, rfl, fun _ _ => rfl, Or.inl rfl, 0, by omega, rfl⟩, ⟨rfl, rfl, fun _ _ => rfl, Or.inl rfl, 0, by omega, rfl⟩, ⟨rfl, rfl, fun _ _ => rfl, Or.inl rfl, 0, by omega, rfl⟩, ⟨rfl, rfl, fun _ _ => rfl, Or.inl rfl, 0, by omega, rfl⟩⟩
theorem RF_start : RF (fun _ => 0) (fun _ => 0) := ⟨fun _ _ => rfl, by decide⟩
theorem RT_start : RT 0 0 0 (fun _ => 0) (fun _ => 0) := ⟨by omega, rfl, rfl, fun _ _ => rfl⟩
