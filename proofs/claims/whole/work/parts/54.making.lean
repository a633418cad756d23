/-! the rules of making: arrays and objects made, constructors called -/
def kOv (o : Option String) (U : State) : Prop := match o with
  | none => True
  | some C => va_AO C U
theorem kOv.moved {o : Option String} {u U : State} (hvm : u.vm.Alike U.vm) (h : kOv o u) : kOv o U := by
  cases o with
  | none => trivial
  | some C => exact va_AO.moved hvm h
def kBc (D : kD) (o : Option String) (wc : va_W) (sz : Nat) (U : State) : Prop := kB D wc sz U ∧ kOv o U
theorem kBc.blind {D : kD} {o : Option String} {wc : va_W} {sz : Nat} {av : List Value} : FrameBlind (va_Pc av (kBc D o wc sz)) := by
  intro a U g mk h
  obtain ⟨h0, ⟨h1, h2, h3, h4, h5⟩, h6⟩ := h
  exact ⟨h0, ⟨h1, h2, kC.same (s := U) (U := U.calling g mk a) rfl h3, kSt.moved (u := U) (U := U.calling g mk a) (Vm.Alike.refl U.vm) h4, h5⟩, kOv.moved (u := U) (U := U.calling g mk a) (Vm.Alike.refl U.vm) h6⟩
abbrev kQc {S : Type} (D : kD) (h : Nat) (e0 : va_E) (w1 : S → va_W) (sz : Nat) := va_Qv (fun (_ : S) => True) (fun (u : S) (t : State) => va_P D.1 vwCl (w1 u) t.heap ∧ va_D (va_A [(h, e0)] sz) (w1 u)) (va_A [(h, e0)] sz)
/-- a maker's contract: behind it its object is filled, at the head of a world of new cells -/
def kMc {S : Type} (l : Launch) (D : kD) (o : Option String) (y : MethodName) (bytes : ByteArray) (maxL : Nat) (rm : Room) (h : Nat) (e0 : va_E) (w1 : S → va_W) : Prop := ∀ sz : Nat, Met l y (kWs y bytes maxL none) rm (va_Pc [.ref h] (kBc D o [(h, e0)] sz)) (kQc D h e0 w1 sz) rm.cells rm.slots (va_A [(h, e0)] sz)
theorem kMc_of {S : Type} {l : Launch} {D : kD} {o : Option String} {own : String} {y : MethodName} {bytes : ByteArray} {maxL : Nat} {rm : Room} {h : Nat} {e0 : va_E} {w1 : S → va_W} (hy : plainFor y = true) (hown : y.cls = own) (hnm : y.name = "<init>") (hlen : Nat.ble (lg_sl [Value.ref h]).length maxL = true)
    (body : ∀ (p : Program) (e : Env) (s : State) (m : MethodId) (args : Array Value) (below : List Frame) (meth : Method) (c : Code) (ls : Array Slot), kX p m meth c s args D (va_A [(h, e0)] s.heap.size) bytes own maxL none → meth.name = "<init>" → kOv o s → kV D (va_A [(h, e0)] s.heap.size) s [(h, e0)] s.heap [] → lv_has ls maxL [(0, .ref h)] → W p l e rm s m args below meth c s.heap [] 0 0 (MQ below (kQc D h e0 w1 s.heap.size) args s rm.cells rm.slots (va_A [(h, e0)] s.heap.size)) (F0 m 0 ls [])) : kMc l D o y bytes maxL rm h e0 w1 := by
  intro sz
  refine va_MetF (cc := bytes) (maxL := maxL) (ret := none) hy rfl ?_
  intro p e s m args below meth c s₁ B hml hv
  obtain ⟨rfl, ⟨hsz, hP, hC, hZ, hD0⟩, hO⟩ := hv
  have hts := atoms_spec (ws := kWs y bytes maxL none) B.pre
  subst hsz
  have X : kX p m meth c s [Value.ref h].toArray D (va_A [(h, e0)] s.heap.size) bytes own maxL none := ⟨B.exec, B.bytes, hml, by rw [← hown]; exact findClass_of_methodNamed B.named, fun w hw => hts w (List.mem_cons_of_mem _ hw), hC, hZ, fun q h => Or.inr h, B.returns, B.notSynchronized⟩
  have hl := lv_entry [Value.ref h] (n := maxL) (Nat.le_of_ble_eq_true hlen)
  rw [lg_entry_eq]
  exact body p e s m [Value.ref h].toArray below meth c _ X ((name_of_methodNamed B.named B.method).1.trans hnm) hO ⟨hP, hD0.self, va_S.rf⟩ hl
theorem k_aftM {D : kD} {A : Nat → Prop} {s : State} {ws : va_W} {H H1 : Heap} {locs locs1 : List Loc} {i b : Nat} {e0 e1 : va_E} {new : va_W} (hV : kV D A s ws H locs) (hA : ∀ q, s.heap.size ≤ q → A q) (hi : ws[i]? = some (b, e0)) (hk : ∀ q : Nat, q < H.size → ¬ va_A [(b, e0)] H.size q → H1[q]? = H[q]?) (hP1 : va_P D.1 vwCl ((b, e1) :: new) H1) (hD1 : va_D (va_A [(b, e0)] H.size) ((b, e1) :: new)) (hS1 : va_S A s.heap H1 locs1) : kV D A s (ws.set i (b, e1) ++ new) H1 locs1 := by
  have hil : i < ws.length := (List.getElem?_eq_some_iff.mp hi).1
  have newHi : ∀ (k : Nat) (q : Nat × va_E), new[k]? = some q → H.size ≤ q.1 := by
    intro k q hq
    rcases hD1.2 (k + 1) q hq with ⟨j, e, hj⟩ | h
    · have hj0 : j = 0 := by
        have := (List.getElem?_eq_some_iff.mp hj).1
        simpa using this
      subst hj0
      have eb : b = q.1 := congrArg Prod.fst (Option.some.inj hj)
      have := hD1.1 0 (k + 1) (b, e1) q rfl hq eb
      omega
    · exact h
  have inSet : ∀ (k : Nat) (q : Nat × va_E), (ws.set i (b, e1))[k]? = some q → (k = i ∧ q = (b, e1)) ∨ (k ≠ i ∧ ws[k]? = some q) := by
    intro k q hq
    by_cases e : k = i
    · subst e
      rw [List.getElem?_set_self hil] at hq
      exact Or.inl ⟨rfl, (Option.some.inj hq).symm⟩
    · rw [k_set_ne e] at hq
      exact Or.inr ⟨e, hq⟩
  have adr : ∀ (k : Nat) (q : Nat × va_E), (ws.set i (b, e1))[k]? = some q → ∃ q0, ws[k]? = some q0 ∧ q0.1 = q.1 := by
    intro k q hq
    rcases inSet k q hq with ⟨rfl, rfl⟩ | ⟨-, h⟩
    · exact ⟨_, hi, rfl⟩
    · exact ⟨q, h, rfl⟩
  have split : ∀ (k : Nat) (q : Nat × va_E), (ws.set i (b, e1) ++ new)[k]? = some q → (k < ws.length ∧ (ws.set i (b, e1))[k]? = some q) ∨ (ws.length ≤ k ∧ new[k - ws.length]? = some q) := by
    intro k q hq
    rcases Nat.lt_or_ge k ws.length with h | h
    · rw [List.getElem?_append_left (by rw [List.length_set]; exact h)] at hq
      exact Or.inl ⟨h, hq⟩
    · rw [List.getElem?_append_right (by rw [List.length_set]; exact h), List.length_set] at hq
      exact Or.inr ⟨h, hq⟩
  refine ⟨fun k q hq => ?_, ⟨fun k j p q hp hq hpq => ?_, fun k q hq => ?_⟩, hS1⟩
  · rcases split k q hq with ⟨-, h⟩ | ⟨-, h⟩
    · rcases inSet k q h with ⟨-, rfl⟩ | ⟨hne, h⟩
      · exact hP1 0 _ rfl
      · refine (hV.1 k q h).kept (hk q.1 (hV.1 k q h).lt ?_)
        rintro (⟨j, e, hj⟩ | h2)
        · have hj0 : j = 0 := by
            have := (List.getElem?_eq_some_iff.mp hj).1
            simpa using this
          subst hj0
          have eb : b = q.1 := congrArg Prod.fst (Option.some.inj hj)
          exact hne (hV.2.1.1 k i q (b, e0) h hi eb.symm)
        · have := (hV.1 k q h).lt
          omega
    · exact hP1 (_ + 1) q h
  · rcases split k p hp with ⟨h1, h2⟩ | ⟨h1, h2⟩ <;> rcases split j q hq with ⟨h3, h4⟩ | ⟨h3, h4⟩
    · obtain ⟨p0, a1, a2⟩ := adr k p h2
      obtain ⟨q0, b1, b2⟩ := adr j q h4
      exact hV.2.1.1 k j p0 q0 a1 b1 (a2.trans (hpq.trans b2.symm))
    · exfalso
      obtain ⟨p0, a1, a2⟩ := adr k p h2
      have g1 := (hV.1 k p0 a1).lt
      have g2 := newHi _ q h4
      omega
    · exfalso
      obtain ⟨q0, a1, a2⟩ := adr j q h4
      have g1 := (hV.1 j q0 a1).lt
      have g2 := newHi _ p h2
      omega
    · have := hD1.1 (k - ws.length + 1) (j - ws.length + 1) p q h2 h4 hpq
      omega
  · rcases split k q hq with ⟨-, h⟩ | ⟨-, h⟩
    · obtain ⟨p0, a1, a2⟩ := adr k q h
      rw [← a2]
      exact hV.2.1.2 k p0 a1
    · exact hA _ (Nat.le_trans hV.2.2.1 (newHi _ q h))
def kFc (y : MethodName) (bytes : ByteArray) (maxL : Nat) : Prop := kF y bytes maxL none 0 ∧ (.instanceMethod y : Cond) ∈ GW ∧ y.name = "<init>"
def kRc (R rm : Room) (maxL cells slots : Nat) : Bool := Nat.ble (rm.frames + 1) R.frames && (Nat.ble (8 + (maxL + 11) + rm.locals) R.locals && (Nat.ble (cells + rm.cells) R.cells && Nat.ble (slots + rm.slots) R.slots))
theorem kRc_spec {R rm : Room} {maxL cells slots : Nat} (h : kRc R rm maxL cells slots = true) : rm.frames + 1 ≤ R.frames ∧ 8 + (maxL + 11) + rm.locals ≤ R.locals ∧ cells + rm.cells ≤ R.cells ∧ slots + rm.slots ≤ R.slots := by
  unfold kRc at h
  simp only [Bool.and_eq_true] at h
  exact ⟨Nat.le_of_ble_eq_true h.1, Nat.le_of_ble_eq_true h.2.1, Nat.le_of_ble_eq_true h.2.2.1, Nat.le_of_ble_eq_true h.2.2.2⟩
section KM
variable {p : Program} {l : Launch} {e : Env} {R : Room} {s : State} {m : MethodId} {args : Array Value} {below : List Frame} {meth : Method} {c : Code} {H : Heap} {locs : List Loc} {cells slots : Nat} {Q : State → Prop}
variable {D : kD} {A : Nat → Prop} {cc : ByteArray} {own : String} {nL : Nat} {ret : Option FieldType} {pc : Nat} {ls : Array Slot} {rest : List Value} {ws ws' : va_W} {a : Nat}
theorem k_preC (X : kX p m meth c s args D A cc own nL ret) (hV : kV D A s ws H locs) {o : Option String} (hO : kOv o s) (isC : List Nat) {wc : va_W} (hn : va_nd isC = true) (hwc : isC.map (fun i => ws[i]?) = wc.map some) (av : List Value) : PreS s H (va_Pc av (kBc D o wc H.size)) av := by
  have h := k_pre X hV isC hn hwc av
  exact ⟨kBc.blind, fun U hU hW => ⟨(h.2 U hU hW).1, (h.2 U hU hW).2, kOv.moved hW.alike hO⟩⟩
theorem k_ci {S : Type} (X : kX p m meth c s args D A cc own nL ret) (hV : kV D A s ws H locs) (hls : ls.size = nL) {o : Option String} (hO : kOv o s) {y : MethodName} {bytes : ByteArray} {maxL index b : Nat} {rm : Room} {e0 : va_E} {e1 : S → va_E} {new : S → va_W} (hM : kMc l D o y bytes maxL rm b e0 (fun u => (b, e1 u) :: new u)) (F : kFc y bytes maxL) (hl : (.methodLink own index y : Cond) ∈ GW) (hR : kRc R rm maxL cells slots = true) (i : Nat) (hi : ws[i]? = some (b, e0)) (hcat : Nat.ble (rest.map fun v => v.category).sum 8 = true) (hdg : decode cc pc = .ok (.invokespecial index, 3))
    (kk : ∀ (u : S) (H1 : Heap) (locs1 : List Loc), kV D A s (ws.set i (b, e1 u) ++ new u) H1 locs1 → W p l e R s m args below meth c H1 locs1 (cells + rm.cells) (slots + rm.slots) Q (F0 m (pc + 3) ls rest)) : W p l e R s m args below meth c H locs cells slots Q (F0 m pc ls (.ref b :: rest)) := by
  have hwc : [i].map (fun i => ws[i]?) = [(b, e0)].map some := by simp [hi]
  have hn : va_nd [i] = true := by simp [va_nd]
  have hRs := kRc_spec hR
  refine va_callv (va_runI (As := []) (k_fix X) (hM H.size) ⟨callB_of 0 X.2.2.2.2.1 (k_good F.1.1) rfl rfl rfl (X.2.2.2.2.1 _ F.1.2.1) (X.2.2.2.2.1 _ hl) F.1.2.2 ⟨hRs.1, hRs.2.1⟩, F.2.2, X.2.2.2.2.1 _ F.2.1⟩ (k_preC X hV hO [i] hn hwc [.ref b]) rfl rfl hls rfl (lv_room (Nat.le_of_ble_eq_true hcat)) hdg ⟨hRs.2.2.1, hRs.2.2.2⟩) hV.2.2 (fun q _ h => k_free X hV [i] hwc q h) (k_free X hV [i] hwc) (fun u t H1 locs1 ht hvm hw hB hz1 hk1 hS => ?_)
  exact kk u H1 locs1 (k_aftM hV X.2.2.2.2.2.2.2.1 hi hk1 (by rw [← ht]; exact hB.1) hB.2 hS)
theorem k_cin {S : Type} (X : kX p m meth c s args D A cc own nL ret) (hV : kV D A s ws H locs) (hls : ls.size = nL) {o : Option String} (hO : kOv o s) {y : MethodName} {bytes : ByteArray} {maxL index b : Nat} {rm : Room} {e0 : va_E} {e1 : S → va_E} {new : S → va_W} (hM : kMc l D o y bytes maxL rm b e0 (fun u => (b, e1 u) :: new u)) (F : kFc y bytes maxL) {host : String} (hl : (own, index, y, host) ∈ NWl) (hR : kRc R rm maxL cells slots = true) (i : Nat) (hi : ws[i]? = some (b, e0)) (hcat : Nat.ble (rest.map fun v => v.category).sum 8 = true) (hdg : decode cc pc = .ok (.invokespecial index, 3))
    (kk : ∀ (u : S) (H1 : Heap) (locs1 : List Loc), kV D A s (ws.set i (b, e1 u) ++ new u) H1 locs1 → W p l e R s m args below meth c H1 locs1 (cells + rm.cells) (slots + rm.slots) Q (F0 m (pc + 3) ls rest)) : W p l e R s m args below meth c H locs cells slots Q (F0 m pc ls (.ref b :: rest)) := by
  have hwc : [i].map (fun i => ws[i]?) = [(b, e0)].map some := by simp [hi]
  have hn : va_nd [i] = true := by simp [va_nd]
  have hRs := kRc_spec hR
  refine va_callv (va_runIN (As := []) (k_fix X) (hM H.size) ⟨va_cnB 0 X.2.2.2.2.1 (k_good F.1.1) rfl rfl rfl (X.2.2.2.2.2.1.2.1 _ hl) (X.2.2.2.2.1 _ F.1.2.1) F.1.2.2 ⟨hRs.1, hRs.2.1⟩, F.2.2, X.2.2.2.2.1 _ F.2.1⟩ (k_preC X hV hO [i] hn hwc [.ref b]) rfl rfl hls rfl (lv_room (Nat.le_of_ble_eq_true hcat)) hdg ⟨hRs.2.2.1, hRs.2.2.2⟩) hV.2.2 (fun q _ h => k_free X hV [i] hwc q h) (k_free X hV [i] hwc) (fun u t H1 locs1 ht hvm hw hB hz1 hk1 hS => ?_)
  exact kk u H1 locs1 (k_aftM hV X.2.2.2.2.2.2.2.1 hi hk1 (by rw [← ht]; exact hB.1) hB.2 hS)
theorem k_newI (X : kX p m meth c s args D A cc own nL ret) (hV : kV D A s ws H locs) {n : Int32} {N : Nat} (hn : ¬ n < 0) (hN : n.toNatClampNeg = N) (hb : Nat.ble N 10000 = true) (hR1 : Nat.ble (cells + 1) R.cells = true) (hR2 : Nat.ble (slots + N) R.slots = true) (hdg : decode cc pc = .ok (.newarray .int, 2))
    (kk : ∀ (q : Nat) (H1 : Heap), kV D A s (ws ++ [(q, .inl (kI D, N, .inl (fun _ => 0)))]) H1 locs → W p l e R s m args below meth c H1 locs (cells + 1) (slots + N) Q (F0 m (pc + 2) ls (.ref q :: rest))) : W p l e R s m args below meth c H locs cells slots Q (F0 m pc ls (.int n :: rest)) := by
  refine va_newa (atype := .int) (ty := .int) (a0 := (N, .inl (fun _ => 0))) X.1 X.2.1 (X.2.2.2.2.1 _ gw_71) rfl X.2.2.2.2.2.1.1 hV.1 hV.2.1 hV.2.2 X.2.2.2.2.2.2.2.1 (fun _ => rfl) hn hN (by have := Nat.le_of_ble_eq_true hb; show N * 4 ≤ 536870912; omega) (Nat.le_of_ble_eq_true hR1) (Nat.le_of_ble_eq_true hR2) hdg (fun q cA H1 hK hP hD hS => ?_)
  have h1 : va_RA s cA .int := (hK.2 4 (cA, .int) rfl).2
  have h2 : va_RA s (kI D) .int := (X.2.2.2.2.2.1.1.2 0 (kI D, .int) rfl).2
  have e : cA = kI D := Option.some.inj (Eq.trans (Eq.symm h1) h2)
  subst e
  exact kk q H1 ⟨hP, hD, hS⟩
theorem k_newJ (X : kX p m meth c s args D A cc own nL ret) (hV : kV D A s ws H locs) {n : Int32} {N : Nat} (hn : ¬ n < 0) (hN : n.toNatClampNeg = N) (hb : Nat.ble N 10000 = true) (hR1 : Nat.ble (cells + 1) R.cells = true) (hR2 : Nat.ble (slots + N) R.slots = true) (hdg : decode cc pc = .ok (.newarray .long, 2))
    (kk : ∀ (q : Nat) (H1 : Heap), kV D A s (ws ++ [(q, .inl (kJ D, N, .inr (.inl (fun _ => 0))))]) H1 locs → W p l e R s m args below meth c H1 locs (cells + 1) (slots + N) Q (F0 m (pc + 2) ls (.ref q :: rest))) : W p l e R s m args below meth c H locs cells slots Q (F0 m pc ls (.int n :: rest)) := by
  refine va_newa (atype := .long) (ty := .long) (a0 := (N, .inr (.inl (fun _ => 0)))) X.1 X.2.1 (X.2.2.2.2.1 _ gw_189) rfl X.2.2.2.2.2.1.1 hV.1 hV.2.1 hV.2.2 X.2.2.2.2.2.2.2.1 (fun _ => rfl) hn hN (by have := Nat.le_of_ble_eq_true hb; show N * 8 ≤ 536870912; omega) (Nat.le_of_ble_eq_true hR1) (Nat.le_of_ble_eq_true hR2) hdg (fun q cA H1 hK hP hD hS => ?_)
  have h1 : va_RA s cA .long := (hK.2 4 (cA, .long) rfl).2
  have h2 : va_RA s (kJ D) .long := (X.2.2.2.2.2.1.1.2 1 (kJ D, .long) rfl).2
  have e : cA = kJ D := Option.some.inj (Eq.trans (Eq.symm h1) h2)
  subst e
  exact kk q H1 ⟨hP, hD, hS⟩
theorem k_newQ (X : kX p m meth c s args D A cc own nL ret) (hV : kV D A s ws H locs) {C : String} {cT : ClassId} (t0 : Nat) (ht : (kTY D)[t0]? = some (cT, .object C)) (hO : va_AO C s) {n : Int32} {N index : Nat} (hn : ¬ n < 0) (hN : n.toNatClampNeg = N) (hb : Nat.ble N 10000 = true) (hR1 : Nat.ble (cells + 1) R.cells = true) (hR2 : Nat.ble (slots + N) R.slots = true) (hcl : (.classLink own index C : Cond) ∈ GW) (hdg : decode cc pc = .ok (.anewarray index, 3))
    (kk : ∀ (q : Nat) (H1 : Heap), kV D A s (ws ++ [(q, .inl (cT, N, .inr (.inr (.inr (.inr (fun _ => none))))))]) H1 locs → W p l e R s m args below meth c H1 locs (cells + 1) (slots + N) Q (F0 m (pc + 3) ls (.ref q :: rest))) : W p l e R s m args below meth c H locs cells slots Q (F0 m pc ls (.int n :: rest)) := by
  refine va_newq X.1 X.2.1 X.2.2.2.1 (X.2.2.2.2.1 _ hcl) hO X.2.2.2.2.2.1.1 hV.1 hV.2.1 hV.2.2 X.2.2.2.2.2.2.2.1 hn hN (by have := Nat.le_of_ble_eq_true hb; omega) (Nat.le_of_ble_eq_true hR1) (Nat.le_of_ble_eq_true hR2) hdg (fun q cA H1 hK hP hD hS => ?_)
  have h1 : va_RA s cA (.object C) := (hK.2 4 (cA, .object C) rfl).2
  have h2 : va_RA s cT (.object C) := (X.2.2.2.2.2.1.1.2 t0 (cT, .object C) ht).2
  obtain ⟨-, -, -, -, -, a4⟩ := h1
  obtain ⟨-, -, -, -, -, b4⟩ := h2
  have e : cA = cT := Option.some.inj (a4.symm.trans b4)
  subst e
  exact kk q H1 ⟨hP, hD, hS⟩
theorem k_newC (X : kX p m meth c s args D A cc own nL ret) (hV : kV D A s ws H locs) {C : String} {T : u_T} {N index : Nat} {fs : List Value} (hin : ∀ w ∈ u_ws C T N, w ∈ GW) (ty : Nat → FieldType) (hty : ∀ k, k < N → parseFieldDescriptor (T k).2.2.1 = some (ty k)) (hcl : (.classLink own index C : Cond) ∈ GW) (hinst : (.instantiable C N : Cond) ∈ GW) (hini : (.initialized C : Cond) ∈ GW) (ci : Nat) (hc : vwCl[ci]? = some (C, T, N)) (hfs : ∀ j, j < N → defaultValue (ty j) = vp_V fs j) (hR1 : Nat.ble (cells + 1) R.cells = true) (hR2 : Nat.ble (slots + N) R.slots = true) (hdg : decode cc pc = .ok (.new index, 3))
    (kk : ∀ (q : Nat) (H1 : Heap), kV D A s (ws ++ [(q, .inr (ci, fs))]) H1 locs → W p l e R s m args below meth c H1 locs (cells + 1) (slots + N) Q (F0 m (pc + 3) ls (.ref q :: rest))) : W p l e R s m args below meth c H locs cells slots Q (F0 m pc ls rest) :=
  va_new (Ts := GW) X.1 X.2.1 X.2.2.2.2.1 hin ty hty X.2.2.2.1 (X.2.2.2.2.1 _ hcl) (X.2.2.2.2.1 _ hinst) (X.2.2.2.2.1 _ hini) X.2.2.2.2.2.1.1 hV.1 hV.2.1 hV.2.2 X.2.2.2.2.2.2.2.1 hc hfs (Nat.le_of_ble_eq_true hR1) (Nat.le_of_ble_eq_true hR2) hdg (fun q H1 hP hD hS => kk q H1 ⟨hP, hD, hS⟩)
theorem k_putF (X : kX p m meth c s args D A cc own nL ret) (hV : kV D A s ws H locs) (hin2 : meth.name = "<init>") (q0 ci k : Nat) {fs : List Value} {C ref : String} {T : u_T} {N index : Nat} {v : Value} {ty : FieldType} (he : ws[q0]? = some (a, .inr (ci, fs))) (hc : vwCl[ci]? = some (C, T, N)) (hk : Nat.blt k N = true) (hlink : (.fieldLink own index ref (T k).2.1 (T k).2.2.1 : Cond) ∈ GW) (href : (T k).1 = ref) (hfin : (T k).2.2.2 = true) (hdecl : (T k).1 = own) (hd : parseFieldDescriptor (T k).2.2.1 = some ty) (hnw : narrow ty v = v) (hfit : fits ty v = true) (hl : Nat.blt k fs.length = true) (hws : ws.set q0 (a, .inr (ci, fs.set k v)) = ws') (hdg : decode cc pc = .ok (.putfield index, 3))
    (kk : ∀ (H1 : Heap) (locs1 : List Loc), kV D A s ws' H1 locs1 → W p l e R s m args below meth c H1 locs1 cells slots Q (F0 m (pc + 3) ls rest)) : W p l e R s m args below meth c H locs cells slots Q (F0 m pc ls (v :: .ref a :: rest)) := by
  obtain ⟨h1, ⟨ty0, h2⟩, h3⟩ := kcl hc
  subst hws
  exact va_putF X.1 X.2.1 X.2.2.2.2.1 h1 ty0 h2 h3 X.2.2.2.1 X.2.2.2.2.2.1.1 hV.1 hV.2.1 hV.2.2 q0 he hc k (Nat.le_of_ble_eq_true hk) (X.2.2.2.2.1 _ hlink) (fun x h => by rw [← href]; exact h) hfin hin2 hdecl hd hnw hfit (Nat.le_of_ble_eq_true hl) hdg (fun H1 locs1 a1 a2 a3 => kk H1 locs1 ⟨a1, a2, a3⟩)
theorem k_oinit (X : kX p m meth c s args D A cc own nL ret) (hls : ls.size = nL) {index : Nat} (hl : (.methodLink own index y_Ob_init : Cond) ∈ GW) (hf : Nat.ble 1 R.frames = true) (hlo : Nat.ble 12 R.locals = true) (hdg : decode cc pc = .ok (.invokespecial index, 3))
    (kk : W p l e R s m args below meth c H locs cells slots Q (F0 m (pc + 3) ls [])) : W p l e R s m args below meth c H locs cells slots Q (F0 m pc ls [.ref a]) :=
  W.objInit X.1 X.2.1 X.2.2.2.1 (X.2.2.2.2.1 _ hl) (X.2.2.2.2.1 _ gw_25) (X.2.2.2.2.1 _ gw_26) rfl (by rw [X.2.2.1]; exact hls) rfl hdg (Nat.le_of_ble_eq_true hf) (Nat.le_trans (Nat.le_of_ble_eq_true rfl) (Nat.le_of_ble_eq_true hlo)) kk
/-- a reference to one of ours is stored into an array of its class -/
theorem k_astq (X : kX p m meth c s args D A cc own nL ret) (hV : kV D A s ws H locs) (q0 t0 qk ci : Nat) {cA : ClassId} {r : vw_C} {n v : Nat} {vs : List Value} {f : Nat → Option Nat} (ha : ws[q0]? = some (a, .inl (cA, n, .inr (.inr (.inr (.inr f)))))) (ht : (kTY D)[t0]? = some (cA, .object r.1)) (hv : ws[qk]? = some (v, .inr (ci, vs))) (hc : vwCl[ci]? = some r) {i : Int32} (hin : vp_in i n) (hws : ws.set q0 (a, .inl (cA, n, .inr (.inr (.inr (.inr (va_up f i.toNatClampNeg (some v))))))) = ws') (hdg : decode cc pc = .ok (.aastore, 1))
    (kk : ∀ (H1 : Heap) (locs1 : List Loc), kV D A s ws' H1 locs1 → W p l e R s m args below meth c H1 locs1 cells slots Q (F0 m (pc + 1) ls rest)) : W p l e R s m args below meth c H locs cells slots Q (F0 m pc ls (.ref v :: .int i :: .ref a :: rest)) := by
  subst hws
  exact va_astq X.1 X.2.1 X.2.2.2.2.2.1.1 hV.1 hV.2.1 hV.2.2 q0 t0 qk ci ha ht hv hc hin hdg (fun H1 locs1 a1 a2 a3 => kk H1 locs1 ⟨a1, a2, a3⟩)
/-- one of the text constants is stored -/
theorem k_asts (X : kX p m meth c s args D A cc own nL ret) (hV : kV D A s ws H locs) (q0 w : Nat) (hw : Nat.blt w nStr = true) {n : Nat} {f : Nat → Option Nat} (ha : ws[q0]? = some (a, .inl (kU D, n, .inr (.inr (.inr (.inr f)))))) {i : Int32} (hin : vp_in i n) (hws : ws.set q0 (a, .inl (kU D, n, .inr (.inr (.inr (.inr (va_up f i.toNatClampNeg (some (kAK D w)))))))) = ws') (hdg : decode cc pc = .ok (.aastore, 1))
    (kk : ∀ (H1 : Heap) (locs1 : List Loc), kV D A s ws' H1 locs1 → W p l e R s m args below meth c H1 locs1 cells slots Q (F0 m (pc + 1) ls rest)) : W p l e R s m args below meth c H locs cells slots Q (F0 m pc ls (.ref (kAK D w) :: .int i :: .ref a :: rest)) := by
  subst hws
  have hr : ∃ cellV : Cell, H[kAK D w]? = some cellV ∧ cellV.vm.isStatics = false ∧ s.vm.findClass "java/lang/String" = some cellV.cls := by
    obtain ⟨cell, h1, h2, h3, -⟩ := ((X.2.2.2.2.2.2.1.kept hV.2.2.2.1).2.2.2.2 w (Nat.le_of_ble_eq_true hw)).1
    exact ⟨cell, h1, h2, h3⟩
  exact vb_astq (E := "java/lang/String") (C := "java/lang/String") X.1 X.2.1 X.2.2.2.2.2.1.1 hV.1 hV.2.1 hV.2.2 q0 3 ha rfl hr (fun comp c0 h1 h2 => vb_asgS comp c0 h1 h2) hin hdg (fun H1 locs1 a1 a2 a3 => kk H1 locs1 ⟨a1, a2, a3⟩)
theorem k_cret {S : Type} {h : Nat} {e0 : va_E} {w1 : S → va_W} (X : kX p m meth c s args D (va_A [(h, e0)] s.heap.size) cc own nL none) (u : S) (hV : kV D (va_A [(h, e0)] s.heap.size) s (w1 u) H locs) (hdg : decode cc pc = .ok (.return_, 1)) : W p l e R s m args below meth c H locs cells slots (MQ below (kQc D h e0 w1 s.heap.size) args s cells slots (va_A [(h, e0)] s.heap.size)) (F0 m pc ls []) :=
  W.vret X.1 X.2.1 X.2.2.2.2.2.2.2.2.1 (fun t ht hW => ⟨⟨u, rfl, trivial, by rw [ht]; exact hV.1, hV.2.1⟩, hV.2.2.F ht⟩) hV.2.2.2.2 hdg X.2.2.2.2.2.2.2.2.2
/-- an array's contents count within its bounds alone -/
theorem k_sameI (hV : kV D A s ws H locs) (q0 : Nat) {cA : ClassId} {n : Nat} {f g : Nat → Int32} (ha : ws[q0]? = some (a, .inl (cA, n, .inl f))) (hfg : ∀ j, j < n → f j = g j) : kV D A s (ws.set q0 (a, .inl (cA, n, .inl g))) H locs := by
  refine ⟨hV.1.set hV.2.1 ha ?_ (fun _ _ => rfl), hV.2.1.set ha, hV.2.2⟩
  have h := hV.1 q0 _ ha
  show H[a]? = some (vp_cell cA (n, .inl g))
  have h : H[a]? = some (vp_cell cA (n, .inl f)) := h
  rw [h, vp_cell_i, vp_cell_i]
  unfold arrV
  have e : (Array.ofFn (n := n) fun j => (fun j => Value.int (f j)) j.val) = Array.ofFn (n := n) fun j => (fun j => Value.int (g j)) j.val := congrArg Array.ofFn (funext fun j => congrArg Value.int (hfg j.val j.isLt))
  rw [e]
theorem k_sameQ (hV : kV D A s ws H locs) (q0 : Nat) {cA : ClassId} {n : Nat} {f g : Nat → Option Nat} (ha : ws[q0]? = some (a, .inl (cA, n, .inr (.inr (.inr (.inr f)))))) (hfg : ∀ j, j < n → f j = g j) : kV D A s (ws.set q0 (a, .inl (cA, n, .inr (.inr (.inr (.inr g)))))) H locs := by
  refine ⟨hV.1.set hV.2.1 ha ?_ (fun _ _ => rfl), hV.2.1.set ha, hV.2.2⟩
  have h := hV.1 q0 _ ha
  show H[a]? = some (vp_cell cA (n, .inr (.inr (.inr (.inr g)))))
  have h : H[a]? = some (vp_cell cA (n, .inr (.inr (.inr (.inr f))))) := h
  rw [h, vp_cell_q, vp_cell_q]
  unfold arrV
  have e : (Array.ofFn (n := n) fun j => (fun j => va_rf (f j)) j.val) = Array.ofFn (n := n) fun j => (fun j => va_rf (g j)) j.val := congrArg Array.ofFn (funext fun j => congrArg va_rf (hfg j.val j.isLt))
  rw [e]
end KM
