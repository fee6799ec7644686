def v_X2_segmentOf (p0 : Int32) : Int32 := (p0 / 8)
theorem v_X2_segmentOf_e (p0 : Int32) : v_X2_segmentOf p0 = (p0 / 8) := rfl
set_option maxHeartbeats 1000000 in
set_option maxRecDepth 100000 in
theorem c_X2_segmentOf (l : Launch) (dC : Nat → ClassId) (dI : Nat → Nat → Nat) (cI : ClassId) (sz : Nat) (p0 : Int32) : Met l yX2_segmentOf wsX2_segmentOf ({ frames := 0, cells := 0, slots := 0, locals := 0 }) (va_Pc [.int p0] (pW (dC, dI) [(cI, .int)] (eW) sz)) (va_Qi (fun (r : Int32) (u : Unit) => r = v_X2_segmentOf p0) (qW (dC, dI) (va_A (eW) sz) (fun _ => eW)) (va_A (eW) sz)) 0 0 (va_A (eW) sz) := by
  refine Met.ofW (cc := cX2_segmentOf) (maxL := 1) (ret := (some .int)) (by decide) rfl ?_
  intro p e s m args below meth c s₁ B hml hv
  obtain ⟨rfl, hsz, hP, hK, hD0⟩ := hv
  have hx := B.exec
  have hb := B.bytes
  have hr := B.returns
  have hts := atoms_spec (ws := wsX2_segmentOf) B.pre
  have hown : s.vm.findClass RX2 = some m.cls := findClass_of_methodNamed B.named
  have hlocks := B.notSynchronized
  subst hsz
  have hD := hD0.self (sz := s.heap.size)
  generalize hAe : va_A (eW) s.heap.size = A at hD ⊢
  have hA : ∀ q : Nat, s.heap.size ≤ q → A q := fun q h => by rw [← hAe]; exact Or.inr h
  have hl := lv_entry ([.int p0]) (n := 1) (Nat.le_of_ble_eq_true rfl)
  rw [lg_entry_eq]
  generalize (lg_sl ([.int p0]) ++ List.replicate (1 - (lg_sl ([.int p0])).length) Slot.unset).toArray = ls at hl ⊢
  have hl : lv_has ls 1 [(0, .int p0)] := hl
  generalize hHe : s.heap = H at hP ⊢
  generalize hLe : ([] : List Loc) = locs
  have hS : va_S A s.heap H locs := by
    rw [← hLe, ← hHe]
    exact va_S.rf
  have hV := v_X2_segmentOf_e p0
  refine lv_iload_n hx hb dX2_segmentOf_0 rfl (lv_at hl 0 rfl) ?_
  refine lv_bipush (v := 8) hx hb dX2_segmentOf_1 (by decide) ?_
  refine lv_idiv hx hb dX2_segmentOf_3 (by decide) ?_
  exact rI (w := fun _ => eW) (()) hx hb hr hlocks hP hD hS (Nat.le_of_ble_eq_true rfl) (Nat.le_of_ble_eq_true rfl) dX2_segmentOf_4 (by rw [hV] <;> rfl)
def x_X2_needKey (p0 : Int32) : Nat := if p0 < 0 then 1 else if p0 < 64 then 0 else 1
theorem x_X2_needKey_e (p0 : Int32) : x_X2_needKey p0 = if p0 < 0 then 1 else if p0 < 64 then 0 else 1 := rfl
set_option maxHeartbeats 1000000 in
set_option maxRecDepth 100000 in
theorem c_X2_needKey (l : Launch) (dC : Nat → ClassId) (dI : Nat → Nat → Nat) (cI : ClassId) (sz : Nat) (p0 : Int32) (hX : x_X2_needKey p0 = 0) : Met l yX2_needKey wsX2_needKey ({ frames := 6, cells := 0, slots := 0, locals := 82 }) (va_Pc [.int p0] (pW (dC, dI) [(cI, .int)] (eW) sz)) (va_Qv (fun (u : Unit) => True) (qW (dC, dI) (va_A (eW) sz) (fun _ => eW)) (va_A (eW) sz)) 0 0 (va_A (eW) sz) := by
  refine Met.ofW (cc := cX2_needKey) (maxL := 1) (ret := none) (by decide) rfl ?_
  intro p e s m args below meth c s₁ B hml hv
  obtain ⟨rfl, hsz, hP, hK, hD0⟩ := hv
  have hx := B.exec
  have hb := B.bytes
  have hr := B.returns
  have hts := atoms_spec (ws := wsX2_needKey) B.pre
  have hown : s.vm.findClass RX2 = some m.cls := findClass_of_methodNamed B.named
  have hlocks := B.notSynchronized
  subst hsz
  have hD := hD0.self (sz := s.heap.size)
  generalize hAe : va_A (eW) s.heap.size = A at hD ⊢
  have hA : ∀ q : Nat, s.heap.size ≤ q → A q := fun q h => by rw [← hAe]; exact Or.inr h
  have hl := lv_entry ([.int p0]) (n := 1) (Nat.le_of_ble_eq_true rfl)
  rw [lg_entry_eq]
  generalize (lg_sl ([.int p0]) ++ List.replicate (1 - (lg_sl ([.int p0])).length) Slot.unset).toArray = ls at hl ⊢
  have hl : lv_has ls 1 [(0, .int p0)] := hl
  generalize hHe : s.heap = H at hP ⊢
  generalize hLe : ([] : List Loc) = locs
  have hS : va_S A s.heap H locs := by
    rw [← hLe, ← hHe]
    exact va_S.rf
  rw [x_X2_needKey_e] at hX
  refine lv_iload_n hx hb dX2_needKey_0 rfl (lv_at hl 0 rfl) ?_
  refine lv_if_lt (tgt := 10) hx hb dX2_needKey_1 (by decide) (fun c_1 => ?_) (fun c_1 => ?_)
  · skip
    rw [if_pos c_1] at hX
    exact absurd hX (by decide)
  · skip
    rw [if_neg c_1] at hX
    refine lv_iload_n hx hb dX2_needKey_4 rfl (lv_at hl 0 rfl) ?_
    refine lv_bipush (v := 64) hx hb dX2_needKey_5 (by decide) ?_
    refine lv_icmp_lt (tgt := 20) hx hb dX2_needKey_7 (by decide) (fun c_7 => ?_) (fun c_7 => ?_)
    · skip
      rw [if_pos c_7] at hX
      exact rV (w := fun _ => eW) (()) hx hb hr hlocks hP hD hS (Nat.le_of_ble_eq_true rfl) (Nat.le_of_ble_eq_true rfl) dX2_needKey_20 trivial
    · skip
      rw [if_neg c_7] at hX
      exact absurd hX (by decide)
set_option maxHeartbeats 1000000 in
set_option maxRecDepth 100000 in
theorem b_X2_needKey (l : Launch) (hlt : l.stackTraces = false) (dC : Nat → ClassId) (dI : Nat → Nat → Nat) (cI : ClassId) (sz : Nat) (p0 : Int32) (hX : ¬ x_X2_needKey p0 = 0) : vx_Met l yX2_needKey wsX2_needKey ({ frames := 6, cells := 1, slots := 6, locals := 82 }) (va_Pc [.int p0] (pX (dC, dI) [(cI, .int)] (eW) sz)) bQ (xC (dC, dI) (va_A (eW) sz) (eW) (x_X2_needKey p0)) 1 6 (va_A (eW) sz) := by
  refine vx_ofW (cc := cX2_needKey) (maxL := 1) (ret := none) (by decide) rfl ?_
  intro p e s m args below meth c s₁ B hml ht hv
  obtain ⟨rfl, ⟨hsz, hP, hK, hD0⟩, hZ⟩ := hv
  have hx := B.exec
  have hb := B.bytes
  have hr := B.returns
  have hts := atoms_spec (ws := wsX2_needKey) B.pre
  have hown : s.vm.findClass RX2 = some m.cls := findClass_of_methodNamed B.named
  have hlocks := B.notSynchronized
  subst hsz
  have hD := hD0.self (sz := s.heap.size)
  generalize hAe : va_A (eW) s.heap.size = A at hD hZ ⊢
  have hA : ∀ q : Nat, s.heap.size ≤ q → A q := fun q h => by rw [← hAe]; exact Or.inr h
  have hl := lv_entry ([.int p0]) (n := 1) (Nat.le_of_ble_eq_true rfl)
  rw [lg_entry_eq]
  generalize (lg_sl ([.int p0]) ++ List.replicate (1 - (lg_sl ([.int p0])).length) Slot.unset).toArray = ls at hl ⊢
  have hl : lv_has ls 1 [(0, .int p0)] := hl
  generalize hHe : s.heap = H at hP ⊢
  generalize hLe : ([] : List Loc) = locs
  have hS : va_S A s.heap H locs := by
    rw [← hLe, ← hHe]
    exact va_S.rf
  have hE := x_X2_needKey_e p0
  refine lv_iload_n hx hb dX2_needKey_0 rfl (lv_at hl 0 rfl) ?_
  refine lv_if_lt (tgt := 10) hx hb dX2_needKey_1 (by decide) (fun c_1 => ?_) (fun c_1 => ?_)
  · skip
    rw [if_pos c_1] at hE
    exact rT (cls := "java/lang/IllegalArgumentException") (text := "a key is 0 to 63") (ik := 53) (is := 133) (ic := 57) hx hb hlt hown hts (by decide +kernel) (by decide +kernel) (by decide +kernel) (by decide +kernel) ats_b57 ats_g57 hZ (by decide +kernel) hS hD hP (by rw [hml]; exact hl.1) dX2_needKey_10 dX2_needKey_13 dX2_needKey_14 dX2_needKey_16 dX2_needKey_19 ht (Nat.le_of_ble_eq_true rfl) (Nat.le_of_ble_eq_true rfl) (Nat.le_of_ble_eq_true rfl) (Nat.le_of_ble_eq_true rfl) hlocks (by rw [hE]; exact Or.inl ⟨rfl, rfl⟩) (Nat.le_of_ble_eq_true rfl) (Nat.le_of_ble_eq_true rfl)
  · skip
    rw [if_neg c_1] at hE
    refine lv_iload_n hx hb dX2_needKey_4 rfl (lv_at hl 0 rfl) ?_
    refine lv_bipush (v := 64) hx hb dX2_needKey_5 (by decide) ?_
    refine lv_icmp_lt (tgt := 20) hx hb dX2_needKey_7 (by decide) (fun c_7 => ?_) (fun c_7 => ?_)
    · skip
      rw [if_pos c_7] at hE
      exact absurd hE hX
    · skip
      rw [if_neg c_7] at hE
      exact rT (cls := "java/lang/IllegalArgumentException") (text := "a key is 0 to 63") (ik := 53) (is := 133) (ic := 57) hx hb hlt hown hts (by decide +kernel) (by decide +kernel) (by decide +kernel) (by decide +kernel) ats_b57 ats_g57 hZ (by decide +kernel) hS hD hP (by rw [hml]; exact hl.1) dX2_needKey_10 dX2_needKey_13 dX2_needKey_14 dX2_needKey_16 dX2_needKey_19 ht (Nat.le_of_ble_eq_true rfl) (Nat.le_of_ble_eq_true rfl) (Nat.le_of_ble_eq_true rfl) (Nat.le_of_ble_eq_true rfl) hlocks (by rw [hE]; exact Or.inl ⟨rfl, rfl⟩) (Nat.le_of_ble_eq_true rfl) (Nat.le_of_ble_eq_true rfl)
def x_X2_needRange (p0 : Int32) (p1 : Int32) : Nat := if x_X2_needKey p0 = 0 then if x_X2_needKey p1 = 0 then if p0 ≤ p1 then 0 else 1 else x_X2_needKey p1 else x_X2_needKey p0
theorem x_X2_needRange_e (p0 : Int32) (p1 : Int32) : x_X2_needRange p0 p1 = if x_X2_needKey p0 = 0 then if x_X2_needKey p1 = 0 then if p0 ≤ p1 then 0 else 1 else x_X2_needKey p1 else x_X2_needKey p0 := rfl
set_option maxHeartbeats 1000000 in
set_option maxRecDepth 100000 in
theorem c_X2_needRange (l : Launch) (dC : Nat → ClassId) (dI : Nat → Nat → Nat) (cI : ClassId) (sz : Nat) (p0 : Int32) (p1 : Int32) (hX : x_X2_needRange p0 p1 = 0) : Met l yX2_needRange wsX2_needRange ({ frames := 7, cells := 0, slots := 0, locals := 102 }) (va_Pc [.int p0, .int p1] (pW (dC, dI) [(cI, .int)] (eW) sz)) (va_Qv (fun (u : Unit) => True) (qW (dC, dI) (va_A (eW) sz) (fun _ => eW)) (va_A (eW) sz)) 0 0 (va_A (eW) sz) := by
  refine Met.ofW (cc := cX2_needRange) (maxL := 2) (ret := none) (by decide) rfl ?_
  intro p e s m args below meth c s₁ B hml hv
  obtain ⟨rfl, hsz, hP, hK, hD0⟩ := hv
  have hx := B.exec
  have hb := B.bytes
  have hr := B.returns
  have hts := atoms_spec (ws := wsX2_needRange) B.pre
  have hown : s.vm.findClass RX2 = some m.cls := findClass_of_methodNamed B.named
  have hlocks := B.notSynchronized
  subst hsz
  have hD := hD0.self (sz := s.heap.size)
  generalize hAe : va_A (eW) s.heap.size = A at hD ⊢
  have hA : ∀ q : Nat, s.heap.size ≤ q → A q := fun q h => by rw [← hAe]; exact Or.inr h
  have hl := lv_entry ([.int p0, .int p1]) (n := 2) (Nat.le_of_ble_eq_true rfl)
  rw [lg_entry_eq]
  generalize (lg_sl ([.int p0, .int p1]) ++ List.replicate (2 - (lg_sl ([.int p0, .int p1])).length) Slot.unset).toArray = ls at hl ⊢
  have hl : lv_has ls 2 [(0, .int p0), (1, .int p1)] := hl
  generalize hHe : s.heap = H at hP ⊢
  generalize hLe : ([] : List Loc) = locs
  have hS : va_S A s.heap H locs := by
    rw [← hLe, ← hHe]
    exact va_S.rf
  rw [x_X2_needRange_e] at hX
  refine lv_iload_n hx hb dX2_needRange_0 rfl (lv_at hl 0 rfl) ?_
  have hx_1 : x_X2_needKey p0 = 0 := (x_of hX).1
  have hX := (x_of hX).2
  have hPc := hP.sub (ws' := eW) [] rfl
  have hDc := hD.sub (ws' := eW) [] (by decide) rfl
  refine rcV (W2 := fun _ => eW) (va_runS (As := [.int p0]) (rest := []) ⟨hx, hb, hml, hown, hts⟩ (c_X2_needKey l dC dI cI H.size p0 hx_1) (va_cwS 1 hts gX2_needRange_X2_needKey rfl rfl rfl (by decide +kernel) ⟨Nat.le_of_ble_eq_true rfl, Nat.le_of_ble_eq_true rfl⟩) (pW_S hPc hK hDc) rfl rfl hl.1 rfl (lv_room (Nat.le_of_ble_eq_true rfl)) dX2_needRange_1 ⟨Nat.le_of_ble_eq_true rfl, Nat.le_of_ble_eq_true rfl⟩) hP hD hS hA [] [] [] rfl rfl (by decide) (fun _ => rfl) (fun u_1 H locs hw hP hD hS => ?_)
  refine lv_iload_n hx hb dX2_needRange_4 rfl (lv_at hl 1 rfl) ?_
  have hx_5 : x_X2_needKey p1 = 0 := (x_of hX).1
  have hX := (x_of hX).2
  have hPc := hP.sub (ws' := eW) [] rfl
  have hDc := hD.sub (ws' := eW) [] (by decide) rfl
  refine rcV (W2 := fun _ => eW) (va_runS (As := [.int p1]) (rest := []) ⟨hx, hb, hml, hown, hts⟩ (c_X2_needKey l dC dI cI H.size p1 hx_5) (va_cwS 1 hts gX2_needRange_X2_needKey rfl rfl rfl (by decide +kernel) ⟨Nat.le_of_ble_eq_true rfl, Nat.le_of_ble_eq_true rfl⟩) (pW_S hPc hK hDc) rfl rfl hl.1 rfl (lv_room (Nat.le_of_ble_eq_true rfl)) dX2_needRange_5 ⟨Nat.le_of_ble_eq_true rfl, Nat.le_of_ble_eq_true rfl⟩) hP hD hS hA [] [] [] rfl rfl (by decide) (fun _ => rfl) (fun u_5 H locs hw hP hD hS => ?_)
  refine lv_iload_n hx hb dX2_needRange_8 rfl (lv_at hl 1 rfl) ?_
  refine lv_iload_n hx hb dX2_needRange_9 rfl (lv_at hl 0 rfl) ?_
  refine lv_icmp_ge (tgt := 23) hx hb dX2_needRange_10 (by decide) (fun c_10 => ?_) (fun c_10 => ?_)
  · skip
    rw [if_pos c_10] at hX
    exact rV (w := fun _ => eW) (()) hx hb hr hlocks hP hD hS (Nat.le_of_ble_eq_true rfl) (Nat.le_of_ble_eq_true rfl) dX2_needRange_23 trivial
  · skip
    rw [if_neg c_10] at hX
    exact absurd hX (by decide)
set_option maxHeartbeats 1000000 in
set_option maxRecDepth 100000 in
theorem b_X2_needRange (l : Launch) (hlt : l.stackTraces = false) (dC : Nat → ClassId) (dI : Nat → Nat → Nat) (cI : ClassId) (sz : Nat) (p0 : Int32) (p1 : Int32) (hX : ¬ x_X2_needRange p0 p1 = 0) : vx_Met l yX2_needRange wsX2_needRange ({ frames := 7, cells := 1, slots := 6, locals := 102 }) (va_Pc [.int p0, .int p1] (pX (dC, dI) [(cI, .int)] (eW) sz)) bQ (xC (dC, dI) (va_A (eW) sz) (eW) (x_X2_needRange p0 p1)) 1 6 (va_A (eW) sz) := by
  refine vx_ofW (cc := cX2_needRange) (maxL := 2) (ret := none) (by decide) rfl ?_
  intro p e s m args below meth c s₁ B hml ht hv
  obtain ⟨rfl, ⟨hsz, hP, hK, hD0⟩, hZ⟩ := hv
  have hx := B.exec
  have hb := B.bytes
  have hr := B.returns
  have hts := atoms_spec (ws := wsX2_needRange) B.pre
  have hown : s.vm.findClass RX2 = some m.cls := findClass_of_methodNamed B.named
  have hlocks := B.notSynchronized
  subst hsz
  have hD := hD0.self (sz := s.heap.size)
  generalize hAe : va_A (eW) s.heap.size = A at hD hZ ⊢
  have hA : ∀ q : Nat, s.heap.size ≤ q → A q := fun q h => by rw [← hAe]; exact Or.inr h
  have hl := lv_entry ([.int p0, .int p1]) (n := 2) (Nat.le_of_ble_eq_true rfl)
  rw [lg_entry_eq]
  generalize (lg_sl ([.int p0, .int p1]) ++ List.replicate (2 - (lg_sl ([.int p0, .int p1])).length) Slot.unset).toArray = ls at hl ⊢
  have hl : lv_has ls 2 [(0, .int p0), (1, .int p1)] := hl
  generalize hHe : s.heap = H at hP ⊢
  generalize hLe : ([] : List Loc) = locs
  have hS : va_S A s.heap H locs := by
    rw [← hLe, ← hHe]
    exact va_S.rf
  have hE := x_X2_needRange_e p0 p1
  refine lv_iload_n hx hb dX2_needRange_0 rfl (lv_at hl 0 rfl) ?_
  have hPc := hP.sub (ws' := eW) [] rfl
  have hDc := hD.sub (ws' := eW) [] (by decide) rfl
  by_cases hx_1 : x_X2_needKey p0 = 0
  · rw [if_pos hx_1] at hE
    refine rcV (W2 := fun _ => eW) (va_runS (As := [.int p0]) (rest := []) ⟨hx, hb, hml, hown, hts⟩ (c_X2_needKey l dC dI cI H.size p0 hx_1) (va_cwS 1 hts gX2_needRange_X2_needKey rfl rfl rfl (by decide +kernel) ⟨Nat.le_of_ble_eq_true rfl, Nat.le_of_ble_eq_true rfl⟩) (pW_S hPc hK hDc) rfl rfl hl.1 rfl (lv_room (Nat.le_of_ble_eq_true rfl)) dX2_needRange_1 ⟨Nat.le_of_ble_eq_true rfl, Nat.le_of_ble_eq_true rfl⟩) hP hD hS hA [] [] [] rfl rfl (by decide) (fun _ => rfl) (fun u_1 H locs hw hP hD hS => ?_)
    refine lv_iload_n hx hb dX2_needRange_4 rfl (lv_at hl 1 rfl) ?_
    have hPc := hP.sub (ws' := eW) [] rfl
    have hDc := hD.sub (ws' := eW) [] (by decide) rfl
    by_cases hx_5 : x_X2_needKey p1 = 0
    · rw [if_pos hx_5] at hE
      refine rcV (W2 := fun _ => eW) (va_runS (As := [.int p1]) (rest := []) ⟨hx, hb, hml, hown, hts⟩ (c_X2_needKey l dC dI cI H.size p1 hx_5) (va_cwS 1 hts gX2_needRange_X2_needKey rfl rfl rfl (by decide +kernel) ⟨Nat.le_of_ble_eq_true rfl, Nat.le_of_ble_eq_true rfl⟩) (pW_S hPc hK hDc) rfl rfl hl.1 rfl (lv_room (Nat.le_of_ble_eq_true rfl)) dX2_needRange_5 ⟨Nat.le_of_ble_eq_true rfl, Nat.le_of_ble_eq_true rfl⟩) hP hD hS hA [] [] [] rfl rfl (by decide) (fun _ => rfl) (fun u_5 H locs hw hP hD hS => ?_)
      refine lv_iload_n hx hb dX2_needRange_8 rfl (lv_at hl 1 rfl) ?_
      refine lv_iload_n hx hb dX2_needRange_9 rfl (lv_at hl 0 rfl) ?_
      refine lv_icmp_ge (tgt := 23) hx hb dX2_needRange_10 (by decide) (fun c_10 => ?_) (fun c_10 => ?_)
      · skip
        rw [if_pos c_10] at hE
        exact absurd hE hX
      · skip
        rw [if_neg c_10] at hE
        exact rT (cls := "java/lang/IllegalArgumentException") (text := "a range ends where it begins or behind it") (ik := 53) (is := 135) (ic := 57) hx hb hlt hown hts (by decide +kernel) (by decide +kernel) (by decide +kernel) (by decide +kernel) ats_b57 ats_g57 hZ (by decide +kernel) hS hD hP (by rw [hml]; exact hl.1) dX2_needRange_13 dX2_needRange_16 dX2_needRange_17 dX2_needRange_19 dX2_needRange_22 ht (Nat.le_of_ble_eq_true rfl) (Nat.le_of_ble_eq_true rfl) (Nat.le_of_ble_eq_true rfl) (Nat.le_of_ble_eq_true rfl) hlocks (by rw [hE]; exact Or.inl ⟨rfl, rfl⟩) (Nat.le_of_ble_eq_true rfl) (Nat.le_of_ble_eq_true rfl)
    · have hFc := va_free (wc := eW) hD hS hA [] rfl
      exact rxO (vx_runS (As := [.int p1]) (rest := []) ⟨hx, hb, hml, hown, hts⟩ (b_X2_needKey l hlt dC dI cI H.size p1 hx_5) (va_cwS 1 hts gX2_needRange_X2_needKey rfl rfl rfl (by decide +kernel) ⟨Nat.le_of_ble_eq_true rfl, Nat.le_of_ble_eq_true rfl⟩) (pX_S hPc hK hDc hZ hS hFc) rfl rfl hl.1 rfl (lv_room (Nat.le_of_ble_eq_true rfl)) dX2_needRange_5 ⟨Nat.le_of_ble_eq_true rfl, Nat.le_of_ble_eq_true rfl⟩) hP hD hS hA [] [] [] rfl rfl (by decide) rfl ht hlocks (Nat.le_of_ble_eq_true rfl) (Nat.le_of_ble_eq_true rfl) (by rw [hE, if_neg hx_5])
  · have hFc := va_free (wc := eW) hD hS hA [] rfl
    exact rxO (vx_runS (As := [.int p0]) (rest := []) ⟨hx, hb, hml, hown, hts⟩ (b_X2_needKey l hlt dC dI cI H.size p0 hx_1) (va_cwS 1 hts gX2_needRange_X2_needKey rfl rfl rfl (by decide +kernel) ⟨Nat.le_of_ble_eq_true rfl, Nat.le_of_ble_eq_true rfl⟩) (pX_S hPc hK hDc hZ hS hFc) rfl rfl hl.1 rfl (lv_room (Nat.le_of_ble_eq_true rfl)) dX2_needRange_1 ⟨Nat.le_of_ble_eq_true rfl, Nat.le_of_ble_eq_true rfl⟩) hP hD hS hA [] [] [] rfl rfl (by decide) rfl ht hlocks (Nat.le_of_ble_eq_true rfl) (Nat.le_of_ble_eq_true rfl) (by rw [hE, if_neg hx_1])
def x_X2_needUp (κ : KS) : Nat := if (kUp κ) = 0 then 2 else 0
theorem x_X2_needUp_e (κ : KS) : x_X2_needUp κ = if (kUp κ) = 0 then 2 else 0 := rfl
set_option maxHeartbeats 1000000 in
set_option maxRecDepth 100000 in
theorem c_X2_needUp (l : Launch) (dC : Nat → ClassId) (dI : Nat → Nat → Nat) (cI : ClassId) (h : Nat → Nat) (sz : Nat) (κ : KS) (hX : x_X2_needUp κ = 0) : Met l yX2_needUp wsX2_needUp ({ frames := 6, cells := 0, slots := 0, locals := 82 }) (va_Pc [.ref (h 0)] (pW (dC, dI) [(cI, .int)] (kW cI h κ) sz)) (va_Qv (fun (u : Unit) => True) (qW (dC, dI) (va_A (kW cI h κ) sz) (fun _ => kW cI h κ)) (va_A (kW cI h κ) sz)) 0 0 (va_A (kW cI h κ) sz) := by
  refine Met.ofW (cc := cX2_needUp) (maxL := 1) (ret := none) (by decide) rfl ?_
  intro p e s m args below meth c s₁ B hml hv
  obtain ⟨rfl, hsz, hP, hK, hD0⟩ := hv
  have hx := B.exec
  have hb := B.bytes
  have hr := B.returns
  have hts := atoms_spec (ws := wsX2_needUp) B.pre
  have hown : s.vm.findClass RX2 = some m.cls := findClass_of_methodNamed B.named
  have hlocks := B.notSynchronized
  have hinX2 : ∀ w ∈ wsX20, w ∈ wsX2_needUp := by decide +kernel
  have hf29 := hts (.fieldLink RX2 29 "Keysapart" "up" "Z") (by decide +kernel)
  subst hsz
  have hD := hD0.self (sz := s.heap.size)
  generalize hAe : va_A (kW cI h κ) s.heap.size = A at hD ⊢
  have hA : ∀ q : Nat, s.heap.size ≤ q → A q := fun q h => by rw [← hAe]; exact Or.inr h
  have hl := lv_entry ([.ref (h 0)]) (n := 1) (Nat.le_of_ble_eq_true rfl)
  rw [lg_entry_eq]
  generalize (lg_sl ([.ref (h 0)]) ++ List.replicate (1 - (lg_sl ([.ref (h 0)])).length) Slot.unset).toArray = ls at hl ⊢
  have hl : lv_has ls 1 [(0, .ref (h 0))] := hl
  generalize hHe : s.heap = H at hP ⊢
  generalize hLe : ([] : List Loc) = locs
  have hS : va_S A s.heap H locs := by
    rw [← hLe, ← hHe]
    exact va_S.rf
  rw [x_X2_needUp_e] at hX
  refine lv_aload_n hx hb dX2_needUp_0 rfl (lv_at hl 0 rfl) ?_
  refine va_get (D := (dC, dI)) (ci := 2) (v := .int (kUp κ)) (C := RX2) (T := TX2) (N := 10) hx hb hts hinX2 hown hK hP 0 rfl rfl 4 (by decide) hf29 (fun _ h9 => h9) rfl dX2_needUp_1 ?_
  refine lv_if_ne (tgt := 17) hx hb dX2_needUp_4 (by decide) (fun c_4 => ?_) (fun c_4 => ?_)
  · skip
    rw [if_neg c_4] at hX
    exact rV (w := fun _ => kW cI h κ) (()) hx hb hr hlocks hP hD hS (Nat.le_of_ble_eq_true rfl) (Nat.le_of_ble_eq_true rfl) dX2_needUp_17 trivial
  · skip
    rw [if_pos c_4] at hX
    exact absurd hX (by decide)
set_option maxHeartbeats 1000000 in
set_option maxRecDepth 100000 in
theorem b_X2_needUp (l : Launch) (hlt : l.stackTraces = false) (dC : Nat → ClassId) (dI : Nat → Nat → Nat) (cI : ClassId) (h : Nat → Nat) (sz : Nat) (κ : KS) (hX : ¬ x_X2_needUp κ = 0) : vx_Met l yX2_needUp wsX2_needUp ({ frames := 6, cells := 1, slots := 6, locals := 82 }) (va_Pc [.ref (h 0)] (pX (dC, dI) [(cI, .int)] (kW cI h κ) sz)) bQ (xC (dC, dI) (va_A (kW cI h κ) sz) (kW cI h κ) (x_X2_needUp κ)) 1 6 (va_A (kW cI h κ) sz) := by
  refine vx_ofW (cc := cX2_needUp) (maxL := 1) (ret := none) (by decide) rfl ?_
  intro p e s m args below meth c s₁ B hml ht hv
  obtain ⟨rfl, ⟨hsz, hP, hK, hD0⟩, hZ⟩ := hv
  have hx := B.exec
  have hb := B.bytes
  have hr := B.returns
  have hts := atoms_spec (ws := wsX2_needUp) B.pre
  have hown : s.vm.findClass RX2 = some m.cls := findClass_of_methodNamed B.named
  have hlocks := B.notSynchronized
  have hinX2 : ∀ w ∈ wsX20, w ∈ wsX2_needUp := by decide +kernel
  have hf29 := hts (.fieldLink RX2 29 "Keysapart" "up" "Z") (by decide +kernel)
  subst hsz
  have hD := hD0.self (sz := s.heap.size)
  generalize hAe : va_A (kW cI h κ) s.heap.size = A at hD hZ ⊢
  have hA : ∀ q : Nat, s.heap.size ≤ q → A q := fun q h => by rw [← hAe]; exact Or.inr h
  have hl := lv_entry ([.ref (h 0)]) (n := 1) (Nat.le_of_ble_eq_true rfl)
  rw [lg_entry_eq]
  generalize (lg_sl ([.ref (h 0)]) ++ List.replicate (1 - (lg_sl ([.ref (h 0)])).length) Slot.unset).toArray = ls at hl ⊢
  have hl : lv_has ls 1 [(0, .ref (h 0))] := hl
  generalize hHe : s.heap = H at hP ⊢
  generalize hLe : ([] : List Loc) = locs
  have hS : va_S A s.heap H locs := by
    rw [← hLe, ← hHe]
    exact va_S.rf
  have hE := x_X2_needUp_e κ
  refine lv_aload_n hx hb dX2_needUp_0 rfl (lv_at hl 0 rfl) ?_
  refine va_get (D := (dC, dI)) (ci := 2) (v := .int (kUp κ)) (C := RX2) (T := TX2) (N := 10) hx hb hts hinX2 hown hK hP 0 rfl rfl 4 (by decide) hf29 (fun _ h9 => h9) rfl dX2_needUp_1 ?_
  refine lv_if_ne (tgt := 17) hx hb dX2_needUp_4 (by decide) (fun c_4 => ?_) (fun c_4 => ?_)
  · skip
    rw [if_neg c_4] at hE
    exact absurd hE hX
  · skip
    rw [if_pos c_4] at hE
    exact rT (cls := "java/lang/IllegalStateException") (text := "the store is down") (ik := 74) (is := 137) (ic := 78) hx hb hlt hown hts (by decide +kernel) (by decide +kernel) (by decide +kernel) (by decide +kernel) ats_b78 ats_g78 hZ (by decide +kernel) hS hD hP (by rw [hml]; exact hl.1) dX2_needUp_7 dX2_needUp_10 dX2_needUp_11 dX2_needUp_13 dX2_needUp_16 ht (Nat.le_of_ble_eq_true rfl) (Nat.le_of_ble_eq_true rfl) (Nat.le_of_ble_eq_true rfl) (Nat.le_of_ble_eq_true rfl) hlocks (by rw [hE]; exact Or.inr ⟨rfl, rfl⟩) (Nat.le_of_ble_eq_true rfl) (Nat.le_of_ble_eq_true rfl)
def x_X2_needRoom (κ : KS) (p1 : Int32) : Nat := if p1 ≤ ((((v_X2_segmentOf (kTl κ)) * 8) + 96) - (kHd κ)) then 0 else 2
theorem x_X2_needRoom_e (κ : KS) (p1 : Int32) : x_X2_needRoom κ p1 = if p1 ≤ ((((v_X2_segmentOf (kTl κ)) * 8) + 96) - (kHd κ)) then 0 else 2 := rfl
set_option maxHeartbeats 1000000 in
set_option maxRecDepth 100000 in
theorem c_X2_needRoom (l : Launch) (dC : Nat → ClassId) (dI : Nat → Nat → Nat) (cI : ClassId) (h : Nat → Nat) (sz : Nat) (κ : KS) (p1 : Int32) (hX : x_X2_needRoom κ p1 = 0) : Met l yX2_needRoom wsX2_needRoom ({ frames := 6, cells := 0, slots := 0, locals := 82 }) (va_Pc [.ref (h 0), .int p1] (pW (dC, dI) [(cI, .int)] (kW cI h κ) sz)) (va_Qv (fun (u : Unit) => True) (qW (dC, dI) (va_A (kW cI h κ) sz) (fun _ => kW cI h κ)) (va_A (kW cI h κ) sz)) 0 0 (va_A (kW cI h κ) sz) := by
  refine Met.ofW (cc := cX2_needRoom) (maxL := 3) (ret := none) (by decide) rfl ?_
  intro p e s m args below meth c s₁ B hml hv
  obtain ⟨rfl, hsz, hP, hK, hD0⟩ := hv
  have hx := B.exec
  have hb := B.bytes
  have hr := B.returns
  have hts := atoms_spec (ws := wsX2_needRoom) B.pre
  have hown : s.vm.findClass RX2 = some m.cls := findClass_of_methodNamed B.named
  have hlocks := B.notSynchronized
  have hinX2 : ∀ w ∈ wsX20, w ∈ wsX2_needRoom := by decide +kernel
  have hf33 := hts (.fieldLink RX2 33 "Keysapart" "headAt" "I") (by decide +kernel)
  have hf37 := hts (.fieldLink RX2 37 "Keysapart" "tailAt" "I") (by decide +kernel)
  subst hsz
  have hD := hD0.self (sz := s.heap.size)
  generalize hAe : va_A (kW cI h κ) s.heap.size = A at hD ⊢
  have hA : ∀ q : Nat, s.heap.size ≤ q → A q := fun q h => by rw [← hAe]; exact Or.inr h
  have hl := lv_entry ([.ref (h 0), .int p1]) (n := 3) (Nat.le_of_ble_eq_true rfl)
  rw [lg_entry_eq]
  generalize (lg_sl ([.ref (h 0), .int p1]) ++ List.replicate (3 - (lg_sl ([.ref (h 0), .int p1])).length) Slot.unset).toArray = ls at hl ⊢
  have hl : lv_has ls 3 [(0, .ref (h 0)), (1, .int p1)] := hl
  generalize hHe : s.heap = H at hP ⊢
  generalize hLe : ([] : List Loc) = locs
  have hS : va_S A s.heap H locs := by
    rw [← hLe, ← hHe]
    exact va_S.rf
  rw [x_X2_needRoom_e] at hX
  refine lv_aload_n hx hb dX2_needRoom_0 rfl (lv_at hl 0 rfl) ?_
  refine va_get (D := (dC, dI)) (ci := 2) (v := .int (kTl κ)) (C := RX2) (T := TX2) (N := 10) hx hb hts hinX2 hown hK hP 0 rfl rfl 6 (by decide) hf37 (fun _ h9 => h9) rfl dX2_needRoom_1 ?_
  have hPc := hP.sub (ws' := eW) [] rfl
  have hDc := hD.sub (ws' := eW) [] (by decide) rfl
  refine rcI (W2 := fun _ => kW cI h κ) (va_runS (As := [.int (kTl κ)]) (rest := []) ⟨hx, hb, hml, hown, hts⟩ (c_X2_segmentOf l dC dI cI H.size (kTl κ)) (va_cwS 1 hts gX2_needRoom_X2_segmentOf rfl rfl rfl (by decide +kernel) ⟨Nat.le_of_ble_eq_true rfl, Nat.le_of_ble_eq_true rfl⟩) (pW_S hPc hK hDc) rfl rfl hl.1 rfl (lv_room (Nat.le_of_ble_eq_true rfl)) dX2_needRoom_4 ⟨Nat.le_of_ble_eq_true rfl, Nat.le_of_ble_eq_true rfl⟩) hP hD hS hA [] [0, 1, 2, 3, 4, 5, 6, 7, 8, 9] [0, 1, 2, 3, 4, 5, 6, 7, 8, 9] rfl rfl (by decide) (fun _ => rfl) (fun r_4 u_4 H locs hw hP hD hS => ?_)
  try rw [← hw] at hX
  refine lv_bipush (v := 8) hx hb dX2_needRoom_7 (by decide) ?_
  refine lv_imul hx hb dX2_needRoom_9 ?_
  refine lv_bipush (v := 96) hx hb dX2_needRoom_10 (by decide) ?_
  refine lv_iadd hx hb dX2_needRoom_12 ?_
  refine lv_istore_n (lv' := [(2, .int ((r_4 * 8) + 96)), (0, .ref (h 0)), (1, .int p1)]) hx hb dX2_needRoom_13 rfl hl (by decide) rfl (fun ls hl => ?_)
  refine lv_iload_n hx hb dX2_needRoom_14 rfl (lv_at hl 2 rfl) ?_
  refine lv_iload_n hx hb dX2_needRoom_15 rfl (lv_at hl 0 rfl) ?_
  refine lv_aload_n hx hb dX2_needRoom_16 rfl (lv_at hl 1 rfl) ?_
  refine va_get (D := (dC, dI)) (ci := 2) (v := .int (kHd κ)) (C := RX2) (T := TX2) (N := 10) hx hb hts hinX2 hown hK hP 0 rfl rfl 5 (by decide) hf33 (fun _ h9 => h9) rfl dX2_needRoom_17 ?_
  refine lv_isub hx hb dX2_needRoom_20 ?_
  refine lv_icmp_le (tgt := 34) hx hb dX2_needRoom_21 (by decide) (fun c_21 => ?_) (fun c_21 => ?_)
  · skip
    rw [if_pos c_21] at hX
    exact rV (w := fun _ => kW cI h κ) (()) hx hb hr hlocks hP hD hS (Nat.le_of_ble_eq_true rfl) (Nat.le_of_ble_eq_true rfl) dX2_needRoom_34 trivial
  · skip
    rw [if_neg c_21] at hX
    exact absurd hX (by decide)
set_option maxHeartbeats 1000000 in
set_option maxRecDepth 100000 in
theorem b_X2_needRoom (l : Launch) (hlt : l.stackTraces = false) (dC : Nat → ClassId) (dI : Nat → Nat → Nat) (cI : ClassId) (h : Nat → Nat) (sz : Nat) (κ : KS) (p1 : Int32) (hX : ¬ x_X2_needRoom κ p1 = 0) : vx_Met l yX2_needRoom wsX2_needRoom ({ frames := 6, cells := 1, slots := 6, locals := 82 }) (va_Pc [.ref (h 0), .int p1] (pX (dC, dI) [(cI, .int)] (kW cI h κ) sz)) bQ (xC (dC, dI) (va_A (kW cI h κ) sz) (kW cI h κ) (x_X2_needRoom κ p1)) 1 6 (va_A (kW cI h κ) sz) := by
  refine vx_ofW (cc := cX2_needRoom) (maxL := 3) (ret := none) (by decide) rfl ?_
  intro p e s m args below meth c s₁ B hml ht hv
  obtain ⟨rfl, ⟨hsz, hP, hK, hD0⟩, hZ⟩ := hv
  have hx := B.exec
  have hb := B.bytes
  have hr := B.returns
  have hts := atoms_spec (ws := wsX2_needRoom) B.pre
  have hown : s.vm.findClass RX2 = some m.cls := findClass_of_methodNamed B.named
  have hlocks := B.notSynchronized
  have hinX2 : ∀ w ∈ wsX20, w ∈ wsX2_needRoom := by decide +kernel
  have hf33 := hts (.fieldLink RX2 33 "Keysapart" "headAt" "I") (by decide +kernel)
  have hf37 := hts (.fieldLink RX2 37 "Keysapart" "tailAt" "I") (by decide +kernel)
  subst hsz
  have hD := hD0.self (sz := s.heap.size)
  generalize hAe : va_A (kW cI h κ) s.heap.size = A at hD hZ ⊢
  have hA : ∀ q : Nat, s.heap.size ≤ q → A q := fun q h => by rw [← hAe]; exact Or.inr h
  have hl := lv_entry ([.ref (h 0), .int p1]) (n := 3) (Nat.le_of_ble_eq_true rfl)
  rw [lg_entry_eq]
  generalize (lg_sl ([.ref (h 0), .int p1]) ++ List.replicate (3 - (lg_sl ([.ref (h 0), .int p1])).length) Slot.unset).toArray = ls at hl ⊢
  have hl : lv_has ls 3 [(0, .ref (h 0)), (1, .int p1)] := hl
  generalize hHe : s.heap = H at hP ⊢
  generalize hLe : ([] : List Loc) = locs
  have hS : va_S A s.heap H locs := by
    rw [← hLe, ← hHe]
    exact va_S.rf
  have hE := x_X2_needRoom_e κ p1
  refine lv_aload_n hx hb dX2_needRoom_0 rfl (lv_at hl 0 rfl) ?_
  refine va_get (D := (dC, dI)) (ci := 2) (v := .int (kTl κ)) (C := RX2) (T := TX2) (N := 10) hx hb hts hinX2 hown hK hP 0 rfl rfl 6 (by decide) hf37 (fun _ h9 => h9) rfl dX2_needRoom_1 ?_
  have hPc := hP.sub (ws' := eW) [] rfl
  have hDc := hD.sub (ws' := eW) [] (by decide) rfl
  refine rcI (W2 := fun _ => kW cI h κ) (va_runS (As := [.int (kTl κ)]) (rest := []) ⟨hx, hb, hml, hown, hts⟩ (c_X2_segmentOf l dC dI cI H.size (kTl κ)) (va_cwS 1 hts gX2_needRoom_X2_segmentOf rfl rfl rfl (by decide +kernel) ⟨Nat.le_of_ble_eq_true rfl, Nat.le_of_ble_eq_true rfl⟩) (pW_S hPc hK hDc) rfl rfl hl.1 rfl (lv_room (Nat.le_of_ble_eq_true rfl)) dX2_needRoom_4 ⟨Nat.le_of_ble_eq_true rfl, Nat.le_of_ble_eq_true rfl⟩) hP hD hS hA [] [0, 1, 2, 3, 4, 5, 6, 7, 8, 9] [0, 1, 2, 3, 4, 5, 6, 7, 8, 9] rfl rfl (by decide) (fun _ => rfl) (fun r_4 u_4 H locs hw hP hD hS => ?_)
  try rw [← hw] at hE
  refine lv_bipush (v := 8) hx hb dX2_needRoom_7 (by decide) ?_
  refine lv_imul hx hb dX2_needRoom_9 ?_
  refine lv_bipush (v := 96) hx hb dX2_needRoom_10 (by decide) ?_
  refine lv_iadd hx hb dX2_needRoom_12 ?_
  refine lv_istore_n (lv' := [(2, .int ((r_4 * 8) + 96)), (0, .ref (h 0)), (1, .int p1)]) hx hb dX2_needRoom_13 rfl hl (by decide) rfl (fun ls hl => ?_)
  refine lv_iload_n hx hb dX2_needRoom_14 rfl (lv_at hl 2 rfl) ?_
  refine lv_iload_n hx hb dX2_needRoom_15 rfl (lv_at hl 0 rfl) ?_
  refine lv_aload_n hx hb dX2_needRoom_16 rfl (lv_at hl 1 rfl) ?_
  refine va_get (D := (dC, dI)) (ci := 2) (v := .int (kHd κ)) (C := RX2) (T := TX2) (N := 10) hx hb hts hinX2 hown hK hP 0 rfl rfl 5 (by decide) hf33 (fun _ h9 => h9) rfl dX2_needRoom_17 ?_
  refine lv_isub hx hb dX2_needRoom_20 ?_
  refine lv_icmp_le (tgt := 34) hx hb dX2_needRoom_21 (by decide) (fun c_21 => ?_) (fun c_21 => ?_)
  · skip
    rw [if_pos c_21] at hE
    exact absurd hE hX
  · skip
    rw [if_neg c_21] at hE
    exact rT (cls := "java/lang/IllegalStateException") (text := "the log would need a 13th segment") (ik := 74) (is := 139) (ic := 78) hx hb hlt hown hts (by decide +kernel) (by decide +kernel) (by decide +kernel) (by decide +kernel) ats_b78 ats_g78 hZ (by decide +kernel) hS hD hP (by rw [hml]; exact hl.1) dX2_needRoom_24 dX2_needRoom_27 dX2_needRoom_28 dX2_needRoom_30 dX2_needRoom_33 ht (Nat.le_of_ble_eq_true rfl) (Nat.le_of_ble_eq_true rfl) (Nat.le_of_ble_eq_true rfl) (Nat.le_of_ble_eq_true rfl) hlocks (by rw [hE]; exact Or.inr ⟨rfl, rfl⟩) (Nat.le_of_ble_eq_true rfl) (Nat.le_of_ble_eq_true rfl)
def v_X2_valueOf (κ : KS) (p1 : Int32) : Int32 := (v_X1_valueAt (kLk κ, kLv κ) (v_X0_find (kIx κ) p1))
theorem v_X2_valueOf_e (κ : KS) (p1 : Int32) : v_X2_valueOf κ p1 = (v_X1_valueAt (kLk κ, kLv κ) (v_X0_find (kIx κ) p1)) := rfl
def s_X2_valueOf (κ : KS) (p1 : Int32) : Prop := (s_X1_valueAt (kLk κ, kLv κ) (v_X0_find (kIx κ) p1) ∧ True)
set_option maxHeartbeats 1000000 in
set_option maxRecDepth 100000 in
theorem c_X2_valueOf (l : Launch) (dC : Nat → ClassId) (dI : Nat → Nat → Nat) (cI : ClassId) (h : Nat → Nat) (sz : Nat) (κ : KS) (p1 : Int32) (hs : s_X2_valueOf κ p1) : Met l yX2_valueOf wsX2_valueOf ({ frames := 2, cells := 0, slots := 0, locals := 44 }) (va_Pc [.ref (h 0), .int p1] (pW (dC, dI) [(cI, .int)] (kW cI h κ) sz)) (va_Qi (fun (r : Int32) (u : Unit) => r = v_X2_valueOf κ p1) (qW (dC, dI) (va_A (kW cI h κ) sz) (fun _ => kW cI h κ)) (va_A (kW cI h κ) sz)) 0 0 (va_A (kW cI h κ) sz) := by
  refine Met.ofW (cc := cX2_valueOf) (maxL := 2) (ret := (some .int)) (by decide) rfl ?_
  intro p e s m args below meth c s₁ B hml hv
  obtain ⟨rfl, hsz, hP, hK, hD0⟩ := hv
  have hx := B.exec
  have hb := B.bytes
  have hr := B.returns
  have hts := atoms_spec (ws := wsX2_valueOf) B.pre
  have hown : s.vm.findClass RX2 = some m.cls := findClass_of_methodNamed B.named
  have hlocks := B.notSynchronized
  have hinX2 : ∀ w ∈ wsX20, w ∈ wsX2_valueOf := by decide +kernel
  have hf12 := hts (.fieldLink RX2 12 "Keysapart" "log" "LKeysapart$Log;") (by decide +kernel)
  have hf19 := hts (.fieldLink RX2 19 "Keysapart" "index" "LKeysapart$Index;") (by decide +kernel)
  subst hsz
  have hD := hD0.self (sz := s.heap.size)
  generalize hAe : va_A (kW cI h κ) s.heap.size = A at hD ⊢
  have hA : ∀ q : Nat, s.heap.size ≤ q → A q := fun q h => by rw [← hAe]; exact Or.inr h
  have hl := lv_entry ([.ref (h 0), .int p1]) (n := 2) (Nat.le_of_ble_eq_true rfl)
  rw [lg_entry_eq]
  generalize (lg_sl ([.ref (h 0), .int p1]) ++ List.replicate (2 - (lg_sl ([.ref (h 0), .int p1])).length) Slot.unset).toArray = ls at hl ⊢
  have hl : lv_has ls 2 [(0, .ref (h 0)), (1, .int p1)] := hl
  generalize hHe : s.heap = H at hP ⊢
  generalize hLe : ([] : List Loc) = locs
  have hS : va_S A s.heap H locs := by
    rw [← hLe, ← hHe]
    exact va_S.rf
  unfold s_X2_valueOf at hs
  have hV := v_X2_valueOf_e κ p1
  refine lv_aload_n hx hb dX2_valueOf_0 rfl (lv_at hl 0 rfl) ?_
  refine va_get (D := (dC, dI)) (ci := 2) (v := .ref (h 1)) (C := RX2) (T := TX2) (N := 10) hx hb hts hinX2 hown hK hP 0 rfl rfl 0 (by decide) hf12 (fun _ h9 => h9) rfl dX2_valueOf_1 ?_
  refine lv_aload_n hx hb dX2_valueOf_4 rfl (lv_at hl 0 rfl) ?_
  refine va_get (D := (dC, dI)) (ci := 2) (v := .ref (h 2)) (C := RX2) (T := TX2) (N := 10) hx hb hts hinX2 hown hK hP 0 rfl rfl 1 (by decide) hf19 (fun _ h9 => h9) rfl dX2_valueOf_5 ?_
  refine lv_iload_n hx hb dX2_valueOf_8 rfl (lv_at hl 1 rfl) ?_
  have hPc := hP.sub (ws' := iW cI (h 2) (h 7) (kIx κ)) [2, 7] rfl
  have hDc := hD.sub (ws' := iW cI (h 2) (h 7) (kIx κ)) [2, 7] (by decide) rfl
  refine rcI (W2 := fun _ => kW cI h κ) (va_runV (As := [.int p1]) (rest := [.ref (h 1)]) ⟨hx, hb, hml, hown, hts⟩ (c_X0_find l dC dI cI (h 2) (h 7) H.size (kIx κ) p1) (cwV 1 hts gX2_valueOf_X0_find rfl rfl rfl (by decide +kernel) ⟨Nat.le_of_ble_eq_true rfl, Nat.le_of_ble_eq_true rfl⟩) (pW_V hPc hK hDc (ci := 0) (q0 := 0) rfl rfl) rfl rfl hl.1 rfl (lv_room (Nat.le_of_ble_eq_true rfl)) dX2_valueOf_9 ⟨Nat.le_of_ble_eq_true rfl, Nat.le_of_ble_eq_true rfl⟩) hP hD hS hA [2, 7] [0, 1, 3, 4, 5, 6, 8, 9] [0, 1, 8, 2, 3, 4, 5, 9, 6, 7] rfl rfl (by decide) (fun _ => rfl) (fun r_9 u_9 H locs hw hP hD hS => ?_)
  try rw [← hw] at hV
  try rw [← hw] at hs
  have o_12 : s_X1_valueAt (kLk κ, kLv κ) r_9 := hs.1
  have hs := hs.2
  have hPc := hP.sub (ws' := gW cI (h 1) (h 5) (h 6) (kLk κ, kLv κ)) [1, 5, 6] rfl
  have hDc := hD.sub (ws' := gW cI (h 1) (h 5) (h 6) (kLk κ, kLv κ)) [1, 5, 6] (by decide) rfl
  refine rcI (W2 := fun _ => kW cI h κ) (va_runV (As := [.int r_9]) (rest := []) ⟨hx, hb, hml, hown, hts⟩ (c_X1_valueAt l dC dI cI (h 1) (h 5) (h 6) H.size (kLk κ, kLv κ) r_9 o_12) (cwV 1 hts gX2_valueOf_X1_valueAt rfl rfl rfl (by decide +kernel) ⟨Nat.le_of_ble_eq_true rfl, Nat.le_of_ble_eq_true rfl⟩) (pW_V hPc hK hDc (ci := 1) (q0 := 0) rfl rfl) rfl rfl hl.1 rfl (lv_room (Nat.le_of_ble_eq_true rfl)) dX2_valueOf_12 ⟨Nat.le_of_ble_eq_true rfl, Nat.le_of_ble_eq_true rfl⟩) hP hD hS hA [1, 5, 6] [0, 2, 3, 4, 7, 8, 9] [0, 7, 1, 2, 3, 8, 9, 4, 5, 6] rfl rfl (by decide) (fun _ => rfl) (fun r_12 u_12 H locs hw hP hD hS => ?_)
  try rw [← hw] at hV
  exact rI (w := fun _ => kW cI h κ) (()) hx hb hr hlocks hP hD hS (Nat.le_of_ble_eq_true rfl) (Nat.le_of_ble_eq_true rfl) dX2_valueOf_15 (by rw [hV] <;> rfl)
def v_X2_isLive (κ : KS) (p1 : Int32) : Int32 := if (v_X0_find (kIx κ) (v_X1_keyAt (kLk κ, kLv κ) p1)) = p1 then 1 else 0
theorem v_X2_isLive_e (κ : KS) (p1 : Int32) : v_X2_isLive κ p1 = if (v_X0_find (kIx κ) (v_X1_keyAt (kLk κ, kLv κ) p1)) = p1 then 1 else 0 := rfl
def s_X2_isLive (κ : KS) (p1 : Int32) : Prop := (s_X1_keyAt (kLk κ, kLv κ) p1 ∧ True)
set_option maxHeartbeats 1000000 in
set_option maxRecDepth 100000 in
theorem c_X2_isLive (l : Launch) (dC : Nat → ClassId) (dI : Nat → Nat → Nat) (cI : ClassId) (h : Nat → Nat) (sz : Nat) (κ : KS) (p1 : Int32) (hs : s_X2_isLive κ p1) : Met l yX2_isLive wsX2_isLive ({ frames := 2, cells := 0, slots := 0, locals := 44 }) (va_Pc [.ref (h 0), .int p1] (pW (dC, dI) [(cI, .int)] (kW cI h κ) sz)) (va_Qi (fun (r : Int32) (u : Unit) => r = v_X2_isLive κ p1 ∧ bz r) (qW (dC, dI) (va_A (kW cI h κ) sz) (fun _ => kW cI h κ)) (va_A (kW cI h κ) sz)) 0 0 (va_A (kW cI h κ) sz) := by
  refine Met.ofW (cc := cX2_isLive) (maxL := 2) (ret := (some .boolean)) (by decide) rfl ?_
  intro p e s m args below meth c s₁ B hml hv
  obtain ⟨rfl, hsz, hP, hK, hD0⟩ := hv
  have hx := B.exec
  have hb := B.bytes
  have hr := B.returns
  have hts := atoms_spec (ws := wsX2_isLive) B.pre
  have hown : s.vm.findClass RX2 = some m.cls := findClass_of_methodNamed B.named
  have hlocks := B.notSynchronized
  have hinX2 : ∀ w ∈ wsX20, w ∈ wsX2_isLive := by decide +kernel
  have hf12 := hts (.fieldLink RX2 12 "Keysapart" "log" "LKeysapart$Log;") (by decide +kernel)
  have hf19 := hts (.fieldLink RX2 19 "Keysapart" "index" "LKeysapart$Index;") (by decide +kernel)
  subst hsz
  have hD := hD0.self (sz := s.heap.size)
  generalize hAe : va_A (kW cI h κ) s.heap.size = A at hD ⊢
  have hA : ∀ q : Nat, s.heap.size ≤ q → A q := fun q h => by rw [← hAe]; exact Or.inr h
  have hl := lv_entry ([.ref (h 0), .int p1]) (n := 2) (Nat.le_of_ble_eq_true rfl)
  rw [lg_entry_eq]
  generalize (lg_sl ([.ref (h 0), .int p1]) ++ List.replicate (2 - (lg_sl ([.ref (h 0), .int p1])).length) Slot.unset).toArray = ls at hl ⊢
  have hl : lv_has ls 2 [(0, .ref (h 0)), (1, .int p1)] := hl
  generalize hHe : s.heap = H at hP ⊢
  generalize hLe : ([] : List Loc) = locs
  have hS : va_S A s.heap H locs := by
    rw [← hLe, ← hHe]
    exact va_S.rf
  unfold s_X2_isLive at hs
  have hV := v_X2_isLive_e κ p1
  refine lv_aload_n hx hb dX2_isLive_0 rfl (lv_at hl 0 rfl) ?_
  refine va_get (D := (dC, dI)) (ci := 2) (v := .ref (h 2)) (C := RX2) (T := TX2) (N := 10) hx hb hts hinX2 hown hK hP 0 rfl rfl 1 (by decide) hf19 (fun _ h9 => h9) rfl dX2_isLive_1 ?_
  refine lv_aload_n hx hb dX2_isLive_4 rfl (lv_at hl 0 rfl) ?_
  refine va_get (D := (dC, dI)) (ci := 2) (v := .ref (h 1)) (C := RX2) (T := TX2) (N := 10) hx hb hts hinX2 hown hK hP 0 rfl rfl 0 (by decide) hf12 (fun _ h9 => h9) rfl dX2_isLive_5 ?_
  refine lv_iload_n hx hb dX2_isLive_8 rfl (lv_at hl 1 rfl) ?_
  have o_9 : s_X1_keyAt (kLk κ, kLv κ) p1 := hs.1
  have hs := hs.2
  have hPc := hP.sub (ws' := gW cI (h 1) (h 5) (h 6) (kLk κ, kLv κ)) [1, 5, 6] rfl
  have hDc := hD.sub (ws' := gW cI (h 1) (h 5) (h 6) (kLk κ, kLv κ)) [1, 5, 6] (by decide) rfl
  refine rcI (W2 := fun _ => kW cI h κ) (va_runV (As := [.int p1]) (rest := [.ref (h 2)]) ⟨hx, hb, hml, hown, hts⟩ (c_X1_keyAt l dC dI cI (h 1) (h 5) (h 6) H.size (kLk κ, kLv κ) p1 o_9) (cwV 1 hts gX2_isLive_X1_keyAt rfl rfl rfl (by decide +kernel) ⟨Nat.le_of_ble_eq_true rfl, Nat.le_of_ble_eq_true rfl⟩) (pW_V hPc hK hDc (ci := 1) (q0 := 0) rfl rfl) rfl rfl hl.1 rfl (lv_room (Nat.le_of_ble_eq_true rfl)) dX2_isLive_9 ⟨Nat.le_of_ble_eq_true rfl, Nat.le_of_ble_eq_true rfl⟩) hP hD hS hA [1, 5, 6] [0, 2, 3, 4, 7, 8, 9] [0, 7, 1, 2, 3, 8, 9, 4, 5, 6] rfl rfl (by decide) (fun _ => rfl) (fun r_9 u_9 H locs hw hP hD hS => ?_)
  try rw [← hw] at hV
  have hPc := hP.sub (ws' := iW cI (h 2) (h 7) (kIx κ)) [2, 7] rfl
  have hDc := hD.sub (ws' := iW cI (h 2) (h 7) (kIx κ)) [2, 7] (by decide) rfl
  refine rcI (W2 := fun _ => kW cI h κ) (va_runV (As := [.int r_9]) (rest := []) ⟨hx, hb, hml, hown, hts⟩ (c_X0_find l dC dI cI (h 2) (h 7) H.size (kIx κ) r_9) (cwV 1 hts gX2_isLive_X0_find rfl rfl rfl (by decide +kernel) ⟨Nat.le_of_ble_eq_true rfl, Nat.le_of_ble_eq_true rfl⟩) (pW_V hPc hK hDc (ci := 0) (q0 := 0) rfl rfl) rfl rfl hl.1 rfl (lv_room (Nat.le_of_ble_eq_true rfl)) dX2_isLive_12 ⟨Nat.le_of_ble_eq_true rfl, Nat.le_of_ble_eq_true rfl⟩) hP hD hS hA [2, 7] [0, 1, 3, 4, 5, 6, 8, 9] [0, 1, 8, 2, 3, 4, 5, 9, 6, 7] rfl rfl (by decide) (fun _ => rfl) (fun r_12 u_12 H locs hw hP hD hS => ?_)
  try rw [← hw] at hV
  refine lv_iload_n hx hb dX2_isLive_15 rfl (lv_at hl 1 rfl) ?_
  refine lv_icmp_ne (tgt := 23) hx hb dX2_isLive_16 (by decide) (fun c_16 => ?_) (fun c_16 => ?_)
  · skip
    rw [if_neg c_16] at hV
    refine lv_iconst (v := 0) hx hb dX2_isLive_23 (by decide) ?_
    have hz9 : bz (0) := by first | assumption | (repeat (first | exact bz0 | exact bz1 | assumption | refine bz_ite ?_ ?_))
    exact rZ (w := fun _ => kW cI h κ) (()) hx hb hr hlocks hP hD hS (Nat.le_of_ble_eq_true rfl) (Nat.le_of_ble_eq_true rfl) dX2_isLive_24 hz9 ⟨by rw [hV] <;> rfl, hz9⟩
  · skip
    rw [if_pos c_16] at hV
    refine lv_iconst (v := 1) hx hb dX2_isLive_19 (by decide) ?_
    refine lv_goto (tgt := 24) hx hb dX2_isLive_20 (by decide) ?_
    have hz9 : bz (1) := by first | assumption | (repeat (first | exact bz0 | exact bz1 | assumption | refine bz_ite ?_ ?_))
    exact rZ (w := fun _ => kW cI h κ) (()) hx hb hr hlocks hP hD hS (Nat.le_of_ble_eq_true rfl) (Nat.le_of_ble_eq_true rfl) dX2_isLive_24 hz9 ⟨by rw [hV] <;> rfl, hz9⟩
def l_X2_liveFromTail_15 (κ : KS) (y2 : Int32) (y1 : Int32) : Nat → Int32 → Int32 → Int32 × Int32
  | 0, x3_15, x4_15 => (x3_15, x4_15)
  | n + 1, x3_15, x4_15 => if y2 ≤ x4_15 then (x3_15, x4_15) else l_X2_liveFromTail_15 κ y2 y1 n (if (v_X2_isLive κ x4_15) = 0 then x3_15 else (x3_15 + 1) : Int32) (x4_15 + 1)
theorem l_X2_liveFromTail_15_s (κ : KS) (y2 : Int32) (y1 : Int32) (n : Nat) (x3_15 : Int32) (x4_15 : Int32) : l_X2_liveFromTail_15 κ y2 y1 (n + 1) x3_15 x4_15 = if y2 ≤ x4_15 then (x3_15, x4_15) else l_X2_liveFromTail_15 κ y2 y1 n (if (v_X2_isLive κ x4_15) = 0 then x3_15 else (x3_15 + 1) : Int32) (x4_15 + 1) := rfl
def sl_X2_liveFromTail_15 (κ : KS) (y2 : Int32) (y1 : Int32) : Nat → Int32 → Int32 → Prop
  | 0, x3_15, x4_15 => False
  | n + 1, x3_15, x4_15 => ((y2 ≤ x4_15 → True) ∧ (¬ y2 ≤ x4_15 → (s_X2_isLive κ x4_15 ∧ sl_X2_liveFromTail_15 κ y2 y1 n (if (v_X2_isLive κ x4_15) = 0 then x3_15 else (x3_15 + 1) : Int32) (x4_15 + 1))))
theorem sl_X2_liveFromTail_15_s (κ : KS) (y2 : Int32) (y1 : Int32) (n : Nat) (x3_15 : Int32) (x4_15 : Int32) : sl_X2_liveFromTail_15 κ y2 y1 (n + 1) x3_15 x4_15 = ((y2 ≤ x4_15 → True) ∧ (¬ y2 ≤ x4_15 → (s_X2_isLive κ x4_15 ∧ sl_X2_liveFromTail_15 κ y2 y1 n (if (v_X2_isLive κ x4_15) = 0 then x3_15 else (x3_15 + 1) : Int32) (x4_15 + 1)))) := rfl
def v_X2_liveFromTail (κ : KS) (p1 : Int32) : Int32 := (l_X2_liveFromTail_15 κ ((kTl κ) + p1) p1 100 0 (kTl κ)).1
theorem v_X2_liveFromTail_e (κ : KS) (p1 : Int32) : v_X2_liveFromTail κ p1 = (l_X2_liveFromTail_15 κ ((kTl κ) + p1) p1 100 0 (kTl κ)).1 := rfl
def s_X2_liveFromTail (κ : KS) (p1 : Int32) : Prop := (sl_X2_liveFromTail_15 κ ((kTl κ) + p1) p1 100 0 (kTl κ) ∧ True)
set_option maxHeartbeats 1000000 in
set_option maxRecDepth 100000 in
theorem c_X2_liveFromTail (l : Launch) (dC : Nat → ClassId) (dI : Nat → Nat → Nat) (cI : ClassId) (h : Nat → Nat) (sz : Nat) (κ : KS) (p1 : Int32) (hs : s_X2_liveFromTail κ p1) : Met l yX2_liveFromTail wsX2_liveFromTail ({ frames := 3, cells := 0, slots := 0, locals := 65 }) (va_Pc [.ref (h 0), .int p1] (pW (dC, dI) [(cI, .int)] (kW cI h κ) sz)) (va_Qi (fun (r : Int32) (u : Unit) => r = v_X2_liveFromTail κ p1) (qW (dC, dI) (va_A (kW cI h κ) sz) (fun _ => kW cI h κ)) (va_A (kW cI h κ) sz)) 0 0 (va_A (kW cI h κ) sz) := by
  refine Met.ofW (cc := cX2_liveFromTail) (maxL := 5) (ret := (some .int)) (by decide) rfl ?_
  intro p e s m args below meth c s₁ B hml hv
  obtain ⟨rfl, hsz, hP, hK, hD0⟩ := hv
  have hx := B.exec
  have hb := B.bytes
  have hr := B.returns
  have hts := atoms_spec (ws := wsX2_liveFromTail) B.pre
  have hown : s.vm.findClass RX2 = some m.cls := findClass_of_methodNamed B.named
  have hlocks := B.notSynchronized
  have hinX2 : ∀ w ∈ wsX20, w ∈ wsX2_liveFromTail := by decide +kernel
  have hf37 := hts (.fieldLink RX2 37 "Keysapart" "tailAt" "I") (by decide +kernel)
  subst hsz
  have hD := hD0.self (sz := s.heap.size)
  generalize hAe : va_A (kW cI h κ) s.heap.size = A at hD ⊢
  have hA : ∀ q : Nat, s.heap.size ≤ q → A q := fun q h => by rw [← hAe]; exact Or.inr h
  have hl := lv_entry ([.ref (h 0), .int p1]) (n := 5) (Nat.le_of_ble_eq_true rfl)
  rw [lg_entry_eq]
  generalize (lg_sl ([.ref (h 0), .int p1]) ++ List.replicate (5 - (lg_sl ([.ref (h 0), .int p1])).length) Slot.unset).toArray = ls at hl ⊢
  have hl : lv_has ls 5 [(0, .ref (h 0)), (1, .int p1)] := hl
  generalize hHe : s.heap = H at hP ⊢
  generalize hLe : ([] : List Loc) = locs
  have hS : va_S A s.heap H locs := by
    rw [← hLe, ← hHe]
    exact va_S.rf
  unfold s_X2_liveFromTail at hs
  have hV := v_X2_liveFromTail_e κ p1
  refine lv_aload_n hx hb dX2_liveFromTail_0 rfl (lv_at hl 0 rfl) ?_
  refine va_get (D := (dC, dI)) (ci := 2) (v := .int (kTl κ)) (C := RX2) (T := TX2) (N := 10) hx hb hts hinX2 hown hK hP 0 rfl rfl 6 (by decide) hf37 (fun _ h9 => h9) rfl dX2_liveFromTail_1 ?_
  refine lv_iload_n hx hb dX2_liveFromTail_4 rfl (lv_at hl 1 rfl) ?_
  refine lv_iadd hx hb dX2_liveFromTail_5 ?_
  refine lv_istore_n (lv' := [(2, .int ((kTl κ) + p1)), (0, .ref (h 0)), (1, .int p1)]) hx hb dX2_liveFromTail_6 rfl hl (by decide) rfl (fun ls hl => ?_)
  refine lv_iconst (v := 0) hx hb dX2_liveFromTail_7 (by decide) ?_
  refine lv_istore_n (lv' := [(3, .int 0), (2, .int ((kTl κ) + p1)), (0, .ref (h 0)), (1, .int p1)]) hx hb dX2_liveFromTail_8 rfl hl (by decide) rfl (fun ls hl => ?_)
  refine lv_aload_n hx hb dX2_liveFromTail_9 rfl (lv_at hl 2 rfl) ?_
  refine va_get (D := (dC, dI)) (ci := 2) (v := .int (kTl κ)) (C := RX2) (T := TX2) (N := 10) hx hb hts hinX2 hown hK hP 0 rfl rfl 6 (by decide) hf37 (fun _ h9 => h9) rfl dX2_liveFromTail_10 ?_
  refine lv_istore (lv' := [(4, .int (kTl κ)), (3, .int 0), (2, .int ((kTl κ) + p1)), (0, .ref (h 0)), (1, .int p1)]) hx hb dX2_liveFromTail_13 hl (by decide) rfl (fun ls hl => ?_)
  have o_l15 : sl_X2_liveFromTail_15 κ ((kTl κ) + p1) p1 100 0 (kTl κ) := hs.1
  have hs := hs.2
  have loop_15 : ∀ (n : Nat) (x3_15 : Int32) (x4_15 : Int32) (H : Heap) (locs : List Loc) (ls : Array Slot) (hs : sl_X2_liveFromTail_15 κ ((kTl κ) + p1) p1 n x3_15 x4_15) (K : ∀ (z : Int32 × Int32) (hw : z = l_X2_liveFromTail_15 κ ((kTl κ) + p1) p1 n x3_15 x4_15) (H : Heap) (locs : List Loc) (ls : Array Slot), va_P (dC, dI) vwCl (kW cI h κ) H → va_D A (kW cI h κ) → va_S A s.heap H locs → lv_has ls 5 [(3, .int z.1), (4, .int z.2), (0, .ref (h 0)), (2, .int ((kTl κ) + p1)), (1, .int p1)] → W p l e (headSpec wsX2_liveFromTail ({ frames := 3, cells := 0, slots := 0, locals := 65 })).room s m [.ref (h 0), .int p1].toArray below meth c H locs 0 0 (MQ below (va_Qi (fun (r : Int32) (u : Unit) => r = v_X2_liveFromTail κ p1) (qW (dC, dI) A (fun _ => kW cI h κ)) A) [.ref (h 0), .int p1].toArray s 0 0 A) (F0 m 39 ls [])) (hP : va_P (dC, dI) vwCl (kW cI h κ) H) (hD : va_D A (kW cI h κ)) (hS : va_S A s.heap H locs) (hl : lv_has ls 5 [(3, .int x3_15), (4, .int x4_15), (0, .ref (h 0)), (2, .int ((kTl κ) + p1)), (1, .int p1)]), W p l e (headSpec wsX2_liveFromTail ({ frames := 3, cells := 0, slots := 0, locals := 65 })).room s m [.ref (h 0), .int p1].toArray below meth c H locs 0 0 (MQ below (va_Qi (fun (r : Int32) (u : Unit) => r = v_X2_liveFromTail κ p1) (qW (dC, dI) A (fun _ => kW cI h κ)) A) [.ref (h 0), .int p1].toArray s 0 0 A) (F0 m 15 ls []) := by
    intro n
    induction n with
    | zero => intro x3_15 x4_15 H locs ls hs; exact False.elim hs
    | succ n ih =>
      intro x3_15 x4_15 H locs ls hs K hP hD hS hl
      rw [sl_X2_liveFromTail_15_s] at hs
      rw [l_X2_liveFromTail_15_s] at K
      refine lv_iload hx hb dX2_liveFromTail_15 (lv_at hl 1 rfl) ?_
      refine lv_iload_n hx hb dX2_liveFromTail_17 rfl (lv_at hl 3 rfl) ?_
      refine lv_icmp_ge (tgt := 39) hx hb dX2_liveFromTail_18 (by decide) (fun c_18 => ?_) (fun c_18 => ?_)
      · skip
        have hs := hs.1 c_18
        rw [if_pos c_18] at K
        exact K _ rfl H locs ls hP hD hS (lv_sub hl [0, 1, 2, 3, 4] rfl)
      · skip
        have hs := hs.2 c_18
        rw [if_neg c_18] at K
        refine lv_aload_n hx hb dX2_liveFromTail_21 rfl (lv_at hl 2 rfl) ?_
        refine lv_iload hx hb dX2_liveFromTail_22 (lv_at hl 1 rfl) ?_
        have o_24 : s_X2_isLive κ x4_15 := hs.1
        have hs := hs.2
        have hPc := hP.sub (ws' := kW cI h κ) [0, 1, 2, 3, 4, 5, 6, 7, 8, 9] rfl
        have hDc := hD.sub (ws' := kW cI h κ) [0, 1, 2, 3, 4, 5, 6, 7, 8, 9] (by decide) rfl
        refine rcI (W2 := fun _ => kW cI h κ) (va_runV (As := [.int x4_15]) (rest := []) ⟨hx, hb, hml, hown, hts⟩ (c_X2_isLive l dC dI cI h H.size κ x4_15 o_24) (cwV 1 hts gX2_liveFromTail_X2_isLive rfl rfl rfl (by decide +kernel) ⟨Nat.le_of_ble_eq_true rfl, Nat.le_of_ble_eq_true rfl⟩) (pW_V hPc hK hDc (ci := 2) (q0 := 0) rfl rfl) rfl rfl hl.1 rfl (lv_room (Nat.le_of_ble_eq_true rfl)) dX2_liveFromTail_24 ⟨Nat.le_of_ble_eq_true rfl, Nat.le_of_ble_eq_true rfl⟩) hP hD hS hA [0, 1, 2, 3, 4, 5, 6, 7, 8, 9] [] [0, 1, 2, 3, 4, 5, 6, 7, 8, 9] rfl rfl (by decide) (fun _ => rfl) (fun r_24 u_24 H locs hw hP hD hS => ?_)
        obtain ⟨hw, hz_24⟩ := hw
        try rw [← hw] at K
        try rw [← hw] at hs
        suffices J_27 : ∀ (H : Heap) (locs : List Loc) (ls : Array Slot), va_P (dC, dI) vwCl (kW cI h κ) H → va_D A (kW cI h κ) → va_S A s.heap H locs → lv_has ls 5 [(3, .int (if r_24 = 0 then x3_15 else (x3_15 + 1) : Int32)), (4, .int x4_15), (0, .ref (h 0)), (2, .int ((kTl κ) + p1)), (1, .int p1)] → W p l e (headSpec wsX2_liveFromTail ({ frames := 3, cells := 0, slots := 0, locals := 65 })).room s m [.ref (h 0), .int p1].toArray below meth c H locs 0 0 (MQ below (va_Qi (fun (r : Int32) (u : Unit) => r = v_X2_liveFromTail κ p1) (qW (dC, dI) A (fun _ => kW cI h κ)) A) [.ref (h 0), .int p1].toArray s 0 0 A) (F0 m 33 ls []) by
          refine lv_if_eq (tgt := 33) hx hb dX2_liveFromTail_27 (by decide) (fun c_27 => ?_) (fun c_27 => ?_)
          · skip
            rw [if_pos c_27] at J_27
            exact J_27 H locs ls hP hD hS (lv_sub hl [0, 1, 2, 3, 4] rfl)
          · skip
            rw [if_neg c_27] at J_27
            refine lv_iinc (v := x3_15 + 1) (lv' := [(3, .int (x3_15 + 1)), (4, .int x4_15), (0, .ref (h 0)), (2, .int ((kTl κ) + p1)), (1, .int p1)]) hx hb dX2_liveFromTail_30 hl (k := 0) rfl rfl (by decide) rfl (fun ls hl => ?_)
            exact J_27 H locs ls hP hD hS (lv_sub hl [0, 1, 2, 3, 4] rfl)
        intro H locs ls hP hD hS hl
        refine lv_iinc (v := x4_15 + 1) (lv' := [(4, .int (x4_15 + 1)), (3, .int (if r_24 = 0 then x3_15 else (x3_15 + 1) : Int32)), (0, .ref (h 0)), (2, .int ((kTl κ) + p1)), (1, .int p1)]) hx hb dX2_liveFromTail_33 hl (k := 1) rfl rfl (by decide) rfl (fun ls hl => ?_)
        refine lv_goto (tgt := 15) hx hb dX2_liveFromTail_36 (by decide) ?_
        exact ih (if r_24 = 0 then x3_15 else (x3_15 + 1) : Int32) (x4_15 + 1) H locs ls hs K hP hD hS (lv_sub hl [1, 0, 2, 3, 4] rfl)
  refine loop_15 100 0 (kTl κ) H locs ls o_l15 (fun z_15 hw H locs ls hP hD hS hl => ?_) hP hD hS (lv_sub hl [1, 0, 3, 2, 4] rfl)
  try rw [← hw] at hV
  refine lv_iload_n hx hb dX2_liveFromTail_39 rfl (lv_at hl 0 rfl) ?_
  exact rI (w := fun _ => kW cI h κ) (()) hx hb hr hlocks hP hD hS (Nat.le_of_ble_eq_true rfl) (Nat.le_of_ble_eq_true rfl) dX2_liveFromTail_40 (by rw [hV] <;> rfl)
def v_X2_follow_i (κ : KS) (p2 : Int32) : KS := kSIx κ (v_X0_point (kIx κ) (v_X1_keyAt (kLk κ, kLv κ) p2) (if (if (v_X1_valueAt (kLk κ, kLv κ) p2) = (-1) then 1 else 0 : Int32) = 0 then p2 else (-1) : Int32))
theorem v_X2_follow_i_e (κ : KS) (p2 : Int32) : v_X2_follow_i κ p2 = kSIx κ (v_X0_point (kIx κ) (v_X1_keyAt (kLk κ, kLv κ) p2) (if (if (v_X1_valueAt (kLk κ, kLv κ) p2) = (-1) then 1 else 0 : Int32) = 0 then p2 else (-1) : Int32)) := rfl
def s_X2_follow_i (κ : KS) (p2 : Int32) : Prop := (s_X1_valueAt (kLk κ, kLv κ) p2 ∧ (s_X1_keyAt (kLk κ, kLv κ) p2 ∧ True))
set_option maxHeartbeats 1000000 in
set_option maxRecDepth 100000 in
theorem c_X2_follow_i (l : Launch) (dC : Nat → ClassId) (dI : Nat → Nat → Nat) (cI : ClassId) (h : Nat → Nat) (sz : Nat) (κ : KS) (p2 : Int32) (hs : s_X2_follow_i κ p2) : Met l yX2_follow wsX2_follow ({ frames := 2, cells := 0, slots := 0, locals := 44 }) (va_Pc [.ref (h 0), .ref (h 2), .int p2] (pW (dC, dI) [(cI, .int)] (kW cI h κ) sz)) (va_Qv (fun (u : KS) => u = v_X2_follow_i κ p2) (qW (dC, dI) (va_A (kW cI h κ) sz) (fun u => kW cI h u)) (va_A (kW cI h κ) sz)) 0 0 (va_A (kW cI h κ) sz) := by
  refine Met.ofW (cc := cX2_follow) (maxL := 4) (ret := none) (by decide) rfl ?_
  intro p e s m args below meth c s₁ B hml hv
  obtain ⟨rfl, hsz, hP, hK, hD0⟩ := hv
  have hx := B.exec
  have hb := B.bytes
  have hr := B.returns
  have hts := atoms_spec (ws := wsX2_follow) B.pre
  have hown : s.vm.findClass RX2 = some m.cls := findClass_of_methodNamed B.named
  have hlocks := B.notSynchronized
  have hinX2 : ∀ w ∈ wsX20, w ∈ wsX2_follow := by decide +kernel
  have hf12 := hts (.fieldLink RX2 12 "Keysapart" "log" "LKeysapart$Log;") (by decide +kernel)
  subst hsz
  have hD := hD0.self (sz := s.heap.size)
  generalize hAe : va_A (kW cI h κ) s.heap.size = A at hD ⊢
  have hA : ∀ q : Nat, s.heap.size ≤ q → A q := fun q h => by rw [← hAe]; exact Or.inr h
  have hl := lv_entry ([.ref (h 0), .ref (h 2), .int p2]) (n := 4) (Nat.le_of_ble_eq_true rfl)
  rw [lg_entry_eq]
  generalize (lg_sl ([.ref (h 0), .ref (h 2), .int p2]) ++ List.replicate (4 - (lg_sl ([.ref (h 0), .ref (h 2), .int p2])).length) Slot.unset).toArray = ls at hl ⊢
  have hl : lv_has ls 4 [(0, .ref (h 0)), (1, .ref (h 2)), (2, .int p2)] := hl
  generalize hHe : s.heap = H at hP ⊢
  generalize hLe : ([] : List Loc) = locs
  have hS : va_S A s.heap H locs := by
    rw [← hLe, ← hHe]
    exact va_S.rf
  unfold s_X2_follow_i at hs
  have hV := v_X2_follow_i_e κ p2
  refine lv_aload_n hx hb dX2_follow_0 rfl (lv_at hl 0 rfl) ?_
  refine va_get (D := (dC, dI)) (ci := 2) (v := .ref (h 1)) (C := RX2) (T := TX2) (N := 10) hx hb hts hinX2 hown hK hP 0 rfl rfl 0 (by decide) hf12 (fun _ h9 => h9) rfl dX2_follow_1 ?_
  refine lv_iload_n hx hb dX2_follow_4 rfl (lv_at hl 2 rfl) ?_
  have o_5 : s_X1_valueAt (kLk κ, kLv κ) p2 := hs.1
  have hs := hs.2
  have hPc := hP.sub (ws' := gW cI (h 1) (h 5) (h 6) (kLk κ, kLv κ)) [1, 5, 6] rfl
  have hDc := hD.sub (ws' := gW cI (h 1) (h 5) (h 6) (kLk κ, kLv κ)) [1, 5, 6] (by decide) rfl
  refine rcI (W2 := fun _ => kW cI h κ) (va_runV (As := [.int p2]) (rest := []) ⟨hx, hb, hml, hown, hts⟩ (c_X1_valueAt l dC dI cI (h 1) (h 5) (h 6) H.size (kLk κ, kLv κ) p2 o_5) (cwV 1 hts gX2_follow_X1_valueAt rfl rfl rfl (by decide +kernel) ⟨Nat.le_of_ble_eq_true rfl, Nat.le_of_ble_eq_true rfl⟩) (pW_V hPc hK hDc (ci := 1) (q0 := 0) rfl rfl) rfl rfl hl.1 rfl (lv_room (Nat.le_of_ble_eq_true rfl)) dX2_follow_5 ⟨Nat.le_of_ble_eq_true rfl, Nat.le_of_ble_eq_true rfl⟩) hP hD hS hA [1, 5, 6] [0, 2, 3, 4, 7, 8, 9] [0, 7, 1, 2, 3, 8, 9, 4, 5, 6] rfl rfl (by decide) (fun _ => rfl) (fun r_5 u_5 H locs hw hP hD hS => ?_)
  try rw [← hw] at hV
  try rw [← hw] at hs
  refine lv_iconst (v := (-1)) hx hb dX2_follow_8 (by decide) ?_
  suffices J_9 : W p l e (headSpec wsX2_follow ({ frames := 2, cells := 0, slots := 0, locals := 44 })).room s m [.ref (h 0), .ref (h 2), .int p2].toArray below meth c H locs 0 0 (MQ below (va_Qv (fun (u : KS) => u = v_X2_follow_i κ p2) (qW (dC, dI) A (fun u => kW cI h u)) A) [.ref (h 0), .ref (h 2), .int p2].toArray s 0 0 A) (F0 m 17 ls [.int (if r_5 = (-1) then 1 else 0 : Int32)]) by
    refine lv_icmp_ne (tgt := 16) hx hb dX2_follow_9 (by decide) (fun c_9 => ?_) (fun c_9 => ?_)
    · skip
      rw [if_neg c_9] at J_9
      refine lv_iconst (v := 0) hx hb dX2_follow_16 (by decide) ?_
      exact J_9
    · skip
      rw [if_pos c_9] at J_9
      refine lv_iconst (v := 1) hx hb dX2_follow_12 (by decide) ?_
      refine lv_goto (tgt := 17) hx hb dX2_follow_13 (by decide) ?_
      exact J_9
  refine lv_istore_n (lv' := [(3, .int (if r_5 = (-1) then 1 else 0 : Int32)), (0, .ref (h 0)), (1, .ref (h 2)), (2, .int p2)]) hx hb dX2_follow_17 rfl hl (by decide) rfl (fun ls hl => ?_)
  refine lv_aload_n hx hb dX2_follow_18 rfl (lv_at hl 2 rfl) ?_
  refine lv_aload_n hx hb dX2_follow_19 rfl (lv_at hl 1 rfl) ?_
  refine va_get (D := (dC, dI)) (ci := 2) (v := .ref (h 1)) (C := RX2) (T := TX2) (N := 10) hx hb hts hinX2 hown hK hP 0 rfl rfl 0 (by decide) hf12 (fun _ h9 => h9) rfl dX2_follow_20 ?_
  refine lv_iload_n hx hb dX2_follow_23 rfl (lv_at hl 3 rfl) ?_
  have o_24 : s_X1_keyAt (kLk κ, kLv κ) p2 := hs.1
  have hs := hs.2
  have hPc := hP.sub (ws' := gW cI (h 1) (h 5) (h 6) (kLk κ, kLv κ)) [1, 5, 6] rfl
  have hDc := hD.sub (ws' := gW cI (h 1) (h 5) (h 6) (kLk κ, kLv κ)) [1, 5, 6] (by decide) rfl
  refine rcI (W2 := fun _ => kW cI h κ) (va_runV (As := [.int p2]) (rest := [.ref (h 2)]) ⟨hx, hb, hml, hown, hts⟩ (c_X1_keyAt l dC dI cI (h 1) (h 5) (h 6) H.size (kLk κ, kLv κ) p2 o_24) (cwV 1 hts gX2_follow_X1_keyAt rfl rfl rfl (by decide +kernel) ⟨Nat.le_of_ble_eq_true rfl, Nat.le_of_ble_eq_true rfl⟩) (pW_V hPc hK hDc (ci := 1) (q0 := 0) rfl rfl) rfl rfl hl.1 rfl (lv_room (Nat.le_of_ble_eq_true rfl)) dX2_follow_24 ⟨Nat.le_of_ble_eq_true rfl, Nat.le_of_ble_eq_true rfl⟩) hP hD hS hA [1, 5, 6] [0, 2, 3, 4, 7, 8, 9] [0, 7, 1, 2, 3, 8, 9, 4, 5, 6] rfl rfl (by decide) (fun _ => rfl) (fun r_24 u_24 H locs hw hP hD hS => ?_)
  try rw [← hw] at hV
  refine lv_iload_n hx hb dX2_follow_27 rfl (lv_at hl 0 rfl) ?_
  suffices J_28 : W p l e (headSpec wsX2_follow ({ frames := 2, cells := 0, slots := 0, locals := 44 })).room s m [.ref (h 0), .ref (h 2), .int p2].toArray below meth c H locs 0 0 (MQ below (va_Qv (fun (u : KS) => u = v_X2_follow_i κ p2) (qW (dC, dI) A (fun u => kW cI h u)) A) [.ref (h 0), .ref (h 2), .int p2].toArray s 0 0 A) (F0 m 36 ls [.int (if (if r_5 = (-1) then 1 else 0 : Int32) = 0 then p2 else (-1) : Int32), .int r_24, .ref (h 2)]) by
    refine lv_if_eq (tgt := 35) hx hb dX2_follow_28 (by decide) (fun c_28 => ?_) (fun c_28 => ?_)
    · skip
      rw [if_pos c_28] at J_28
      refine lv_iload_n hx hb dX2_follow_35 rfl (lv_at hl 3 rfl) ?_
      exact J_28
    · skip
      rw [if_neg c_28] at J_28
      refine lv_iconst (v := (-1)) hx hb dX2_follow_31 (by decide) ?_
      refine lv_goto (tgt := 36) hx hb dX2_follow_32 (by decide) ?_
      exact J_28
  have hPc := hP.sub (ws' := iW cI (h 2) (h 7) (kIx κ)) [2, 7] rfl
  have hDc := hD.sub (ws' := iW cI (h 2) (h 7) (kIx κ)) [2, 7] (by decide) rfl
  refine rcV (W2 := fun u => kW cI h (kSIx κ u)) (va_runV (As := [.int r_24, .int (if (if r_5 = (-1) then 1 else 0 : Int32) = 0 then p2 else (-1) : Int32)]) (rest := []) ⟨hx, hb, hml, hown, hts⟩ (c_X0_point l dC dI cI (h 2) (h 7) H.size (kIx κ) r_24 (if (if r_5 = (-1) then 1 else 0 : Int32) = 0 then p2 else (-1) : Int32)) (cwV 2 hts gX2_follow_X0_point rfl rfl rfl (by decide +kernel) ⟨Nat.le_of_ble_eq_true rfl, Nat.le_of_ble_eq_true rfl⟩) (pW_V hPc hK hDc (ci := 0) (q0 := 0) rfl rfl) rfl rfl hl.1 rfl (lv_room (Nat.le_of_ble_eq_true rfl)) dX2_follow_36 ⟨Nat.le_of_ble_eq_true rfl, Nat.le_of_ble_eq_true rfl⟩) hP hD hS hA [2, 7] [0, 1, 3, 4, 5, 6, 8, 9] [0, 1, 8, 2, 3, 4, 5, 9, 6, 7] rfl rfl (by decide) (fun _ => rfl) (fun u_36 H locs hw hP hD hS => ?_)
  try rw [← hw] at hV
  exact rV (w := fun u => kW cI h u) (kSIx κ u_36) hx hb hr hlocks hP hD hS (Nat.le_of_ble_eq_true rfl) (Nat.le_of_ble_eq_true rfl) dX2_follow_39 (by rw [hV] <;> rfl)
def v_X2_follow_t (κ : KS) (p2 : Int32) : KS := kSTr κ (v_X0_point (kTr κ) (v_X1_keyAt (kLk κ, kLv κ) p2) (if (if (v_X1_valueAt (kLk κ, kLv κ) p2) = (-1) then 1 else 0 : Int32) = 0 then p2 else (-1) : Int32))
theorem v_X2_follow_t_e (κ : KS) (p2 : Int32) : v_X2_follow_t κ p2 = kSTr κ (v_X0_point (kTr κ) (v_X1_keyAt (kLk κ, kLv κ) p2) (if (if (v_X1_valueAt (kLk κ, kLv κ) p2) = (-1) then 1 else 0 : Int32) = 0 then p2 else (-1) : Int32)) := rfl
def s_X2_follow_t (κ : KS) (p2 : Int32) : Prop := (s_X1_valueAt (kLk κ, kLv κ) p2 ∧ (s_X1_keyAt (kLk κ, kLv κ) p2 ∧ True))
set_option maxHeartbeats 1000000 in
set_option maxRecDepth 100000 in
theorem c_X2_follow_t (l : Launch) (dC : Nat → ClassId) (dI : Nat → Nat → Nat) (cI : ClassId) (h : Nat → Nat) (sz : Nat) (κ : KS) (p2 : Int32) (hs : s_X2_follow_t κ p2) : Met l yX2_follow wsX2_follow ({ frames := 2, cells := 0, slots := 0, locals := 44 }) (va_Pc [.ref (h 0), .ref (h 4), .int p2] (pW (dC, dI) [(cI, .int)] (kW cI h κ) sz)) (va_Qv (fun (u : KS) => u = v_X2_follow_t κ p2) (qW (dC, dI) (va_A (kW cI h κ) sz) (fun u => kW cI h u)) (va_A (kW cI h κ) sz)) 0 0 (va_A (kW cI h κ) sz) := by
  refine Met.ofW (cc := cX2_follow) (maxL := 4) (ret := none) (by decide) rfl ?_
  intro p e s m args below meth c s₁ B hml hv
  obtain ⟨rfl, hsz, hP, hK, hD0⟩ := hv
  have hx := B.exec
  have hb := B.bytes
  have hr := B.returns
  have hts := atoms_spec (ws := wsX2_follow) B.pre
  have hown : s.vm.findClass RX2 = some m.cls := findClass_of_methodNamed B.named
  have hlocks := B.notSynchronized
  have hinX2 : ∀ w ∈ wsX20, w ∈ wsX2_follow := by decide +kernel
  have hf12 := hts (.fieldLink RX2 12 "Keysapart" "log" "LKeysapart$Log;") (by decide +kernel)
  subst hsz
  have hD := hD0.self (sz := s.heap.size)
  generalize hAe : va_A (kW cI h κ) s.heap.size = A at hD ⊢
  have hA : ∀ q : Nat, s.heap.size ≤ q → A q := fun q h => by rw [← hAe]; exact Or.inr h
  have hl := lv_entry ([.ref (h 0), .ref (h 4), .int p2]) (n := 4) (Nat.le_of_ble_eq_true rfl)
  rw [lg_entry_eq]
  generalize (lg_sl ([.ref (h 0), .ref (h 4), .int p2]) ++ List.replicate (4 - (lg_sl ([.ref (h 0), .ref (h 4), .int p2])).length) Slot.unset).toArray = ls at hl ⊢
  have hl : lv_has ls 4 [(0, .ref (h 0)), (1, .ref (h 4)), (2, .int p2)] := hl
  generalize hHe : s.heap = H at hP ⊢
  generalize hLe : ([] : List Loc) = locs
  have hS : va_S A s.heap H locs := by
    rw [← hLe, ← hHe]
    exact va_S.rf
  unfold s_X2_follow_t at hs
  have hV := v_X2_follow_t_e κ p2
  refine lv_aload_n hx hb dX2_follow_0 rfl (lv_at hl 0 rfl) ?_
  refine va_get (D := (dC, dI)) (ci := 2) (v := .ref (h 1)) (C := RX2) (T := TX2) (N := 10) hx hb hts hinX2 hown hK hP 0 rfl rfl 0 (by decide) hf12 (fun _ h9 => h9) rfl dX2_follow_1 ?_
  refine lv_iload_n hx hb dX2_follow_4 rfl (lv_at hl 2 rfl) ?_
  have o_5 : s_X1_valueAt (kLk κ, kLv κ) p2 := hs.1
  have hs := hs.2
  have hPc := hP.sub (ws' := gW cI (h 1) (h 5) (h 6) (kLk κ, kLv κ)) [1, 5, 6] rfl
  have hDc := hD.sub (ws' := gW cI (h 1) (h 5) (h 6) (kLk κ, kLv κ)) [1, 5, 6] (by decide) rfl
  refine rcI (W2 := fun _ => kW cI h κ) (va_runV (As := [.int p2]) (rest := []) ⟨hx, hb, hml, hown, hts⟩ (c_X1_valueAt l dC dI cI (h 1) (h 5) (h 6) H.size (kLk κ, kLv κ) p2 o_5) (cwV 1 hts gX2_follow_X1_valueAt rfl rfl rfl (by decide +kernel) ⟨Nat.le_of_ble_eq_true rfl, Nat.le_of_ble_eq_true rfl⟩) (pW_V hPc hK hDc (ci := 1) (q0 := 0) rfl rfl) rfl rfl hl.1 rfl (lv_room (Nat.le_of_ble_eq_true rfl)) dX2_follow_5 ⟨Nat.le_of_ble_eq_true rfl, Nat.le_of_ble_eq_true rfl⟩) hP hD hS hA [1, 5, 6] [0, 2, 3, 4, 7, 8, 9] [0, 7, 1, 2, 3, 8, 9, 4, 5, 6] rfl rfl (by decide) (fun _ => rfl) (fun r_5 u_5 H locs hw hP hD hS => ?_)
  try rw [← hw] at hV
  try rw [← hw] at hs
  refine lv_iconst (v := (-1)) hx hb dX2_follow_8 (by decide) ?_
  suffices J_9 : W p l e (headSpec wsX2_follow ({ frames := 2, cells := 0, slots := 0, locals := 44 })).room s m [.ref (h 0), .ref (h 4), .int p2].toArray below meth c H locs 0 0 (MQ below (va_Qv (fun (u : KS) => u = v_X2_follow_t κ p2) (qW (dC, dI) A (fun u => kW cI h u)) A) [.ref (h 0), .ref (h 4), .int p2].toArray s 0 0 A) (F0 m 17 ls [.int (if r_5 = (-1) then 1 else 0 : Int32)]) by
    refine lv_icmp_ne (tgt := 16) hx hb dX2_follow_9 (by decide) (fun c_9 => ?_) (fun c_9 => ?_)
    · skip
      rw [if_neg c_9] at J_9
      refine lv_iconst (v := 0) hx hb dX2_follow_16 (by decide) ?_
      exact J_9
    · skip
      rw [if_pos c_9] at J_9
      refine lv_iconst (v := 1) hx hb dX2_follow_12 (by decide) ?_
      refine lv_goto (tgt := 17) hx hb dX2_follow_13 (by decide) ?_
      exact J_9
  refine lv_istore_n (lv' := [(3, .int (if r_5 = (-1) then 1 else 0 : Int32)), (0, .ref (h 0)), (1, .ref (h 4)), (2, .int p2)]) hx hb dX2_follow_17 rfl hl (by decide) rfl (fun ls hl => ?_)
  refine lv_aload_n hx hb dX2_follow_18 rfl (lv_at hl 2 rfl) ?_
  refine lv_aload_n hx hb dX2_follow_19 rfl (lv_at hl 1 rfl) ?_
  refine va_get (D := (dC, dI)) (ci := 2) (v := .ref (h 1)) (C := RX2) (T := TX2) (N := 10) hx hb hts hinX2 hown hK hP 0 rfl rfl 0 (by decide) hf12 (fun _ h9 => h9) rfl dX2_follow_20 ?_
  refine lv_iload_n hx hb dX2_follow_23 rfl (lv_at hl 3 rfl) ?_
  have o_24 : s_X1_keyAt (kLk κ, kLv κ) p2 := hs.1
  have hs := hs.2
  have hPc := hP.sub (ws' := gW cI (h 1) (h 5) (h 6) (kLk κ, kLv κ)) [1, 5, 6] rfl
  have hDc := hD.sub (ws' := gW cI (h 1) (h 5) (h 6) (kLk κ, kLv κ)) [1, 5, 6] (by decide) rfl
  refine rcI (W2 := fun _ => kW cI h κ) (va_runV (As := [.int p2]) (rest := [.ref (h 4)]) ⟨hx, hb, hml, hown, hts⟩ (c_X1_keyAt l dC dI cI (h 1) (h 5) (h 6) H.size (kLk κ, kLv κ) p2 o_24) (cwV 1 hts gX2_follow_X1_keyAt rfl rfl rfl (by decide +kernel) ⟨Nat.le_of_ble_eq_true rfl, Nat.le_of_ble_eq_true rfl⟩) (pW_V hPc hK hDc (ci := 1) (q0 := 0) rfl rfl) rfl rfl hl.1 rfl (lv_room (Nat.le_of_ble_eq_true rfl)) dX2_follow_24 ⟨Nat.le_of_ble_eq_true rfl, Nat.le_of_ble_eq_true rfl⟩) hP hD hS hA [1, 5, 6] [0, 2, 3, 4, 7, 8, 9] [0, 7, 1, 2, 3, 8, 9, 4, 5, 6] rfl rfl (by decide) (fun _ => rfl) (fun r_24 u_24 H locs hw hP hD hS => ?_)
  try rw [← hw] at hV
  refine lv_iload_n hx hb dX2_follow_27 rfl (lv_at hl 0 rfl) ?_
  suffices J_28 : W p l e (headSpec wsX2_follow ({ frames := 2, cells := 0, slots := 0, locals := 44 })).room s m [.ref (h 0), .ref (h 4), .int p2].toArray below meth c H locs 0 0 (MQ below (va_Qv (fun (u : KS) => u = v_X2_follow_t κ p2) (qW (dC, dI) A (fun u => kW cI h u)) A) [.ref (h 0), .ref (h 4), .int p2].toArray s 0 0 A) (F0 m 36 ls [.int (if (if r_5 = (-1) then 1 else 0 : Int32) = 0 then p2 else (-1) : Int32), .int r_24, .ref (h 4)]) by
    refine lv_if_eq (tgt := 35) hx hb dX2_follow_28 (by decide) (fun c_28 => ?_) (fun c_28 => ?_)
    · skip
      rw [if_pos c_28] at J_28
      refine lv_iload_n hx hb dX2_follow_35 rfl (lv_at hl 3 rfl) ?_
      exact J_28
    · skip
      rw [if_neg c_28] at J_28
      refine lv_iconst (v := (-1)) hx hb dX2_follow_31 (by decide) ?_
      refine lv_goto (tgt := 36) hx hb dX2_follow_32 (by decide) ?_
      exact J_28
  have hPc := hP.sub (ws' := iW cI (h 4) (h 9) (kTr κ)) [4, 9] rfl
  have hDc := hD.sub (ws' := iW cI (h 4) (h 9) (kTr κ)) [4, 9] (by decide) rfl
  refine rcV (W2 := fun u => kW cI h (kSTr κ u)) (va_runV (As := [.int r_24, .int (if (if r_5 = (-1) then 1 else 0 : Int32) = 0 then p2 else (-1) : Int32)]) (rest := []) ⟨hx, hb, hml, hown, hts⟩ (c_X0_point l dC dI cI (h 4) (h 9) H.size (kTr κ) r_24 (if (if r_5 = (-1) then 1 else 0 : Int32) = 0 then p2 else (-1) : Int32)) (cwV 2 hts gX2_follow_X0_point rfl rfl rfl (by decide +kernel) ⟨Nat.le_of_ble_eq_true rfl, Nat.le_of_ble_eq_true rfl⟩) (pW_V hPc hK hDc (ci := 0) (q0 := 0) rfl rfl) rfl rfl hl.1 rfl (lv_room (Nat.le_of_ble_eq_true rfl)) dX2_follow_36 ⟨Nat.le_of_ble_eq_true rfl, Nat.le_of_ble_eq_true rfl⟩) hP hD hS hA [4, 9] [0, 1, 2, 3, 5, 6, 7, 8] [0, 1, 2, 3, 8, 4, 5, 6, 7, 9] rfl rfl (by decide) (fun _ => rfl) (fun u_36 H locs hw hP hD hS => ?_)
  try rw [← hw] at hV
  exact rV (w := fun u => kW cI h u) (kSTr κ u_36) hx hb hr hlocks hP hD hS (Nat.le_of_ble_eq_true rfl) (Nat.le_of_ble_eq_true rfl) dX2_follow_39 (by rw [hV] <;> rfl)
def v_X2_losePower (κ : KS) : KS := kSUp (kSHd κ (kWr κ)) 0
theorem v_X2_losePower_e (κ : KS) : v_X2_losePower κ = kSUp (kSHd κ (kWr κ)) 0 := rfl
set_option maxHeartbeats 1000000 in
set_option maxRecDepth 100000 in
theorem c_X2_losePower (l : Launch) (dC : Nat → ClassId) (dI : Nat → Nat → Nat) (cI : ClassId) (h : Nat → Nat) (sz : Nat) (κ : KS) : Met l yX2_losePower wsX2_losePower ({ frames := 0, cells := 0, slots := 0, locals := 0 }) (va_Pc [.ref (h 0)] (pW (dC, dI) [(cI, .int)] (kW cI h κ) sz)) (va_Qv (fun (u : KS) => u = v_X2_losePower κ) (qW (dC, dI) (va_A (kW cI h κ) sz) (fun u => kW cI h u)) (va_A (kW cI h κ) sz)) 0 0 (va_A (kW cI h κ) sz) := by
  refine Met.ofW (cc := cX2_losePower) (maxL := 1) (ret := none) (by decide) rfl ?_
  intro p e s m args below meth c s₁ B hml hv
  obtain ⟨rfl, hsz, hP, hK, hD0⟩ := hv
  have hx := B.exec
  have hb := B.bytes
  have hr := B.returns
  have hts := atoms_spec (ws := wsX2_losePower) B.pre
  have hown : s.vm.findClass RX2 = some m.cls := findClass_of_methodNamed B.named
  have hlocks := B.notSynchronized
  have hinX2 : ∀ w ∈ wsX20, w ∈ wsX2_losePower := by decide +kernel
  have hf29 := hts (.fieldLink RX2 29 "Keysapart" "up" "Z") (by decide +kernel)
  have hf33 := hts (.fieldLink RX2 33 "Keysapart" "headAt" "I") (by decide +kernel)
  have hf40 := hts (.fieldLink RX2 40 "Keysapart" "writtenTo" "I") (by decide +kernel)
  subst hsz
  have hD := hD0.self (sz := s.heap.size)
  generalize hAe : va_A (kW cI h κ) s.heap.size = A at hD ⊢
  have hA : ∀ q : Nat, s.heap.size ≤ q → A q := fun q h => by rw [← hAe]; exact Or.inr h
  have hl := lv_entry ([.ref (h 0)]) (n := 1) (Nat.le_of_ble_eq_true rfl)
  rw [lg_entry_eq]
  generalize (lg_sl ([.ref (h 0)]) ++ List.replicate (1 - (lg_sl ([.ref (h 0)])).length) Slot.unset).toArray = ls at hl ⊢
  have hl : lv_has ls 1 [(0, .ref (h 0))] := hl
  generalize hHe : s.heap = H at hP ⊢
  generalize hLe : ([] : List Loc) = locs
  have hS : va_S A s.heap H locs := by
    rw [← hLe, ← hHe]
    exact va_S.rf
  have hV := v_X2_losePower_e κ
  refine lv_aload_n hx hb dX2_losePower_0 rfl (lv_at hl 0 rfl) ?_
  refine lv_aload_n hx hb dX2_losePower_1 rfl (lv_at hl 0 rfl) ?_
  refine va_get (D := (dC, dI)) (ci := 2) (v := .int (kWr κ)) (C := RX2) (T := TX2) (N := 10) hx hb hts hinX2 hown hK hP 0 rfl rfl 7 (by decide) hf40 (fun _ h9 => h9) rfl dX2_losePower_2 ?_
  refine va_put (D := (dC, dI)) (ci := 2) (v := .int (kWr κ)) (ty := .int) (C := RX2) (T := TX2) (N := 10) hx hb hts hinX2 tyX2 tyX2_ok nmX2 hown hK hP hD hS 0 rfl rfl 5 (by decide) hf33 (fun _ h9 => h9) rfl (by decide +kernel) rfl rfl (Nat.le_of_ble_eq_true rfl) dX2_losePower_5 (fun H locs hP hD hS => ?_)
  have hP : va_P (dC, dI) vwCl (kW cI h (kSHd κ (kWr κ))) H := hP
  have hD : va_D A (kW cI h (kSHd κ (kWr κ))) := hD
  refine lv_aload_n hx hb dX2_losePower_8 rfl (lv_at hl 0 rfl) ?_
  refine lv_iconst (v := 0) hx hb dX2_losePower_9 (by decide) ?_
  refine va_put (D := (dC, dI)) (ci := 2) (v := .int 0) (ty := .boolean) (C := RX2) (T := TX2) (N := 10) hx hb hts hinX2 tyX2 tyX2_ok nmX2 hown hK hP hD hS 0 rfl rfl 4 (by decide) hf29 (fun _ h9 => h9) rfl (by decide +kernel) rfl rfl (Nat.le_of_ble_eq_true rfl) dX2_losePower_10 (fun H locs hP hD hS => ?_)
  have hP : va_P (dC, dI) vwCl (kW cI h (kSUp (kSHd κ (kWr κ)) 0)) H := hP
  have hD : va_D A (kW cI h (kSUp (kSHd κ (kWr κ)) 0)) := hD
  exact rV (w := fun u => kW cI h u) (kSUp (kSHd κ (kWr κ)) 0) hx hb hr hlocks hP hD hS (Nat.le_of_ble_eq_true rfl) (Nat.le_of_ble_eq_true rfl) dX2_losePower_13 (by rw [hV] <;> rfl)
def v_X2_writeOnce (κ : KS) : Int32 × KS := if (kAh κ) = 0 then (0, (v_X2_losePower (kSAh κ (-1)))) else if (kAh κ) ≤ 0 then (1, κ) else (1, kSAh κ ((kAh κ) - 1))
theorem v_X2_writeOnce_e (κ : KS) : v_X2_writeOnce κ = if (kAh κ) = 0 then (0, (v_X2_losePower (kSAh κ (-1)))) else if (kAh κ) ≤ 0 then (1, κ) else (1, kSAh κ ((kAh κ) - 1)) := rfl
set_option maxHeartbeats 1000000 in
set_option maxRecDepth 100000 in
theorem c_X2_writeOnce (l : Launch) (dC : Nat → ClassId) (dI : Nat → Nat → Nat) (cI : ClassId) (h : Nat → Nat) (sz : Nat) (κ : KS) : Met l yX2_writeOnce wsX2_writeOnce ({ frames := 1, cells := 0, slots := 0, locals := 20 }) (va_Pc [.ref (h 0)] (pW (dC, dI) [(cI, .int)] (kW cI h κ) sz)) (va_Qi (fun (r : Int32) (u : KS) => r = (v_X2_writeOnce κ).1 ∧ u = (v_X2_writeOnce κ).2 ∧ bz r) (qW (dC, dI) (va_A (kW cI h κ) sz) (fun u => kW cI h u)) (va_A (kW cI h κ) sz)) 0 0 (va_A (kW cI h κ) sz) := by
  refine Met.ofW (cc := cX2_writeOnce) (maxL := 1) (ret := (some .boolean)) (by decide) rfl ?_
  intro p e s m args below meth c s₁ B hml hv
  obtain ⟨rfl, hsz, hP, hK, hD0⟩ := hv
  have hx := B.exec
  have hb := B.bytes
  have hr := B.returns
  have hts := atoms_spec (ws := wsX2_writeOnce) B.pre
  have hown : s.vm.findClass RX2 = some m.cls := findClass_of_methodNamed B.named
  have hlocks := B.notSynchronized
  have hinX2 : ∀ w ∈ wsX20, w ∈ wsX2_writeOnce := by decide +kernel
  have hf46 := hts (.fieldLink RX2 46 "Keysapart" "writesAhead" "I") (by decide +kernel)
  subst hsz
  have hD := hD0.self (sz := s.heap.size)
  generalize hAe : va_A (kW cI h κ) s.heap.size = A at hD ⊢
  have hA : ∀ q : Nat, s.heap.size ≤ q → A q := fun q h => by rw [← hAe]; exact Or.inr h
  have hl := lv_entry ([.ref (h 0)]) (n := 1) (Nat.le_of_ble_eq_true rfl)
  rw [lg_entry_eq]
  generalize (lg_sl ([.ref (h 0)]) ++ List.replicate (1 - (lg_sl ([.ref (h 0)])).length) Slot.unset).toArray = ls at hl ⊢
  have hl : lv_has ls 1 [(0, .ref (h 0))] := hl
  generalize hHe : s.heap = H at hP ⊢
  generalize hLe : ([] : List Loc) = locs
  have hS : va_S A s.heap H locs := by
    rw [← hLe, ← hHe]
    exact va_S.rf
  have hV := v_X2_writeOnce_e κ
  refine lv_aload_n hx hb dX2_writeOnce_0 rfl (lv_at hl 0 rfl) ?_
  refine va_get (D := (dC, dI)) (ci := 2) (v := .int (kAh κ)) (C := RX2) (T := TX2) (N := 10) hx hb hts hinX2 hown hK hP 0 rfl rfl 9 (by decide) hf46 (fun _ h9 => h9) rfl dX2_writeOnce_1 ?_
  refine lv_if_ne (tgt := 18) hx hb dX2_writeOnce_4 (by decide) (fun c_4 => ?_) (fun c_4 => ?_)
  · skip
    rw [if_neg c_4] at hV
    refine lv_aload_n hx hb dX2_writeOnce_18 rfl (lv_at hl 0 rfl) ?_
    refine va_get (D := (dC, dI)) (ci := 2) (v := .int (kAh κ)) (C := RX2) (T := TX2) (N := 10) hx hb hts hinX2 hown hK hP 0 rfl rfl 9 (by decide) hf46 (fun _ h9 => h9) rfl dX2_writeOnce_19 ?_
    refine lv_if_le (tgt := 35) hx hb dX2_writeOnce_22 (by decide) (fun c_22 => ?_) (fun c_22 => ?_)
    · skip
      rw [if_pos c_22] at hV
      refine lv_iconst (v := 1) hx hb dX2_writeOnce_35 (by decide) ?_
      have hz9 : bz (1) := by first | assumption | (repeat (first | exact bz0 | exact bz1 | assumption | refine bz_ite ?_ ?_))
      exact rZ (w := fun u => kW cI h u) (κ) hx hb hr hlocks hP hD hS (Nat.le_of_ble_eq_true rfl) (Nat.le_of_ble_eq_true rfl) dX2_writeOnce_36 hz9 ⟨by rw [hV] <;> rfl, by rw [hV] <;> rfl, hz9⟩
    · skip
      rw [if_neg c_22] at hV
      refine lv_aload_n hx hb dX2_writeOnce_25 rfl (lv_at hl 0 rfl) ?_
      refine lv_dup hx hb dX2_writeOnce_26 rfl ?_
      refine va_get (D := (dC, dI)) (ci := 2) (v := .int (kAh κ)) (C := RX2) (T := TX2) (N := 10) hx hb hts hinX2 hown hK hP 0 rfl rfl 9 (by decide) hf46 (fun _ h9 => h9) rfl dX2_writeOnce_27 ?_
      refine lv_iconst (v := 1) hx hb dX2_writeOnce_30 (by decide) ?_
      refine lv_isub hx hb dX2_writeOnce_31 ?_
      refine va_put (D := (dC, dI)) (ci := 2) (v := .int ((kAh κ) - 1)) (ty := .int) (C := RX2) (T := TX2) (N := 10) hx hb hts hinX2 tyX2 tyX2_ok nmX2 hown hK hP hD hS 0 rfl rfl 9 (by decide) hf46 (fun _ h9 => h9) rfl (by decide +kernel) rfl rfl (Nat.le_of_ble_eq_true rfl) dX2_writeOnce_32 (fun H locs hP hD hS => ?_)
      have hP : va_P (dC, dI) vwCl (kW cI h (kSAh κ ((kAh κ) - 1))) H := hP
      have hD : va_D A (kW cI h (kSAh κ ((kAh κ) - 1))) := hD
      refine lv_iconst (v := 1) hx hb dX2_writeOnce_35 (by decide) ?_
      have hz9 : bz (1) := by first | assumption | (repeat (first | exact bz0 | exact bz1 | assumption | refine bz_ite ?_ ?_))
      exact rZ (w := fun u => kW cI h u) (kSAh κ ((kAh κ) - 1)) hx hb hr hlocks hP hD hS (Nat.le_of_ble_eq_true rfl) (Nat.le_of_ble_eq_true rfl) dX2_writeOnce_36 hz9 ⟨by rw [hV] <;> rfl, by rw [hV] <;> rfl, hz9⟩
  · skip
    rw [if_pos c_4] at hV
    refine lv_aload_n hx hb dX2_writeOnce_7 rfl (lv_at hl 0 rfl) ?_
    refine lv_iconst (v := (-1)) hx hb dX2_writeOnce_8 (by decide) ?_
    refine va_put (D := (dC, dI)) (ci := 2) (v := .int (-1)) (ty := .int) (C := RX2) (T := TX2) (N := 10) hx hb hts hinX2 tyX2 tyX2_ok nmX2 hown hK hP hD hS 0 rfl rfl 9 (by decide) hf46 (fun _ h9 => h9) rfl (by decide +kernel) rfl rfl (Nat.le_of_ble_eq_true rfl) dX2_writeOnce_9 (fun H locs hP hD hS => ?_)
    have hP : va_P (dC, dI) vwCl (kW cI h (kSAh κ (-1))) H := hP
    have hD : va_D A (kW cI h (kSAh κ (-1))) := hD
    refine lv_aload_n hx hb dX2_writeOnce_12 rfl (lv_at hl 0 rfl) ?_
    have hPc := hP.sub (ws' := kW cI h (kSAh κ (-1))) [0, 1, 2, 3, 4, 5, 6, 7, 8, 9] rfl
    have hDc := hD.sub (ws' := kW cI h (kSAh κ (-1))) [0, 1, 2, 3, 4, 5, 6, 7, 8, 9] (by decide) rfl
    refine rcV (W2 := fun u => kW cI h u) (va_runV (As := []) (rest := []) ⟨hx, hb, hml, hown, hts⟩ (c_X2_losePower l dC dI cI h H.size (kSAh κ (-1))) (cwV 0 hts gX2_writeOnce_X2_losePower rfl rfl rfl (by decide +kernel) ⟨Nat.le_of_ble_eq_true rfl, Nat.le_of_ble_eq_true rfl⟩) (pW_V hPc hK hDc (ci := 2) (q0 := 0) rfl rfl) rfl rfl hl.1 rfl (lv_room (Nat.le_of_ble_eq_true rfl)) dX2_writeOnce_13 ⟨Nat.le_of_ble_eq_true rfl, Nat.le_of_ble_eq_true rfl⟩) hP hD hS hA [0, 1, 2, 3, 4, 5, 6, 7, 8, 9] [] [0, 1, 2, 3, 4, 5, 6, 7, 8, 9] rfl rfl (by decide) (fun _ => rfl) (fun u_13 H locs hw hP hD hS => ?_)
    try rw [← hw] at hV
    refine lv_iconst (v := 0) hx hb dX2_writeOnce_16 (by decide) ?_
    have hz9 : bz (0) := by first | assumption | (repeat (first | exact bz0 | exact bz1 | assumption | refine bz_ite ?_ ?_))
    exact rZ (w := fun u => kW cI h u) (u_13) hx hb hr hlocks hP hD hS (Nat.le_of_ble_eq_true rfl) (Nat.le_of_ble_eq_true rfl) dX2_writeOnce_17 hz9 ⟨by rw [hV] <;> rfl, by rw [hV] <;> rfl, hz9⟩
def l_X2_writeEntries_10 (y1 : Int32) : Nat → KS → Int32 → Int32 × KS
  | 0, κ10, x2_10 => (0, κ10)
  | n + 1, κ10, x2_10 => if y1 ≤ x2_10 then (1, κ10) else if ((v_X2_writeOnce κ10).1) = 0 then (0, ((v_X2_writeOnce κ10).2)) else l_X2_writeEntries_10 y1 n (kSWr ((v_X2_writeOnce κ10).2) (x2_10 + 1)) (x2_10 + 1)
theorem l_X2_writeEntries_10_s (y1 : Int32) (n : Nat) (κ10 : KS) (x2_10 : Int32) : l_X2_writeEntries_10 y1 (n + 1) κ10 x2_10 = if y1 ≤ x2_10 then (1, κ10) else if ((v_X2_writeOnce κ10).1) = 0 then (0, ((v_X2_writeOnce κ10).2)) else l_X2_writeEntries_10 y1 n (kSWr ((v_X2_writeOnce κ10).2) (x2_10 + 1)) (x2_10 + 1) := rfl
def sl_X2_writeEntries_10 (y1 : Int32) : Nat → KS → Int32 → Prop
  | 0, κ10, x2_10 => False
  | n + 1, κ10, x2_10 => ((y1 ≤ x2_10 → True) ∧ (¬ y1 ≤ x2_10 → ((((v_X2_writeOnce κ10).1) = 0 → True) ∧ (¬ ((v_X2_writeOnce κ10).1) = 0 → sl_X2_writeEntries_10 y1 n (kSWr ((v_X2_writeOnce κ10).2) (x2_10 + 1)) (x2_10 + 1)))))
theorem sl_X2_writeEntries_10_s (y1 : Int32) (n : Nat) (κ10 : KS) (x2_10 : Int32) : sl_X2_writeEntries_10 y1 (n + 1) κ10 x2_10 = ((y1 ≤ x2_10 → True) ∧ (¬ y1 ≤ x2_10 → ((((v_X2_writeOnce κ10).1) = 0 → True) ∧ (¬ ((v_X2_writeOnce κ10).1) = 0 → sl_X2_writeEntries_10 y1 n (kSWr ((v_X2_writeOnce κ10).2) (x2_10 + 1)) (x2_10 + 1))))) := rfl
def v_X2_writeEntries (κ : KS) : Int32 × KS := l_X2_writeEntries_10 (kHd κ) 100 κ (kWr κ)
theorem v_X2_writeEntries_e (κ : KS) : v_X2_writeEntries κ = l_X2_writeEntries_10 (kHd κ) 100 κ (kWr κ) := rfl
def s_X2_writeEntries (κ : KS) : Prop := (sl_X2_writeEntries_10 (kHd κ) 100 κ (kWr κ) ∧ True)
set_option maxHeartbeats 1000000 in
set_option maxRecDepth 100000 in
theorem c_X2_writeEntries (l : Launch) (dC : Nat → ClassId) (dI : Nat → Nat → Nat) (cI : ClassId) (h : Nat → Nat) (sz : Nat) (κ : KS) (hs : s_X2_writeEntries κ) : Met l yX2_writeEntries wsX2_writeEntries ({ frames := 2, cells := 0, slots := 0, locals := 40 }) (va_Pc [.ref (h 0)] (pW (dC, dI) [(cI, .int)] (kW cI h κ) sz)) (va_Qi (fun (r : Int32) (u : KS) => r = (v_X2_writeEntries κ).1 ∧ u = (v_X2_writeEntries κ).2 ∧ bz r) (qW (dC, dI) (va_A (kW cI h κ) sz) (fun u => kW cI h u)) (va_A (kW cI h κ) sz)) 0 0 (va_A (kW cI h κ) sz) := by
  refine Met.ofW (cc := cX2_writeEntries) (maxL := 3) (ret := (some .boolean)) (by decide) rfl ?_
  intro p e s m args below meth c s₁ B hml hv
  obtain ⟨rfl, hsz, hP, hK, hD0⟩ := hv
  have hx := B.exec
  have hb := B.bytes
  have hr := B.returns
  have hts := atoms_spec (ws := wsX2_writeEntries) B.pre
  have hown : s.vm.findClass RX2 = some m.cls := findClass_of_methodNamed B.named
  have hlocks := B.notSynchronized
  have hinX2 : ∀ w ∈ wsX20, w ∈ wsX2_writeEntries := by decide +kernel
  have hf33 := hts (.fieldLink RX2 33 "Keysapart" "headAt" "I") (by decide +kernel)
  have hf40 := hts (.fieldLink RX2 40 "Keysapart" "writtenTo" "I") (by decide +kernel)
  subst hsz
  have hD := hD0.self (sz := s.heap.size)
  generalize hAe : va_A (kW cI h κ) s.heap.size = A at hD ⊢
  have hA : ∀ q : Nat, s.heap.size ≤ q → A q := fun q h => by rw [← hAe]; exact Or.inr h
  have hl := lv_entry ([.ref (h 0)]) (n := 3) (Nat.le_of_ble_eq_true rfl)
  rw [lg_entry_eq]
  generalize (lg_sl ([.ref (h 0)]) ++ List.replicate (3 - (lg_sl ([.ref (h 0)])).length) Slot.unset).toArray = ls at hl ⊢
  have hl : lv_has ls 3 [(0, .ref (h 0))] := hl
  generalize hHe : s.heap = H at hP ⊢
  generalize hLe : ([] : List Loc) = locs
  have hS : va_S A s.heap H locs := by
    rw [← hLe, ← hHe]
    exact va_S.rf
  unfold s_X2_writeEntries at hs
  have hV := v_X2_writeEntries_e κ
  refine lv_aload_n hx hb dX2_writeEntries_0 rfl (lv_at hl 0 rfl) ?_
  refine va_get (D := (dC, dI)) (ci := 2) (v := .int (kHd κ)) (C := RX2) (T := TX2) (N := 10) hx hb hts hinX2 hown hK hP 0 rfl rfl 5 (by decide) hf33 (fun _ h9 => h9) rfl dX2_writeEntries_1 ?_
  refine lv_istore_n (lv' := [(1, .int (kHd κ)), (0, .ref (h 0))]) hx hb dX2_writeEntries_4 rfl hl (by decide) rfl (fun ls hl => ?_)
  refine lv_aload_n hx hb dX2_writeEntries_5 rfl (lv_at hl 1 rfl) ?_
  refine va_get (D := (dC, dI)) (ci := 2) (v := .int (kWr κ)) (C := RX2) (T := TX2) (N := 10) hx hb hts hinX2 hown hK hP 0 rfl rfl 7 (by decide) hf40 (fun _ h9 => h9) rfl dX2_writeEntries_6 ?_
  refine lv_istore_n (lv' := [(2, .int (kWr κ)), (1, .int (kHd κ)), (0, .ref (h 0))]) hx hb dX2_writeEntries_9 rfl hl (by decide) rfl (fun ls hl => ?_)
  have o_l10 : sl_X2_writeEntries_10 (kHd κ) 100 κ (kWr κ) := hs.1
  have hs := hs.2
  have loop_10 : ∀ (n : Nat) (κ10 : KS) (x2_10 : Int32) (H : Heap) (locs : List Loc) (ls : Array Slot) (hs : sl_X2_writeEntries_10 (kHd κ) n κ10 x2_10) (hV : v_X2_writeEntries κ = l_X2_writeEntries_10 (kHd κ) n κ10 x2_10) (hP : va_P (dC, dI) vwCl (kW cI h κ10) H) (hD : va_D A (kW cI h κ10)) (hS : va_S A s.heap H locs) (hl : lv_has ls 3 [(2, .int x2_10), (0, .ref (h 0)), (1, .int (kHd κ))]), W p l e (headSpec wsX2_writeEntries ({ frames := 2, cells := 0, slots := 0, locals := 40 })).room s m [.ref (h 0)].toArray below meth c H locs 0 0 (MQ below (va_Qi (fun (r : Int32) (u : KS) => r = (v_X2_writeEntries κ).1 ∧ u = (v_X2_writeEntries κ).2 ∧ bz r) (qW (dC, dI) A (fun u => kW cI h u)) A) [.ref (h 0)].toArray s 0 0 A) (F0 m 10 ls []) := by
    intro n
    induction n with
    | zero => intro κ10 x2_10 H locs ls hs; exact False.elim hs
    | succ n ih =>
      intro κ10 x2_10 H locs ls hs hV hP hD hS hl
      rw [sl_X2_writeEntries_10_s] at hs
      rw [l_X2_writeEntries_10_s] at hV
      refine lv_iload_n hx hb dX2_writeEntries_10 rfl (lv_at hl 0 rfl) ?_
      refine lv_iload_n hx hb dX2_writeEntries_11 rfl (lv_at hl 2 rfl) ?_
      refine lv_icmp_ge (tgt := 37) hx hb dX2_writeEntries_12 (by decide) (fun c_12 => ?_) (fun c_12 => ?_)
      · skip
        have hs := hs.1 c_12
        rw [if_pos c_12] at hV
        refine lv_iconst (v := 1) hx hb dX2_writeEntries_37 (by decide) ?_
        have hz9 : bz (1) := by first | assumption | (repeat (first | exact bz0 | exact bz1 | assumption | refine bz_ite ?_ ?_))
        exact rZ (w := fun u => kW cI h u) (κ10) hx hb hr hlocks hP hD hS (Nat.le_of_ble_eq_true rfl) (Nat.le_of_ble_eq_true rfl) dX2_writeEntries_38 hz9 ⟨by rw [hV] <;> rfl, by rw [hV] <;> rfl, hz9⟩
      · skip
        have hs := hs.2 c_12
        rw [if_neg c_12] at hV
        refine lv_aload_n hx hb dX2_writeEntries_15 rfl (lv_at hl 1 rfl) ?_
        have hPc := hP.sub (ws' := kW cI h κ10) [0, 1, 2, 3, 4, 5, 6, 7, 8, 9] rfl
        have hDc := hD.sub (ws' := kW cI h κ10) [0, 1, 2, 3, 4, 5, 6, 7, 8, 9] (by decide) rfl
        refine rcI (W2 := fun u => kW cI h u) (va_runV (As := []) (rest := []) ⟨hx, hb, hml, hown, hts⟩ (c_X2_writeOnce l dC dI cI h H.size κ10) (cwV 0 hts gX2_writeEntries_X2_writeOnce rfl rfl rfl (by decide +kernel) ⟨Nat.le_of_ble_eq_true rfl, Nat.le_of_ble_eq_true rfl⟩) (pW_V hPc hK hDc (ci := 2) (q0 := 0) rfl rfl) rfl rfl hl.1 rfl (lv_room (Nat.le_of_ble_eq_true rfl)) dX2_writeEntries_16 ⟨Nat.le_of_ble_eq_true rfl, Nat.le_of_ble_eq_true rfl⟩) hP hD hS hA [0, 1, 2, 3, 4, 5, 6, 7, 8, 9] [] [0, 1, 2, 3, 4, 5, 6, 7, 8, 9] rfl rfl (by decide) (fun _ => rfl) (fun r_16 u_16 H locs hw hP hD hS => ?_)
        obtain ⟨hw, hw2, hz_16⟩ := hw
        try rw [← hw] at hV
        try rw [← hw] at hs
        try rw [← hw2] at hV
        try rw [← hw2] at hs
        refine lv_if_ne (tgt := 24) hx hb dX2_writeEntries_19 (by decide) (fun c_19 => ?_) (fun c_19 => ?_)
        · skip
          have hs := hs.2 c_19
          rw [if_neg c_19] at hV
          refine lv_aload_n hx hb dX2_writeEntries_24 rfl (lv_at hl 1 rfl) ?_
          refine lv_iload_n hx hb dX2_writeEntries_25 rfl (lv_at hl 0 rfl) ?_
          refine lv_iconst (v := 1) hx hb dX2_writeEntries_26 (by decide) ?_
          refine lv_iadd hx hb dX2_writeEntries_27 ?_
          refine va_put (D := (dC, dI)) (ci := 2) (v := .int (x2_10 + 1)) (ty := .int) (C := RX2) (T := TX2) (N := 10) hx hb hts hinX2 tyX2 tyX2_ok nmX2 hown hK hP hD hS 0 rfl rfl 7 (by decide) hf40 (fun _ h9 => h9) rfl (by decide +kernel) rfl rfl (Nat.le_of_ble_eq_true rfl) dX2_writeEntries_28 (fun H locs hP hD hS => ?_)
          have hP : va_P (dC, dI) vwCl (kW cI h (kSWr u_16 (x2_10 + 1))) H := hP
          have hD : va_D A (kW cI h (kSWr u_16 (x2_10 + 1))) := hD
          refine lv_iinc (v := x2_10 + 1) (lv' := [(2, .int (x2_10 + 1)), (0, .ref (h 0)), (1, .int (kHd κ))]) hx hb dX2_writeEntries_31 hl (k := 0) rfl rfl (by decide) rfl (fun ls hl => ?_)
          refine lv_goto (tgt := 10) hx hb dX2_writeEntries_34 (by decide) ?_
          exact ih (kSWr u_16 (x2_10 + 1)) (x2_10 + 1) H locs ls hs hV hP hD hS (lv_sub hl [0, 1, 2] rfl)
        · skip
          have hs := hs.1 c_19
          rw [if_pos c_19] at hV
          refine lv_iconst (v := 0) hx hb dX2_writeEntries_22 (by decide) ?_
          have hz9 : bz (0) := by first | assumption | (repeat (first | exact bz0 | exact bz1 | assumption | refine bz_ite ?_ ?_))
          exact rZ (w := fun u => kW cI h u) (u_16) hx hb hr hlocks hP hD hS (Nat.le_of_ble_eq_true rfl) (Nat.le_of_ble_eq_true rfl) dX2_writeEntries_23 hz9 ⟨by rw [hV] <;> rfl, by rw [hV] <;> rfl, hz9⟩
  exact loop_10 100 κ (kWr κ) H locs ls o_l10 hV hP hD hS (lv_sub hl [0, 2, 1] rfl)
