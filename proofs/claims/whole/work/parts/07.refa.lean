def v_X3_thrown (μ : MS) : Int32 := (mTh μ)
theorem v_X3_thrown_e (μ : MS) : v_X3_thrown μ = (mTh μ) := rfl
set_option maxHeartbeats 1000000 in
set_option maxRecDepth 100000 in
theorem c_X3_thrown (l : Launch) (dC : Nat → ClassId) (dI : Nat → Nat → Nat) (cI : ClassId) (h : Nat → Nat) (sz : Nat) (μ : MS) : Met l yX3_thrown wsX3_thrown ({ frames := 0, cells := 0, slots := 0, locals := 0 }) (va_Pc [.ref (h 0)] (pW (dC, dI) [(cI, .int)] (mW cI h μ) sz)) (va_Qi (fun (r : Int32) (u : Unit) => r = v_X3_thrown μ) (qW (dC, dI) (va_A (mW cI h μ) sz) (fun _ => mW cI h μ)) (va_A (mW cI h μ) sz)) 0 0 (va_A (mW cI h μ) sz) := by
  refine Met.ofW (cc := cX3_thrown) (maxL := 1) (ret := (some .int)) (by decide) rfl ?_
  intro p e s m args below meth c s₁ B hml hv
  obtain ⟨rfl, hsz, hP, hK, hD0⟩ := hv
  have hx := B.exec
  have hb := B.bytes
  have hr := B.returns
  have hts := atoms_spec (ws := wsX3_thrown) B.pre
  have hown : s.vm.findClass RX3 = some m.cls := findClass_of_methodNamed B.named
  have hlocks := B.notSynchronized
  have hinX3 : ∀ w ∈ wsX30, w ∈ wsX3_thrown := by decide +kernel
  have hf29 := hts (.fieldLink RX3 29 "KeysapartModel" "thrown" "I") (by decide +kernel)
  subst hsz
  have hD := hD0.self (sz := s.heap.size)
  generalize hAe : va_A (mW cI h μ) s.heap.size = A at hD ⊢
  have hA : ∀ q : Nat, s.heap.size ≤ q → A q := fun q h => by rw [← hAe]; exact Or.inr h
  have hl := lv_entry ([.ref (h 0)]) (n := 1) (Nat.le_of_ble_eq_true rfl)
  rw [lg_entry_eq]
  generalize (lg_sl ([.ref (h 0)]) ++ List.replicate (1 - (lg_sl ([.ref (h 0)])).length) Slot.unset).toArray = ls at hl ⊢
  have hl : lv_has ls 1 [(0, .ref (h 0))] := hl
  generalize hHe : s.heap = H at hP ⊢
  generalize hLe : ([] : List Loc) = locs
  have hS : va_S A s.heap H locs := by
    rw [← hLe, ← hHe]
    exact va_S.rf
  have hV := v_X3_thrown_e μ
  refine lv_aload_n hx hb dX3_thrown_0 rfl (lv_at hl 0 rfl) ?_
  refine va_get (D := (dC, dI)) (ci := 3) (v := .int (mTh μ)) (C := RX3) (T := TX3) (N := 12) hx hb hts hinX3 hown hK hP 0 rfl rfl 11 (by decide) hf29 (fun _ h9 => h9) rfl dX3_thrown_1 ?_
  exact rI (w := fun _ => mW cI h μ) (()) hx hb hr hlocks hP hD hS (Nat.le_of_ble_eq_true rfl) (Nat.le_of_ble_eq_true rfl) dX3_thrown_4 (by rw [hV] <;> rfl)
def v_X3_goes (μ : MS) (p1 : Int32) (p2 : Int32) : Int32 × MS := if (if p1 = 0 then 1 else if p2 = 0 then 2 else 0 : Int32) = 0 then (1, mSTh μ (if p1 = 0 then 1 else if p2 = 0 then 2 else 0 : Int32)) else (0, mSTh μ (if p1 = 0 then 1 else if p2 = 0 then 2 else 0 : Int32))
theorem v_X3_goes_e (μ : MS) (p1 : Int32) (p2 : Int32) : v_X3_goes μ p1 p2 = if (if p1 = 0 then 1 else if p2 = 0 then 2 else 0 : Int32) = 0 then (1, mSTh μ (if p1 = 0 then 1 else if p2 = 0 then 2 else 0 : Int32)) else (0, mSTh μ (if p1 = 0 then 1 else if p2 = 0 then 2 else 0 : Int32)) := rfl
set_option maxHeartbeats 1000000 in
set_option maxRecDepth 100000 in
theorem c_X3_goes (l : Launch) (dC : Nat → ClassId) (dI : Nat → Nat → Nat) (cI : ClassId) (h : Nat → Nat) (sz : Nat) (μ : MS) (p1 : Int32) (p2 : Int32) : Met l yX3_goes wsX3_goes ({ frames := 0, cells := 0, slots := 0, locals := 0 }) (va_Pc [.ref (h 0), .int p1, .int p2] (pW (dC, dI) [(cI, .int)] (mW cI h μ) sz)) (va_Qi (fun (r : Int32) (u : MS) => r = (v_X3_goes μ p1 p2).1 ∧ u = (v_X3_goes μ p1 p2).2 ∧ bz r) (qW (dC, dI) (va_A (mW cI h μ) sz) (fun u => mW cI h u)) (va_A (mW cI h μ) sz)) 0 0 (va_A (mW cI h μ) sz) := by
  refine Met.ofW (cc := cX3_goes) (maxL := 3) (ret := (some .boolean)) (by decide) rfl ?_
  intro p e s m args below meth c s₁ B hml hv
  obtain ⟨rfl, hsz, hP, hK, hD0⟩ := hv
  have hx := B.exec
  have hb := B.bytes
  have hr := B.returns
  have hts := atoms_spec (ws := wsX3_goes) B.pre
  have hown : s.vm.findClass RX3 = some m.cls := findClass_of_methodNamed B.named
  have hlocks := B.notSynchronized
  have hinX3 : ∀ w ∈ wsX30, w ∈ wsX3_goes := by decide +kernel
  have hf29 := hts (.fieldLink RX3 29 "KeysapartModel" "thrown" "I") (by decide +kernel)
  subst hsz
  have hD := hD0.self (sz := s.heap.size)
  generalize hAe : va_A (mW cI h μ) s.heap.size = A at hD ⊢
  have hA : ∀ q : Nat, s.heap.size ≤ q → A q := fun q h => by rw [← hAe]; exact Or.inr h
  have hl := lv_entry ([.ref (h 0), .int p1, .int p2]) (n := 3) (Nat.le_of_ble_eq_true rfl)
  rw [lg_entry_eq]
  generalize (lg_sl ([.ref (h 0), .int p1, .int p2]) ++ List.replicate (3 - (lg_sl ([.ref (h 0), .int p1, .int p2])).length) Slot.unset).toArray = ls at hl ⊢
  have hl : lv_has ls 3 [(0, .ref (h 0)), (1, .int p1), (2, .int p2)] := hl
  generalize hHe : s.heap = H at hP ⊢
  generalize hLe : ([] : List Loc) = locs
  have hS : va_S A s.heap H locs := by
    rw [← hLe, ← hHe]
    exact va_S.rf
  have hV := v_X3_goes_e μ p1 p2
  refine lv_aload_n hx hb dX3_goes_0 rfl (lv_at hl 0 rfl) ?_
  refine lv_iload_n hx hb dX3_goes_1 rfl (lv_at hl 1 rfl) ?_
  suffices J_2 : W p l e (headSpec wsX3_goes ({ frames := 0, cells := 0, slots := 0, locals := 0 })).room s m [.ref (h 0), .int p1, .int p2].toArray below meth c H locs 0 0 (MQ below (va_Qi (fun (r : Int32) (u : MS) => r = (v_X3_goes μ p1 p2).1 ∧ u = (v_X3_goes μ p1 p2).2 ∧ bz r) (qW (dC, dI) A (fun u => mW cI h u)) A) [.ref (h 0), .int p1, .int p2].toArray s 0 0 A) (F0 m 18 ls [.int (if p1 = 0 then 1 else if p2 = 0 then 2 else 0 : Int32), .ref (h 0)]) by
    refine lv_if_ne (tgt := 9) hx hb dX3_goes_2 (by decide) (fun c_2 => ?_) (fun c_2 => ?_)
    · skip
      rw [if_neg c_2] at J_2
      refine lv_iload_n hx hb dX3_goes_9 rfl (lv_at hl 2 rfl) ?_
      refine lv_if_ne (tgt := 17) hx hb dX3_goes_10 (by decide) (fun c_10 => ?_) (fun c_10 => ?_)
      · skip
        rw [if_neg c_10] at J_2
        refine lv_iconst (v := 0) hx hb dX3_goes_17 (by decide) ?_
        exact J_2
      · skip
        rw [if_pos c_10] at J_2
        refine lv_iconst (v := 2) hx hb dX3_goes_13 (by decide) ?_
        refine lv_goto (tgt := 18) hx hb dX3_goes_14 (by decide) ?_
        exact J_2
    · skip
      rw [if_pos c_2] at J_2
      refine lv_iconst (v := 1) hx hb dX3_goes_5 (by decide) ?_
      refine lv_goto (tgt := 18) hx hb dX3_goes_6 (by decide) ?_
      exact J_2
  refine va_put (D := (dC, dI)) (ci := 3) (v := .int (if p1 = 0 then 1 else if p2 = 0 then 2 else 0 : Int32)) (ty := .int) (C := RX3) (T := TX3) (N := 12) hx hb hts hinX3 tyX3 tyX3_ok nmX3 hown hK hP hD hS 0 rfl rfl 11 (by decide) hf29 (fun _ h9 => h9) rfl (by decide +kernel) rfl rfl (Nat.le_of_ble_eq_true rfl) dX3_goes_18 (fun H locs hP hD hS => ?_)
  have hP : va_P (dC, dI) vwCl (mW cI h (mSTh μ (if p1 = 0 then 1 else if p2 = 0 then 2 else 0 : Int32))) H := hP
  have hD : va_D A (mW cI h (mSTh μ (if p1 = 0 then 1 else if p2 = 0 then 2 else 0 : Int32))) := hD
  refine lv_aload_n hx hb dX3_goes_21 rfl (lv_at hl 0 rfl) ?_
  refine va_get (D := (dC, dI)) (ci := 3) (v := .int (if p1 = 0 then 1 else if p2 = 0 then 2 else 0 : Int32)) (C := RX3) (T := TX3) (N := 12) hx hb hts hinX3 hown hK hP 0 rfl rfl 11 (by decide) hf29 (fun _ h9 => h9) rfl dX3_goes_22 ?_
  refine lv_if_ne (tgt := 32) hx hb dX3_goes_25 (by decide) (fun c_25 => ?_) (fun c_25 => ?_)
  · skip
    rw [if_neg c_25] at hV
    refine lv_iconst (v := 0) hx hb dX3_goes_32 (by decide) ?_
    have hz9 : bz (0) := by first | assumption | (repeat (first | exact bz0 | exact bz1 | assumption | refine bz_ite ?_ ?_))
    exact rZ (w := fun u => mW cI h u) (mSTh μ (if p1 = 0 then 1 else if p2 = 0 then 2 else 0 : Int32)) hx hb hr hlocks hP hD hS (Nat.le_of_ble_eq_true rfl) (Nat.le_of_ble_eq_true rfl) dX3_goes_33 hz9 ⟨by rw [hV] <;> rfl, by rw [hV] <;> rfl, hz9⟩
  · skip
    rw [if_pos c_25] at hV
    refine lv_iconst (v := 1) hx hb dX3_goes_28 (by decide) ?_
    refine lv_goto (tgt := 33) hx hb dX3_goes_29 (by decide) ?_
    have hz9 : bz (1) := by first | assumption | (repeat (first | exact bz0 | exact bz1 | assumption | refine bz_ite ?_ ?_))
    exact rZ (w := fun u => mW cI h u) (mSTh μ (if p1 = 0 then 1 else if p2 = 0 then 2 else 0 : Int32)) hx hb hr hlocks hP hD hS (Nat.le_of_ble_eq_true rfl) (Nat.le_of_ble_eq_true rfl) dX3_goes_33 hz9 ⟨by rw [hV] <;> rfl, by rw [hV] <;> rfl, hz9⟩
def v_X3_isKey (p0 : Int32) : Int32 := if p0 < 0 then 0 else if 64 ≤ p0 then 0 else 1
theorem v_X3_isKey_e (p0 : Int32) : v_X3_isKey p0 = if p0 < 0 then 0 else if 64 ≤ p0 then 0 else 1 := rfl
set_option maxHeartbeats 1000000 in
set_option maxRecDepth 100000 in
theorem c_X3_isKey (l : Launch) (dC : Nat → ClassId) (dI : Nat → Nat → Nat) (cI : ClassId) (sz : Nat) (p0 : Int32) : Met l yX3_isKey wsX3_isKey ({ frames := 0, cells := 0, slots := 0, locals := 0 }) (va_Pc [.int p0] (pW (dC, dI) [(cI, .int)] (eW) sz)) (va_Qi (fun (r : Int32) (u : Unit) => r = v_X3_isKey p0 ∧ bz r) (qW (dC, dI) (va_A (eW) sz) (fun _ => eW)) (va_A (eW) sz)) 0 0 (va_A (eW) sz) := by
  refine Met.ofW (cc := cX3_isKey) (maxL := 1) (ret := (some .boolean)) (by decide) rfl ?_
  intro p e s m args below meth c s₁ B hml hv
  obtain ⟨rfl, hsz, hP, hK, hD0⟩ := hv
  have hx := B.exec
  have hb := B.bytes
  have hr := B.returns
  have hts := atoms_spec (ws := wsX3_isKey) B.pre
  have hown : s.vm.findClass RX3 = some m.cls := findClass_of_methodNamed B.named
  have hlocks := B.notSynchronized
  subst hsz
  have hD := hD0.self (sz := s.heap.size)
  generalize hAe : va_A (eW) s.heap.size = A at hD ⊢
  have hA : ∀ q : Nat, s.heap.size ≤ q → A q := fun q h => by rw [← hAe]; exact Or.inr h
  have hl := lv_entry ([.int p0]) (n := 1) (Nat.le_of_ble_eq_true rfl)
  rw [lg_entry_eq]
  generalize (lg_sl ([.int p0]) ++ List.replicate (1 - (lg_sl ([.int p0])).length) Slot.unset).toArray = ls at hl ⊢
  have hl : lv_has ls 1 [(0, .int p0)] := hl
  generalize hHe : s.heap = H at hP ⊢
  generalize hLe : ([] : List Loc) = locs
  have hS : va_S A s.heap H locs := by
    rw [← hLe, ← hHe]
    exact va_S.rf
  have hV := v_X3_isKey_e p0
  refine lv_iload_n hx hb dX3_isKey_0 rfl (lv_at hl 0 rfl) ?_
  refine lv_if_lt (tgt := 14) hx hb dX3_isKey_1 (by decide) (fun c_1 => ?_) (fun c_1 => ?_)
  · skip
    rw [if_pos c_1] at hV
    refine lv_iconst (v := 0) hx hb dX3_isKey_14 (by decide) ?_
    have hz9 : bz (0) := by first | assumption | (repeat (first | exact bz0 | exact bz1 | assumption | refine bz_ite ?_ ?_))
    exact rZ (w := fun _ => eW) (()) hx hb hr hlocks hP hD hS (Nat.le_of_ble_eq_true rfl) (Nat.le_of_ble_eq_true rfl) dX3_isKey_15 hz9 ⟨by rw [hV] <;> rfl, hz9⟩
  · skip
    rw [if_neg c_1] at hV
    refine lv_iload_n hx hb dX3_isKey_4 rfl (lv_at hl 0 rfl) ?_
    refine lv_bipush (v := 64) hx hb dX3_isKey_5 (by decide) ?_
    refine lv_icmp_ge (tgt := 14) hx hb dX3_isKey_7 (by decide) (fun c_7 => ?_) (fun c_7 => ?_)
    · skip
      rw [if_pos c_7] at hV
      refine lv_iconst (v := 0) hx hb dX3_isKey_14 (by decide) ?_
      have hz9 : bz (0) := by first | assumption | (repeat (first | exact bz0 | exact bz1 | assumption | refine bz_ite ?_ ?_))
      exact rZ (w := fun _ => eW) (()) hx hb hr hlocks hP hD hS (Nat.le_of_ble_eq_true rfl) (Nat.le_of_ble_eq_true rfl) dX3_isKey_15 hz9 ⟨by rw [hV] <;> rfl, hz9⟩
    · skip
      rw [if_neg c_7] at hV
      refine lv_iconst (v := 1) hx hb dX3_isKey_10 (by decide) ?_
      refine lv_goto (tgt := 15) hx hb dX3_isKey_11 (by decide) ?_
      have hz9 : bz (1) := by first | assumption | (repeat (first | exact bz0 | exact bz1 | assumption | refine bz_ite ?_ ?_))
      exact rZ (w := fun _ => eW) (()) hx hb hr hlocks hP hD hS (Nat.le_of_ble_eq_true rfl) (Nat.le_of_ble_eq_true rfl) dX3_isKey_15 hz9 ⟨by rw [hV] <;> rfl, hz9⟩
def v_X3_segmentsOf (p0 : Int32) (p1 : Int32) : Int32 := if p0 = p1 then 0 else ((((p1 - 1) / 8) - (p0 / 8)) + 1)
theorem v_X3_segmentsOf_e (p0 : Int32) (p1 : Int32) : v_X3_segmentsOf p0 p1 = if p0 = p1 then 0 else ((((p1 - 1) / 8) - (p0 / 8)) + 1) := rfl
set_option maxHeartbeats 1000000 in
set_option maxRecDepth 100000 in
theorem c_X3_segmentsOf (l : Launch) (dC : Nat → ClassId) (dI : Nat → Nat → Nat) (cI : ClassId) (sz : Nat) (p0 : Int32) (p1 : Int32) : Met l yX3_segmentsOf wsX3_segmentsOf ({ frames := 0, cells := 0, slots := 0, locals := 0 }) (va_Pc [.int p0, .int p1] (pW (dC, dI) [(cI, .int)] (eW) sz)) (va_Qi (fun (r : Int32) (u : Unit) => r = v_X3_segmentsOf p0 p1) (qW (dC, dI) (va_A (eW) sz) (fun _ => eW)) (va_A (eW) sz)) 0 0 (va_A (eW) sz) := by
  refine Met.ofW (cc := cX3_segmentsOf) (maxL := 2) (ret := (some .int)) (by decide) rfl ?_
  intro p e s m args below meth c s₁ B hml hv
  obtain ⟨rfl, hsz, hP, hK, hD0⟩ := hv
  have hx := B.exec
  have hb := B.bytes
  have hr := B.returns
  have hts := atoms_spec (ws := wsX3_segmentsOf) B.pre
  have hown : s.vm.findClass RX3 = some m.cls := findClass_of_methodNamed B.named
  have hlocks := B.notSynchronized
  subst hsz
  have hD := hD0.self (sz := s.heap.size)
  generalize hAe : va_A (eW) s.heap.size = A at hD ⊢
  have hA : ∀ q : Nat, s.heap.size ≤ q → A q := fun q h => by rw [← hAe]; exact Or.inr h
  have hl := lv_entry ([.int p0, .int p1]) (n := 2) (Nat.le_of_ble_eq_true rfl)
  rw [lg_entry_eq]
  generalize (lg_sl ([.int p0, .int p1]) ++ List.replicate (2 - (lg_sl ([.int p0, .int p1])).length) Slot.unset).toArray = ls at hl ⊢
  have hl : lv_has ls 2 [(0, .int p0), (1, .int p1)] := hl
  generalize hHe : s.heap = H at hP ⊢
  generalize hLe : ([] : List Loc) = locs
  have hS : va_S A s.heap H locs := by
    rw [← hLe, ← hHe]
    exact va_S.rf
  have hV := v_X3_segmentsOf_e p0 p1
  refine lv_iload_n hx hb dX3_segmentsOf_0 rfl (lv_at hl 0 rfl) ?_
  refine lv_iload_n hx hb dX3_segmentsOf_1 rfl (lv_at hl 1 rfl) ?_
  refine lv_icmp_ne (tgt := 9) hx hb dX3_segmentsOf_2 (by decide) (fun c_2 => ?_) (fun c_2 => ?_)
  · skip
    rw [if_neg c_2] at hV
    refine lv_iload_n hx hb dX3_segmentsOf_9 rfl (lv_at hl 1 rfl) ?_
    refine lv_iconst (v := 1) hx hb dX3_segmentsOf_10 (by decide) ?_
    refine lv_isub hx hb dX3_segmentsOf_11 ?_
    refine lv_bipush (v := 8) hx hb dX3_segmentsOf_12 (by decide) ?_
    refine lv_idiv hx hb dX3_segmentsOf_14 (by decide) ?_
    refine lv_iload_n hx hb dX3_segmentsOf_15 rfl (lv_at hl 0 rfl) ?_
    refine lv_bipush (v := 8) hx hb dX3_segmentsOf_16 (by decide) ?_
    refine lv_idiv hx hb dX3_segmentsOf_18 (by decide) ?_
    refine lv_isub hx hb dX3_segmentsOf_19 ?_
    refine lv_iconst (v := 1) hx hb dX3_segmentsOf_20 (by decide) ?_
    refine lv_iadd hx hb dX3_segmentsOf_21 ?_
    exact rI (w := fun _ => eW) (()) hx hb hr hlocks hP hD hS (Nat.le_of_ble_eq_true rfl) (Nat.le_of_ble_eq_true rfl) dX3_segmentsOf_22 (by rw [hV] <;> rfl)
  · skip
    rw [if_pos c_2] at hV
    refine lv_iconst (v := 0) hx hb dX3_segmentsOf_5 (by decide) ?_
    refine lv_goto (tgt := 22) hx hb dX3_segmentsOf_6 (by decide) ?_
    exact rI (w := fun _ => eW) (()) hx hb hr hlocks hP hD hS (Nat.le_of_ble_eq_true rfl) (Nat.le_of_ble_eq_true rfl) dX3_segmentsOf_22 (by rw [hV] <;> rfl)
def v_X3_canAppend (μ : MS) (p1 : Int32) : Int32 := if 12 < (v_X3_segmentsOf (mTl μ) ((mHd μ) + p1)) then 0 else 1
theorem v_X3_canAppend_e (μ : MS) (p1 : Int32) : v_X3_canAppend μ p1 = if 12 < (v_X3_segmentsOf (mTl μ) ((mHd μ) + p1)) then 0 else 1 := rfl
set_option maxHeartbeats 1000000 in
set_option maxRecDepth 100000 in
theorem c_X3_canAppend (l : Launch) (dC : Nat → ClassId) (dI : Nat → Nat → Nat) (cI : ClassId) (h : Nat → Nat) (sz : Nat) (μ : MS) (p1 : Int32) : Met l yX3_canAppend wsX3_canAppend ({ frames := 1, cells := 0, slots := 0, locals := 21 }) (va_Pc [.ref (h 0), .int p1] (pW (dC, dI) [(cI, .int)] (mW cI h μ) sz)) (va_Qi (fun (r : Int32) (u : Unit) => r = v_X3_canAppend μ p1 ∧ bz r) (qW (dC, dI) (va_A (mW cI h μ) sz) (fun _ => mW cI h μ)) (va_A (mW cI h μ) sz)) 0 0 (va_A (mW cI h μ) sz) := by
  refine Met.ofW (cc := cX3_canAppend) (maxL := 2) (ret := (some .boolean)) (by decide) rfl ?_
  intro p e s m args below meth c s₁ B hml hv
  obtain ⟨rfl, hsz, hP, hK, hD0⟩ := hv
  have hx := B.exec
  have hb := B.bytes
  have hr := B.returns
  have hts := atoms_spec (ws := wsX3_canAppend) B.pre
  have hown : s.vm.findClass RX3 = some m.cls := findClass_of_methodNamed B.named
  have hlocks := B.notSynchronized
  have hinX3 : ∀ w ∈ wsX30, w ∈ wsX3_canAppend := by decide +kernel
  have hf32 := hts (.fieldLink RX3 32 "KeysapartModel" "tail" "I") (by decide +kernel)
  have hf35 := hts (.fieldLink RX3 35 "KeysapartModel" "head" "I") (by decide +kernel)
  subst hsz
  have hD := hD0.self (sz := s.heap.size)
  generalize hAe : va_A (mW cI h μ) s.heap.size = A at hD ⊢
  have hA : ∀ q : Nat, s.heap.size ≤ q → A q := fun q h => by rw [← hAe]; exact Or.inr h
  have hl := lv_entry ([.ref (h 0), .int p1]) (n := 2) (Nat.le_of_ble_eq_true rfl)
  rw [lg_entry_eq]
  generalize (lg_sl ([.ref (h 0), .int p1]) ++ List.replicate (2 - (lg_sl ([.ref (h 0), .int p1])).length) Slot.unset).toArray = ls at hl ⊢
  have hl : lv_has ls 2 [(0, .ref (h 0)), (1, .int p1)] := hl
  generalize hHe : s.heap = H at hP ⊢
  generalize hLe : ([] : List Loc) = locs
  have hS : va_S A s.heap H locs := by
    rw [← hLe, ← hHe]
    exact va_S.rf
  have hV := v_X3_canAppend_e μ p1
  refine lv_aload_n hx hb dX3_canAppend_0 rfl (lv_at hl 0 rfl) ?_
  refine va_get (D := (dC, dI)) (ci := 3) (v := .int (mTl μ)) (C := RX3) (T := TX3) (N := 12) hx hb hts hinX3 hown hK hP 0 rfl rfl 6 (by decide) hf32 (fun _ h9 => h9) rfl dX3_canAppend_1 ?_
  refine lv_aload_n hx hb dX3_canAppend_4 rfl (lv_at hl 0 rfl) ?_
  refine va_get (D := (dC, dI)) (ci := 3) (v := .int (mHd μ)) (C := RX3) (T := TX3) (N := 12) hx hb hts hinX3 hown hK hP 0 rfl rfl 5 (by decide) hf35 (fun _ h9 => h9) rfl dX3_canAppend_5 ?_
  refine lv_iload_n hx hb dX3_canAppend_8 rfl (lv_at hl 1 rfl) ?_
  refine lv_iadd hx hb dX3_canAppend_9 ?_
  have hPc := hP.sub (ws' := eW) [] rfl
  have hDc := hD.sub (ws' := eW) [] (by decide) rfl
  refine rcI (W2 := fun _ => mW cI h μ) (va_runS (As := [.int (mTl μ), .int ((mHd μ) + p1)]) (rest := []) ⟨hx, hb, hml, hown, hts⟩ (c_X3_segmentsOf l dC dI cI H.size (mTl μ) ((mHd μ) + p1)) (va_cwS 2 hts gX3_canAppend_X3_segmentsOf rfl rfl rfl (by decide +kernel) ⟨Nat.le_of_ble_eq_true rfl, Nat.le_of_ble_eq_true rfl⟩) (pW_S hPc hK hDc) rfl rfl hl.1 rfl (lv_room (Nat.le_of_ble_eq_true rfl)) dX3_canAppend_10 ⟨Nat.le_of_ble_eq_true rfl, Nat.le_of_ble_eq_true rfl⟩) hP hD hS hA [] [0, 1, 2, 3, 4, 5] [0, 1, 2, 3, 4, 5] rfl rfl (by decide) (fun _ => rfl) (fun r_10 u_10 H locs hw hP hD hS => ?_)
  try rw [← hw] at hV
  refine lv_bipush (v := 12) hx hb dX3_canAppend_13 (by decide) ?_
  refine lv_icmp_gt (tgt := 22) hx hb dX3_canAppend_15 (by decide) (fun c_15 => ?_) (fun c_15 => ?_)
  · skip
    rw [if_pos c_15] at hV
    refine lv_iconst (v := 0) hx hb dX3_canAppend_22 (by decide) ?_
    have hz9 : bz (0) := by first | assumption | (repeat (first | exact bz0 | exact bz1 | assumption | refine bz_ite ?_ ?_))
    exact rZ (w := fun _ => mW cI h μ) (()) hx hb hr hlocks hP hD hS (Nat.le_of_ble_eq_true rfl) (Nat.le_of_ble_eq_true rfl) dX3_canAppend_23 hz9 ⟨by rw [hV] <;> rfl, hz9⟩
  · skip
    rw [if_neg c_15] at hV
    refine lv_iconst (v := 1) hx hb dX3_canAppend_18 (by decide) ?_
    refine lv_goto (tgt := 23) hx hb dX3_canAppend_19 (by decide) ?_
    have hz9 : bz (1) := by first | assumption | (repeat (first | exact bz0 | exact bz1 | assumption | refine bz_ite ?_ ?_))
    exact rZ (w := fun _ => mW cI h μ) (()) hx hb hr hlocks hP hD hS (Nat.le_of_ble_eq_true rfl) (Nat.le_of_ble_eq_true rfl) dX3_canAppend_23 hz9 ⟨by rw [hV] <;> rfl, hz9⟩
def v_X3_appends (μ : MS) (p1 : Int32) (p2 : Int32) : Int32 × MS := ((((mHd μ) + 1) - 1), mSHd (mSVl (mSKy μ (upd (mKy μ) ((mHd μ) - (mHd μ) / 128 * 128).toNatClampNeg p1)) (upd (mVl μ) ((mHd μ) - (mHd μ) / 128 * 128).toNatClampNeg p2)) ((mHd μ) + 1))
theorem v_X3_appends_e (μ : MS) (p1 : Int32) (p2 : Int32) : v_X3_appends μ p1 p2 = ((((mHd μ) + 1) - 1), mSHd (mSVl (mSKy μ (upd (mKy μ) ((mHd μ) - (mHd μ) / 128 * 128).toNatClampNeg p1)) (upd (mVl μ) ((mHd μ) - (mHd μ) / 128 * 128).toNatClampNeg p2)) ((mHd μ) + 1)) := rfl
def s_X3_appends (μ : MS) (p1 : Int32) (p2 : Int32) : Prop := (vp_in ((mHd μ) - (mHd μ) / 128 * 128) 128 ∧ (vp_in ((mHd μ) - (mHd μ) / 128 * 128) 128 ∧ True))
set_option maxHeartbeats 1000000 in
set_option maxRecDepth 100000 in
theorem c_X3_appends (l : Launch) (dC : Nat → ClassId) (dI : Nat → Nat → Nat) (cI : ClassId) (h : Nat → Nat) (sz : Nat) (μ : MS) (p1 : Int32) (p2 : Int32) (hs : s_X3_appends μ p1 p2) : Met l yX3_appends wsX3_appends ({ frames := 0, cells := 0, slots := 0, locals := 0 }) (va_Pc [.ref (h 0), .int p1, .int p2] (pW (dC, dI) [(cI, .int)] (mW cI h μ) sz)) (va_Qi (fun (r : Int32) (u : MS) => r = (v_X3_appends μ p1 p2).1 ∧ u = (v_X3_appends μ p1 p2).2) (qW (dC, dI) (va_A (mW cI h μ) sz) (fun u => mW cI h u)) (va_A (mW cI h μ) sz)) 0 0 (va_A (mW cI h μ) sz) := by
  refine Met.ofW (cc := cX3_appends) (maxL := 3) (ret := (some .int)) (by decide) rfl ?_
  intro p e s m args below meth c s₁ B hml hv
  obtain ⟨rfl, hsz, hP, hK, hD0⟩ := hv
  have hx := B.exec
  have hb := B.bytes
  have hr := B.returns
  have hts := atoms_spec (ws := wsX3_appends) B.pre
  have hown : s.vm.findClass RX3 = some m.cls := findClass_of_methodNamed B.named
  have hlocks := B.notSynchronized
  have hinX3 : ∀ w ∈ wsX30, w ∈ wsX3_appends := by decide +kernel
  have hf7 := hts (.fieldLink RX3 7 "KeysapartModel" "key" "[I") (by decide +kernel)
  have hf13 := hts (.fieldLink RX3 13 "KeysapartModel" "value" "[I") (by decide +kernel)
  have hf35 := hts (.fieldLink RX3 35 "KeysapartModel" "head" "I") (by decide +kernel)
  subst hsz
  have hD := hD0.self (sz := s.heap.size)
  generalize hAe : va_A (mW cI h μ) s.heap.size = A at hD ⊢
  have hA : ∀ q : Nat, s.heap.size ≤ q → A q := fun q h => by rw [← hAe]; exact Or.inr h
  have hl := lv_entry ([.ref (h 0), .int p1, .int p2]) (n := 3) (Nat.le_of_ble_eq_true rfl)
  rw [lg_entry_eq]
  generalize (lg_sl ([.ref (h 0), .int p1, .int p2]) ++ List.replicate (3 - (lg_sl ([.ref (h 0), .int p1, .int p2])).length) Slot.unset).toArray = ls at hl ⊢
  have hl : lv_has ls 3 [(0, .ref (h 0)), (1, .int p1), (2, .int p2)] := hl
  generalize hHe : s.heap = H at hP ⊢
  generalize hLe : ([] : List Loc) = locs
  have hS : va_S A s.heap H locs := by
    rw [← hLe, ← hHe]
    exact va_S.rf
  unfold s_X3_appends at hs
  have hV := v_X3_appends_e μ p1 p2
  refine lv_aload_n hx hb dX3_appends_0 rfl (lv_at hl 0 rfl) ?_
  refine va_get (D := (dC, dI)) (ci := 3) (v := .ref (h 1)) (C := RX3) (T := TX3) (N := 12) hx hb hts hinX3 hown hK hP 0 rfl rfl 0 (by decide) hf7 (fun _ h9 => h9) rfl dX3_appends_1 ?_
  refine lv_aload_n hx hb dX3_appends_4 rfl (lv_at hl 0 rfl) ?_
  refine va_get (D := (dC, dI)) (ci := 3) (v := .int (mHd μ)) (C := RX3) (T := TX3) (N := 12) hx hb hts hinX3 hown hK hP 0 rfl rfl 5 (by decide) hf35 (fun _ h9 => h9) rfl dX3_appends_5 ?_
  refine lv_sipush (v := 128) hx hb dX3_appends_8 (by decide) ?_
  refine lv_irem hx hb dX3_appends_11 (by decide) ?_
  refine lv_iload_n hx hb dX3_appends_12 rfl (lv_at hl 1 rfl) ?_
  have o_13 : vp_in ((mHd μ) - (mHd μ) / 128 * 128) 128 := hs.1
  have hs := hs.2
  refine va_iast hx hb hK hP hD hS 1 0 rfl rfl o_13 dX3_appends_13 (fun H locs hP hD hS => ?_)
  have hP : va_P (dC, dI) vwCl (mW cI h (mSKy μ (upd (mKy μ) ((mHd μ) - (mHd μ) / 128 * 128).toNatClampNeg p1))) H := hP
  have hD : va_D A (mW cI h (mSKy μ (upd (mKy μ) ((mHd μ) - (mHd μ) / 128 * 128).toNatClampNeg p1))) := hD
  refine lv_aload_n hx hb dX3_appends_14 rfl (lv_at hl 0 rfl) ?_
  refine va_get (D := (dC, dI)) (ci := 3) (v := .ref (h 2)) (C := RX3) (T := TX3) (N := 12) hx hb hts hinX3 hown hK hP 0 rfl rfl 1 (by decide) hf13 (fun _ h9 => h9) rfl dX3_appends_15 ?_
  refine lv_aload_n hx hb dX3_appends_18 rfl (lv_at hl 0 rfl) ?_
  refine va_get (D := (dC, dI)) (ci := 3) (v := .int (mHd μ)) (C := RX3) (T := TX3) (N := 12) hx hb hts hinX3 hown hK hP 0 rfl rfl 5 (by decide) hf35 (fun _ h9 => h9) rfl dX3_appends_19 ?_
  refine lv_sipush (v := 128) hx hb dX3_appends_22 (by decide) ?_
  refine lv_irem hx hb dX3_appends_25 (by decide) ?_
  refine lv_iload_n hx hb dX3_appends_26 rfl (lv_at hl 2 rfl) ?_
  have o_27 : vp_in ((mHd μ) - (mHd μ) / 128 * 128) 128 := hs.1
  have hs := hs.2
  refine va_iast hx hb hK hP hD hS 2 0 rfl rfl o_27 dX3_appends_27 (fun H locs hP hD hS => ?_)
  have hP : va_P (dC, dI) vwCl (mW cI h (mSVl (mSKy μ (upd (mKy μ) ((mHd μ) - (mHd μ) / 128 * 128).toNatClampNeg p1)) (upd (mVl μ) ((mHd μ) - (mHd μ) / 128 * 128).toNatClampNeg p2))) H := hP
  have hD : va_D A (mW cI h (mSVl (mSKy μ (upd (mKy μ) ((mHd μ) - (mHd μ) / 128 * 128).toNatClampNeg p1)) (upd (mVl μ) ((mHd μ) - (mHd μ) / 128 * 128).toNatClampNeg p2))) := hD
  refine lv_aload_n hx hb dX3_appends_28 rfl (lv_at hl 0 rfl) ?_
  refine lv_dup hx hb dX3_appends_29 rfl ?_
  refine va_get (D := (dC, dI)) (ci := 3) (v := .int (mHd μ)) (C := RX3) (T := TX3) (N := 12) hx hb hts hinX3 hown hK hP 0 rfl rfl 5 (by decide) hf35 (fun _ h9 => h9) rfl dX3_appends_30 ?_
  refine lv_iconst (v := 1) hx hb dX3_appends_33 (by decide) ?_
  refine lv_iadd hx hb dX3_appends_34 ?_
  refine va_put (D := (dC, dI)) (ci := 3) (v := .int ((mHd μ) + 1)) (ty := .int) (C := RX3) (T := TX3) (N := 12) hx hb hts hinX3 tyX3 tyX3_ok nmX3 hown hK hP hD hS 0 rfl rfl 5 (by decide) hf35 (fun _ h9 => h9) rfl (by decide +kernel) rfl rfl (Nat.le_of_ble_eq_true rfl) dX3_appends_35 (fun H locs hP hD hS => ?_)
  have hP : va_P (dC, dI) vwCl (mW cI h (mSHd (mSVl (mSKy μ (upd (mKy μ) ((mHd μ) - (mHd μ) / 128 * 128).toNatClampNeg p1)) (upd (mVl μ) ((mHd μ) - (mHd μ) / 128 * 128).toNatClampNeg p2)) ((mHd μ) + 1))) H := hP
  have hD : va_D A (mW cI h (mSHd (mSVl (mSKy μ (upd (mKy μ) ((mHd μ) - (mHd μ) / 128 * 128).toNatClampNeg p1)) (upd (mVl μ) ((mHd μ) - (mHd μ) / 128 * 128).toNatClampNeg p2)) ((mHd μ) + 1))) := hD
  refine lv_aload_n hx hb dX3_appends_38 rfl (lv_at hl 0 rfl) ?_
  refine va_get (D := (dC, dI)) (ci := 3) (v := .int ((mHd μ) + 1)) (C := RX3) (T := TX3) (N := 12) hx hb hts hinX3 hown hK hP 0 rfl rfl 5 (by decide) hf35 (fun _ h9 => h9) rfl dX3_appends_39 ?_
  refine lv_iconst (v := 1) hx hb dX3_appends_42 (by decide) ?_
  refine lv_isub hx hb dX3_appends_43 ?_
  exact rI (w := fun u => mW cI h u) (mSHd (mSVl (mSKy μ (upd (mKy μ) ((mHd μ) - (mHd μ) / 128 * 128).toNatClampNeg p1)) (upd (mVl μ) ((mHd μ) - (mHd μ) / 128 * 128).toNatClampNeg p2)) ((mHd μ) + 1)) hx hb hr hlocks hP hD hS (Nat.le_of_ble_eq_true rfl) (Nat.le_of_ble_eq_true rfl) dX3_appends_44 ⟨by rw [hV] <;> rfl, by rw [hV] <;> rfl⟩
def v_X3_valueOf (μ : MS) (p1 : Int32) : Int32 := if 0 ≤ ((mIx μ) p1.toNatClampNeg) then ((mVl μ) (((mIx μ) p1.toNatClampNeg) - ((mIx μ) p1.toNatClampNeg) / 128 * 128).toNatClampNeg) else (-1)
theorem v_X3_valueOf_e (μ : MS) (p1 : Int32) : v_X3_valueOf μ p1 = if 0 ≤ ((mIx μ) p1.toNatClampNeg) then ((mVl μ) (((mIx μ) p1.toNatClampNeg) - ((mIx μ) p1.toNatClampNeg) / 128 * 128).toNatClampNeg) else (-1) := rfl
def s_X3_valueOf (μ : MS) (p1 : Int32) : Prop := (vp_in p1 64 ∧ ((0 ≤ ((mIx μ) p1.toNatClampNeg) → (vp_in p1 64 ∧ (vp_in (((mIx μ) p1.toNatClampNeg) - ((mIx μ) p1.toNatClampNeg) / 128 * 128) 128 ∧ True))) ∧ (¬ 0 ≤ ((mIx μ) p1.toNatClampNeg) → True)))
set_option maxHeartbeats 1000000 in
set_option maxRecDepth 100000 in
theorem c_X3_valueOf (l : Launch) (dC : Nat → ClassId) (dI : Nat → Nat → Nat) (cI : ClassId) (h : Nat → Nat) (sz : Nat) (μ : MS) (p1 : Int32) (hs : s_X3_valueOf μ p1) : Met l yX3_valueOf wsX3_valueOf ({ frames := 0, cells := 0, slots := 0, locals := 0 }) (va_Pc [.ref (h 0), .int p1] (pW (dC, dI) [(cI, .int)] (mW cI h μ) sz)) (va_Qi (fun (r : Int32) (u : Unit) => r = v_X3_valueOf μ p1) (qW (dC, dI) (va_A (mW cI h μ) sz) (fun _ => mW cI h μ)) (va_A (mW cI h μ) sz)) 0 0 (va_A (mW cI h μ) sz) := by
  refine Met.ofW (cc := cX3_valueOf) (maxL := 2) (ret := (some .int)) (by decide) rfl ?_
  intro p e s m args below meth c s₁ B hml hv
  obtain ⟨rfl, hsz, hP, hK, hD0⟩ := hv
  have hx := B.exec
  have hb := B.bytes
  have hr := B.returns
  have hts := atoms_spec (ws := wsX3_valueOf) B.pre
  have hown : s.vm.findClass RX3 = some m.cls := findClass_of_methodNamed B.named
  have hlocks := B.notSynchronized
  have hinX3 : ∀ w ∈ wsX30, w ∈ wsX3_valueOf := by decide +kernel
  have hf13 := hts (.fieldLink RX3 13 "KeysapartModel" "value" "[I") (by decide +kernel)
  have hf16 := hts (.fieldLink RX3 16 "KeysapartModel" "index" "[I") (by decide +kernel)
  subst hsz
  have hD := hD0.self (sz := s.heap.size)
  generalize hAe : va_A (mW cI h μ) s.heap.size = A at hD ⊢
  have hA : ∀ q : Nat, s.heap.size ≤ q → A q := fun q h => by rw [← hAe]; exact Or.inr h
  have hl := lv_entry ([.ref (h 0), .int p1]) (n := 2) (Nat.le_of_ble_eq_true rfl)
  rw [lg_entry_eq]
  generalize (lg_sl ([.ref (h 0), .int p1]) ++ List.replicate (2 - (lg_sl ([.ref (h 0), .int p1])).length) Slot.unset).toArray = ls at hl ⊢
  have hl : lv_has ls 2 [(0, .ref (h 0)), (1, .int p1)] := hl
  generalize hHe : s.heap = H at hP ⊢
  generalize hLe : ([] : List Loc) = locs
  have hS : va_S A s.heap H locs := by
    rw [← hLe, ← hHe]
    exact va_S.rf
  unfold s_X3_valueOf at hs
  have hV := v_X3_valueOf_e μ p1
  refine lv_aload_n hx hb dX3_valueOf_0 rfl (lv_at hl 0 rfl) ?_
  refine va_get (D := (dC, dI)) (ci := 3) (v := .ref (h 3)) (C := RX3) (T := TX3) (N := 12) hx hb hts hinX3 hown hK hP 0 rfl rfl 2 (by decide) hf16 (fun _ h9 => h9) rfl dX3_valueOf_1 ?_
  refine lv_iload_n hx hb dX3_valueOf_4 rfl (lv_at hl 1 rfl) ?_
  have o_5 : vp_in p1 64 := hs.1
  have hs := hs.2
  refine va_iald hx hb hK hP 3 0 rfl rfl o_5 dX3_valueOf_5 ?_
  refine lv_if_ge (tgt := 13) hx hb dX3_valueOf_6 (by decide) (fun c_6 => ?_) (fun c_6 => ?_)
  · skip
    have hs := hs.1 c_6
    rw [if_pos c_6] at hV
    refine lv_aload_n hx hb dX3_valueOf_13 rfl (lv_at hl 0 rfl) ?_
    refine va_get (D := (dC, dI)) (ci := 3) (v := .ref (h 2)) (C := RX3) (T := TX3) (N := 12) hx hb hts hinX3 hown hK hP 0 rfl rfl 1 (by decide) hf13 (fun _ h9 => h9) rfl dX3_valueOf_14 ?_
    refine lv_aload_n hx hb dX3_valueOf_17 rfl (lv_at hl 0 rfl) ?_
    refine va_get (D := (dC, dI)) (ci := 3) (v := .ref (h 3)) (C := RX3) (T := TX3) (N := 12) hx hb hts hinX3 hown hK hP 0 rfl rfl 2 (by decide) hf16 (fun _ h9 => h9) rfl dX3_valueOf_18 ?_
    refine lv_iload_n hx hb dX3_valueOf_21 rfl (lv_at hl 1 rfl) ?_
    have o_22 : vp_in p1 64 := hs.1
    have hs := hs.2
    refine va_iald hx hb hK hP 3 0 rfl rfl o_22 dX3_valueOf_22 ?_
    refine lv_sipush (v := 128) hx hb dX3_valueOf_23 (by decide) ?_
    refine lv_irem hx hb dX3_valueOf_26 (by decide) ?_
    have o_27 : vp_in (((mIx μ) p1.toNatClampNeg) - ((mIx μ) p1.toNatClampNeg) / 128 * 128) 128 := hs.1
    have hs := hs.2
    refine va_iald hx hb hK hP 2 0 rfl rfl o_27 dX3_valueOf_27 ?_
    exact rI (w := fun _ => mW cI h μ) (()) hx hb hr hlocks hP hD hS (Nat.le_of_ble_eq_true rfl) (Nat.le_of_ble_eq_true rfl) dX3_valueOf_28 (by rw [hV] <;> rfl)
  · skip
    have hs := hs.2 c_6
    rw [if_neg c_6] at hV
    refine lv_iconst (v := (-1)) hx hb dX3_valueOf_9 (by decide) ?_
    refine lv_goto (tgt := 28) hx hb dX3_valueOf_10 (by decide) ?_
    exact rI (w := fun _ => mW cI h μ) (()) hx hb hr hlocks hP hD hS (Nat.le_of_ble_eq_true rfl) (Nat.le_of_ble_eq_true rfl) dX3_valueOf_28 (by rw [hV] <;> rfl)
def v_X3_isRange (p0 : Int32) (p1 : Int32) : Int32 := if p0 < 0 then 0 else if p1 < p0 then 0 else if 64 ≤ p1 then 0 else 1
theorem v_X3_isRange_e (p0 : Int32) (p1 : Int32) : v_X3_isRange p0 p1 = if p0 < 0 then 0 else if p1 < p0 then 0 else if 64 ≤ p1 then 0 else 1 := rfl
set_option maxHeartbeats 1000000 in
set_option maxRecDepth 100000 in
theorem c_X3_isRange (l : Launch) (dC : Nat → ClassId) (dI : Nat → Nat → Nat) (cI : ClassId) (sz : Nat) (p0 : Int32) (p1 : Int32) : Met l yX3_isRange wsX3_isRange ({ frames := 0, cells := 0, slots := 0, locals := 0 }) (va_Pc [.int p0, .int p1] (pW (dC, dI) [(cI, .int)] (eW) sz)) (va_Qi (fun (r : Int32) (u : Unit) => r = v_X3_isRange p0 p1 ∧ bz r) (qW (dC, dI) (va_A (eW) sz) (fun _ => eW)) (va_A (eW) sz)) 0 0 (va_A (eW) sz) := by
  refine Met.ofW (cc := cX3_isRange) (maxL := 2) (ret := (some .boolean)) (by decide) rfl ?_
  intro p e s m args below meth c s₁ B hml hv
  obtain ⟨rfl, hsz, hP, hK, hD0⟩ := hv
  have hx := B.exec
  have hb := B.bytes
  have hr := B.returns
  have hts := atoms_spec (ws := wsX3_isRange) B.pre
  have hown : s.vm.findClass RX3 = some m.cls := findClass_of_methodNamed B.named
  have hlocks := B.notSynchronized
  subst hsz
  have hD := hD0.self (sz := s.heap.size)
  generalize hAe : va_A (eW) s.heap.size = A at hD ⊢
  have hA : ∀ q : Nat, s.heap.size ≤ q → A q := fun q h => by rw [← hAe]; exact Or.inr h
  have hl := lv_entry ([.int p0, .int p1]) (n := 2) (Nat.le_of_ble_eq_true rfl)
  rw [lg_entry_eq]
  generalize (lg_sl ([.int p0, .int p1]) ++ List.replicate (2 - (lg_sl ([.int p0, .int p1])).length) Slot.unset).toArray = ls at hl ⊢
  have hl : lv_has ls 2 [(0, .int p0), (1, .int p1)] := hl
  generalize hHe : s.heap = H at hP ⊢
  generalize hLe : ([] : List Loc) = locs
  have hS : va_S A s.heap H locs := by
    rw [← hLe, ← hHe]
    exact va_S.rf
  have hV := v_X3_isRange_e p0 p1
  refine lv_iload_n hx hb dX3_isRange_0 rfl (lv_at hl 0 rfl) ?_
  refine lv_if_lt (tgt := 19) hx hb dX3_isRange_1 (by decide) (fun c_1 => ?_) (fun c_1 => ?_)
  · skip
    rw [if_pos c_1] at hV
    refine lv_iconst (v := 0) hx hb dX3_isRange_19 (by decide) ?_
    have hz9 : bz (0) := by first | assumption | (repeat (first | exact bz0 | exact bz1 | assumption | refine bz_ite ?_ ?_))
    exact rZ (w := fun _ => eW) (()) hx hb hr hlocks hP hD hS (Nat.le_of_ble_eq_true rfl) (Nat.le_of_ble_eq_true rfl) dX3_isRange_20 hz9 ⟨by rw [hV] <;> rfl, hz9⟩
  · skip
    rw [if_neg c_1] at hV
    refine lv_iload_n hx hb dX3_isRange_4 rfl (lv_at hl 0 rfl) ?_
    refine lv_iload_n hx hb dX3_isRange_5 rfl (lv_at hl 1 rfl) ?_
    refine lv_icmp_gt (tgt := 19) hx hb dX3_isRange_6 (by decide) (fun c_6 => ?_) (fun c_6 => ?_)
    · skip
      rw [if_pos c_6] at hV
      refine lv_iconst (v := 0) hx hb dX3_isRange_19 (by decide) ?_
      have hz9 : bz (0) := by first | assumption | (repeat (first | exact bz0 | exact bz1 | assumption | refine bz_ite ?_ ?_))
      exact rZ (w := fun _ => eW) (()) hx hb hr hlocks hP hD hS (Nat.le_of_ble_eq_true rfl) (Nat.le_of_ble_eq_true rfl) dX3_isRange_20 hz9 ⟨by rw [hV] <;> rfl, hz9⟩
    · skip
      rw [if_neg c_6] at hV
      refine lv_iload_n hx hb dX3_isRange_9 rfl (lv_at hl 1 rfl) ?_
      refine lv_bipush (v := 64) hx hb dX3_isRange_10 (by decide) ?_
      refine lv_icmp_ge (tgt := 19) hx hb dX3_isRange_12 (by decide) (fun c_12 => ?_) (fun c_12 => ?_)
      · skip
        rw [if_pos c_12] at hV
        refine lv_iconst (v := 0) hx hb dX3_isRange_19 (by decide) ?_
        have hz9 : bz (0) := by first | assumption | (repeat (first | exact bz0 | exact bz1 | assumption | refine bz_ite ?_ ?_))
        exact rZ (w := fun _ => eW) (()) hx hb hr hlocks hP hD hS (Nat.le_of_ble_eq_true rfl) (Nat.le_of_ble_eq_true rfl) dX3_isRange_20 hz9 ⟨by rw [hV] <;> rfl, hz9⟩
      · skip
        rw [if_neg c_12] at hV
        refine lv_iconst (v := 1) hx hb dX3_isRange_15 (by decide) ?_
        refine lv_goto (tgt := 20) hx hb dX3_isRange_16 (by decide) ?_
        have hz9 : bz (1) := by first | assumption | (repeat (first | exact bz0 | exact bz1 | assumption | refine bz_ite ?_ ?_))
        exact rZ (w := fun _ => eW) (()) hx hb hr hlocks hP hD hS (Nat.le_of_ble_eq_true rfl) (Nat.le_of_ble_eq_true rfl) dX3_isRange_20 hz9 ⟨by rw [hV] <;> rfl, hz9⟩
def v_X3_writes (μ : MS) : Int32 × MS := if (mCh μ) = 0 then (0, mSDn (mSCh μ (-1)) 1) else (1, mSCh μ ((mCh μ) - (if (mCh μ) ≤ 0 then 0 else 1 : Int32)))
theorem v_X3_writes_e (μ : MS) : v_X3_writes μ = if (mCh μ) = 0 then (0, mSDn (mSCh μ (-1)) 1) else (1, mSCh μ ((mCh μ) - (if (mCh μ) ≤ 0 then 0 else 1 : Int32))) := rfl
set_option maxHeartbeats 1000000 in
set_option maxRecDepth 100000 in
theorem c_X3_writes (l : Launch) (dC : Nat → ClassId) (dI : Nat → Nat → Nat) (cI : ClassId) (h : Nat → Nat) (sz : Nat) (μ : MS) : Met l yX3_writes wsX3_writes ({ frames := 0, cells := 0, slots := 0, locals := 0 }) (va_Pc [.ref (h 0)] (pW (dC, dI) [(cI, .int)] (mW cI h μ) sz)) (va_Qi (fun (r : Int32) (u : MS) => r = (v_X3_writes μ).1 ∧ u = (v_X3_writes μ).2 ∧ bz r) (qW (dC, dI) (va_A (mW cI h μ) sz) (fun u => mW cI h u)) (va_A (mW cI h μ) sz)) 0 0 (va_A (mW cI h μ) sz) := by
  refine Met.ofW (cc := cX3_writes) (maxL := 1) (ret := (some .boolean)) (by decide) rfl ?_
  intro p e s m args below meth c s₁ B hml hv
  obtain ⟨rfl, hsz, hP, hK, hD0⟩ := hv
  have hx := B.exec
  have hb := B.bytes
  have hr := B.returns
  have hts := atoms_spec (ws := wsX3_writes) B.pre
  have hown : s.vm.findClass RX3 = some m.cls := findClass_of_methodNamed B.named
  have hlocks := B.notSynchronized
  have hinX3 : ∀ w ∈ wsX30, w ∈ wsX3_writes := by decide +kernel
  have hf25 := hts (.fieldLink RX3 25 "KeysapartModel" "chosen" "I") (by decide +kernel)
  have hf46 := hts (.fieldLink RX3 46 "KeysapartModel" "isDown" "Z") (by decide +kernel)
  subst hsz
  have hD := hD0.self (sz := s.heap.size)
  generalize hAe : va_A (mW cI h μ) s.heap.size = A at hD ⊢
  have hA : ∀ q : Nat, s.heap.size ≤ q → A q := fun q h => by rw [← hAe]; exact Or.inr h
  have hl := lv_entry ([.ref (h 0)]) (n := 1) (Nat.le_of_ble_eq_true rfl)
  rw [lg_entry_eq]
  generalize (lg_sl ([.ref (h 0)]) ++ List.replicate (1 - (lg_sl ([.ref (h 0)])).length) Slot.unset).toArray = ls at hl ⊢
  have hl : lv_has ls 1 [(0, .ref (h 0))] := hl
  generalize hHe : s.heap = H at hP ⊢
  generalize hLe : ([] : List Loc) = locs
  have hS : va_S A s.heap H locs := by
    rw [← hLe, ← hHe]
    exact va_S.rf
  have hV := v_X3_writes_e μ
  refine lv_aload_n hx hb dX3_writes_0 rfl (lv_at hl 0 rfl) ?_
  refine va_get (D := (dC, dI)) (ci := 3) (v := .int (mCh μ)) (C := RX3) (T := TX3) (N := 12) hx hb hts hinX3 hown hK hP 0 rfl rfl 9 (by decide) hf25 (fun _ h9 => h9) rfl dX3_writes_1 ?_
  refine lv_if_ne (tgt := 19) hx hb dX3_writes_4 (by decide) (fun c_4 => ?_) (fun c_4 => ?_)
  · skip
    rw [if_neg c_4] at hV
    refine lv_aload_n hx hb dX3_writes_19 rfl (lv_at hl 0 rfl) ?_
    refine lv_dup hx hb dX3_writes_20 rfl ?_
    refine va_get (D := (dC, dI)) (ci := 3) (v := .int (mCh μ)) (C := RX3) (T := TX3) (N := 12) hx hb hts hinX3 hown hK hP 0 rfl rfl 9 (by decide) hf25 (fun _ h9 => h9) rfl dX3_writes_21 ?_
    refine lv_aload_n hx hb dX3_writes_24 rfl (lv_at hl 0 rfl) ?_
    refine va_get (D := (dC, dI)) (ci := 3) (v := .int (mCh μ)) (C := RX3) (T := TX3) (N := 12) hx hb hts hinX3 hown hK hP 0 rfl rfl 9 (by decide) hf25 (fun _ h9 => h9) rfl dX3_writes_25 ?_
    suffices J_28 : W p l e (headSpec wsX3_writes ({ frames := 0, cells := 0, slots := 0, locals := 0 })).room s m [.ref (h 0)].toArray below meth c H locs 0 0 (MQ below (va_Qi (fun (r : Int32) (u : MS) => r = (v_X3_writes μ).1 ∧ u = (v_X3_writes μ).2 ∧ bz r) (qW (dC, dI) A (fun u => mW cI h u)) A) [.ref (h 0)].toArray s 0 0 A) (F0 m 36 ls [.int (if (mCh μ) ≤ 0 then 0 else 1 : Int32), .int (mCh μ), .ref (h 0)]) by
      refine lv_if_le (tgt := 35) hx hb dX3_writes_28 (by decide) (fun c_28 => ?_) (fun c_28 => ?_)
      · skip
        rw [if_pos c_28] at J_28
        refine lv_iconst (v := 0) hx hb dX3_writes_35 (by decide) ?_
        exact J_28
      · skip
        rw [if_neg c_28] at J_28
        refine lv_iconst (v := 1) hx hb dX3_writes_31 (by decide) ?_
        refine lv_goto (tgt := 36) hx hb dX3_writes_32 (by decide) ?_
        exact J_28
    refine lv_isub hx hb dX3_writes_36 ?_
    refine va_put (D := (dC, dI)) (ci := 3) (v := .int ((mCh μ) - (if (mCh μ) ≤ 0 then 0 else 1 : Int32))) (ty := .int) (C := RX3) (T := TX3) (N := 12) hx hb hts hinX3 tyX3 tyX3_ok nmX3 hown hK hP hD hS 0 rfl rfl 9 (by decide) hf25 (fun _ h9 => h9) rfl (by decide +kernel) rfl rfl (Nat.le_of_ble_eq_true rfl) dX3_writes_37 (fun H locs hP hD hS => ?_)
    have hP : va_P (dC, dI) vwCl (mW cI h (mSCh μ ((mCh μ) - (if (mCh μ) ≤ 0 then 0 else 1 : Int32)))) H := hP
    have hD : va_D A (mW cI h (mSCh μ ((mCh μ) - (if (mCh μ) ≤ 0 then 0 else 1 : Int32)))) := hD
    refine lv_iconst (v := 1) hx hb dX3_writes_40 (by decide) ?_
    have hz9 : bz (1) := by first | assumption | (repeat (first | exact bz0 | exact bz1 | assumption | refine bz_ite ?_ ?_))
    exact rZ (w := fun u => mW cI h u) (mSCh μ ((mCh μ) - (if (mCh μ) ≤ 0 then 0 else 1 : Int32))) hx hb hr hlocks hP hD hS (Nat.le_of_ble_eq_true rfl) (Nat.le_of_ble_eq_true rfl) dX3_writes_41 hz9 ⟨by rw [hV] <;> rfl, by rw [hV] <;> rfl, hz9⟩
  · skip
    rw [if_pos c_4] at hV
    refine lv_aload_n hx hb dX3_writes_7 rfl (lv_at hl 0 rfl) ?_
    refine lv_iconst (v := (-1)) hx hb dX3_writes_8 (by decide) ?_
    refine va_put (D := (dC, dI)) (ci := 3) (v := .int (-1)) (ty := .int) (C := RX3) (T := TX3) (N := 12) hx hb hts hinX3 tyX3 tyX3_ok nmX3 hown hK hP hD hS 0 rfl rfl 9 (by decide) hf25 (fun _ h9 => h9) rfl (by decide +kernel) rfl rfl (Nat.le_of_ble_eq_true rfl) dX3_writes_9 (fun H locs hP hD hS => ?_)
    have hP : va_P (dC, dI) vwCl (mW cI h (mSCh μ (-1))) H := hP
    have hD : va_D A (mW cI h (mSCh μ (-1))) := hD
    refine lv_aload_n hx hb dX3_writes_12 rfl (lv_at hl 0 rfl) ?_
    refine lv_iconst (v := 1) hx hb dX3_writes_13 (by decide) ?_
    refine va_put (D := (dC, dI)) (ci := 3) (v := .int 1) (ty := .boolean) (C := RX3) (T := TX3) (N := 12) hx hb hts hinX3 tyX3 tyX3_ok nmX3 hown hK hP hD hS 0 rfl rfl 10 (by decide) hf46 (fun _ h9 => h9) rfl (by decide +kernel) rfl rfl (Nat.le_of_ble_eq_true rfl) dX3_writes_14 (fun H locs hP hD hS => ?_)
    have hP : va_P (dC, dI) vwCl (mW cI h (mSDn (mSCh μ (-1)) 1)) H := hP
    have hD : va_D A (mW cI h (mSDn (mSCh μ (-1)) 1)) := hD
    refine lv_iconst (v := 0) hx hb dX3_writes_17 (by decide) ?_
    have hz9 : bz (0) := by first | assumption | (repeat (first | exact bz0 | exact bz1 | assumption | refine bz_ite ?_ ?_))
    exact rZ (w := fun u => mW cI h u) (mSDn (mSCh μ (-1)) 1) hx hb hr hlocks hP hD hS (Nat.le_of_ble_eq_true rfl) (Nat.le_of_ble_eq_true rfl) dX3_writes_18 hz9 ⟨by rw [hV] <;> rfl, by rw [hV] <;> rfl, hz9⟩
def l_X3_synchronizes_2 : Nat → MS → Int32 → MS × Int32
  | 0, μ2, x1_2 => (μ2, x1_2)
  | n + 1, μ2, x1_2 => if (mHd μ2) ≤ (mWr μ2) then (μ2, x1_2) else if x1_2 = 0 then (μ2, x1_2) else l_X3_synchronizes_2 n (mSWr ((v_X3_writes μ2).2) ((mWr ((v_X3_writes μ2).2)) + (if ((v_X3_writes μ2).1) = 0 then 0 else 1 : Int32))) ((v_X3_writes μ2).1)
theorem l_X3_synchronizes_2_s (n : Nat) (μ2 : MS) (x1_2 : Int32) : l_X3_synchronizes_2 (n + 1) μ2 x1_2 = if (mHd μ2) ≤ (mWr μ2) then (μ2, x1_2) else if x1_2 = 0 then (μ2, x1_2) else l_X3_synchronizes_2 n (mSWr ((v_X3_writes μ2).2) ((mWr ((v_X3_writes μ2).2)) + (if ((v_X3_writes μ2).1) = 0 then 0 else 1 : Int32))) ((v_X3_writes μ2).1) := rfl
def sl_X3_synchronizes_2 : Nat → MS → Int32 → Prop
  | 0, μ2, x1_2 => False
  | n + 1, μ2, x1_2 => (((mHd μ2) ≤ (mWr μ2) → True) ∧ (¬ (mHd μ2) ≤ (mWr μ2) → ((x1_2 = 0 → True) ∧ (¬ x1_2 = 0 → sl_X3_synchronizes_2 n (mSWr ((v_X3_writes μ2).2) ((mWr ((v_X3_writes μ2).2)) + (if ((v_X3_writes μ2).1) = 0 then 0 else 1 : Int32))) ((v_X3_writes μ2).1)))))
theorem sl_X3_synchronizes_2_s (n : Nat) (μ2 : MS) (x1_2 : Int32) : sl_X3_synchronizes_2 (n + 1) μ2 x1_2 = (((mHd μ2) ≤ (mWr μ2) → True) ∧ (¬ (mHd μ2) ≤ (mWr μ2) → ((x1_2 = 0 → True) ∧ (¬ x1_2 = 0 → sl_X3_synchronizes_2 n (mSWr ((v_X3_writes μ2).2) ((mWr ((v_X3_writes μ2).2)) + (if ((v_X3_writes μ2).1) = 0 then 0 else 1 : Int32))) ((v_X3_writes μ2).1))))) := rfl
def v_X3_synchronizes (μ : MS) : Int32 × MS := ((l_X3_synchronizes_2 100 μ 1).2, (l_X3_synchronizes_2 100 μ 1).1)
theorem v_X3_synchronizes_e (μ : MS) : v_X3_synchronizes μ = ((l_X3_synchronizes_2 100 μ 1).2, (l_X3_synchronizes_2 100 μ 1).1) := rfl
def s_X3_synchronizes (μ : MS) : Prop := (sl_X3_synchronizes_2 100 μ 1 ∧ True)
theorem bz_writes (μ : MS) : bz (v_X3_writes μ).1 := by
  unfold v_X3_writes
  split
  · exact bz0
  · exact bz1
theorem bz_syn : ∀ (n : Nat) (μ : MS) (x : Int32), bz x → bz (l_X3_synchronizes_2 n μ x).2 := by
  intro n
  induction n with
  | zero => intro μ x h; exact h
  | succ n ih =>
    intro μ x h
    rw [l_X3_synchronizes_2_s]
    split
    · exact h
    · split
      · exact h
      · exact ih _ _ (bz_writes μ)
set_option maxHeartbeats 1000000 in
set_option maxRecDepth 100000 in
theorem c_X3_synchronizes (l : Launch) (dC : Nat → ClassId) (dI : Nat → Nat → Nat) (cI : ClassId) (h : Nat → Nat) (sz : Nat) (μ : MS) (hs : s_X3_synchronizes μ) : Met l yX3_synchronizes wsX3_synchronizes ({ frames := 1, cells := 0, slots := 0, locals := 20 }) (va_Pc [.ref (h 0)] (pW (dC, dI) [(cI, .int)] (mW cI h μ) sz)) (va_Qi (fun (r : Int32) (u : MS) => r = (v_X3_synchronizes μ).1 ∧ u = (v_X3_synchronizes μ).2 ∧ bz r) (qW (dC, dI) (va_A (mW cI h μ) sz) (fun u => mW cI h u)) (va_A (mW cI h μ) sz)) 0 0 (va_A (mW cI h μ) sz) := by
  refine Met.ofW (cc := cX3_synchronizes) (maxL := 2) (ret := (some .boolean)) (by decide) rfl ?_
  intro p e s m args below meth c s₁ B hml hv
  obtain ⟨rfl, hsz, hP, hK, hD0⟩ := hv
  have hx := B.exec
  have hb := B.bytes
  have hr := B.returns
  have hts := atoms_spec (ws := wsX3_synchronizes) B.pre
  have hown : s.vm.findClass RX3 = some m.cls := findClass_of_methodNamed B.named
  have hlocks := B.notSynchronized
  have hinX3 : ∀ w ∈ wsX30, w ∈ wsX3_synchronizes := by decide +kernel
  have hf35 := hts (.fieldLink RX3 35 "KeysapartModel" "head" "I") (by decide +kernel)
  have hf68 := hts (.fieldLink RX3 68 "KeysapartModel" "written" "I") (by decide +kernel)
  subst hsz
  have hD := hD0.self (sz := s.heap.size)
  generalize hAe : va_A (mW cI h μ) s.heap.size = A at hD ⊢
  have hA : ∀ q : Nat, s.heap.size ≤ q → A q := fun q h => by rw [← hAe]; exact Or.inr h
  have hl := lv_entry ([.ref (h 0)]) (n := 2) (Nat.le_of_ble_eq_true rfl)
  rw [lg_entry_eq]
  generalize (lg_sl ([.ref (h 0)]) ++ List.replicate (2 - (lg_sl ([.ref (h 0)])).length) Slot.unset).toArray = ls at hl ⊢
  have hl : lv_has ls 2 [(0, .ref (h 0))] := hl
  generalize hHe : s.heap = H at hP ⊢
  generalize hLe : ([] : List Loc) = locs
  have hS : va_S A s.heap H locs := by
    rw [← hLe, ← hHe]
    exact va_S.rf
  unfold s_X3_synchronizes at hs
  have hV := v_X3_synchronizes_e μ
  refine lv_iconst (v := 1) hx hb dX3_synchronizes_0 (by decide) ?_
  refine lv_istore_n (lv' := [(1, .int 1), (0, .ref (h 0))]) hx hb dX3_synchronizes_1 rfl hl (by decide) rfl (fun ls hl => ?_)
  have o_l2 : sl_X3_synchronizes_2 100 μ 1 := hs.1
  have hs := hs.2
  have loop_2 : ∀ (n : Nat) (μ2 : MS) (x1_2 : Int32) (H : Heap) (locs : List Loc) (ls : Array Slot) (hs : sl_X3_synchronizes_2 n μ2 x1_2) (K : ∀ (z : MS × Int32) (hw : z = l_X3_synchronizes_2 n μ2 x1_2) (H : Heap) (locs : List Loc) (ls : Array Slot), va_P (dC, dI) vwCl (mW cI h z.1) H → va_D A (mW cI h z.1) → va_S A s.heap H locs → lv_has ls 2 [(1, .int z.2), (0, .ref (h 0))] → W p l e (headSpec wsX3_synchronizes ({ frames := 1, cells := 0, slots := 0, locals := 20 })).room s m [.ref (h 0)].toArray below meth c H locs 0 0 (MQ below (va_Qi (fun (r : Int32) (u : MS) => r = (v_X3_synchronizes μ).1 ∧ u = (v_X3_synchronizes μ).2 ∧ bz r) (qW (dC, dI) A (fun u => mW cI h u)) A) [.ref (h 0)].toArray s 0 0 A) (F0 m 43 ls [])) (hP : va_P (dC, dI) vwCl (mW cI h μ2) H) (hD : va_D A (mW cI h μ2)) (hS : va_S A s.heap H locs) (hl : lv_has ls 2 [(1, .int x1_2), (0, .ref (h 0))]), W p l e (headSpec wsX3_synchronizes ({ frames := 1, cells := 0, slots := 0, locals := 20 })).room s m [.ref (h 0)].toArray below meth c H locs 0 0 (MQ below (va_Qi (fun (r : Int32) (u : MS) => r = (v_X3_synchronizes μ).1 ∧ u = (v_X3_synchronizes μ).2 ∧ bz r) (qW (dC, dI) A (fun u => mW cI h u)) A) [.ref (h 0)].toArray s 0 0 A) (F0 m 2 ls []) := by
    intro n
    induction n with
    | zero => intro μ2 x1_2 H locs ls hs; exact False.elim hs
    | succ n ih =>
      intro μ2 x1_2 H locs ls hs K hP hD hS hl
      rw [sl_X3_synchronizes_2_s] at hs
      rw [l_X3_synchronizes_2_s] at K
      refine lv_aload_n hx hb dX3_synchronizes_2 rfl (lv_at hl 1 rfl) ?_
      refine va_get (D := (dC, dI)) (ci := 3) (v := .int (mWr μ2)) (C := RX3) (T := TX3) (N := 12) hx hb hts hinX3 hown hK hP 0 rfl rfl 7 (by decide) hf68 (fun _ h9 => h9) rfl dX3_synchronizes_3 ?_
      refine lv_aload_n hx hb dX3_synchronizes_6 rfl (lv_at hl 1 rfl) ?_
      refine va_get (D := (dC, dI)) (ci := 3) (v := .int (mHd μ2)) (C := RX3) (T := TX3) (N := 12) hx hb hts hinX3 hown hK hP 0 rfl rfl 5 (by decide) hf35 (fun _ h9 => h9) rfl dX3_synchronizes_7 ?_
      refine lv_icmp_ge (tgt := 43) hx hb dX3_synchronizes_10 (by decide) (fun c_10 => ?_) (fun c_10 => ?_)
      · skip
        have hs := hs.1 c_10
        rw [if_pos c_10] at K
        exact K _ rfl H locs ls hP hD hS (lv_sub hl [0, 1] rfl)
      · skip
        have hs := hs.2 c_10
        rw [if_neg c_10] at K
        refine lv_iload_n hx hb dX3_synchronizes_13 rfl (lv_at hl 0 rfl) ?_
        refine lv_if_eq (tgt := 43) hx hb dX3_synchronizes_14 (by decide) (fun c_14 => ?_) (fun c_14 => ?_)
        · skip
          have hs := hs.1 c_14
          rw [if_pos c_14] at K
          exact K _ rfl H locs ls hP hD hS (lv_sub hl [0, 1] rfl)
        · skip
          have hs := hs.2 c_14
          rw [if_neg c_14] at K
          refine lv_aload_n hx hb dX3_synchronizes_17 rfl (lv_at hl 1 rfl) ?_
          have hPc := hP.sub (ws' := mW cI h μ2) [0, 1, 2, 3, 4, 5] rfl
          have hDc := hD.sub (ws' := mW cI h μ2) [0, 1, 2, 3, 4, 5] (by decide) rfl
          refine rcI (W2 := fun u => mW cI h u) (va_runV (As := []) (rest := []) ⟨hx, hb, hml, hown, hts⟩ (c_X3_writes l dC dI cI h H.size μ2) (cwV 0 hts gX3_synchronizes_X3_writes rfl rfl rfl (by decide +kernel) ⟨Nat.le_of_ble_eq_true rfl, Nat.le_of_ble_eq_true rfl⟩) (pW_V hPc hK hDc (ci := 3) (q0 := 0) rfl rfl) rfl rfl hl.1 rfl (lv_room (Nat.le_of_ble_eq_true rfl)) dX3_synchronizes_18 ⟨Nat.le_of_ble_eq_true rfl, Nat.le_of_ble_eq_true rfl⟩) hP hD hS hA [0, 1, 2, 3, 4, 5] [] [0, 1, 2, 3, 4, 5] rfl rfl (by decide) (fun _ => rfl) (fun r_18 u_18 H locs hw hP hD hS => ?_)
          obtain ⟨hw, hw2, hz_18⟩ := hw
          try rw [← hw] at K
          try rw [← hw] at hs
          try rw [← hw2] at K
          try rw [← hw2] at hs
          refine lv_istore_n (lv' := [(1, .int r_18), (0, .ref (h 0))]) hx hb dX3_synchronizes_21 rfl hl (by decide) rfl (fun ls hl => ?_)
          refine lv_aload_n hx hb dX3_synchronizes_22 rfl (lv_at hl 1 rfl) ?_
          refine lv_dup hx hb dX3_synchronizes_23 rfl ?_
          refine va_get (D := (dC, dI)) (ci := 3) (v := .int (mWr u_18)) (C := RX3) (T := TX3) (N := 12) hx hb hts hinX3 hown hK hP 0 rfl rfl 7 (by decide) hf68 (fun _ h9 => h9) rfl dX3_synchronizes_24 ?_
          refine lv_iload_n hx hb dX3_synchronizes_27 rfl (lv_at hl 0 rfl) ?_
          suffices J_28 : W p l e (headSpec wsX3_synchronizes ({ frames := 1, cells := 0, slots := 0, locals := 20 })).room s m [.ref (h 0)].toArray below meth c H locs 0 0 (MQ below (va_Qi (fun (r : Int32) (u : MS) => r = (v_X3_synchronizes μ).1 ∧ u = (v_X3_synchronizes μ).2 ∧ bz r) (qW (dC, dI) A (fun u => mW cI h u)) A) [.ref (h 0)].toArray s 0 0 A) (F0 m 36 ls [.int (if r_18 = 0 then 0 else 1 : Int32), .int (mWr u_18), .ref (h 0)]) by
            refine lv_if_eq (tgt := 35) hx hb dX3_synchronizes_28 (by decide) (fun c_28 => ?_) (fun c_28 => ?_)
            · skip
              rw [if_pos c_28] at J_28
              refine lv_iconst (v := 0) hx hb dX3_synchronizes_35 (by decide) ?_
              exact J_28
            · skip
              rw [if_neg c_28] at J_28
              refine lv_iconst (v := 1) hx hb dX3_synchronizes_31 (by decide) ?_
              refine lv_goto (tgt := 36) hx hb dX3_synchronizes_32 (by decide) ?_
              exact J_28
          refine lv_iadd hx hb dX3_synchronizes_36 ?_
          refine va_put (D := (dC, dI)) (ci := 3) (v := .int ((mWr u_18) + (if r_18 = 0 then 0 else 1 : Int32))) (ty := .int) (C := RX3) (T := TX3) (N := 12) hx hb hts hinX3 tyX3 tyX3_ok nmX3 hown hK hP hD hS 0 rfl rfl 7 (by decide) hf68 (fun _ h9 => h9) rfl (by decide +kernel) rfl rfl (Nat.le_of_ble_eq_true rfl) dX3_synchronizes_37 (fun H locs hP hD hS => ?_)
          have hP : va_P (dC, dI) vwCl (mW cI h (mSWr u_18 ((mWr u_18) + (if r_18 = 0 then 0 else 1 : Int32)))) H := hP
          have hD : va_D A (mW cI h (mSWr u_18 ((mWr u_18) + (if r_18 = 0 then 0 else 1 : Int32)))) := hD
          refine lv_goto (tgt := 2) hx hb dX3_synchronizes_40 (by decide) ?_
          exact ih (mSWr u_18 ((mWr u_18) + (if r_18 = 0 then 0 else 1 : Int32))) r_18 H locs ls hs K hP hD hS (lv_sub hl [0, 1] rfl)
  refine loop_2 100 μ 1 H locs ls o_l2 (fun z_2 hw H locs ls hP hD hS hl => ?_) hP hD hS (lv_sub hl [0, 1] rfl)
  try rw [← hw] at hV
  refine lv_iload_n hx hb dX3_synchronizes_43 rfl (lv_at hl 0 rfl) ?_
  have hz9 : bz (z_2.2) := by first | assumption | (rw [hw]; exact bz_syn _ _ _ bz1) | (repeat (first | exact bz0 | exact bz1 | assumption | refine bz_ite ?_ ?_))
  exact rZ (w := fun u => mW cI h u) (z_2.1) hx hb hr hlocks hP hD hS (Nat.le_of_ble_eq_true rfl) (Nat.le_of_ble_eq_true rfl) dX3_synchronizes_44 hz9 ⟨by rw [hV] <;> rfl, by rw [hV] <;> rfl, hz9⟩
def l_X3_liveIn_7 (μ : MS) (y1 : Int32) : Nat → Int32 → Int32 → Int32 × Int32
  | 0, x2_7, x3_7 => (x2_7, x3_7)
  | n + 1, x2_7, x3_7 => if ((mTl μ) + y1) ≤ x3_7 then (x2_7, x3_7) else l_X3_liveIn_7 μ y1 n (x2_7 + (if ((mIx μ) ((mKy μ) (x3_7 - x3_7 / 128 * 128).toNatClampNeg).toNatClampNeg) = x3_7 then 1 else 0 : Int32)) (x3_7 + 1)
theorem l_X3_liveIn_7_s (μ : MS) (y1 : Int32) (n : Nat) (x2_7 : Int32) (x3_7 : Int32) : l_X3_liveIn_7 μ y1 (n + 1) x2_7 x3_7 = if ((mTl μ) + y1) ≤ x3_7 then (x2_7, x3_7) else l_X3_liveIn_7 μ y1 n (x2_7 + (if ((mIx μ) ((mKy μ) (x3_7 - x3_7 / 128 * 128).toNatClampNeg).toNatClampNeg) = x3_7 then 1 else 0 : Int32)) (x3_7 + 1) := rfl
def sl_X3_liveIn_7 (μ : MS) (y1 : Int32) : Nat → Int32 → Int32 → Prop
  | 0, x2_7, x3_7 => False
  | n + 1, x2_7, x3_7 => ((((mTl μ) + y1) ≤ x3_7 → True) ∧ (¬ ((mTl μ) + y1) ≤ x3_7 → (vp_in (x3_7 - x3_7 / 128 * 128) 128 ∧ (vp_in ((mKy μ) (x3_7 - x3_7 / 128 * 128).toNatClampNeg) 64 ∧ sl_X3_liveIn_7 μ y1 n (x2_7 + (if ((mIx μ) ((mKy μ) (x3_7 - x3_7 / 128 * 128).toNatClampNeg).toNatClampNeg) = x3_7 then 1 else 0 : Int32)) (x3_7 + 1)))))
theorem sl_X3_liveIn_7_s (μ : MS) (y1 : Int32) (n : Nat) (x2_7 : Int32) (x3_7 : Int32) : sl_X3_liveIn_7 μ y1 (n + 1) x2_7 x3_7 = ((((mTl μ) + y1) ≤ x3_7 → True) ∧ (¬ ((mTl μ) + y1) ≤ x3_7 → (vp_in (x3_7 - x3_7 / 128 * 128) 128 ∧ (vp_in ((mKy μ) (x3_7 - x3_7 / 128 * 128).toNatClampNeg) 64 ∧ sl_X3_liveIn_7 μ y1 n (x2_7 + (if ((mIx μ) ((mKy μ) (x3_7 - x3_7 / 128 * 128).toNatClampNeg).toNatClampNeg) = x3_7 then 1 else 0 : Int32)) (x3_7 + 1))))) := rfl
def v_X3_liveIn (μ : MS) (p1 : Int32) : Int32 := (l_X3_liveIn_7 μ p1 100 0 (mTl μ)).1
theorem v_X3_liveIn_e (μ : MS) (p1 : Int32) : v_X3_liveIn μ p1 = (l_X3_liveIn_7 μ p1 100 0 (mTl μ)).1 := rfl
def s_X3_liveIn (μ : MS) (p1 : Int32) : Prop := (sl_X3_liveIn_7 μ p1 100 0 (mTl μ) ∧ True)
set_option maxHeartbeats 1000000 in
set_option maxRecDepth 100000 in
theorem c_X3_liveIn (l : Launch) (dC : Nat → ClassId) (dI : Nat → Nat → Nat) (cI : ClassId) (h : Nat → Nat) (sz : Nat) (μ : MS) (p1 : Int32) (hs : s_X3_liveIn μ p1) : Met l yX3_liveIn wsX3_liveIn ({ frames := 0, cells := 0, slots := 0, locals := 0 }) (va_Pc [.ref (h 0), .int p1] (pW (dC, dI) [(cI, .int)] (mW cI h μ) sz)) (va_Qi (fun (r : Int32) (u : Unit) => r = v_X3_liveIn μ p1) (qW (dC, dI) (va_A (mW cI h μ) sz) (fun _ => mW cI h μ)) (va_A (mW cI h μ) sz)) 0 0 (va_A (mW cI h μ) sz) := by
  refine Met.ofW (cc := cX3_liveIn) (maxL := 4) (ret := (some .int)) (by decide) rfl ?_
  intro p e s m args below meth c s₁ B hml hv
  obtain ⟨rfl, hsz, hP, hK, hD0⟩ := hv
  have hx := B.exec
  have hb := B.bytes
  have hr := B.returns
  have hts := atoms_spec (ws := wsX3_liveIn) B.pre
  have hown : s.vm.findClass RX3 = some m.cls := findClass_of_methodNamed B.named
  have hlocks := B.notSynchronized
  have hinX3 : ∀ w ∈ wsX30, w ∈ wsX3_liveIn := by decide +kernel
  have hf7 := hts (.fieldLink RX3 7 "KeysapartModel" "key" "[I") (by decide +kernel)
  have hf16 := hts (.fieldLink RX3 16 "KeysapartModel" "index" "[I") (by decide +kernel)
  have hf32 := hts (.fieldLink RX3 32 "KeysapartModel" "tail" "I") (by decide +kernel)
  subst hsz
  have hD := hD0.self (sz := s.heap.size)
  generalize hAe : va_A (mW cI h μ) s.heap.size = A at hD ⊢
  have hA : ∀ q : Nat, s.heap.size ≤ q → A q := fun q h => by rw [← hAe]; exact Or.inr h
  have hl := lv_entry ([.ref (h 0), .int p1]) (n := 4) (Nat.le_of_ble_eq_true rfl)
  rw [lg_entry_eq]
  generalize (lg_sl ([.ref (h 0), .int p1]) ++ List.replicate (4 - (lg_sl ([.ref (h 0), .int p1])).length) Slot.unset).toArray = ls at hl ⊢
  have hl : lv_has ls 4 [(0, .ref (h 0)), (1, .int p1)] := hl
  generalize hHe : s.heap = H at hP ⊢
  generalize hLe : ([] : List Loc) = locs
  have hS : va_S A s.heap H locs := by
    rw [← hLe, ← hHe]
    exact va_S.rf
  unfold s_X3_liveIn at hs
  have hV := v_X3_liveIn_e μ p1
  refine lv_iconst (v := 0) hx hb dX3_liveIn_0 (by decide) ?_
  refine lv_istore_n (lv' := [(2, .int 0), (0, .ref (h 0)), (1, .int p1)]) hx hb dX3_liveIn_1 rfl hl (by decide) rfl (fun ls hl => ?_)
  refine lv_aload_n hx hb dX3_liveIn_2 rfl (lv_at hl 1 rfl) ?_
  refine va_get (D := (dC, dI)) (ci := 3) (v := .int (mTl μ)) (C := RX3) (T := TX3) (N := 12) hx hb hts hinX3 hown hK hP 0 rfl rfl 6 (by decide) hf32 (fun _ h9 => h9) rfl dX3_liveIn_3 ?_
  refine lv_istore_n (lv' := [(3, .int (mTl μ)), (2, .int 0), (0, .ref (h 0)), (1, .int p1)]) hx hb dX3_liveIn_6 rfl hl (by decide) rfl (fun ls hl => ?_)
  have o_l7 : sl_X3_liveIn_7 μ p1 100 0 (mTl μ) := hs.1
  have hs := hs.2
  have loop_7 : ∀ (n : Nat) (x2_7 : Int32) (x3_7 : Int32) (H : Heap) (locs : List Loc) (ls : Array Slot) (hs : sl_X3_liveIn_7 μ p1 n x2_7 x3_7) (K : ∀ (z : Int32 × Int32) (hw : z = l_X3_liveIn_7 μ p1 n x2_7 x3_7) (H : Heap) (locs : List Loc) (ls : Array Slot), va_P (dC, dI) vwCl (mW cI h μ) H → va_D A (mW cI h μ) → va_S A s.heap H locs → lv_has ls 4 [(2, .int z.1), (3, .int z.2), (0, .ref (h 0)), (1, .int p1)] → W p l e (headSpec wsX3_liveIn ({ frames := 0, cells := 0, slots := 0, locals := 0 })).room s m [.ref (h 0), .int p1].toArray below meth c H locs 0 0 (MQ below (va_Qi (fun (r : Int32) (u : Unit) => r = v_X3_liveIn μ p1) (qW (dC, dI) A (fun _ => mW cI h μ)) A) [.ref (h 0), .int p1].toArray s 0 0 A) (F0 m 50 ls [])) (hP : va_P (dC, dI) vwCl (mW cI h μ) H) (hD : va_D A (mW cI h μ)) (hS : va_S A s.heap H locs) (hl : lv_has ls 4 [(2, .int x2_7), (3, .int x3_7), (0, .ref (h 0)), (1, .int p1)]), W p l e (headSpec wsX3_liveIn ({ frames := 0, cells := 0, slots := 0, locals := 0 })).room s m [.ref (h 0), .int p1].toArray below meth c H locs 0 0 (MQ below (va_Qi (fun (r : Int32) (u : Unit) => r = v_X3_liveIn μ p1) (qW (dC, dI) A (fun _ => mW cI h μ)) A) [.ref (h 0), .int p1].toArray s 0 0 A) (F0 m 7 ls []) := by
    intro n
    induction n with
    | zero => intro x2_7 x3_7 H locs ls hs; exact False.elim hs
    | succ n ih =>
      intro x2_7 x3_7 H locs ls hs K hP hD hS hl
      rw [sl_X3_liveIn_7_s] at hs
      rw [l_X3_liveIn_7_s] at K
      refine lv_iload_n hx hb dX3_liveIn_7 rfl (lv_at hl 1 rfl) ?_
      refine lv_aload_n hx hb dX3_liveIn_8 rfl (lv_at hl 2 rfl) ?_
      refine va_get (D := (dC, dI)) (ci := 3) (v := .int (mTl μ)) (C := RX3) (T := TX3) (N := 12) hx hb hts hinX3 hown hK hP 0 rfl rfl 6 (by decide) hf32 (fun _ h9 => h9) rfl dX3_liveIn_9 ?_
      refine lv_iload_n hx hb dX3_liveIn_12 rfl (lv_at hl 3 rfl) ?_
      refine lv_iadd hx hb dX3_liveIn_13 ?_
      refine lv_icmp_ge (tgt := 50) hx hb dX3_liveIn_14 (by decide) (fun c_14 => ?_) (fun c_14 => ?_)
      · skip
        have hs := hs.1 c_14
        rw [if_pos c_14] at K
        exact K _ rfl H locs ls hP hD hS (lv_sub hl [0, 1, 2, 3] rfl)
      · skip
        have hs := hs.2 c_14
        rw [if_neg c_14] at K
        refine lv_iload_n hx hb dX3_liveIn_17 rfl (lv_at hl 0 rfl) ?_
        refine lv_aload_n hx hb dX3_liveIn_18 rfl (lv_at hl 2 rfl) ?_
        refine va_get (D := (dC, dI)) (ci := 3) (v := .ref (h 3)) (C := RX3) (T := TX3) (N := 12) hx hb hts hinX3 hown hK hP 0 rfl rfl 2 (by decide) hf16 (fun _ h9 => h9) rfl dX3_liveIn_19 ?_
        refine lv_aload_n hx hb dX3_liveIn_22 rfl (lv_at hl 2 rfl) ?_
        refine va_get (D := (dC, dI)) (ci := 3) (v := .ref (h 1)) (C := RX3) (T := TX3) (N := 12) hx hb hts hinX3 hown hK hP 0 rfl rfl 0 (by decide) hf7 (fun _ h9 => h9) rfl dX3_liveIn_23 ?_
        refine lv_iload_n hx hb dX3_liveIn_26 rfl (lv_at hl 1 rfl) ?_
        refine lv_sipush (v := 128) hx hb dX3_liveIn_27 (by decide) ?_
        refine lv_irem hx hb dX3_liveIn_30 (by decide) ?_
        have o_31 : vp_in (x3_7 - x3_7 / 128 * 128) 128 := hs.1
        have hs := hs.2
        refine va_iald hx hb hK hP 1 0 rfl rfl o_31 dX3_liveIn_31 ?_
        have o_32 : vp_in ((mKy μ) (x3_7 - x3_7 / 128 * 128).toNatClampNeg) 64 := hs.1
        have hs := hs.2
        refine va_iald hx hb hK hP 3 0 rfl rfl o_32 dX3_liveIn_32 ?_
        refine lv_iload_n hx hb dX3_liveIn_33 rfl (lv_at hl 1 rfl) ?_
        suffices J_34 : W p l e (headSpec wsX3_liveIn ({ frames := 0, cells := 0, slots := 0, locals := 0 })).room s m [.ref (h 0), .int p1].toArray below meth c H locs 0 0 (MQ below (va_Qi (fun (r : Int32) (u : Unit) => r = v_X3_liveIn μ p1) (qW (dC, dI) A (fun _ => mW cI h μ)) A) [.ref (h 0), .int p1].toArray s 0 0 A) (F0 m 42 ls [.int (if ((mIx μ) ((mKy μ) (x3_7 - x3_7 / 128 * 128).toNatClampNeg).toNatClampNeg) = x3_7 then 1 else 0 : Int32), .int x2_7]) by
          refine lv_icmp_ne (tgt := 41) hx hb dX3_liveIn_34 (by decide) (fun c_34 => ?_) (fun c_34 => ?_)
          · skip
            rw [if_neg c_34] at J_34
            refine lv_iconst (v := 0) hx hb dX3_liveIn_41 (by decide) ?_
            exact J_34
          · skip
            rw [if_pos c_34] at J_34
            refine lv_iconst (v := 1) hx hb dX3_liveIn_37 (by decide) ?_
            refine lv_goto (tgt := 42) hx hb dX3_liveIn_38 (by decide) ?_
            exact J_34
        refine lv_iadd hx hb dX3_liveIn_42 ?_
        refine lv_istore_n (lv' := [(2, .int (x2_7 + (if ((mIx μ) ((mKy μ) (x3_7 - x3_7 / 128 * 128).toNatClampNeg).toNatClampNeg) = x3_7 then 1 else 0 : Int32))), (3, .int x3_7), (0, .ref (h 0)), (1, .int p1)]) hx hb dX3_liveIn_43 rfl hl (by decide) rfl (fun ls hl => ?_)
        refine lv_iinc (v := x3_7 + 1) (lv' := [(3, .int (x3_7 + 1)), (2, .int (x2_7 + (if ((mIx μ) ((mKy μ) (x3_7 - x3_7 / 128 * 128).toNatClampNeg).toNatClampNeg) = x3_7 then 1 else 0 : Int32))), (0, .ref (h 0)), (1, .int p1)]) hx hb dX3_liveIn_44 hl (k := 1) rfl rfl (by decide) rfl (fun ls hl => ?_)
        refine lv_goto (tgt := 7) hx hb dX3_liveIn_47 (by decide) ?_
        exact ih (x2_7 + (if ((mIx μ) ((mKy μ) (x3_7 - x3_7 / 128 * 128).toNatClampNeg).toNatClampNeg) = x3_7 then 1 else 0 : Int32)) (x3_7 + 1) H locs ls hs K hP hD hS (lv_sub hl [1, 0, 2, 3] rfl)
  refine loop_7 100 0 (mTl μ) H locs ls o_l7 (fun z_7 hw H locs ls hP hD hS hl => ?_) hP hD hS (lv_sub hl [1, 0, 2, 3] rfl)
  try rw [← hw] at hV
  refine lv_iload_n hx hb dX3_liveIn_50 rfl (lv_at hl 0 rfl) ?_
  exact rI (w := fun _ => mW cI h μ) (()) hx hb hr hlocks hP hD hS (Nat.le_of_ble_eq_true rfl) (Nat.le_of_ble_eq_true rfl) dX3_liveIn_51 (by rw [hV] <;> rfl)
def l_X3_recovers_2 : Nat → MS → Int32 → MS × Int32
  | 0, μ2, x1_2 => (μ2, x1_2)
  | n + 1, μ2, x1_2 => if 64 ≤ x1_2 then (μ2, x1_2) else l_X3_recovers_2 n (mSTr μ2 (upd (mTr μ2) x1_2.toNatClampNeg (if (mTl μ2) ≤ ((mKp μ2) x1_2.toNatClampNeg) then ((mKp μ2) x1_2.toNatClampNeg) else (-1) : Int32))) (x1_2 + 1)
theorem l_X3_recovers_2_s (n : Nat) (μ2 : MS) (x1_2 : Int32) : l_X3_recovers_2 (n + 1) μ2 x1_2 = if 64 ≤ x1_2 then (μ2, x1_2) else l_X3_recovers_2 n (mSTr μ2 (upd (mTr μ2) x1_2.toNatClampNeg (if (mTl μ2) ≤ ((mKp μ2) x1_2.toNatClampNeg) then ((mKp μ2) x1_2.toNatClampNeg) else (-1) : Int32))) (x1_2 + 1) := rfl
def sl_X3_recovers_2 : Nat → MS → Int32 → Prop
  | 0, μ2, x1_2 => False
  | n + 1, μ2, x1_2 => ((64 ≤ x1_2 → True) ∧ (¬ 64 ≤ x1_2 → (vp_in x1_2 64 ∧ ((((mTl μ2) ≤ ((mKp μ2) x1_2.toNatClampNeg) → (vp_in x1_2 64 ∧ True)) ∧ (¬ (mTl μ2) ≤ ((mKp μ2) x1_2.toNatClampNeg) → True)) ∧ (vp_in x1_2 64 ∧ sl_X3_recovers_2 n (mSTr μ2 (upd (mTr μ2) x1_2.toNatClampNeg (if (mTl μ2) ≤ ((mKp μ2) x1_2.toNatClampNeg) then ((mKp μ2) x1_2.toNatClampNeg) else (-1) : Int32))) (x1_2 + 1))))))
theorem sl_X3_recovers_2_s (n : Nat) (μ2 : MS) (x1_2 : Int32) : sl_X3_recovers_2 (n + 1) μ2 x1_2 = ((64 ≤ x1_2 → True) ∧ (¬ 64 ≤ x1_2 → (vp_in x1_2 64 ∧ ((((mTl μ2) ≤ ((mKp μ2) x1_2.toNatClampNeg) → (vp_in x1_2 64 ∧ True)) ∧ (¬ (mTl μ2) ≤ ((mKp μ2) x1_2.toNatClampNeg) → True)) ∧ (vp_in x1_2 64 ∧ sl_X3_recovers_2 n (mSTr μ2 (upd (mTr μ2) x1_2.toNatClampNeg (if (mTl μ2) ≤ ((mKp μ2) x1_2.toNatClampNeg) then ((mKp μ2) x1_2.toNatClampNeg) else (-1) : Int32))) (x1_2 + 1)))))) := rfl
def l_X3_recovers_66 : Nat → MS → Int32 → MS × Int32
  | 0, μ66, x1_66 => (μ66, x1_66)
  | n + 1, μ66, x1_66 => if (mWr μ66) ≤ x1_66 then (μ66, x1_66) else l_X3_recovers_66 n (mSTr μ66 (upd (mTr μ66) ((mKy μ66) (x1_66 - x1_66 / 128 * 128).toNatClampNeg).toNatClampNeg (if 0 ≤ ((mVl μ66) (x1_66 - x1_66 / 128 * 128).toNatClampNeg) then x1_66 else (-1) : Int32))) (x1_66 + 1)
theorem l_X3_recovers_66_s (n : Nat) (μ66 : MS) (x1_66 : Int32) : l_X3_recovers_66 (n + 1) μ66 x1_66 = if (mWr μ66) ≤ x1_66 then (μ66, x1_66) else l_X3_recovers_66 n (mSTr μ66 (upd (mTr μ66) ((mKy μ66) (x1_66 - x1_66 / 128 * 128).toNatClampNeg).toNatClampNeg (if 0 ≤ ((mVl μ66) (x1_66 - x1_66 / 128 * 128).toNatClampNeg) then x1_66 else (-1) : Int32))) (x1_66 + 1) := rfl
def sl_X3_recovers_66 : Nat → MS → Int32 → Prop
  | 0, μ66, x1_66 => False
  | n + 1, μ66, x1_66 => (((mWr μ66) ≤ x1_66 → True) ∧ (¬ (mWr μ66) ≤ x1_66 → (vp_in (x1_66 - x1_66 / 128 * 128) 128 ∧ (vp_in (x1_66 - x1_66 / 128 * 128) 128 ∧ (vp_in ((mKy μ66) (x1_66 - x1_66 / 128 * 128).toNatClampNeg) 64 ∧ sl_X3_recovers_66 n (mSTr μ66 (upd (mTr μ66) ((mKy μ66) (x1_66 - x1_66 / 128 * 128).toNatClampNeg).toNatClampNeg (if 0 ≤ ((mVl μ66) (x1_66 - x1_66 / 128 * 128).toNatClampNeg) then x1_66 else (-1) : Int32))) (x1_66 + 1))))))
theorem sl_X3_recovers_66_s (n : Nat) (μ66 : MS) (x1_66 : Int32) : sl_X3_recovers_66 (n + 1) μ66 x1_66 = (((mWr μ66) ≤ x1_66 → True) ∧ (¬ (mWr μ66) ≤ x1_66 → (vp_in (x1_66 - x1_66 / 128 * 128) 128 ∧ (vp_in (x1_66 - x1_66 / 128 * 128) 128 ∧ (vp_in ((mKy μ66) (x1_66 - x1_66 / 128 * 128).toNatClampNeg) 64 ∧ sl_X3_recovers_66 n (mSTr μ66 (upd (mTr μ66) ((mKy μ66) (x1_66 - x1_66 / 128 * 128).toNatClampNeg).toNatClampNeg (if 0 ≤ ((mVl μ66) (x1_66 - x1_66 / 128 * 128).toNatClampNeg) then x1_66 else (-1) : Int32))) (x1_66 + 1)))))) := rfl
def l_X3_recovers_117 (μ : MS) : Nat → Int32 → Int32 → Int32 × Int32
  | 0, x1_117, x2_117 => (x1_117, x2_117)
  | n + 1, x1_117, x2_117 => if 64 ≤ x2_117 then (x1_117, x2_117) else l_X3_recovers_117 μ n (x1_117 + (if ((mTr μ) x2_117.toNatClampNeg) < 0 then 0 else 1 : Int32)) (x2_117 + 1)
theorem l_X3_recovers_117_s (μ : MS) (n : Nat) (x1_117 : Int32) (x2_117 : Int32) : l_X3_recovers_117 μ (n + 1) x1_117 x2_117 = if 64 ≤ x2_117 then (x1_117, x2_117) else l_X3_recovers_117 μ n (x1_117 + (if ((mTr μ) x2_117.toNatClampNeg) < 0 then 0 else 1 : Int32)) (x2_117 + 1) := rfl
def sl_X3_recovers_117 (μ : MS) : Nat → Int32 → Int32 → Prop
  | 0, x1_117, x2_117 => False
  | n + 1, x1_117, x2_117 => ((64 ≤ x2_117 → True) ∧ (¬ 64 ≤ x2_117 → (vp_in x2_117 64 ∧ sl_X3_recovers_117 μ n (x1_117 + (if ((mTr μ) x2_117.toNatClampNeg) < 0 then 0 else 1 : Int32)) (x2_117 + 1))))
theorem sl_X3_recovers_117_s (μ : MS) (n : Nat) (x1_117 : Int32) (x2_117 : Int32) : sl_X3_recovers_117 μ (n + 1) x1_117 x2_117 = ((64 ≤ x2_117 → True) ∧ (¬ 64 ≤ x2_117 → (vp_in x2_117 64 ∧ sl_X3_recovers_117 μ n (x1_117 + (if ((mTr μ) x2_117.toNatClampNeg) < 0 then 0 else 1 : Int32)) (x2_117 + 1)))) := rfl
def v_X3_recovers (μ : MS) : Int32 × MS := ((l_X3_recovers_117 (l_X3_recovers_66 100 (l_X3_recovers_2 100 μ 0).1 (if (mCp (l_X3_recovers_2 100 μ 0).1) ≤ (mTl (l_X3_recovers_2 100 μ 0).1) then (mTl (l_X3_recovers_2 100 μ 0).1) else (mCp (l_X3_recovers_2 100 μ 0).1) : Int32)).1 100 0 0).1, (l_X3_recovers_66 100 (l_X3_recovers_2 100 μ 0).1 (if (mCp (l_X3_recovers_2 100 μ 0).1) ≤ (mTl (l_X3_recovers_2 100 μ 0).1) then (mTl (l_X3_recovers_2 100 μ 0).1) else (mCp (l_X3_recovers_2 100 μ 0).1) : Int32)).1)
theorem v_X3_recovers_e (μ : MS) : v_X3_recovers μ = ((l_X3_recovers_117 (l_X3_recovers_66 100 (l_X3_recovers_2 100 μ 0).1 (if (mCp (l_X3_recovers_2 100 μ 0).1) ≤ (mTl (l_X3_recovers_2 100 μ 0).1) then (mTl (l_X3_recovers_2 100 μ 0).1) else (mCp (l_X3_recovers_2 100 μ 0).1) : Int32)).1 100 0 0).1, (l_X3_recovers_66 100 (l_X3_recovers_2 100 μ 0).1 (if (mCp (l_X3_recovers_2 100 μ 0).1) ≤ (mTl (l_X3_recovers_2 100 μ 0).1) then (mTl (l_X3_recovers_2 100 μ 0).1) else (mCp (l_X3_recovers_2 100 μ 0).1) : Int32)).1) := rfl
def s_X3_recovers (μ : MS) : Prop := (sl_X3_recovers_2 100 μ 0 ∧ (sl_X3_recovers_66 100 (l_X3_recovers_2 100 μ 0).1 (if (mCp (l_X3_recovers_2 100 μ 0).1) ≤ (mTl (l_X3_recovers_2 100 μ 0).1) then (mTl (l_X3_recovers_2 100 μ 0).1) else (mCp (l_X3_recovers_2 100 μ 0).1) : Int32) ∧ (sl_X3_recovers_117 (l_X3_recovers_66 100 (l_X3_recovers_2 100 μ 0).1 (if (mCp (l_X3_recovers_2 100 μ 0).1) ≤ (mTl (l_X3_recovers_2 100 μ 0).1) then (mTl (l_X3_recovers_2 100 μ 0).1) else (mCp (l_X3_recovers_2 100 μ 0).1) : Int32)).1 100 0 0 ∧ True)))
set_option maxHeartbeats 1000000 in
set_option maxRecDepth 100000 in
theorem c_X3_recovers (l : Launch) (dC : Nat → ClassId) (dI : Nat → Nat → Nat) (cI : ClassId) (h : Nat → Nat) (sz : Nat) (μ : MS) (hs : s_X3_recovers μ) : Met l yX3_recovers wsX3_recovers ({ frames := 0, cells := 0, slots := 0, locals := 0 }) (va_Pc [.ref (h 0)] (pW (dC, dI) [(cI, .int)] (mW cI h μ) sz)) (va_Qi (fun (r : Int32) (u : MS) => r = (v_X3_recovers μ).1 ∧ u = (v_X3_recovers μ).2) (qW (dC, dI) (va_A (mW cI h μ) sz) (fun u => mW cI h u)) (va_A (mW cI h μ) sz)) 0 0 (va_A (mW cI h μ) sz) := by
  refine Met.ofW (cc := cX3_recovers) (maxL := 3) (ret := (some .int)) (by decide) rfl ?_
  intro p e s m args below meth c s₁ B hml hv
  obtain ⟨rfl, hsz, hP, hK, hD0⟩ := hv
  have hx := B.exec
  have hb := B.bytes
  have hr := B.returns
  have hts := atoms_spec (ws := wsX3_recovers) B.pre
  have hown : s.vm.findClass RX3 = some m.cls := findClass_of_methodNamed B.named
  have hlocks := B.notSynchronized
  have hinX3 : ∀ w ∈ wsX30, w ∈ wsX3_recovers := by decide +kernel
  have hf7 := hts (.fieldLink RX3 7 "KeysapartModel" "key" "[I") (by decide +kernel)
  have hf13 := hts (.fieldLink RX3 13 "KeysapartModel" "value" "[I") (by decide +kernel)
  have hf19 := hts (.fieldLink RX3 19 "KeysapartModel" "kept" "[I") (by decide +kernel)
  have hf22 := hts (.fieldLink RX3 22 "KeysapartModel" "trial" "[I") (by decide +kernel)
  have hf32 := hts (.fieldLink RX3 32 "KeysapartModel" "tail" "I") (by decide +kernel)
  have hf68 := hts (.fieldLink RX3 68 "KeysapartModel" "written" "I") (by decide +kernel)
  have hf78 := hts (.fieldLink RX3 78 "KeysapartModel" "checkpoint" "I") (by decide +kernel)
  subst hsz
  have hD := hD0.self (sz := s.heap.size)
  generalize hAe : va_A (mW cI h μ) s.heap.size = A at hD ⊢
  have hA : ∀ q : Nat, s.heap.size ≤ q → A q := fun q h => by rw [← hAe]; exact Or.inr h
  have hl := lv_entry ([.ref (h 0)]) (n := 3) (Nat.le_of_ble_eq_true rfl)
  rw [lg_entry_eq]
  generalize (lg_sl ([.ref (h 0)]) ++ List.replicate (3 - (lg_sl ([.ref (h 0)])).length) Slot.unset).toArray = ls at hl ⊢
  have hl : lv_has ls 3 [(0, .ref (h 0))] := hl
  generalize hHe : s.heap = H at hP ⊢
  generalize hLe : ([] : List Loc) = locs
  have hS : va_S A s.heap H locs := by
    rw [← hLe, ← hHe]
    exact va_S.rf
  unfold s_X3_recovers at hs
  have hV := v_X3_recovers_e μ
  refine lv_iconst (v := 0) hx hb dX3_recovers_0 (by decide) ?_
  refine lv_istore_n (lv' := [(1, .int 0), (0, .ref (h 0))]) hx hb dX3_recovers_1 rfl hl (by decide) rfl (fun ls hl => ?_)
  have o_l2 : sl_X3_recovers_2 100 μ 0 := hs.1
  have hs := hs.2
  have loop_2 : ∀ (n : Nat) (μ2 : MS) (x1_2 : Int32) (H : Heap) (locs : List Loc) (ls : Array Slot) (hs : sl_X3_recovers_2 n μ2 x1_2) (K : ∀ (z : MS × Int32) (hw : z = l_X3_recovers_2 n μ2 x1_2) (H : Heap) (locs : List Loc) (ls : Array Slot), va_P (dC, dI) vwCl (mW cI h z.1) H → va_D A (mW cI h z.1) → va_S A s.heap H locs → lv_has ls 3 [(1, .int z.2), (0, .ref (h 0))] → W p l e (headSpec wsX3_recovers ({ frames := 0, cells := 0, slots := 0, locals := 0 })).room s m [.ref (h 0)].toArray below meth c H locs 0 0 (MQ below (va_Qi (fun (r : Int32) (u : MS) => r = (v_X3_recovers μ).1 ∧ u = (v_X3_recovers μ).2) (qW (dC, dI) A (fun u => mW cI h u)) A) [.ref (h 0)].toArray s 0 0 A) (F0 m 43 ls [])) (hP : va_P (dC, dI) vwCl (mW cI h μ2) H) (hD : va_D A (mW cI h μ2)) (hS : va_S A s.heap H locs) (hl : lv_has ls 3 [(1, .int x1_2), (0, .ref (h 0))]), W p l e (headSpec wsX3_recovers ({ frames := 0, cells := 0, slots := 0, locals := 0 })).room s m [.ref (h 0)].toArray below meth c H locs 0 0 (MQ below (va_Qi (fun (r : Int32) (u : MS) => r = (v_X3_recovers μ).1 ∧ u = (v_X3_recovers μ).2) (qW (dC, dI) A (fun u => mW cI h u)) A) [.ref (h 0)].toArray s 0 0 A) (F0 m 2 ls []) := by
    intro n
    induction n with
    | zero => intro μ2 x1_2 H locs ls hs; exact False.elim hs
    | succ n ih =>
      intro μ2 x1_2 H locs ls hs K hP hD hS hl
      rw [sl_X3_recovers_2_s] at hs
      rw [l_X3_recovers_2_s] at K
      refine lv_iload_n hx hb dX3_recovers_2 rfl (lv_at hl 0 rfl) ?_
      refine lv_bipush (v := 64) hx hb dX3_recovers_3 (by decide) ?_
      refine lv_icmp_ge (tgt := 43) hx hb dX3_recovers_5 (by decide) (fun c_5 => ?_) (fun c_5 => ?_)
      · skip
        have hs := hs.1 c_5
        rw [if_pos c_5] at K
        exact K _ rfl H locs ls hP hD hS (lv_sub hl [0, 1] rfl)
      · skip
        have hs := hs.2 c_5
        rw [if_neg c_5] at K
        refine lv_aload_n hx hb dX3_recovers_8 rfl (lv_at hl 1 rfl) ?_
        refine va_get (D := (dC, dI)) (ci := 3) (v := .ref (h 5)) (C := RX3) (T := TX3) (N := 12) hx hb hts hinX3 hown hK hP 0 rfl rfl 4 (by decide) hf22 (fun _ h9 => h9) rfl dX3_recovers_9 ?_
        refine lv_iload_n hx hb dX3_recovers_12 rfl (lv_at hl 0 rfl) ?_
        refine lv_aload_n hx hb dX3_recovers_13 rfl (lv_at hl 1 rfl) ?_
        refine va_get (D := (dC, dI)) (ci := 3) (v := .ref (h 4)) (C := RX3) (T := TX3) (N := 12) hx hb hts hinX3 hown hK hP 0 rfl rfl 3 (by decide) hf19 (fun _ h9 => h9) rfl dX3_recovers_14 ?_
        refine lv_iload_n hx hb dX3_recovers_17 rfl (lv_at hl 0 rfl) ?_
        have o_18 : vp_in x1_2 64 := hs.1
        have hs := hs.2
        refine va_iald hx hb hK hP 4 0 rfl rfl o_18 dX3_recovers_18 ?_
        refine lv_aload_n hx hb dX3_recovers_19 rfl (lv_at hl 1 rfl) ?_
        refine va_get (D := (dC, dI)) (ci := 3) (v := .int (mTl μ2)) (C := RX3) (T := TX3) (N := 12) hx hb hts hinX3 hown hK hP 0 rfl rfl 6 (by decide) hf32 (fun _ h9 => h9) rfl dX3_recovers_20 ?_
        suffices J_23 : W p l e (headSpec wsX3_recovers ({ frames := 0, cells := 0, slots := 0, locals := 0 })).room s m [.ref (h 0)].toArray below meth c H locs 0 0 (MQ below (va_Qi (fun (r : Int32) (u : MS) => r = (v_X3_recovers μ).1 ∧ u = (v_X3_recovers μ).2) (qW (dC, dI) A (fun u => mW cI h u)) A) [.ref (h 0)].toArray s 0 0 A) (F0 m 36 ls [.int (if (mTl μ2) ≤ ((mKp μ2) x1_2.toNatClampNeg) then ((mKp μ2) x1_2.toNatClampNeg) else (-1) : Int32), .int x1_2, .ref (h 5)]) by
          have hs := hs.1
          refine lv_icmp_ge (tgt := 30) hx hb dX3_recovers_23 (by decide) (fun c_23 => ?_) (fun c_23 => ?_)
          · skip
            have hs := hs.1 c_23
            rw [if_pos c_23] at J_23
            refine lv_aload_n hx hb dX3_recovers_30 rfl (lv_at hl 1 rfl) ?_
            refine va_get (D := (dC, dI)) (ci := 3) (v := .ref (h 4)) (C := RX3) (T := TX3) (N := 12) hx hb hts hinX3 hown hK hP 0 rfl rfl 3 (by decide) hf19 (fun _ h9 => h9) rfl dX3_recovers_31 ?_
            refine lv_iload_n hx hb dX3_recovers_34 rfl (lv_at hl 0 rfl) ?_
            have o_35 : vp_in x1_2 64 := hs.1
            have hs := hs.2
            refine va_iald hx hb hK hP 4 0 rfl rfl o_35 dX3_recovers_35 ?_
            exact J_23
          · skip
            have hs := hs.2 c_23
            rw [if_neg c_23] at J_23
            refine lv_iconst (v := (-1)) hx hb dX3_recovers_26 (by decide) ?_
            refine lv_goto (tgt := 36) hx hb dX3_recovers_27 (by decide) ?_
            exact J_23
        have hs := hs.2
        have o_36 : vp_in x1_2 64 := hs.1
        have hs := hs.2
        refine va_iast hx hb hK hP hD hS 5 0 rfl rfl o_36 dX3_recovers_36 (fun H locs hP hD hS => ?_)
        have hP : va_P (dC, dI) vwCl (mW cI h (mSTr μ2 (upd (mTr μ2) x1_2.toNatClampNeg (if (mTl μ2) ≤ ((mKp μ2) x1_2.toNatClampNeg) then ((mKp μ2) x1_2.toNatClampNeg) else (-1) : Int32)))) H := hP
        have hD : va_D A (mW cI h (mSTr μ2 (upd (mTr μ2) x1_2.toNatClampNeg (if (mTl μ2) ≤ ((mKp μ2) x1_2.toNatClampNeg) then ((mKp μ2) x1_2.toNatClampNeg) else (-1) : Int32)))) := hD
        refine lv_iinc (v := x1_2 + 1) (lv' := [(1, .int (x1_2 + 1)), (0, .ref (h 0))]) hx hb dX3_recovers_37 hl (k := 0) rfl rfl (by decide) rfl (fun ls hl => ?_)
        refine lv_goto (tgt := 2) hx hb dX3_recovers_40 (by decide) ?_
        exact ih (mSTr μ2 (upd (mTr μ2) x1_2.toNatClampNeg (if (mTl μ2) ≤ ((mKp μ2) x1_2.toNatClampNeg) then ((mKp μ2) x1_2.toNatClampNeg) else (-1) : Int32))) (x1_2 + 1) H locs ls hs K hP hD hS (lv_sub hl [0, 1] rfl)
  refine loop_2 100 μ 0 H locs ls o_l2 (fun z_2 hw H locs ls hP hD hS hl => ?_) hP hD hS (lv_sub hl [0, 1] rfl)
  try rw [← hw] at hV
  try rw [← hw] at hs
  refine lv_aload_n hx hb dX3_recovers_43 rfl (lv_at hl 1 rfl) ?_
  refine va_get (D := (dC, dI)) (ci := 3) (v := .int (mCp z_2.1)) (C := RX3) (T := TX3) (N := 12) hx hb hts hinX3 hown hK hP 0 rfl rfl 8 (by decide) hf78 (fun _ h9 => h9) rfl dX3_recovers_44 ?_
  refine lv_aload_n hx hb dX3_recovers_47 rfl (lv_at hl 1 rfl) ?_
  refine va_get (D := (dC, dI)) (ci := 3) (v := .int (mTl z_2.1)) (C := RX3) (T := TX3) (N := 12) hx hb hts hinX3 hown hK hP 0 rfl rfl 6 (by decide) hf32 (fun _ h9 => h9) rfl dX3_recovers_48 ?_
  suffices J_51 : W p l e (headSpec wsX3_recovers ({ frames := 0, cells := 0, slots := 0, locals := 0 })).room s m [.ref (h 0)].toArray below meth c H locs 0 0 (MQ below (va_Qi (fun (r : Int32) (u : MS) => r = (v_X3_recovers μ).1 ∧ u = (v_X3_recovers μ).2) (qW (dC, dI) A (fun u => mW cI h u)) A) [.ref (h 0)].toArray s 0 0 A) (F0 m 65 ls [.int (if (mCp z_2.1) ≤ (mTl z_2.1) then (mTl z_2.1) else (mCp z_2.1) : Int32)]) by
    refine lv_icmp_le (tgt := 61) hx hb dX3_recovers_51 (by decide) (fun c_51 => ?_) (fun c_51 => ?_)
    · skip
      rw [if_pos c_51] at J_51
      refine lv_aload_n hx hb dX3_recovers_61 rfl (lv_at hl 1 rfl) ?_
      refine va_get (D := (dC, dI)) (ci := 3) (v := .int (mTl z_2.1)) (C := RX3) (T := TX3) (N := 12) hx hb hts hinX3 hown hK hP 0 rfl rfl 6 (by decide) hf32 (fun _ h9 => h9) rfl dX3_recovers_62 ?_
      exact J_51
    · skip
      rw [if_neg c_51] at J_51
      refine lv_aload_n hx hb dX3_recovers_54 rfl (lv_at hl 1 rfl) ?_
      refine va_get (D := (dC, dI)) (ci := 3) (v := .int (mCp z_2.1)) (C := RX3) (T := TX3) (N := 12) hx hb hts hinX3 hown hK hP 0 rfl rfl 8 (by decide) hf78 (fun _ h9 => h9) rfl dX3_recovers_55 ?_
      refine lv_goto (tgt := 65) hx hb dX3_recovers_58 (by decide) ?_
      exact J_51
  refine lv_istore_n (lv' := [(1, .int (if (mCp z_2.1) ≤ (mTl z_2.1) then (mTl z_2.1) else (mCp z_2.1) : Int32)), (0, .ref (h 0))]) hx hb dX3_recovers_65 rfl hl (by decide) rfl (fun ls hl => ?_)
  have o_l66 : sl_X3_recovers_66 100 z_2.1 (if (mCp z_2.1) ≤ (mTl z_2.1) then (mTl z_2.1) else (mCp z_2.1) : Int32) := hs.1
  have hs := hs.2
  have loop_66 : ∀ (n : Nat) (μ66 : MS) (x1_66 : Int32) (H : Heap) (locs : List Loc) (ls : Array Slot) (hs : sl_X3_recovers_66 n μ66 x1_66) (K : ∀ (z : MS × Int32) (hw : z = l_X3_recovers_66 n μ66 x1_66) (H : Heap) (locs : List Loc) (ls : Array Slot), va_P (dC, dI) vwCl (mW cI h z.1) H → va_D A (mW cI h z.1) → va_S A s.heap H locs → lv_has ls 3 [(1, .int z.2), (0, .ref (h 0))] → W p l e (headSpec wsX3_recovers ({ frames := 0, cells := 0, slots := 0, locals := 0 })).room s m [.ref (h 0)].toArray below meth c H locs 0 0 (MQ below (va_Qi (fun (r : Int32) (u : MS) => r = (v_X3_recovers μ).1 ∧ u = (v_X3_recovers μ).2) (qW (dC, dI) A (fun u => mW cI h u)) A) [.ref (h 0)].toArray s 0 0 A) (F0 m 113 ls [])) (hP : va_P (dC, dI) vwCl (mW cI h μ66) H) (hD : va_D A (mW cI h μ66)) (hS : va_S A s.heap H locs) (hl : lv_has ls 3 [(1, .int x1_66), (0, .ref (h 0))]), W p l e (headSpec wsX3_recovers ({ frames := 0, cells := 0, slots := 0, locals := 0 })).room s m [.ref (h 0)].toArray below meth c H locs 0 0 (MQ below (va_Qi (fun (r : Int32) (u : MS) => r = (v_X3_recovers μ).1 ∧ u = (v_X3_recovers μ).2) (qW (dC, dI) A (fun u => mW cI h u)) A) [.ref (h 0)].toArray s 0 0 A) (F0 m 66 ls []) := by
    intro n
    induction n with
    | zero => intro μ66 x1_66 H locs ls hs; exact False.elim hs
    | succ n ih =>
      intro μ66 x1_66 H locs ls hs K hP hD hS hl
      rw [sl_X3_recovers_66_s] at hs
      rw [l_X3_recovers_66_s] at K
      refine lv_iload_n hx hb dX3_recovers_66 rfl (lv_at hl 0 rfl) ?_
      refine lv_aload_n hx hb dX3_recovers_67 rfl (lv_at hl 1 rfl) ?_
      refine va_get (D := (dC, dI)) (ci := 3) (v := .int (mWr μ66)) (C := RX3) (T := TX3) (N := 12) hx hb hts hinX3 hown hK hP 0 rfl rfl 7 (by decide) hf68 (fun _ h9 => h9) rfl dX3_recovers_68 ?_
      refine lv_icmp_ge (tgt := 113) hx hb dX3_recovers_71 (by decide) (fun c_71 => ?_) (fun c_71 => ?_)
      · skip
        have hs := hs.1 c_71
        rw [if_pos c_71] at K
        exact K _ rfl H locs ls hP hD hS (lv_sub hl [0, 1] rfl)
      · skip
        have hs := hs.2 c_71
        rw [if_neg c_71] at K
        refine lv_aload_n hx hb dX3_recovers_74 rfl (lv_at hl 1 rfl) ?_
        refine va_get (D := (dC, dI)) (ci := 3) (v := .ref (h 5)) (C := RX3) (T := TX3) (N := 12) hx hb hts hinX3 hown hK hP 0 rfl rfl 4 (by decide) hf22 (fun _ h9 => h9) rfl dX3_recovers_75 ?_
        refine lv_aload_n hx hb dX3_recovers_78 rfl (lv_at hl 1 rfl) ?_
        refine va_get (D := (dC, dI)) (ci := 3) (v := .ref (h 1)) (C := RX3) (T := TX3) (N := 12) hx hb hts hinX3 hown hK hP 0 rfl rfl 0 (by decide) hf7 (fun _ h9 => h9) rfl dX3_recovers_79 ?_
        refine lv_iload_n hx hb dX3_recovers_82 rfl (lv_at hl 0 rfl) ?_
        refine lv_sipush (v := 128) hx hb dX3_recovers_83 (by decide) ?_
        refine lv_irem hx hb dX3_recovers_86 (by decide) ?_
        have o_87 : vp_in (x1_66 - x1_66 / 128 * 128) 128 := hs.1
        have hs := hs.2
        refine va_iald hx hb hK hP 1 0 rfl rfl o_87 dX3_recovers_87 ?_
        refine lv_aload_n hx hb dX3_recovers_88 rfl (lv_at hl 1 rfl) ?_
        refine va_get (D := (dC, dI)) (ci := 3) (v := .ref (h 2)) (C := RX3) (T := TX3) (N := 12) hx hb hts hinX3 hown hK hP 0 rfl rfl 1 (by decide) hf13 (fun _ h9 => h9) rfl dX3_recovers_89 ?_
        refine lv_iload_n hx hb dX3_recovers_92 rfl (lv_at hl 0 rfl) ?_
        refine lv_sipush (v := 128) hx hb dX3_recovers_93 (by decide) ?_
        refine lv_irem hx hb dX3_recovers_96 (by decide) ?_
        have o_97 : vp_in (x1_66 - x1_66 / 128 * 128) 128 := hs.1
        have hs := hs.2
        refine va_iald hx hb hK hP 2 0 rfl rfl o_97 dX3_recovers_97 ?_
        suffices J_98 : W p l e (headSpec wsX3_recovers ({ frames := 0, cells := 0, slots := 0, locals := 0 })).room s m [.ref (h 0)].toArray below meth c H locs 0 0 (MQ below (va_Qi (fun (r : Int32) (u : MS) => r = (v_X3_recovers μ).1 ∧ u = (v_X3_recovers μ).2) (qW (dC, dI) A (fun u => mW cI h u)) A) [.ref (h 0)].toArray s 0 0 A) (F0 m 106 ls [.int (if 0 ≤ ((mVl μ66) (x1_66 - x1_66 / 128 * 128).toNatClampNeg) then x1_66 else (-1) : Int32), .int ((mKy μ66) (x1_66 - x1_66 / 128 * 128).toNatClampNeg), .ref (h 5)]) by
          refine lv_if_ge (tgt := 105) hx hb dX3_recovers_98 (by decide) (fun c_98 => ?_) (fun c_98 => ?_)
          · skip
            rw [if_pos c_98] at J_98
            refine lv_iload_n hx hb dX3_recovers_105 rfl (lv_at hl 0 rfl) ?_
            exact J_98
          · skip
            rw [if_neg c_98] at J_98
            refine lv_iconst (v := (-1)) hx hb dX3_recovers_101 (by decide) ?_
            refine lv_goto (tgt := 106) hx hb dX3_recovers_102 (by decide) ?_
            exact J_98
        have o_106 : vp_in ((mKy μ66) (x1_66 - x1_66 / 128 * 128).toNatClampNeg) 64 := hs.1
        have hs := hs.2
        refine va_iast hx hb hK hP hD hS 5 0 rfl rfl o_106 dX3_recovers_106 (fun H locs hP hD hS => ?_)
        have hP : va_P (dC, dI) vwCl (mW cI h (mSTr μ66 (upd (mTr μ66) ((mKy μ66) (x1_66 - x1_66 / 128 * 128).toNatClampNeg).toNatClampNeg (if 0 ≤ ((mVl μ66) (x1_66 - x1_66 / 128 * 128).toNatClampNeg) then x1_66 else (-1) : Int32)))) H := hP
        have hD : va_D A (mW cI h (mSTr μ66 (upd (mTr μ66) ((mKy μ66) (x1_66 - x1_66 / 128 * 128).toNatClampNeg).toNatClampNeg (if 0 ≤ ((mVl μ66) (x1_66 - x1_66 / 128 * 128).toNatClampNeg) then x1_66 else (-1) : Int32)))) := hD
        refine lv_iinc (v := x1_66 + 1) (lv' := [(1, .int (x1_66 + 1)), (0, .ref (h 0))]) hx hb dX3_recovers_107 hl (k := 0) rfl rfl (by decide) rfl (fun ls hl => ?_)
        refine lv_goto (tgt := 66) hx hb dX3_recovers_110 (by decide) ?_
        exact ih (mSTr μ66 (upd (mTr μ66) ((mKy μ66) (x1_66 - x1_66 / 128 * 128).toNatClampNeg).toNatClampNeg (if 0 ≤ ((mVl μ66) (x1_66 - x1_66 / 128 * 128).toNatClampNeg) then x1_66 else (-1) : Int32))) (x1_66 + 1) H locs ls hs K hP hD hS (lv_sub hl [0, 1] rfl)
  refine loop_66 100 z_2.1 (if (mCp z_2.1) ≤ (mTl z_2.1) then (mTl z_2.1) else (mCp z_2.1) : Int32) H locs ls o_l66 (fun z_66 hw H locs ls hP hD hS hl => ?_) hP hD hS (lv_sub hl [0, 1] rfl)
  try rw [← hw] at hV
  try rw [← hw] at hs
  refine lv_iconst (v := 0) hx hb dX3_recovers_113 (by decide) ?_
  refine lv_istore_n (lv' := [(1, .int 0), (0, .ref (h 0))]) hx hb dX3_recovers_114 rfl hl (by decide) rfl (fun ls hl => ?_)
  refine lv_iconst (v := 0) hx hb dX3_recovers_115 (by decide) ?_
  refine lv_istore_n (lv' := [(2, .int 0), (1, .int 0), (0, .ref (h 0))]) hx hb dX3_recovers_116 rfl hl (by decide) rfl (fun ls hl => ?_)
  have o_l117 : sl_X3_recovers_117 z_66.1 100 0 0 := hs.1
  have hs := hs.2
  have loop_117 : ∀ (n : Nat) (x1_117 : Int32) (x2_117 : Int32) (H : Heap) (locs : List Loc) (ls : Array Slot) (hs : sl_X3_recovers_117 z_66.1 n x1_117 x2_117) (K : ∀ (z : Int32 × Int32) (hw : z = l_X3_recovers_117 z_66.1 n x1_117 x2_117) (H : Heap) (locs : List Loc) (ls : Array Slot), va_P (dC, dI) vwCl (mW cI h z_66.1) H → va_D A (mW cI h z_66.1) → va_S A s.heap H locs → lv_has ls 3 [(1, .int z.1), (2, .int z.2), (0, .ref (h 0))] → W p l e (headSpec wsX3_recovers ({ frames := 0, cells := 0, slots := 0, locals := 0 })).room s m [.ref (h 0)].toArray below meth c H locs 0 0 (MQ below (va_Qi (fun (r : Int32) (u : MS) => r = (v_X3_recovers μ).1 ∧ u = (v_X3_recovers μ).2) (qW (dC, dI) A (fun u => mW cI h u)) A) [.ref (h 0)].toArray s 0 0 A) (F0 m 146 ls [])) (hP : va_P (dC, dI) vwCl (mW cI h z_66.1) H) (hD : va_D A (mW cI h z_66.1)) (hS : va_S A s.heap H locs) (hl : lv_has ls 3 [(1, .int x1_117), (2, .int x2_117), (0, .ref (h 0))]), W p l e (headSpec wsX3_recovers ({ frames := 0, cells := 0, slots := 0, locals := 0 })).room s m [.ref (h 0)].toArray below meth c H locs 0 0 (MQ below (va_Qi (fun (r : Int32) (u : MS) => r = (v_X3_recovers μ).1 ∧ u = (v_X3_recovers μ).2) (qW (dC, dI) A (fun u => mW cI h u)) A) [.ref (h 0)].toArray s 0 0 A) (F0 m 117 ls []) := by
    intro n
    induction n with
    | zero => intro x1_117 x2_117 H locs ls hs; exact False.elim hs
    | succ n ih =>
      intro x1_117 x2_117 H locs ls hs K hP hD hS hl
      rw [sl_X3_recovers_117_s] at hs
      rw [l_X3_recovers_117_s] at K
      refine lv_iload_n hx hb dX3_recovers_117 rfl (lv_at hl 1 rfl) ?_
      refine lv_bipush (v := 64) hx hb dX3_recovers_118 (by decide) ?_
      refine lv_icmp_ge (tgt := 146) hx hb dX3_recovers_120 (by decide) (fun c_120 => ?_) (fun c_120 => ?_)
      · skip
        have hs := hs.1 c_120
        rw [if_pos c_120] at K
        exact K _ rfl H locs ls hP hD hS (lv_sub hl [0, 1, 2] rfl)
      · skip
        have hs := hs.2 c_120
        rw [if_neg c_120] at K
        refine lv_iload_n hx hb dX3_recovers_123 rfl (lv_at hl 0 rfl) ?_
        refine lv_aload_n hx hb dX3_recovers_124 rfl (lv_at hl 2 rfl) ?_
        refine va_get (D := (dC, dI)) (ci := 3) (v := .ref (h 5)) (C := RX3) (T := TX3) (N := 12) hx hb hts hinX3 hown hK hP 0 rfl rfl 4 (by decide) hf22 (fun _ h9 => h9) rfl dX3_recovers_125 ?_
        refine lv_iload_n hx hb dX3_recovers_128 rfl (lv_at hl 1 rfl) ?_
        have o_129 : vp_in x2_117 64 := hs.1
        have hs := hs.2
        refine va_iald hx hb hK hP 5 0 rfl rfl o_129 dX3_recovers_129 ?_
        suffices J_130 : W p l e (headSpec wsX3_recovers ({ frames := 0, cells := 0, slots := 0, locals := 0 })).room s m [.ref (h 0)].toArray below meth c H locs 0 0 (MQ below (va_Qi (fun (r : Int32) (u : MS) => r = (v_X3_recovers μ).1 ∧ u = (v_X3_recovers μ).2) (qW (dC, dI) A (fun u => mW cI h u)) A) [.ref (h 0)].toArray s 0 0 A) (F0 m 138 ls [.int (if ((mTr z_66.1) x2_117.toNatClampNeg) < 0 then 0 else 1 : Int32), .int x1_117]) by
          refine lv_if_lt (tgt := 137) hx hb dX3_recovers_130 (by decide) (fun c_130 => ?_) (fun c_130 => ?_)
          · skip
            rw [if_pos c_130] at J_130
            refine lv_iconst (v := 0) hx hb dX3_recovers_137 (by decide) ?_
            exact J_130
          · skip
            rw [if_neg c_130] at J_130
            refine lv_iconst (v := 1) hx hb dX3_recovers_133 (by decide) ?_
            refine lv_goto (tgt := 138) hx hb dX3_recovers_134 (by decide) ?_
            exact J_130
        refine lv_iadd hx hb dX3_recovers_138 ?_
        refine lv_istore_n (lv' := [(1, .int (x1_117 + (if ((mTr z_66.1) x2_117.toNatClampNeg) < 0 then 0 else 1 : Int32))), (2, .int x2_117), (0, .ref (h 0))]) hx hb dX3_recovers_139 rfl hl (by decide) rfl (fun ls hl => ?_)
        refine lv_iinc (v := x2_117 + 1) (lv' := [(2, .int (x2_117 + 1)), (1, .int (x1_117 + (if ((mTr z_66.1) x2_117.toNatClampNeg) < 0 then 0 else 1 : Int32))), (0, .ref (h 0))]) hx hb dX3_recovers_140 hl (k := 1) rfl rfl (by decide) rfl (fun ls hl => ?_)
        refine lv_goto (tgt := 117) hx hb dX3_recovers_143 (by decide) ?_
        exact ih (x1_117 + (if ((mTr z_66.1) x2_117.toNatClampNeg) < 0 then 0 else 1 : Int32)) (x2_117 + 1) H locs ls hs K hP hD hS (lv_sub hl [1, 0, 2] rfl)
  refine loop_117 100 0 0 H locs ls o_l117 (fun z_117 hw H locs ls hP hD hS hl => ?_) hP hD hS (lv_sub hl [1, 0, 2] rfl)
  try rw [← hw] at hV
  refine lv_iload_n hx hb dX3_recovers_146 rfl (lv_at hl 0 rfl) ?_
  exact rI (w := fun u => mW cI h u) (z_66.1) hx hb hr hlocks hP hD hS (Nat.le_of_ble_eq_true rfl) (Nat.le_of_ble_eq_true rfl) dX3_recovers_147 ⟨by rw [hV] <;> rfl, by rw [hV] <;> rfl⟩
def v_X3_headOf (μ : MS) : Int32 := if (mDn μ) = 0 then (mHd μ) else (mWr μ)
theorem v_X3_headOf_e (μ : MS) : v_X3_headOf μ = if (mDn μ) = 0 then (mHd μ) else (mWr μ) := rfl
set_option maxHeartbeats 1000000 in
set_option maxRecDepth 100000 in
theorem c_X3_headOf (l : Launch) (dC : Nat → ClassId) (dI : Nat → Nat → Nat) (cI : ClassId) (h : Nat → Nat) (sz : Nat) (μ : MS) : Met l yX3_headOf wsX3_headOf ({ frames := 0, cells := 0, slots := 0, locals := 0 }) (va_Pc [.ref (h 0)] (pW (dC, dI) [(cI, .int)] (mW cI h μ) sz)) (va_Qi (fun (r : Int32) (u : Unit) => r = v_X3_headOf μ) (qW (dC, dI) (va_A (mW cI h μ) sz) (fun _ => mW cI h μ)) (va_A (mW cI h μ) sz)) 0 0 (va_A (mW cI h μ) sz) := by
  refine Met.ofW (cc := cX3_headOf) (maxL := 1) (ret := (some .int)) (by decide) rfl ?_
  intro p e s m args below meth c s₁ B hml hv
  obtain ⟨rfl, hsz, hP, hK, hD0⟩ := hv
  have hx := B.exec
  have hb := B.bytes
  have hr := B.returns
  have hts := atoms_spec (ws := wsX3_headOf) B.pre
  have hown : s.vm.findClass RX3 = some m.cls := findClass_of_methodNamed B.named
  have hlocks := B.notSynchronized
  have hinX3 : ∀ w ∈ wsX30, w ∈ wsX3_headOf := by decide +kernel
  have hf35 := hts (.fieldLink RX3 35 "KeysapartModel" "head" "I") (by decide +kernel)
  have hf46 := hts (.fieldLink RX3 46 "KeysapartModel" "isDown" "Z") (by decide +kernel)
  have hf68 := hts (.fieldLink RX3 68 "KeysapartModel" "written" "I") (by decide +kernel)
  subst hsz
  have hD := hD0.self (sz := s.heap.size)
  generalize hAe : va_A (mW cI h μ) s.heap.size = A at hD ⊢
  have hA : ∀ q : Nat, s.heap.size ≤ q → A q := fun q h => by rw [← hAe]; exact Or.inr h
  have hl := lv_entry ([.ref (h 0)]) (n := 1) (Nat.le_of_ble_eq_true rfl)
  rw [lg_entry_eq]
  generalize (lg_sl ([.ref (h 0)]) ++ List.replicate (1 - (lg_sl ([.ref (h 0)])).length) Slot.unset).toArray = ls at hl ⊢
  have hl : lv_has ls 1 [(0, .ref (h 0))] := hl
  generalize hHe : s.heap = H at hP ⊢
  generalize hLe : ([] : List Loc) = locs
  have hS : va_S A s.heap H locs := by
    rw [← hLe, ← hHe]
    exact va_S.rf
  have hV := v_X3_headOf_e μ
  refine lv_aload_n hx hb dX3_headOf_0 rfl (lv_at hl 0 rfl) ?_
  refine va_get (D := (dC, dI)) (ci := 3) (v := .int (mDn μ)) (C := RX3) (T := TX3) (N := 12) hx hb hts hinX3 hown hK hP 0 rfl rfl 10 (by decide) hf46 (fun _ h9 => h9) rfl dX3_headOf_1 ?_
  refine lv_if_eq (tgt := 14) hx hb dX3_headOf_4 (by decide) (fun c_4 => ?_) (fun c_4 => ?_)
  · skip
    rw [if_pos c_4] at hV
    refine lv_aload_n hx hb dX3_headOf_14 rfl (lv_at hl 0 rfl) ?_
    refine va_get (D := (dC, dI)) (ci := 3) (v := .int (mHd μ)) (C := RX3) (T := TX3) (N := 12) hx hb hts hinX3 hown hK hP 0 rfl rfl 5 (by decide) hf35 (fun _ h9 => h9) rfl dX3_headOf_15 ?_
    exact rI (w := fun _ => mW cI h μ) (()) hx hb hr hlocks hP hD hS (Nat.le_of_ble_eq_true rfl) (Nat.le_of_ble_eq_true rfl) dX3_headOf_18 (by rw [hV] <;> rfl)
  · skip
    rw [if_neg c_4] at hV
    refine lv_aload_n hx hb dX3_headOf_7 rfl (lv_at hl 0 rfl) ?_
    refine va_get (D := (dC, dI)) (ci := 3) (v := .int (mWr μ)) (C := RX3) (T := TX3) (N := 12) hx hb hts hinX3 hown hK hP 0 rfl rfl 7 (by decide) hf68 (fun _ h9 => h9) rfl dX3_headOf_8 ?_
    refine lv_goto (tgt := 18) hx hb dX3_headOf_11 (by decide) ?_
    exact rI (w := fun _ => mW cI h μ) (()) hx hb hr hlocks hP hD hS (Nat.le_of_ble_eq_true rfl) (Nat.le_of_ble_eq_true rfl) dX3_headOf_18 (by rw [hV] <;> rfl)
