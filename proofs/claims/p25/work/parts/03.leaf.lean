def v_J9_floorMod_7cf53 (p0 : Int32) (p1 : Int32) : Int32 := if 0 ≤ (p0 ^^^ p1) then (p0 - p0 / p1 * p1) else if (p0 - p0 / p1 * p1) = 0 then (p0 - p0 / p1 * p1) else ((p0 - p0 / p1 * p1) + p1)
theorem v_J9_floorMod_7cf53_e (p0 : Int32) (p1 : Int32) : v_J9_floorMod_7cf53 p0 p1 = if 0 ≤ (p0 ^^^ p1) then (p0 - p0 / p1 * p1) else if (p0 - p0 / p1 * p1) = 0 then (p0 - p0 / p1 * p1) else ((p0 - p0 / p1 * p1) + p1) := rfl
def s_J9_floorMod_7cf53 (p0 : Int32) (p1 : Int32) : Prop := (¬ p1 = 0 ∧ True)
set_option maxHeartbeats 1000000 in
set_option maxRecDepth 100000 in
theorem c_J9_floorMod_7cf53 (l : Launch) (dC : Nat → ClassId) (dI : Nat → Nat → Nat) (cI : ClassId) (sz : Nat) (p0 : Int32) (p1 : Int32) (hs : s_J9_floorMod_7cf53 p0 p1) : Met l yJ9_floorMod_7cf53 wsJ9_floorMod_7cf53 ({ frames := 0, cells := 0, slots := 0, locals := 0 }) (va_Pc [.int p0, .int p1] (pW (dC, dI) [(cI, .int)] (eW) sz)) (va_Qi (fun (r : Int32) (u : Unit) => r = v_J9_floorMod_7cf53 p0 p1) (qW (dC, dI) (va_A (eW) sz) (fun _ => eW)) (va_A (eW) sz)) 0 0 (va_A (eW) sz) := by
  refine va_MetF (cc := cJ9_floorMod_7cf53) (maxL := 3) (ret := (some .int)) (by decide +kernel) rfl ?_
  intro p e s m args below meth c s₁ B hml hv
  obtain ⟨rfl, hsz, hP, hK, hD0⟩ := hv
  have hx := B.exec
  have hb := B.bytes
  have hr := B.returns
  have hts := atoms_spec (ws := wsJ9_floorMod_7cf53) B.pre
  have hown : s.vm.findClass RJ9 = some m.cls := findClass_of_methodNamed B.named
  have hlocks := B.notSynchronized
  subst hsz
  have hD := hD0.self (sz := s.heap.size)
  generalize hAe : va_A (eW) s.heap.size = A at hD ⊢
  have hA : ∀ q : Nat, s.heap.size ≤ q → A q := fun q h => by rw [← hAe]; exact Or.inr h
  have hl := lv_entry ([.int p0, .int p1]) (n := 3) (Nat.le_of_ble_eq_true rfl)
  rw [lg_entry_eq]
  generalize (lg_sl ([.int p0, .int p1]) ++ List.replicate (3 - (lg_sl ([.int p0, .int p1])).length) Slot.unset).toArray = ls at hl ⊢
  have hl : lv_has ls 3 [(0, .int p0), (1, .int p1)] := hl
  generalize hHe : s.heap = H at hP ⊢
  generalize hLe : ([] : List Loc) = locs
  have hS : va_S A s.heap H locs := by
    rw [← hLe, ← hHe]
    exact va_S.rf
  unfold s_J9_floorMod_7cf53 at hs
  have hV := v_J9_floorMod_7cf53_e p0 p1
  refine lv_iload_n hx hb dJ9_floorMod_7cf53_0 rfl (lv_at hl 0 rfl) ?_
  refine lv_iload_n hx hb dJ9_floorMod_7cf53_1 rfl (lv_at hl 1 rfl) ?_
  have o_2 : ¬ p1 = 0 := hs.1
  have hs := hs.2
  refine lv_irem hx hb dJ9_floorMod_7cf53_2 o_2 ?_
  refine lv_istore_n (lv' := [(2, .int (p0 - p0 / p1 * p1)), (0, .int p0), (1, .int p1)]) hx hb dJ9_floorMod_7cf53_3 rfl hl (by decide) rfl (fun ls hl => ?_)
  refine lv_iload_n hx hb dJ9_floorMod_7cf53_4 rfl (lv_at hl 1 rfl) ?_
  refine lv_iload_n hx hb dJ9_floorMod_7cf53_5 rfl (lv_at hl 2 rfl) ?_
  refine lv_ixor hx hb dJ9_floorMod_7cf53_6 ?_
  refine lv_if_ge (tgt := 18) hx hb dJ9_floorMod_7cf53_7 (by decide) (fun c_7 => ?_) (fun c_7 => ?_)
  · skip
    rw [if_pos c_7] at hV
    refine lv_iload_n hx hb dJ9_floorMod_7cf53_18 rfl (lv_at hl 0 rfl) ?_
    exact rI (w := fun _ => eW) (()) hx hb hr hlocks hP hD hS (Nat.le_of_ble_eq_true rfl) (Nat.le_of_ble_eq_true rfl) dJ9_floorMod_7cf53_19 (by rw [hV] <;> rfl)
  · skip
    rw [if_neg c_7] at hV
    refine lv_iload_n hx hb dJ9_floorMod_7cf53_10 rfl (lv_at hl 0 rfl) ?_
    refine lv_if_eq (tgt := 18) hx hb dJ9_floorMod_7cf53_11 (by decide) (fun c_11 => ?_) (fun c_11 => ?_)
    · skip
      rw [if_pos c_11] at hV
      refine lv_iload_n hx hb dJ9_floorMod_7cf53_18 rfl (lv_at hl 0 rfl) ?_
      exact rI (w := fun _ => eW) (()) hx hb hr hlocks hP hD hS (Nat.le_of_ble_eq_true rfl) (Nat.le_of_ble_eq_true rfl) dJ9_floorMod_7cf53_19 (by rw [hV] <;> rfl)
    · skip
      rw [if_neg c_11] at hV
      refine lv_iload_n hx hb dJ9_floorMod_7cf53_14 rfl (lv_at hl 0 rfl) ?_
      refine lv_iload_n hx hb dJ9_floorMod_7cf53_15 rfl (lv_at hl 2 rfl) ?_
      refine lv_iadd hx hb dJ9_floorMod_7cf53_16 ?_
      exact rI (w := fun _ => eW) (()) hx hb hr hlocks hP hD hS (Nat.le_of_ble_eq_true rfl) (Nat.le_of_ble_eq_true rfl) dJ9_floorMod_7cf53_17 (by rw [hV] <;> rfl)
def v_J6_bitCount_0f7a4 (p0 : Int32) : Int32 := ((((((((p0 - (((Int32.toUInt32 p0 >>> (Int32.toUInt32 1 &&& Int32.toUInt32 31)).toInt32) &&& 1431655765)) &&& 858993459) + (((Int32.toUInt32 (p0 - (((Int32.toUInt32 p0 >>> (Int32.toUInt32 1 &&& Int32.toUInt32 31)).toInt32) &&& 1431655765)) >>> (Int32.toUInt32 2 &&& Int32.toUInt32 31)).toInt32) &&& 858993459)) + ((Int32.toUInt32 (((p0 - (((Int32.toUInt32 p0 >>> (Int32.toUInt32 1 &&& Int32.toUInt32 31)).toInt32) &&& 1431655765)) &&& 858993459) + (((Int32.toUInt32 (p0 - (((Int32.toUInt32 p0 >>> (Int32.toUInt32 1 &&& Int32.toUInt32 31)).toInt32) &&& 1431655765)) >>> (Int32.toUInt32 2 &&& Int32.toUInt32 31)).toInt32) &&& 858993459)) >>> (Int32.toUInt32 4 &&& Int32.toUInt32 31)).toInt32)) &&& 252645135) + ((Int32.toUInt32 (((((p0 - (((Int32.toUInt32 p0 >>> (Int32.toUInt32 1 &&& Int32.toUInt32 31)).toInt32) &&& 1431655765)) &&& 858993459) + (((Int32.toUInt32 (p0 - (((Int32.toUInt32 p0 >>> (Int32.toUInt32 1 &&& Int32.toUInt32 31)).toInt32) &&& 1431655765)) >>> (Int32.toUInt32 2 &&& Int32.toUInt32 31)).toInt32) &&& 858993459)) + ((Int32.toUInt32 (((p0 - (((Int32.toUInt32 p0 >>> (Int32.toUInt32 1 &&& Int32.toUInt32 31)).toInt32) &&& 1431655765)) &&& 858993459) + (((Int32.toUInt32 (p0 - (((Int32.toUInt32 p0 >>> (Int32.toUInt32 1 &&& Int32.toUInt32 31)).toInt32) &&& 1431655765)) >>> (Int32.toUInt32 2 &&& Int32.toUInt32 31)).toInt32) &&& 858993459)) >>> (Int32.toUInt32 4 &&& Int32.toUInt32 31)).toInt32)) &&& 252645135) >>> (Int32.toUInt32 8 &&& Int32.toUInt32 31)).toInt32)) + ((Int32.toUInt32 ((((((p0 - (((Int32.toUInt32 p0 >>> (Int32.toUInt32 1 &&& Int32.toUInt32 31)).toInt32) &&& 1431655765)) &&& 858993459) + (((Int32.toUInt32 (p0 - (((Int32.toUInt32 p0 >>> (Int32.toUInt32 1 &&& Int32.toUInt32 31)).toInt32) &&& 1431655765)) >>> (Int32.toUInt32 2 &&& Int32.toUInt32 31)).toInt32) &&& 858993459)) + ((Int32.toUInt32 (((p0 - (((Int32.toUInt32 p0 >>> (Int32.toUInt32 1 &&& Int32.toUInt32 31)).toInt32) &&& 1431655765)) &&& 858993459) + (((Int32.toUInt32 (p0 - (((Int32.toUInt32 p0 >>> (Int32.toUInt32 1 &&& Int32.toUInt32 31)).toInt32) &&& 1431655765)) >>> (Int32.toUInt32 2 &&& Int32.toUInt32 31)).toInt32) &&& 858993459)) >>> (Int32.toUInt32 4 &&& Int32.toUInt32 31)).toInt32)) &&& 252645135) + ((Int32.toUInt32 (((((p0 - (((Int32.toUInt32 p0 >>> (Int32.toUInt32 1 &&& Int32.toUInt32 31)).toInt32) &&& 1431655765)) &&& 858993459) + (((Int32.toUInt32 (p0 - (((Int32.toUInt32 p0 >>> (Int32.toUInt32 1 &&& Int32.toUInt32 31)).toInt32) &&& 1431655765)) >>> (Int32.toUInt32 2 &&& Int32.toUInt32 31)).toInt32) &&& 858993459)) + ((Int32.toUInt32 (((p0 - (((Int32.toUInt32 p0 >>> (Int32.toUInt32 1 &&& Int32.toUInt32 31)).toInt32) &&& 1431655765)) &&& 858993459) + (((Int32.toUInt32 (p0 - (((Int32.toUInt32 p0 >>> (Int32.toUInt32 1 &&& Int32.toUInt32 31)).toInt32) &&& 1431655765)) >>> (Int32.toUInt32 2 &&& Int32.toUInt32 31)).toInt32) &&& 858993459)) >>> (Int32.toUInt32 4 &&& Int32.toUInt32 31)).toInt32)) &&& 252645135) >>> (Int32.toUInt32 8 &&& Int32.toUInt32 31)).toInt32)) >>> (Int32.toUInt32 16 &&& Int32.toUInt32 31)).toInt32)) &&& 63)
theorem v_J6_bitCount_0f7a4_e (p0 : Int32) : v_J6_bitCount_0f7a4 p0 = ((((((((p0 - (((Int32.toUInt32 p0 >>> (Int32.toUInt32 1 &&& Int32.toUInt32 31)).toInt32) &&& 1431655765)) &&& 858993459) + (((Int32.toUInt32 (p0 - (((Int32.toUInt32 p0 >>> (Int32.toUInt32 1 &&& Int32.toUInt32 31)).toInt32) &&& 1431655765)) >>> (Int32.toUInt32 2 &&& Int32.toUInt32 31)).toInt32) &&& 858993459)) + ((Int32.toUInt32 (((p0 - (((Int32.toUInt32 p0 >>> (Int32.toUInt32 1 &&& Int32.toUInt32 31)).toInt32) &&& 1431655765)) &&& 858993459) + (((Int32.toUInt32 (p0 - (((Int32.toUInt32 p0 >>> (Int32.toUInt32 1 &&& Int32.toUInt32 31)).toInt32) &&& 1431655765)) >>> (Int32.toUInt32 2 &&& Int32.toUInt32 31)).toInt32) &&& 858993459)) >>> (Int32.toUInt32 4 &&& Int32.toUInt32 31)).toInt32)) &&& 252645135) + ((Int32.toUInt32 (((((p0 - (((Int32.toUInt32 p0 >>> (Int32.toUInt32 1 &&& Int32.toUInt32 31)).toInt32) &&& 1431655765)) &&& 858993459) + (((Int32.toUInt32 (p0 - (((Int32.toUInt32 p0 >>> (Int32.toUInt32 1 &&& Int32.toUInt32 31)).toInt32) &&& 1431655765)) >>> (Int32.toUInt32 2 &&& Int32.toUInt32 31)).toInt32) &&& 858993459)) + ((Int32.toUInt32 (((p0 - (((Int32.toUInt32 p0 >>> (Int32.toUInt32 1 &&& Int32.toUInt32 31)).toInt32) &&& 1431655765)) &&& 858993459) + (((Int32.toUInt32 (p0 - (((Int32.toUInt32 p0 >>> (Int32.toUInt32 1 &&& Int32.toUInt32 31)).toInt32) &&& 1431655765)) >>> (Int32.toUInt32 2 &&& Int32.toUInt32 31)).toInt32) &&& 858993459)) >>> (Int32.toUInt32 4 &&& Int32.toUInt32 31)).toInt32)) &&& 252645135) >>> (Int32.toUInt32 8 &&& Int32.toUInt32 31)).toInt32)) + ((Int32.toUInt32 ((((((p0 - (((Int32.toUInt32 p0 >>> (Int32.toUInt32 1 &&& Int32.toUInt32 31)).toInt32) &&& 1431655765)) &&& 858993459) + (((Int32.toUInt32 (p0 - (((Int32.toUInt32 p0 >>> (Int32.toUInt32 1 &&& Int32.toUInt32 31)).toInt32) &&& 1431655765)) >>> (Int32.toUInt32 2 &&& Int32.toUInt32 31)).toInt32) &&& 858993459)) + ((Int32.toUInt32 (((p0 - (((Int32.toUInt32 p0 >>> (Int32.toUInt32 1 &&& Int32.toUInt32 31)).toInt32) &&& 1431655765)) &&& 858993459) + (((Int32.toUInt32 (p0 - (((Int32.toUInt32 p0 >>> (Int32.toUInt32 1 &&& Int32.toUInt32 31)).toInt32) &&& 1431655765)) >>> (Int32.toUInt32 2 &&& Int32.toUInt32 31)).toInt32) &&& 858993459)) >>> (Int32.toUInt32 4 &&& Int32.toUInt32 31)).toInt32)) &&& 252645135) + ((Int32.toUInt32 (((((p0 - (((Int32.toUInt32 p0 >>> (Int32.toUInt32 1 &&& Int32.toUInt32 31)).toInt32) &&& 1431655765)) &&& 858993459) + (((Int32.toUInt32 (p0 - (((Int32.toUInt32 p0 >>> (Int32.toUInt32 1 &&& Int32.toUInt32 31)).toInt32) &&& 1431655765)) >>> (Int32.toUInt32 2 &&& Int32.toUInt32 31)).toInt32) &&& 858993459)) + ((Int32.toUInt32 (((p0 - (((Int32.toUInt32 p0 >>> (Int32.toUInt32 1 &&& Int32.toUInt32 31)).toInt32) &&& 1431655765)) &&& 858993459) + (((Int32.toUInt32 (p0 - (((Int32.toUInt32 p0 >>> (Int32.toUInt32 1 &&& Int32.toUInt32 31)).toInt32) &&& 1431655765)) >>> (Int32.toUInt32 2 &&& Int32.toUInt32 31)).toInt32) &&& 858993459)) >>> (Int32.toUInt32 4 &&& Int32.toUInt32 31)).toInt32)) &&& 252645135) >>> (Int32.toUInt32 8 &&& Int32.toUInt32 31)).toInt32)) >>> (Int32.toUInt32 16 &&& Int32.toUInt32 31)).toInt32)) &&& 63) := rfl
set_option maxHeartbeats 1000000 in
set_option maxRecDepth 100000 in
theorem c_J6_bitCount_0f7a4 (l : Launch) (dC : Nat → ClassId) (dI : Nat → Nat → Nat) (cI : ClassId) (sz : Nat) (p0 : Int32) : Met l yJ6_bitCount_0f7a4 wsJ6_bitCount_0f7a4 ({ frames := 0, cells := 0, slots := 0, locals := 0 }) (va_Pc [.int p0] (pW (dC, dI) [(cI, .int)] (eW) sz)) (va_Qi (fun (r : Int32) (u : Unit) => r = v_J6_bitCount_0f7a4 p0) (qW (dC, dI) (va_A (eW) sz) (fun _ => eW)) (va_A (eW) sz)) 0 0 (va_A (eW) sz) := by
  refine va_MetF (cc := cJ6_bitCount_0f7a4) (maxL := 1) (ret := (some .int)) (by decide +kernel) rfl ?_
  intro p e s m args below meth c s₁ B hml hv
  obtain ⟨rfl, hsz, hP, hK, hD0⟩ := hv
  have hx := B.exec
  have hb := B.bytes
  have hr := B.returns
  have hts := atoms_spec (ws := wsJ6_bitCount_0f7a4) B.pre
  have hown : s.vm.findClass RJ6 = some m.cls := findClass_of_methodNamed B.named
  have hlocks := B.notSynchronized
  subst hsz
  have hD := hD0.self (sz := s.heap.size)
  generalize hAe : va_A (eW) s.heap.size = A at hD ⊢
  have hA : ∀ q : Nat, s.heap.size ≤ q → A q := fun q h => by rw [← hAe]; exact Or.inr h
  have hl := lv_entry ([.int p0]) (n := 1) (Nat.le_of_ble_eq_true rfl)
  rw [lg_entry_eq]
  generalize (lg_sl ([.int p0]) ++ List.replicate (1 - (lg_sl ([.int p0])).length) Slot.unset).toArray = ls at hl ⊢
  have hl : lv_has ls 1 [(0, .int p0)] := hl
  generalize hHe : s.heap = H at hP ⊢
  generalize hLe : ([] : List Loc) = locs
  have hS : va_S A s.heap H locs := by
    rw [← hLe, ← hHe]
    exact va_S.rf
  have hV := v_J6_bitCount_0f7a4_e p0
  refine lv_iload_n hx hb dJ6_bitCount_0f7a4_0 rfl (lv_at hl 0 rfl) ?_
  refine lv_iload_n hx hb dJ6_bitCount_0f7a4_1 rfl (lv_at hl 0 rfl) ?_
  refine lv_iconst (v := 1) hx hb dJ6_bitCount_0f7a4_2 (by decide) ?_
  refine lv_iushr (v := (Int32.toUInt32 p0 >>> (Int32.toUInt32 1 &&& Int32.toUInt32 31)).toInt32) hx hb dJ6_bitCount_0f7a4_3 rfl ?_
  refine lv_ldcw (v := 1431655765) hx hb hown (hts (.constant RJ6 265 (1431655765)) (by decide +kernel)) dJ6_bitCount_0f7a4_4 ?_
  refine lv_iand hx hb dJ6_bitCount_0f7a4_7 ?_
  refine lv_isub hx hb dJ6_bitCount_0f7a4_8 ?_
  refine lv_istore_n (lv' := [(0, .int (p0 - (((Int32.toUInt32 p0 >>> (Int32.toUInt32 1 &&& Int32.toUInt32 31)).toInt32) &&& 1431655765)))]) hx hb dJ6_bitCount_0f7a4_9 rfl hl (by decide) rfl (fun ls hl => ?_)
  refine lv_iload_n hx hb dJ6_bitCount_0f7a4_10 rfl (lv_at hl 0 rfl) ?_
  refine lv_ldcw (v := 858993459) hx hb hown (hts (.constant RJ6 266 (858993459)) (by decide +kernel)) dJ6_bitCount_0f7a4_11 ?_
  refine lv_iand hx hb dJ6_bitCount_0f7a4_14 ?_
  refine lv_iload_n hx hb dJ6_bitCount_0f7a4_15 rfl (lv_at hl 0 rfl) ?_
  refine lv_iconst (v := 2) hx hb dJ6_bitCount_0f7a4_16 (by decide) ?_
  refine lv_iushr (v := (Int32.toUInt32 (p0 - (((Int32.toUInt32 p0 >>> (Int32.toUInt32 1 &&& Int32.toUInt32 31)).toInt32) &&& 1431655765)) >>> (Int32.toUInt32 2 &&& Int32.toUInt32 31)).toInt32) hx hb dJ6_bitCount_0f7a4_17 rfl ?_
  refine lv_ldcw (v := 858993459) hx hb hown (hts (.constant RJ6 266 (858993459)) (by decide +kernel)) dJ6_bitCount_0f7a4_18 ?_
  refine lv_iand hx hb dJ6_bitCount_0f7a4_21 ?_
  refine lv_iadd hx hb dJ6_bitCount_0f7a4_22 ?_
  refine lv_istore_n (lv' := [(0, .int (((p0 - (((Int32.toUInt32 p0 >>> (Int32.toUInt32 1 &&& Int32.toUInt32 31)).toInt32) &&& 1431655765)) &&& 858993459) + (((Int32.toUInt32 (p0 - (((Int32.toUInt32 p0 >>> (Int32.toUInt32 1 &&& Int32.toUInt32 31)).toInt32) &&& 1431655765)) >>> (Int32.toUInt32 2 &&& Int32.toUInt32 31)).toInt32) &&& 858993459)))]) hx hb dJ6_bitCount_0f7a4_23 rfl hl (by decide) rfl (fun ls hl => ?_)
  refine lv_iload_n hx hb dJ6_bitCount_0f7a4_24 rfl (lv_at hl 0 rfl) ?_
  refine lv_iload_n hx hb dJ6_bitCount_0f7a4_25 rfl (lv_at hl 0 rfl) ?_
  refine lv_iconst (v := 4) hx hb dJ6_bitCount_0f7a4_26 (by decide) ?_
  refine lv_iushr (v := (Int32.toUInt32 (((p0 - (((Int32.toUInt32 p0 >>> (Int32.toUInt32 1 &&& Int32.toUInt32 31)).toInt32) &&& 1431655765)) &&& 858993459) + (((Int32.toUInt32 (p0 - (((Int32.toUInt32 p0 >>> (Int32.toUInt32 1 &&& Int32.toUInt32 31)).toInt32) &&& 1431655765)) >>> (Int32.toUInt32 2 &&& Int32.toUInt32 31)).toInt32) &&& 858993459)) >>> (Int32.toUInt32 4 &&& Int32.toUInt32 31)).toInt32) hx hb dJ6_bitCount_0f7a4_27 rfl ?_
  refine lv_iadd hx hb dJ6_bitCount_0f7a4_28 ?_
  refine lv_ldcw (v := 252645135) hx hb hown (hts (.constant RJ6 267 (252645135)) (by decide +kernel)) dJ6_bitCount_0f7a4_29 ?_
  refine lv_iand hx hb dJ6_bitCount_0f7a4_32 ?_
  refine lv_istore_n (lv' := [(0, .int (((((p0 - (((Int32.toUInt32 p0 >>> (Int32.toUInt32 1 &&& Int32.toUInt32 31)).toInt32) &&& 1431655765)) &&& 858993459) + (((Int32.toUInt32 (p0 - (((Int32.toUInt32 p0 >>> (Int32.toUInt32 1 &&& Int32.toUInt32 31)).toInt32) &&& 1431655765)) >>> (Int32.toUInt32 2 &&& Int32.toUInt32 31)).toInt32) &&& 858993459)) + ((Int32.toUInt32 (((p0 - (((Int32.toUInt32 p0 >>> (Int32.toUInt32 1 &&& Int32.toUInt32 31)).toInt32) &&& 1431655765)) &&& 858993459) + (((Int32.toUInt32 (p0 - (((Int32.toUInt32 p0 >>> (Int32.toUInt32 1 &&& Int32.toUInt32 31)).toInt32) &&& 1431655765)) >>> (Int32.toUInt32 2 &&& Int32.toUInt32 31)).toInt32) &&& 858993459)) >>> (Int32.toUInt32 4 &&& Int32.toUInt32 31)).toInt32)) &&& 252645135))]) hx hb dJ6_bitCount_0f7a4_33 rfl hl (by decide) rfl (fun ls hl => ?_)
  refine lv_iload_n hx hb dJ6_bitCount_0f7a4_34 rfl (lv_at hl 0 rfl) ?_
  refine lv_iload_n hx hb dJ6_bitCount_0f7a4_35 rfl (lv_at hl 0 rfl) ?_
  refine lv_bipush (v := 8) hx hb dJ6_bitCount_0f7a4_36 (by decide) ?_
  refine lv_iushr (v := (Int32.toUInt32 (((((p0 - (((Int32.toUInt32 p0 >>> (Int32.toUInt32 1 &&& Int32.toUInt32 31)).toInt32) &&& 1431655765)) &&& 858993459) + (((Int32.toUInt32 (p0 - (((Int32.toUInt32 p0 >>> (Int32.toUInt32 1 &&& Int32.toUInt32 31)).toInt32) &&& 1431655765)) >>> (Int32.toUInt32 2 &&& Int32.toUInt32 31)).toInt32) &&& 858993459)) + ((Int32.toUInt32 (((p0 - (((Int32.toUInt32 p0 >>> (Int32.toUInt32 1 &&& Int32.toUInt32 31)).toInt32) &&& 1431655765)) &&& 858993459) + (((Int32.toUInt32 (p0 - (((Int32.toUInt32 p0 >>> (Int32.toUInt32 1 &&& Int32.toUInt32 31)).toInt32) &&& 1431655765)) >>> (Int32.toUInt32 2 &&& Int32.toUInt32 31)).toInt32) &&& 858993459)) >>> (Int32.toUInt32 4 &&& Int32.toUInt32 31)).toInt32)) &&& 252645135) >>> (Int32.toUInt32 8 &&& Int32.toUInt32 31)).toInt32) hx hb dJ6_bitCount_0f7a4_38 rfl ?_
  refine lv_iadd hx hb dJ6_bitCount_0f7a4_39 ?_
  refine lv_istore_n (lv' := [(0, .int ((((((p0 - (((Int32.toUInt32 p0 >>> (Int32.toUInt32 1 &&& Int32.toUInt32 31)).toInt32) &&& 1431655765)) &&& 858993459) + (((Int32.toUInt32 (p0 - (((Int32.toUInt32 p0 >>> (Int32.toUInt32 1 &&& Int32.toUInt32 31)).toInt32) &&& 1431655765)) >>> (Int32.toUInt32 2 &&& Int32.toUInt32 31)).toInt32) &&& 858993459)) + ((Int32.toUInt32 (((p0 - (((Int32.toUInt32 p0 >>> (Int32.toUInt32 1 &&& Int32.toUInt32 31)).toInt32) &&& 1431655765)) &&& 858993459) + (((Int32.toUInt32 (p0 - (((Int32.toUInt32 p0 >>> (Int32.toUInt32 1 &&& Int32.toUInt32 31)).toInt32) &&& 1431655765)) >>> (Int32.toUInt32 2 &&& Int32.toUInt32 31)).toInt32) &&& 858993459)) >>> (Int32.toUInt32 4 &&& Int32.toUInt32 31)).toInt32)) &&& 252645135) + ((Int32.toUInt32 (((((p0 - (((Int32.toUInt32 p0 >>> (Int32.toUInt32 1 &&& Int32.toUInt32 31)).toInt32) &&& 1431655765)) &&& 858993459) + (((Int32.toUInt32 (p0 - (((Int32.toUInt32 p0 >>> (Int32.toUInt32 1 &&& Int32.toUInt32 31)).toInt32) &&& 1431655765)) >>> (Int32.toUInt32 2 &&& Int32.toUInt32 31)).toInt32) &&& 858993459)) + ((Int32.toUInt32 (((p0 - (((Int32.toUInt32 p0 >>> (Int32.toUInt32 1 &&& Int32.toUInt32 31)).toInt32) &&& 1431655765)) &&& 858993459) + (((Int32.toUInt32 (p0 - (((Int32.toUInt32 p0 >>> (Int32.toUInt32 1 &&& Int32.toUInt32 31)).toInt32) &&& 1431655765)) >>> (Int32.toUInt32 2 &&& Int32.toUInt32 31)).toInt32) &&& 858993459)) >>> (Int32.toUInt32 4 &&& Int32.toUInt32 31)).toInt32)) &&& 252645135) >>> (Int32.toUInt32 8 &&& Int32.toUInt32 31)).toInt32)))]) hx hb dJ6_bitCount_0f7a4_40 rfl hl (by decide) rfl (fun ls hl => ?_)
  refine lv_iload_n hx hb dJ6_bitCount_0f7a4_41 rfl (lv_at hl 0 rfl) ?_
  refine lv_iload_n hx hb dJ6_bitCount_0f7a4_42 rfl (lv_at hl 0 rfl) ?_
  refine lv_bipush (v := 16) hx hb dJ6_bitCount_0f7a4_43 (by decide) ?_
  refine lv_iushr (v := (Int32.toUInt32 ((((((p0 - (((Int32.toUInt32 p0 >>> (Int32.toUInt32 1 &&& Int32.toUInt32 31)).toInt32) &&& 1431655765)) &&& 858993459) + (((Int32.toUInt32 (p0 - (((Int32.toUInt32 p0 >>> (Int32.toUInt32 1 &&& Int32.toUInt32 31)).toInt32) &&& 1431655765)) >>> (Int32.toUInt32 2 &&& Int32.toUInt32 31)).toInt32) &&& 858993459)) + ((Int32.toUInt32 (((p0 - (((Int32.toUInt32 p0 >>> (Int32.toUInt32 1 &&& Int32.toUInt32 31)).toInt32) &&& 1431655765)) &&& 858993459) + (((Int32.toUInt32 (p0 - (((Int32.toUInt32 p0 >>> (Int32.toUInt32 1 &&& Int32.toUInt32 31)).toInt32) &&& 1431655765)) >>> (Int32.toUInt32 2 &&& Int32.toUInt32 31)).toInt32) &&& 858993459)) >>> (Int32.toUInt32 4 &&& Int32.toUInt32 31)).toInt32)) &&& 252645135) + ((Int32.toUInt32 (((((p0 - (((Int32.toUInt32 p0 >>> (Int32.toUInt32 1 &&& Int32.toUInt32 31)).toInt32) &&& 1431655765)) &&& 858993459) + (((Int32.toUInt32 (p0 - (((Int32.toUInt32 p0 >>> (Int32.toUInt32 1 &&& Int32.toUInt32 31)).toInt32) &&& 1431655765)) >>> (Int32.toUInt32 2 &&& Int32.toUInt32 31)).toInt32) &&& 858993459)) + ((Int32.toUInt32 (((p0 - (((Int32.toUInt32 p0 >>> (Int32.toUInt32 1 &&& Int32.toUInt32 31)).toInt32) &&& 1431655765)) &&& 858993459) + (((Int32.toUInt32 (p0 - (((Int32.toUInt32 p0 >>> (Int32.toUInt32 1 &&& Int32.toUInt32 31)).toInt32) &&& 1431655765)) >>> (Int32.toUInt32 2 &&& Int32.toUInt32 31)).toInt32) &&& 858993459)) >>> (Int32.toUInt32 4 &&& Int32.toUInt32 31)).toInt32)) &&& 252645135) >>> (Int32.toUInt32 8 &&& Int32.toUInt32 31)).toInt32)) >>> (Int32.toUInt32 16 &&& Int32.toUInt32 31)).toInt32) hx hb dJ6_bitCount_0f7a4_45 rfl ?_
  refine lv_iadd hx hb dJ6_bitCount_0f7a4_46 ?_
  refine lv_istore_n (lv' := [(0, .int (((((((p0 - (((Int32.toUInt32 p0 >>> (Int32.toUInt32 1 &&& Int32.toUInt32 31)).toInt32) &&& 1431655765)) &&& 858993459) + (((Int32.toUInt32 (p0 - (((Int32.toUInt32 p0 >>> (Int32.toUInt32 1 &&& Int32.toUInt32 31)).toInt32) &&& 1431655765)) >>> (Int32.toUInt32 2 &&& Int32.toUInt32 31)).toInt32) &&& 858993459)) + ((Int32.toUInt32 (((p0 - (((Int32.toUInt32 p0 >>> (Int32.toUInt32 1 &&& Int32.toUInt32 31)).toInt32) &&& 1431655765)) &&& 858993459) + (((Int32.toUInt32 (p0 - (((Int32.toUInt32 p0 >>> (Int32.toUInt32 1 &&& Int32.toUInt32 31)).toInt32) &&& 1431655765)) >>> (Int32.toUInt32 2 &&& Int32.toUInt32 31)).toInt32) &&& 858993459)) >>> (Int32.toUInt32 4 &&& Int32.toUInt32 31)).toInt32)) &&& 252645135) + ((Int32.toUInt32 (((((p0 - (((Int32.toUInt32 p0 >>> (Int32.toUInt32 1 &&& Int32.toUInt32 31)).toInt32) &&& 1431655765)) &&& 858993459) + (((Int32.toUInt32 (p0 - (((Int32.toUInt32 p0 >>> (Int32.toUInt32 1 &&& Int32.toUInt32 31)).toInt32) &&& 1431655765)) >>> (Int32.toUInt32 2 &&& Int32.toUInt32 31)).toInt32) &&& 858993459)) + ((Int32.toUInt32 (((p0 - (((Int32.toUInt32 p0 >>> (Int32.toUInt32 1 &&& Int32.toUInt32 31)).toInt32) &&& 1431655765)) &&& 858993459) + (((Int32.toUInt32 (p0 - (((Int32.toUInt32 p0 >>> (Int32.toUInt32 1 &&& Int32.toUInt32 31)).toInt32) &&& 1431655765)) >>> (Int32.toUInt32 2 &&& Int32.toUInt32 31)).toInt32) &&& 858993459)) >>> (Int32.toUInt32 4 &&& Int32.toUInt32 31)).toInt32)) &&& 252645135) >>> (Int32.toUInt32 8 &&& Int32.toUInt32 31)).toInt32)) + ((Int32.toUInt32 ((((((p0 - (((Int32.toUInt32 p0 >>> (Int32.toUInt32 1 &&& Int32.toUInt32 31)).toInt32) &&& 1431655765)) &&& 858993459) + (((Int32.toUInt32 (p0 - (((Int32.toUInt32 p0 >>> (Int32.toUInt32 1 &&& Int32.toUInt32 31)).toInt32) &&& 1431655765)) >>> (Int32.toUInt32 2 &&& Int32.toUInt32 31)).toInt32) &&& 858993459)) + ((Int32.toUInt32 (((p0 - (((Int32.toUInt32 p0 >>> (Int32.toUInt32 1 &&& Int32.toUInt32 31)).toInt32) &&& 1431655765)) &&& 858993459) + (((Int32.toUInt32 (p0 - (((Int32.toUInt32 p0 >>> (Int32.toUInt32 1 &&& Int32.toUInt32 31)).toInt32) &&& 1431655765)) >>> (Int32.toUInt32 2 &&& Int32.toUInt32 31)).toInt32) &&& 858993459)) >>> (Int32.toUInt32 4 &&& Int32.toUInt32 31)).toInt32)) &&& 252645135) + ((Int32.toUInt32 (((((p0 - (((Int32.toUInt32 p0 >>> (Int32.toUInt32 1 &&& Int32.toUInt32 31)).toInt32) &&& 1431655765)) &&& 858993459) + (((Int32.toUInt32 (p0 - (((Int32.toUInt32 p0 >>> (Int32.toUInt32 1 &&& Int32.toUInt32 31)).toInt32) &&& 1431655765)) >>> (Int32.toUInt32 2 &&& Int32.toUInt32 31)).toInt32) &&& 858993459)) + ((Int32.toUInt32 (((p0 - (((Int32.toUInt32 p0 >>> (Int32.toUInt32 1 &&& Int32.toUInt32 31)).toInt32) &&& 1431655765)) &&& 858993459) + (((Int32.toUInt32 (p0 - (((Int32.toUInt32 p0 >>> (Int32.toUInt32 1 &&& Int32.toUInt32 31)).toInt32) &&& 1431655765)) >>> (Int32.toUInt32 2 &&& Int32.toUInt32 31)).toInt32) &&& 858993459)) >>> (Int32.toUInt32 4 &&& Int32.toUInt32 31)).toInt32)) &&& 252645135) >>> (Int32.toUInt32 8 &&& Int32.toUInt32 31)).toInt32)) >>> (Int32.toUInt32 16 &&& Int32.toUInt32 31)).toInt32)))]) hx hb dJ6_bitCount_0f7a4_47 rfl hl (by decide) rfl (fun ls hl => ?_)
  refine lv_iload_n hx hb dJ6_bitCount_0f7a4_48 rfl (lv_at hl 0 rfl) ?_
  refine lv_bipush (v := 63) hx hb dJ6_bitCount_0f7a4_49 (by decide) ?_
  refine lv_iand hx hb dJ6_bitCount_0f7a4_51 ?_
  exact rI (w := fun _ => eW) (()) hx hb hr hlocks hP hD hS (Nat.le_of_ble_eq_true rfl) (Nat.le_of_ble_eq_true rfl) dJ6_bitCount_0f7a4_52 (by rw [hV] <;> rfl)
def v_X0_find (f : (Nat → Int32)) (p1 : Int32) : Int32 := if p1 < 0 then (-1) else if 64 ≤ p1 then (-1) else (f p1.toNatClampNeg)
theorem v_X0_find_e (f : (Nat → Int32)) (p1 : Int32) : v_X0_find f p1 = if p1 < 0 then (-1) else if 64 ≤ p1 then (-1) else (f p1.toNatClampNeg) := rfl
set_option maxHeartbeats 1000000 in
set_option maxRecDepth 100000 in
theorem c_X0_find (l : Launch) (dC : Nat → ClassId) (dI : Nat → Nat → Nat) (cI : ClassId) (a : Nat) (b : Nat) (sz : Nat) (f : (Nat → Int32)) (p1 : Int32) : Met l yX0_find wsX0_find ({ frames := 0, cells := 0, slots := 0, locals := 0 }) (va_Pc [.ref a, .int p1] (pW (dC, dI) [(cI, .int)] (iW cI a b f) sz)) (va_Qi (fun (r : Int32) (u : Unit) => r = v_X0_find f p1) (qW (dC, dI) (va_A (iW cI a b f) sz) (fun _ => iW cI a b f)) (va_A (iW cI a b f) sz)) 0 0 (va_A (iW cI a b f) sz) := by
  refine Met.ofW (cc := cX0_find) (maxL := 2) (ret := (some .int)) (by decide) rfl ?_
  intro p e s m args below meth c s₁ B hml hv
  obtain ⟨rfl, hsz, hP, hK, hD0⟩ := hv
  have hx := B.exec
  have hb := B.bytes
  have hr := B.returns
  have hts := atoms_spec (ws := wsX0_find) B.pre
  have hown : s.vm.findClass RX0 = some m.cls := findClass_of_methodNamed B.named
  have hlocks := B.notSynchronized
  have hinX0 : ∀ w ∈ wsX00, w ∈ wsX0_find := by decide +kernel
  have hf9 := hts (.fieldLink RX0 9 "Keysapart$Index" "positions" "[I") (by decide +kernel)
  subst hsz
  have hD := hD0.self (sz := s.heap.size)
  generalize hAe : va_A (iW cI a b f) s.heap.size = A at hD ⊢
  have hA : ∀ q : Nat, s.heap.size ≤ q → A q := fun q h => by rw [← hAe]; exact Or.inr h
  have hl := lv_entry ([.ref a, .int p1]) (n := 2) (Nat.le_of_ble_eq_true rfl)
  rw [lg_entry_eq]
  generalize (lg_sl ([.ref a, .int p1]) ++ List.replicate (2 - (lg_sl ([.ref a, .int p1])).length) Slot.unset).toArray = ls at hl ⊢
  have hl : lv_has ls 2 [(0, .ref a), (1, .int p1)] := hl
  generalize hHe : s.heap = H at hP ⊢
  generalize hLe : ([] : List Loc) = locs
  have hS : va_S A s.heap H locs := by
    rw [← hLe, ← hHe]
    exact va_S.rf
  have hV := v_X0_find_e f p1
  refine lv_iload_n hx hb dX0_find_0 rfl (lv_at hl 1 rfl) ?_
  refine lv_if_lt (tgt := 22) hx hb dX0_find_1 (by decide) (fun c_1 => ?_) (fun c_1 => ?_)
  · skip
    rw [if_pos c_1] at hV
    refine lv_iconst (v := (-1)) hx hb dX0_find_22 (by decide) ?_
    exact rI (w := fun _ => iW cI a b f) (()) hx hb hr hlocks hP hD hS (Nat.le_of_ble_eq_true rfl) (Nat.le_of_ble_eq_true rfl) dX0_find_23 (by rw [hV] <;> rfl)
  · skip
    rw [if_neg c_1] at hV
    refine lv_iload_n hx hb dX0_find_4 rfl (lv_at hl 1 rfl) ?_
    refine lv_aload_n hx hb dX0_find_5 rfl (lv_at hl 0 rfl) ?_
    refine va_get (D := (dC, dI)) (ci := 0) (v := .ref b) (C := RX0) (T := TX0) (N := 1) hx hb hts hinX0 hown hK hP 0 rfl rfl 0 (by decide) hf9 (fun _ h9 => h9) rfl dX0_find_6 ?_
    refine va_alen (v := 64) hx hb hK hP 1 0 rfl rfl rfl dX0_find_9 ?_
    refine lv_icmp_ge (tgt := 22) hx hb dX0_find_10 (by decide) (fun c_10 => ?_) (fun c_10 => ?_)
    · skip
      rw [if_pos c_10] at hV
      refine lv_iconst (v := (-1)) hx hb dX0_find_22 (by decide) ?_
      exact rI (w := fun _ => iW cI a b f) (()) hx hb hr hlocks hP hD hS (Nat.le_of_ble_eq_true rfl) (Nat.le_of_ble_eq_true rfl) dX0_find_23 (by rw [hV] <;> rfl)
    · skip
      rw [if_neg c_10] at hV
      refine lv_aload_n hx hb dX0_find_13 rfl (lv_at hl 0 rfl) ?_
      refine va_get (D := (dC, dI)) (ci := 0) (v := .ref b) (C := RX0) (T := TX0) (N := 1) hx hb hts hinX0 hown hK hP 0 rfl rfl 0 (by decide) hf9 (fun _ h9 => h9) rfl dX0_find_14 ?_
      refine lv_iload_n hx hb dX0_find_17 rfl (lv_at hl 1 rfl) ?_
      refine va_iald hx hb hK hP 1 0 rfl rfl (in_guard (n := 64) rfl (by decide) c_1 c_10) dX0_find_18 ?_
      refine lv_goto (tgt := 23) hx hb dX0_find_19 (by decide) ?_
      exact rI (w := fun _ => iW cI a b f) (()) hx hb hr hlocks hP hD hS (Nat.le_of_ble_eq_true rfl) (Nat.le_of_ble_eq_true rfl) dX0_find_23 (by rw [hV] <;> rfl)
def v_X0_has (f : (Nat → Int32)) (p1 : Int32) : Int32 := if (v_X0_find f p1) = (-1) then 0 else 1
theorem v_X0_has_e (f : (Nat → Int32)) (p1 : Int32) : v_X0_has f p1 = if (v_X0_find f p1) = (-1) then 0 else 1 := rfl
set_option maxHeartbeats 1000000 in
set_option maxRecDepth 100000 in
theorem c_X0_has (l : Launch) (dC : Nat → ClassId) (dI : Nat → Nat → Nat) (cI : ClassId) (a : Nat) (b : Nat) (sz : Nat) (f : (Nat → Int32)) (p1 : Int32) : Met l yX0_has wsX0_has ({ frames := 1, cells := 0, slots := 0, locals := 21 }) (va_Pc [.ref a, .int p1] (pW (dC, dI) [(cI, .int)] (iW cI a b f) sz)) (va_Qi (fun (r : Int32) (u : Unit) => r = v_X0_has f p1 ∧ bz r) (qW (dC, dI) (va_A (iW cI a b f) sz) (fun _ => iW cI a b f)) (va_A (iW cI a b f) sz)) 0 0 (va_A (iW cI a b f) sz) := by
  refine Met.ofW (cc := cX0_has) (maxL := 2) (ret := (some .boolean)) (by decide) rfl ?_
  intro p e s m args below meth c s₁ B hml hv
  obtain ⟨rfl, hsz, hP, hK, hD0⟩ := hv
  have hx := B.exec
  have hb := B.bytes
  have hr := B.returns
  have hts := atoms_spec (ws := wsX0_has) B.pre
  have hown : s.vm.findClass RX0 = some m.cls := findClass_of_methodNamed B.named
  have hlocks := B.notSynchronized
  have hinX0 : ∀ w ∈ wsX00, w ∈ wsX0_has := by decide +kernel
  subst hsz
  have hD := hD0.self (sz := s.heap.size)
  generalize hAe : va_A (iW cI a b f) s.heap.size = A at hD ⊢
  have hA : ∀ q : Nat, s.heap.size ≤ q → A q := fun q h => by rw [← hAe]; exact Or.inr h
  have hl := lv_entry ([.ref a, .int p1]) (n := 2) (Nat.le_of_ble_eq_true rfl)
  rw [lg_entry_eq]
  generalize (lg_sl ([.ref a, .int p1]) ++ List.replicate (2 - (lg_sl ([.ref a, .int p1])).length) Slot.unset).toArray = ls at hl ⊢
  have hl : lv_has ls 2 [(0, .ref a), (1, .int p1)] := hl
  generalize hHe : s.heap = H at hP ⊢
  generalize hLe : ([] : List Loc) = locs
  have hS : va_S A s.heap H locs := by
    rw [← hLe, ← hHe]
    exact va_S.rf
  have hV := v_X0_has_e f p1
  refine lv_aload_n hx hb dX0_has_0 rfl (lv_at hl 0 rfl) ?_
  refine lv_iload_n hx hb dX0_has_1 rfl (lv_at hl 1 rfl) ?_
  have hPc := hP.sub (ws' := iW cI a b f) [0, 1] rfl
  have hDc := hD.sub (ws' := iW cI a b f) [0, 1] (by decide) rfl
  refine rcI (W2 := fun _ => iW cI a b f) (va_runV (As := [.int p1]) (rest := []) ⟨hx, hb, hml, hown, hts⟩ (c_X0_find l dC dI cI a b H.size f p1) (cwV 1 hts gX0_has_X0_find rfl rfl rfl (by decide +kernel) ⟨Nat.le_of_ble_eq_true rfl, Nat.le_of_ble_eq_true rfl⟩) (pW_V hPc hK hDc (ci := 0) (q0 := 0) rfl rfl) rfl rfl hl.1 rfl (lv_room (Nat.le_of_ble_eq_true rfl)) dX0_has_2 ⟨Nat.le_of_ble_eq_true rfl, Nat.le_of_ble_eq_true rfl⟩) hP hD hS hA [0, 1] [] [0, 1] rfl rfl (by decide) (fun _ => rfl) (fun r_2 u_2 H locs hw hP hD hS => ?_)
  try rw [← hw] at hV
  refine lv_iconst (v := (-1)) hx hb dX0_has_5 (by decide) ?_
  refine lv_icmp_eq (tgt := 13) hx hb dX0_has_6 (by decide) (fun c_6 => ?_) (fun c_6 => ?_)
  · skip
    rw [if_pos c_6] at hV
    refine lv_iconst (v := 0) hx hb dX0_has_13 (by decide) ?_
    have hz9 : bz (0) := by first | assumption | (repeat (first | exact bz0 | exact bz1 | assumption | refine bz_ite ?_ ?_))
    exact rZ (w := fun _ => iW cI a b f) (()) hx hb hr hlocks hP hD hS (Nat.le_of_ble_eq_true rfl) (Nat.le_of_ble_eq_true rfl) dX0_has_14 hz9 ⟨by rw [hV] <;> rfl, hz9⟩
  · skip
    rw [if_neg c_6] at hV
    refine lv_iconst (v := 1) hx hb dX0_has_9 (by decide) ?_
    refine lv_goto (tgt := 14) hx hb dX0_has_10 (by decide) ?_
    have hz9 : bz (1) := by first | assumption | (repeat (first | exact bz0 | exact bz1 | assumption | refine bz_ite ?_ ?_))
    exact rZ (w := fun _ => iW cI a b f) (()) hx hb hr hlocks hP hD hS (Nat.le_of_ble_eq_true rfl) (Nat.le_of_ble_eq_true rfl) dX0_has_14 hz9 ⟨by rw [hV] <;> rfl, hz9⟩
def v_X0_point (f : (Nat → Int32)) (p1 : Int32) (p2 : Int32) : (Nat → Int32) := if p1 < 0 then f else if 64 ≤ p1 then f else upd f p1.toNatClampNeg p2
theorem v_X0_point_e (f : (Nat → Int32)) (p1 : Int32) (p2 : Int32) : v_X0_point f p1 p2 = if p1 < 0 then f else if 64 ≤ p1 then f else upd f p1.toNatClampNeg p2 := rfl
set_option maxHeartbeats 1000000 in
set_option maxRecDepth 100000 in
theorem c_X0_point (l : Launch) (dC : Nat → ClassId) (dI : Nat → Nat → Nat) (cI : ClassId) (a : Nat) (b : Nat) (sz : Nat) (f : (Nat → Int32)) (p1 : Int32) (p2 : Int32) : Met l yX0_point wsX0_point ({ frames := 0, cells := 0, slots := 0, locals := 0 }) (va_Pc [.ref a, .int p1, .int p2] (pW (dC, dI) [(cI, .int)] (iW cI a b f) sz)) (va_Qv (fun (u : (Nat → Int32)) => u = v_X0_point f p1 p2) (qW (dC, dI) (va_A (iW cI a b f) sz) (fun u => iW cI a b u)) (va_A (iW cI a b f) sz)) 0 0 (va_A (iW cI a b f) sz) := by
  refine Met.ofW (cc := cX0_point) (maxL := 3) (ret := none) (by decide) rfl ?_
  intro p e s m args below meth c s₁ B hml hv
  obtain ⟨rfl, hsz, hP, hK, hD0⟩ := hv
  have hx := B.exec
  have hb := B.bytes
  have hr := B.returns
  have hts := atoms_spec (ws := wsX0_point) B.pre
  have hown : s.vm.findClass RX0 = some m.cls := findClass_of_methodNamed B.named
  have hlocks := B.notSynchronized
  have hinX0 : ∀ w ∈ wsX00, w ∈ wsX0_point := by decide +kernel
  have hf9 := hts (.fieldLink RX0 9 "Keysapart$Index" "positions" "[I") (by decide +kernel)
  subst hsz
  have hD := hD0.self (sz := s.heap.size)
  generalize hAe : va_A (iW cI a b f) s.heap.size = A at hD ⊢
  have hA : ∀ q : Nat, s.heap.size ≤ q → A q := fun q h => by rw [← hAe]; exact Or.inr h
  have hl := lv_entry ([.ref a, .int p1, .int p2]) (n := 3) (Nat.le_of_ble_eq_true rfl)
  rw [lg_entry_eq]
  generalize (lg_sl ([.ref a, .int p1, .int p2]) ++ List.replicate (3 - (lg_sl ([.ref a, .int p1, .int p2])).length) Slot.unset).toArray = ls at hl ⊢
  have hl : lv_has ls 3 [(0, .ref a), (1, .int p1), (2, .int p2)] := hl
  generalize hHe : s.heap = H at hP ⊢
  generalize hLe : ([] : List Loc) = locs
  have hS : va_S A s.heap H locs := by
    rw [← hLe, ← hHe]
    exact va_S.rf
  have hV := v_X0_point_e f p1 p2
  refine lv_iload_n hx hb dX0_point_0 rfl (lv_at hl 1 rfl) ?_
  refine lv_if_lt (tgt := 20) hx hb dX0_point_1 (by decide) (fun c_1 => ?_) (fun c_1 => ?_)
  · skip
    rw [if_pos c_1] at hV
    exact rV (w := fun u => iW cI a b u) (f) hx hb hr hlocks hP hD hS (Nat.le_of_ble_eq_true rfl) (Nat.le_of_ble_eq_true rfl) dX0_point_20 (by rw [hV] <;> rfl)
  · skip
    rw [if_neg c_1] at hV
    refine lv_iload_n hx hb dX0_point_4 rfl (lv_at hl 1 rfl) ?_
    refine lv_aload_n hx hb dX0_point_5 rfl (lv_at hl 0 rfl) ?_
    refine va_get (D := (dC, dI)) (ci := 0) (v := .ref b) (C := RX0) (T := TX0) (N := 1) hx hb hts hinX0 hown hK hP 0 rfl rfl 0 (by decide) hf9 (fun _ h9 => h9) rfl dX0_point_6 ?_
    refine va_alen (v := 64) hx hb hK hP 1 0 rfl rfl rfl dX0_point_9 ?_
    refine lv_icmp_ge (tgt := 20) hx hb dX0_point_10 (by decide) (fun c_10 => ?_) (fun c_10 => ?_)
    · skip
      rw [if_pos c_10] at hV
      exact rV (w := fun u => iW cI a b u) (f) hx hb hr hlocks hP hD hS (Nat.le_of_ble_eq_true rfl) (Nat.le_of_ble_eq_true rfl) dX0_point_20 (by rw [hV] <;> rfl)
    · skip
      rw [if_neg c_10] at hV
      refine lv_aload_n hx hb dX0_point_13 rfl (lv_at hl 0 rfl) ?_
      refine va_get (D := (dC, dI)) (ci := 0) (v := .ref b) (C := RX0) (T := TX0) (N := 1) hx hb hts hinX0 hown hK hP 0 rfl rfl 0 (by decide) hf9 (fun _ h9 => h9) rfl dX0_point_14 ?_
      refine lv_iload_n hx hb dX0_point_17 rfl (lv_at hl 1 rfl) ?_
      refine lv_iload_n hx hb dX0_point_18 rfl (lv_at hl 2 rfl) ?_
      refine va_iast hx hb hK hP hD hS 1 0 rfl rfl (in_guard (n := 64) rfl (by decide) c_1 c_10) dX0_point_19 (fun H locs hP hD hS => ?_)
      have hP : va_P (dC, dI) vwCl (iW cI a b (upd f p1.toNatClampNeg p2)) H := hP
      have hD : va_D A (iW cI a b (upd f p1.toNatClampNeg p2)) := hD
      exact rV (w := fun u => iW cI a b u) (upd f p1.toNatClampNeg p2) hx hb hr hlocks hP hD hS (Nat.le_of_ble_eq_true rfl) (Nat.le_of_ble_eq_true rfl) dX0_point_20 (by rw [hV] <;> rfl)
def l_X0_size_4 (f : (Nat → Int32)) : Nat → Int32 → Int32 → Int32 × Int32
  | 0, x1_4, x2_4 => (x1_4, x2_4)
  | n + 1, x1_4, x2_4 => if 64 ≤ x2_4 then (x1_4, x2_4) else l_X0_size_4 f n (if (f x2_4.toNatClampNeg) = (-1) then x1_4 else (x1_4 + 1) : Int32) (x2_4 + 1)
theorem l_X0_size_4_s (f : (Nat → Int32)) (n : Nat) (x1_4 : Int32) (x2_4 : Int32) : l_X0_size_4 f (n + 1) x1_4 x2_4 = if 64 ≤ x2_4 then (x1_4, x2_4) else l_X0_size_4 f n (if (f x2_4.toNatClampNeg) = (-1) then x1_4 else (x1_4 + 1) : Int32) (x2_4 + 1) := rfl
def sl_X0_size_4 (f : (Nat → Int32)) : Nat → Int32 → Int32 → Prop
  | 0, x1_4, x2_4 => False
  | n + 1, x1_4, x2_4 => ((64 ≤ x2_4 → True) ∧ (¬ 64 ≤ x2_4 → (vp_in x2_4 64 ∧ sl_X0_size_4 f n (if (f x2_4.toNatClampNeg) = (-1) then x1_4 else (x1_4 + 1) : Int32) (x2_4 + 1))))
theorem sl_X0_size_4_s (f : (Nat → Int32)) (n : Nat) (x1_4 : Int32) (x2_4 : Int32) : sl_X0_size_4 f (n + 1) x1_4 x2_4 = ((64 ≤ x2_4 → True) ∧ (¬ 64 ≤ x2_4 → (vp_in x2_4 64 ∧ sl_X0_size_4 f n (if (f x2_4.toNatClampNeg) = (-1) then x1_4 else (x1_4 + 1) : Int32) (x2_4 + 1)))) := rfl
def v_X0_size (f : (Nat → Int32)) : Int32 := (l_X0_size_4 f 100 0 0).1
theorem v_X0_size_e (f : (Nat → Int32)) : v_X0_size f = (l_X0_size_4 f 100 0 0).1 := rfl
def s_X0_size (f : (Nat → Int32)) : Prop := (sl_X0_size_4 f 100 0 0 ∧ True)
set_option maxHeartbeats 1000000 in
set_option maxRecDepth 100000 in
theorem c_X0_size (l : Launch) (dC : Nat → ClassId) (dI : Nat → Nat → Nat) (cI : ClassId) (a : Nat) (b : Nat) (sz : Nat) (f : (Nat → Int32)) (hs : s_X0_size f) : Met l yX0_size wsX0_size ({ frames := 0, cells := 0, slots := 0, locals := 0 }) (va_Pc [.ref a] (pW (dC, dI) [(cI, .int)] (iW cI a b f) sz)) (va_Qi (fun (r : Int32) (u : Unit) => r = v_X0_size f) (qW (dC, dI) (va_A (iW cI a b f) sz) (fun _ => iW cI a b f)) (va_A (iW cI a b f) sz)) 0 0 (va_A (iW cI a b f) sz) := by
  refine Met.ofW (cc := cX0_size) (maxL := 3) (ret := (some .int)) (by decide) rfl ?_
  intro p e s m args below meth c s₁ B hml hv
  obtain ⟨rfl, hsz, hP, hK, hD0⟩ := hv
  have hx := B.exec
  have hb := B.bytes
  have hr := B.returns
  have hts := atoms_spec (ws := wsX0_size) B.pre
  have hown : s.vm.findClass RX0 = some m.cls := findClass_of_methodNamed B.named
  have hlocks := B.notSynchronized
  have hinX0 : ∀ w ∈ wsX00, w ∈ wsX0_size := by decide +kernel
  have hf9 := hts (.fieldLink RX0 9 "Keysapart$Index" "positions" "[I") (by decide +kernel)
  subst hsz
  have hD := hD0.self (sz := s.heap.size)
  generalize hAe : va_A (iW cI a b f) s.heap.size = A at hD ⊢
  have hA : ∀ q : Nat, s.heap.size ≤ q → A q := fun q h => by rw [← hAe]; exact Or.inr h
  have hl := lv_entry ([.ref a]) (n := 3) (Nat.le_of_ble_eq_true rfl)
  rw [lg_entry_eq]
  generalize (lg_sl ([.ref a]) ++ List.replicate (3 - (lg_sl ([.ref a])).length) Slot.unset).toArray = ls at hl ⊢
  have hl : lv_has ls 3 [(0, .ref a)] := hl
  generalize hHe : s.heap = H at hP ⊢
  generalize hLe : ([] : List Loc) = locs
  have hS : va_S A s.heap H locs := by
    rw [← hLe, ← hHe]
    exact va_S.rf
  unfold s_X0_size at hs
  have hV := v_X0_size_e f
  refine lv_iconst (v := 0) hx hb dX0_size_0 (by decide) ?_
  refine lv_istore_n (lv' := [(1, .int 0), (0, .ref a)]) hx hb dX0_size_1 rfl hl (by decide) rfl (fun ls hl => ?_)
  refine lv_iconst (v := 0) hx hb dX0_size_2 (by decide) ?_
  refine lv_istore_n (lv' := [(2, .int 0), (1, .int 0), (0, .ref a)]) hx hb dX0_size_3 rfl hl (by decide) rfl (fun ls hl => ?_)
  have o_l4 : sl_X0_size_4 f 100 0 0 := hs.1
  have hs := hs.2
  have loop_4 : ∀ (n : Nat) (x1_4 : Int32) (x2_4 : Int32) (H : Heap) (locs : List Loc) (ls : Array Slot) (hs : sl_X0_size_4 f n x1_4 x2_4) (K : ∀ (z : Int32 × Int32) (hw : z = l_X0_size_4 f n x1_4 x2_4) (H : Heap) (locs : List Loc) (ls : Array Slot), va_P (dC, dI) vwCl (iW cI a b f) H → va_D A (iW cI a b f) → va_S A s.heap H locs → lv_has ls 3 [(1, .int z.1), (2, .int z.2), (0, .ref a)] → W p l e (headSpec wsX0_size ({ frames := 0, cells := 0, slots := 0, locals := 0 })).room s m [.ref a].toArray below meth c H locs 0 0 (MQ below (va_Qi (fun (r : Int32) (u : Unit) => r = v_X0_size f) (qW (dC, dI) A (fun _ => iW cI a b f)) A) [.ref a].toArray s 0 0 A) (F0 m 32 ls [])) (hP : va_P (dC, dI) vwCl (iW cI a b f) H) (hD : va_D A (iW cI a b f)) (hS : va_S A s.heap H locs) (hl : lv_has ls 3 [(1, .int x1_4), (2, .int x2_4), (0, .ref a)]), W p l e (headSpec wsX0_size ({ frames := 0, cells := 0, slots := 0, locals := 0 })).room s m [.ref a].toArray below meth c H locs 0 0 (MQ below (va_Qi (fun (r : Int32) (u : Unit) => r = v_X0_size f) (qW (dC, dI) A (fun _ => iW cI a b f)) A) [.ref a].toArray s 0 0 A) (F0 m 4 ls []) := by
    intro n
    induction n with
    | zero => intro x1_4 x2_4 H locs ls hs; exact False.elim hs
    | succ n ih =>
      intro x1_4 x2_4 H locs ls hs K hP hD hS hl
      rw [sl_X0_size_4_s] at hs
      rw [l_X0_size_4_s] at K
      refine lv_iload_n hx hb dX0_size_4 rfl (lv_at hl 1 rfl) ?_
      refine lv_aload_n hx hb dX0_size_5 rfl (lv_at hl 2 rfl) ?_
      refine va_get (D := (dC, dI)) (ci := 0) (v := .ref b) (C := RX0) (T := TX0) (N := 1) hx hb hts hinX0 hown hK hP 0 rfl rfl 0 (by decide) hf9 (fun _ h9 => h9) rfl dX0_size_6 ?_
      refine va_alen (v := 64) hx hb hK hP 1 0 rfl rfl rfl dX0_size_9 ?_
      refine lv_icmp_ge (tgt := 32) hx hb dX0_size_10 (by decide) (fun c_10 => ?_) (fun c_10 => ?_)
      · skip
        have hs := hs.1 c_10
        rw [if_pos c_10] at K
        exact K _ rfl H locs ls hP hD hS (lv_sub hl [0, 1, 2] rfl)
      · skip
        have hs := hs.2 c_10
        rw [if_neg c_10] at K
        refine lv_aload_n hx hb dX0_size_13 rfl (lv_at hl 2 rfl) ?_
        refine va_get (D := (dC, dI)) (ci := 0) (v := .ref b) (C := RX0) (T := TX0) (N := 1) hx hb hts hinX0 hown hK hP 0 rfl rfl 0 (by decide) hf9 (fun _ h9 => h9) rfl dX0_size_14 ?_
        refine lv_iload_n hx hb dX0_size_17 rfl (lv_at hl 1 rfl) ?_
        have o_18 : vp_in x2_4 64 := hs.1
        have hs := hs.2
        refine va_iald hx hb hK hP 1 0 rfl rfl o_18 dX0_size_18 ?_
        refine lv_iconst (v := (-1)) hx hb dX0_size_19 (by decide) ?_
        suffices J_20 : ∀ (H : Heap) (locs : List Loc) (ls : Array Slot), va_P (dC, dI) vwCl (iW cI a b f) H → va_D A (iW cI a b f) → va_S A s.heap H locs → lv_has ls 3 [(1, .int (if (f x2_4.toNatClampNeg) = (-1) then x1_4 else (x1_4 + 1) : Int32)), (2, .int x2_4), (0, .ref a)] → W p l e (headSpec wsX0_size ({ frames := 0, cells := 0, slots := 0, locals := 0 })).room s m [.ref a].toArray below meth c H locs 0 0 (MQ below (va_Qi (fun (r : Int32) (u : Unit) => r = v_X0_size f) (qW (dC, dI) A (fun _ => iW cI a b f)) A) [.ref a].toArray s 0 0 A) (F0 m 26 ls []) by
          refine lv_icmp_eq (tgt := 26) hx hb dX0_size_20 (by decide) (fun c_20 => ?_) (fun c_20 => ?_)
          · skip
            rw [if_pos c_20] at J_20
            exact J_20 H locs ls hP hD hS (lv_sub hl [0, 1, 2] rfl)
          · skip
            rw [if_neg c_20] at J_20
            refine lv_iinc (v := x1_4 + 1) (lv' := [(1, .int (x1_4 + 1)), (2, .int x2_4), (0, .ref a)]) hx hb dX0_size_23 hl (k := 0) rfl rfl (by decide) rfl (fun ls hl => ?_)
            exact J_20 H locs ls hP hD hS (lv_sub hl [0, 1, 2] rfl)
        intro H locs ls hP hD hS hl
        refine lv_iinc (v := x2_4 + 1) (lv' := [(2, .int (x2_4 + 1)), (1, .int (if (f x2_4.toNatClampNeg) = (-1) then x1_4 else (x1_4 + 1) : Int32)), (0, .ref a)]) hx hb dX0_size_26 hl (k := 1) rfl rfl (by decide) rfl (fun ls hl => ?_)
        refine lv_goto (tgt := 4) hx hb dX0_size_29 (by decide) ?_
        exact ih (if (f x2_4.toNatClampNeg) = (-1) then x1_4 else (x1_4 + 1) : Int32) (x2_4 + 1) H locs ls hs K hP hD hS (lv_sub hl [1, 0, 2] rfl)
  refine loop_4 100 0 0 H locs ls o_l4 (fun z_4 hw H locs ls hP hD hS hl => ?_) hP hD hS (lv_sub hl [1, 0, 2] rfl)
  try rw [← hw] at hV
  refine lv_iload_n hx hb dX0_size_32 rfl (lv_at hl 0 rfl) ?_
  exact rI (w := fun _ => iW cI a b f) (()) hx hb hr hlocks hP hD hS (Nat.le_of_ble_eq_true rfl) (Nat.le_of_ble_eq_true rfl) dX0_size_33 (by rw [hV] <;> rfl)
def l_X0_takeFrom_2 (g : Nat → Int32) : Nat → (Nat → Int32) → Int32 → (Nat → Int32) × Int32
  | 0, f2, x2_2 => (f2, x2_2)
  | n + 1, f2, x2_2 => if 64 ≤ x2_2 then (f2, x2_2) else l_X0_takeFrom_2 g n (upd f2 x2_2.toNatClampNeg (v_X0_find g x2_2)) (x2_2 + 1)
theorem l_X0_takeFrom_2_s (g : Nat → Int32) (n : Nat) (f2 : (Nat → Int32)) (x2_2 : Int32) : l_X0_takeFrom_2 g (n + 1) f2 x2_2 = if 64 ≤ x2_2 then (f2, x2_2) else l_X0_takeFrom_2 g n (upd f2 x2_2.toNatClampNeg (v_X0_find g x2_2)) (x2_2 + 1) := rfl
def sl_X0_takeFrom_2 (g : Nat → Int32) : Nat → (Nat → Int32) → Int32 → Prop
  | 0, f2, x2_2 => False
  | n + 1, f2, x2_2 => ((64 ≤ x2_2 → True) ∧ (¬ 64 ≤ x2_2 → (vp_in x2_2 64 ∧ sl_X0_takeFrom_2 g n (upd f2 x2_2.toNatClampNeg (v_X0_find g x2_2)) (x2_2 + 1))))
theorem sl_X0_takeFrom_2_s (g : Nat → Int32) (n : Nat) (f2 : (Nat → Int32)) (x2_2 : Int32) : sl_X0_takeFrom_2 g (n + 1) f2 x2_2 = ((64 ≤ x2_2 → True) ∧ (¬ 64 ≤ x2_2 → (vp_in x2_2 64 ∧ sl_X0_takeFrom_2 g n (upd f2 x2_2.toNatClampNeg (v_X0_find g x2_2)) (x2_2 + 1)))) := rfl
def v_X0_takeFrom (g : Nat → Int32) (f : (Nat → Int32)) : (Nat → Int32) := (l_X0_takeFrom_2 g 100 f 0).1
theorem v_X0_takeFrom_e (g : Nat → Int32) (f : (Nat → Int32)) : v_X0_takeFrom g f = (l_X0_takeFrom_2 g 100 f 0).1 := rfl
def s_X0_takeFrom (g : Nat → Int32) (f : (Nat → Int32)) : Prop := (sl_X0_takeFrom_2 g 100 f 0 ∧ True)
set_option maxHeartbeats 1000000 in
set_option maxRecDepth 100000 in
theorem c_X0_takeFrom (l : Launch) (dC : Nat → ClassId) (dI : Nat → Nat → Nat) (cI : ClassId) (a : Nat) (b : Nat) (a2 : Nat) (b2 : Nat) (g : (Nat → Int32)) (sz : Nat) (f : (Nat → Int32)) (hs : s_X0_takeFrom g f) : Met l yX0_takeFrom wsX0_takeFrom ({ frames := 1, cells := 0, slots := 0, locals := 21 }) (va_Pc [.ref a, .ref a2] (pW (dC, dI) [(cI, .int)] (jW cI a b a2 b2 g f) sz)) (va_Qv (fun (u : (Nat → Int32)) => u = v_X0_takeFrom g f) (qW (dC, dI) (va_A (jW cI a b a2 b2 g f) sz) (fun u => jW cI a b a2 b2 g u)) (va_A (jW cI a b a2 b2 g f) sz)) 0 0 (va_A (jW cI a b a2 b2 g f) sz) := by
  refine Met.ofW (cc := cX0_takeFrom) (maxL := 3) (ret := none) (by decide) rfl ?_
  intro p e s m args below meth c s₁ B hml hv
  obtain ⟨rfl, hsz, hP, hK, hD0⟩ := hv
  have hx := B.exec
  have hb := B.bytes
  have hr := B.returns
  have hts := atoms_spec (ws := wsX0_takeFrom) B.pre
  have hown : s.vm.findClass RX0 = some m.cls := findClass_of_methodNamed B.named
  have hlocks := B.notSynchronized
  have hinX0 : ∀ w ∈ wsX00, w ∈ wsX0_takeFrom := by decide +kernel
  have hf9 := hts (.fieldLink RX0 9 "Keysapart$Index" "positions" "[I") (by decide +kernel)
  subst hsz
  have hD := hD0.self (sz := s.heap.size)
  generalize hAe : va_A (jW cI a b a2 b2 g f) s.heap.size = A at hD ⊢
  have hA : ∀ q : Nat, s.heap.size ≤ q → A q := fun q h => by rw [← hAe]; exact Or.inr h
  have hl := lv_entry ([.ref a, .ref a2]) (n := 3) (Nat.le_of_ble_eq_true rfl)
  rw [lg_entry_eq]
  generalize (lg_sl ([.ref a, .ref a2]) ++ List.replicate (3 - (lg_sl ([.ref a, .ref a2])).length) Slot.unset).toArray = ls at hl ⊢
  have hl : lv_has ls 3 [(0, .ref a), (1, .ref a2)] := hl
  generalize hHe : s.heap = H at hP ⊢
  generalize hLe : ([] : List Loc) = locs
  have hS : va_S A s.heap H locs := by
    rw [← hLe, ← hHe]
    exact va_S.rf
  unfold s_X0_takeFrom at hs
  have hV := v_X0_takeFrom_e g f
  refine lv_iconst (v := 0) hx hb dX0_takeFrom_0 (by decide) ?_
  refine lv_istore_n (lv' := [(2, .int 0), (0, .ref a), (1, .ref a2)]) hx hb dX0_takeFrom_1 rfl hl (by decide) rfl (fun ls hl => ?_)
  have o_l2 : sl_X0_takeFrom_2 g 100 f 0 := hs.1
  have hs := hs.2
  have loop_2 : ∀ (n : Nat) (f2 : (Nat → Int32)) (x2_2 : Int32) (H : Heap) (locs : List Loc) (ls : Array Slot) (hs : sl_X0_takeFrom_2 g n f2 x2_2) (K : ∀ (z : (Nat → Int32) × Int32) (hw : z = l_X0_takeFrom_2 g n f2 x2_2) (H : Heap) (locs : List Loc) (ls : Array Slot), va_P (dC, dI) vwCl (jW cI a b a2 b2 g z.1) H → va_D A (jW cI a b a2 b2 g z.1) → va_S A s.heap H locs → lv_has ls 3 [(2, .int z.2), (0, .ref a), (1, .ref a2)] → W p l e (headSpec wsX0_takeFrom ({ frames := 1, cells := 0, slots := 0, locals := 21 })).room s m [.ref a, .ref a2].toArray below meth c H locs 0 0 (MQ below (va_Qv (fun (u : (Nat → Int32)) => u = v_X0_takeFrom g f) (qW (dC, dI) A (fun u => jW cI a b a2 b2 g u)) A) [.ref a, .ref a2].toArray s 0 0 A) (F0 m 28 ls [])) (hP : va_P (dC, dI) vwCl (jW cI a b a2 b2 g f2) H) (hD : va_D A (jW cI a b a2 b2 g f2)) (hS : va_S A s.heap H locs) (hl : lv_has ls 3 [(2, .int x2_2), (0, .ref a), (1, .ref a2)]), W p l e (headSpec wsX0_takeFrom ({ frames := 1, cells := 0, slots := 0, locals := 21 })).room s m [.ref a, .ref a2].toArray below meth c H locs 0 0 (MQ below (va_Qv (fun (u : (Nat → Int32)) => u = v_X0_takeFrom g f) (qW (dC, dI) A (fun u => jW cI a b a2 b2 g u)) A) [.ref a, .ref a2].toArray s 0 0 A) (F0 m 2 ls []) := by
    intro n
    induction n with
    | zero => intro f2 x2_2 H locs ls hs; exact False.elim hs
    | succ n ih =>
      intro f2 x2_2 H locs ls hs K hP hD hS hl
      rw [sl_X0_takeFrom_2_s] at hs
      rw [l_X0_takeFrom_2_s] at K
      refine lv_iload_n hx hb dX0_takeFrom_2 rfl (lv_at hl 0 rfl) ?_
      refine lv_aload_n hx hb dX0_takeFrom_3 rfl (lv_at hl 1 rfl) ?_
      refine va_get (D := (dC, dI)) (ci := 0) (v := .ref b) (C := RX0) (T := TX0) (N := 1) hx hb hts hinX0 hown hK hP 0 rfl rfl 0 (by decide) hf9 (fun _ h9 => h9) rfl dX0_takeFrom_4 ?_
      refine va_alen (v := 64) hx hb hK hP 1 0 rfl rfl rfl dX0_takeFrom_7 ?_
      refine lv_icmp_ge (tgt := 28) hx hb dX0_takeFrom_8 (by decide) (fun c_8 => ?_) (fun c_8 => ?_)
      · skip
        have hs := hs.1 c_8
        rw [if_pos c_8] at K
        exact K _ rfl H locs ls hP hD hS (lv_sub hl [0, 1, 2] rfl)
      · skip
        have hs := hs.2 c_8
        rw [if_neg c_8] at K
        refine lv_aload_n hx hb dX0_takeFrom_11 rfl (lv_at hl 1 rfl) ?_
        refine va_get (D := (dC, dI)) (ci := 0) (v := .ref b) (C := RX0) (T := TX0) (N := 1) hx hb hts hinX0 hown hK hP 0 rfl rfl 0 (by decide) hf9 (fun _ h9 => h9) rfl dX0_takeFrom_12 ?_
        refine lv_iload_n hx hb dX0_takeFrom_15 rfl (lv_at hl 0 rfl) ?_
        refine lv_aload_n hx hb dX0_takeFrom_16 rfl (lv_at hl 2 rfl) ?_
        refine lv_iload_n hx hb dX0_takeFrom_17 rfl (lv_at hl 0 rfl) ?_
        have hPc := hP.sub (ws' := iW cI a2 b2 g) [2, 3] rfl
        have hDc := hD.sub (ws' := iW cI a2 b2 g) [2, 3] (by decide) rfl
        refine rcI (W2 := fun _ => jW cI a b a2 b2 g f2) (va_runV (As := [.int x2_2]) (rest := [.int x2_2, .ref b]) ⟨hx, hb, hml, hown, hts⟩ (c_X0_find l dC dI cI a2 b2 H.size g x2_2) (cwV 1 hts gX0_takeFrom_X0_find rfl rfl rfl (by decide +kernel) ⟨Nat.le_of_ble_eq_true rfl, Nat.le_of_ble_eq_true rfl⟩) (pW_V hPc hK hDc (ci := 0) (q0 := 0) rfl rfl) rfl rfl hl.1 rfl (lv_room (Nat.le_of_ble_eq_true rfl)) dX0_takeFrom_18 ⟨Nat.le_of_ble_eq_true rfl, Nat.le_of_ble_eq_true rfl⟩) hP hD hS hA [2, 3] [0, 1] [0, 1, 2, 3] rfl rfl (by decide) (fun _ => rfl) (fun r_18 u_18 H locs hw hP hD hS => ?_)
        try rw [← hw] at K
        try rw [← hw] at hs
        have o_21 : vp_in x2_2 64 := hs.1
        have hs := hs.2
        refine va_iast hx hb hK hP hD hS 1 0 rfl rfl o_21 dX0_takeFrom_21 (fun H locs hP hD hS => ?_)
        have hP : va_P (dC, dI) vwCl (jW cI a b a2 b2 g (upd f2 x2_2.toNatClampNeg r_18)) H := hP
        have hD : va_D A (jW cI a b a2 b2 g (upd f2 x2_2.toNatClampNeg r_18)) := hD
        refine lv_iinc (v := x2_2 + 1) (lv' := [(2, .int (x2_2 + 1)), (0, .ref a), (1, .ref a2)]) hx hb dX0_takeFrom_22 hl (k := 0) rfl rfl (by decide) rfl (fun ls hl => ?_)
        refine lv_goto (tgt := 2) hx hb dX0_takeFrom_25 (by decide) ?_
        exact ih (upd f2 x2_2.toNatClampNeg r_18) (x2_2 + 1) H locs ls hs K hP hD hS (lv_sub hl [0, 1, 2] rfl)
  refine loop_2 100 f 0 H locs ls o_l2 (fun z_2 hw H locs ls hP hD hS hl => ?_) hP hD hS (lv_sub hl [0, 1, 2] rfl)
  try rw [← hw] at hV
  exact rV (w := fun u => jW cI a b a2 b2 g u) (z_2.1) hx hb hr hlocks hP hD hS (Nat.le_of_ble_eq_true rfl) (Nat.le_of_ble_eq_true rfl) dX0_takeFrom_28 (by rw [hV] <;> rfl)
def l_X0_dropBelow_2 (y1 : Int32) : Nat → (Nat → Int32) → Int32 → (Nat → Int32) × Int32
  | 0, f2, x2_2 => (f2, x2_2)
  | n + 1, f2, x2_2 => if 64 ≤ x2_2 then (f2, x2_2) else l_X0_dropBelow_2 y1 n (if y1 ≤ (f2 x2_2.toNatClampNeg) then f2 else upd f2 x2_2.toNatClampNeg (-1)) (x2_2 + 1)
theorem l_X0_dropBelow_2_s (y1 : Int32) (n : Nat) (f2 : (Nat → Int32)) (x2_2 : Int32) : l_X0_dropBelow_2 y1 (n + 1) f2 x2_2 = if 64 ≤ x2_2 then (f2, x2_2) else l_X0_dropBelow_2 y1 n (if y1 ≤ (f2 x2_2.toNatClampNeg) then f2 else upd f2 x2_2.toNatClampNeg (-1)) (x2_2 + 1) := rfl
def sl_X0_dropBelow_2 (y1 : Int32) : Nat → (Nat → Int32) → Int32 → Prop
  | 0, f2, x2_2 => False
  | n + 1, f2, x2_2 => ((64 ≤ x2_2 → True) ∧ (¬ 64 ≤ x2_2 → (vp_in x2_2 64 ∧ (((y1 ≤ (f2 x2_2.toNatClampNeg) → True) ∧ (¬ y1 ≤ (f2 x2_2.toNatClampNeg) → (vp_in x2_2 64 ∧ True))) ∧ sl_X0_dropBelow_2 y1 n (if y1 ≤ (f2 x2_2.toNatClampNeg) then f2 else upd f2 x2_2.toNatClampNeg (-1)) (x2_2 + 1)))))
theorem sl_X0_dropBelow_2_s (y1 : Int32) (n : Nat) (f2 : (Nat → Int32)) (x2_2 : Int32) : sl_X0_dropBelow_2 y1 (n + 1) f2 x2_2 = ((64 ≤ x2_2 → True) ∧ (¬ 64 ≤ x2_2 → (vp_in x2_2 64 ∧ (((y1 ≤ (f2 x2_2.toNatClampNeg) → True) ∧ (¬ y1 ≤ (f2 x2_2.toNatClampNeg) → (vp_in x2_2 64 ∧ True))) ∧ sl_X0_dropBelow_2 y1 n (if y1 ≤ (f2 x2_2.toNatClampNeg) then f2 else upd f2 x2_2.toNatClampNeg (-1)) (x2_2 + 1))))) := rfl
def v_X0_dropBelow (f : (Nat → Int32)) (p1 : Int32) : (Nat → Int32) := (l_X0_dropBelow_2 p1 100 f 0).1
theorem v_X0_dropBelow_e (f : (Nat → Int32)) (p1 : Int32) : v_X0_dropBelow f p1 = (l_X0_dropBelow_2 p1 100 f 0).1 := rfl
def s_X0_dropBelow (f : (Nat → Int32)) (p1 : Int32) : Prop := (sl_X0_dropBelow_2 p1 100 f 0 ∧ True)
set_option maxHeartbeats 1000000 in
set_option maxRecDepth 100000 in
theorem c_X0_dropBelow (l : Launch) (dC : Nat → ClassId) (dI : Nat → Nat → Nat) (cI : ClassId) (a : Nat) (b : Nat) (sz : Nat) (f : (Nat → Int32)) (p1 : Int32) (hs : s_X0_dropBelow f p1) : Met l yX0_dropBelow wsX0_dropBelow ({ frames := 0, cells := 0, slots := 0, locals := 0 }) (va_Pc [.ref a, .int p1] (pW (dC, dI) [(cI, .int)] (iW cI a b f) sz)) (va_Qv (fun (u : (Nat → Int32)) => u = v_X0_dropBelow f p1) (qW (dC, dI) (va_A (iW cI a b f) sz) (fun u => iW cI a b u)) (va_A (iW cI a b f) sz)) 0 0 (va_A (iW cI a b f) sz) := by
  refine Met.ofW (cc := cX0_dropBelow) (maxL := 3) (ret := none) (by decide) rfl ?_
  intro p e s m args below meth c s₁ B hml hv
  obtain ⟨rfl, hsz, hP, hK, hD0⟩ := hv
  have hx := B.exec
  have hb := B.bytes
  have hr := B.returns
  have hts := atoms_spec (ws := wsX0_dropBelow) B.pre
  have hown : s.vm.findClass RX0 = some m.cls := findClass_of_methodNamed B.named
  have hlocks := B.notSynchronized
  have hinX0 : ∀ w ∈ wsX00, w ∈ wsX0_dropBelow := by decide +kernel
  have hf9 := hts (.fieldLink RX0 9 "Keysapart$Index" "positions" "[I") (by decide +kernel)
  subst hsz
  have hD := hD0.self (sz := s.heap.size)
  generalize hAe : va_A (iW cI a b f) s.heap.size = A at hD ⊢
  have hA : ∀ q : Nat, s.heap.size ≤ q → A q := fun q h => by rw [← hAe]; exact Or.inr h
  have hl := lv_entry ([.ref a, .int p1]) (n := 3) (Nat.le_of_ble_eq_true rfl)
  rw [lg_entry_eq]
  generalize (lg_sl ([.ref a, .int p1]) ++ List.replicate (3 - (lg_sl ([.ref a, .int p1])).length) Slot.unset).toArray = ls at hl ⊢
  have hl : lv_has ls 3 [(0, .ref a), (1, .int p1)] := hl
  generalize hHe : s.heap = H at hP ⊢
  generalize hLe : ([] : List Loc) = locs
  have hS : va_S A s.heap H locs := by
    rw [← hLe, ← hHe]
    exact va_S.rf
  unfold s_X0_dropBelow at hs
  have hV := v_X0_dropBelow_e f p1
  refine lv_iconst (v := 0) hx hb dX0_dropBelow_0 (by decide) ?_
  refine lv_istore_n (lv' := [(2, .int 0), (0, .ref a), (1, .int p1)]) hx hb dX0_dropBelow_1 rfl hl (by decide) rfl (fun ls hl => ?_)
  have o_l2 : sl_X0_dropBelow_2 p1 100 f 0 := hs.1
  have hs := hs.2
  have loop_2 : ∀ (n : Nat) (f2 : (Nat → Int32)) (x2_2 : Int32) (H : Heap) (locs : List Loc) (ls : Array Slot) (hs : sl_X0_dropBelow_2 p1 n f2 x2_2) (K : ∀ (z : (Nat → Int32) × Int32) (hw : z = l_X0_dropBelow_2 p1 n f2 x2_2) (H : Heap) (locs : List Loc) (ls : Array Slot), va_P (dC, dI) vwCl (iW cI a b z.1) H → va_D A (iW cI a b z.1) → va_S A s.heap H locs → lv_has ls 3 [(2, .int z.2), (0, .ref a), (1, .int p1)] → W p l e (headSpec wsX0_dropBelow ({ frames := 0, cells := 0, slots := 0, locals := 0 })).room s m [.ref a, .int p1].toArray below meth c H locs 0 0 (MQ below (va_Qv (fun (u : (Nat → Int32)) => u = v_X0_dropBelow f p1) (qW (dC, dI) A (fun u => iW cI a b u)) A) [.ref a, .int p1].toArray s 0 0 A) (F0 m 34 ls [])) (hP : va_P (dC, dI) vwCl (iW cI a b f2) H) (hD : va_D A (iW cI a b f2)) (hS : va_S A s.heap H locs) (hl : lv_has ls 3 [(2, .int x2_2), (0, .ref a), (1, .int p1)]), W p l e (headSpec wsX0_dropBelow ({ frames := 0, cells := 0, slots := 0, locals := 0 })).room s m [.ref a, .int p1].toArray below meth c H locs 0 0 (MQ below (va_Qv (fun (u : (Nat → Int32)) => u = v_X0_dropBelow f p1) (qW (dC, dI) A (fun u => iW cI a b u)) A) [.ref a, .int p1].toArray s 0 0 A) (F0 m 2 ls []) := by
    intro n
    induction n with
    | zero => intro f2 x2_2 H locs ls hs; exact False.elim hs
    | succ n ih =>
      intro f2 x2_2 H locs ls hs K hP hD hS hl
      rw [sl_X0_dropBelow_2_s] at hs
      rw [l_X0_dropBelow_2_s] at K
      refine lv_iload_n hx hb dX0_dropBelow_2 rfl (lv_at hl 0 rfl) ?_
      refine lv_aload_n hx hb dX0_dropBelow_3 rfl (lv_at hl 1 rfl) ?_
      refine va_get (D := (dC, dI)) (ci := 0) (v := .ref b) (C := RX0) (T := TX0) (N := 1) hx hb hts hinX0 hown hK hP 0 rfl rfl 0 (by decide) hf9 (fun _ h9 => h9) rfl dX0_dropBelow_4 ?_
      refine va_alen (v := 64) hx hb hK hP 1 0 rfl rfl rfl dX0_dropBelow_7 ?_
      refine lv_icmp_ge (tgt := 34) hx hb dX0_dropBelow_8 (by decide) (fun c_8 => ?_) (fun c_8 => ?_)
      · skip
        have hs := hs.1 c_8
        rw [if_pos c_8] at K
        exact K _ rfl H locs ls hP hD hS (lv_sub hl [0, 1, 2] rfl)
      · skip
        have hs := hs.2 c_8
        rw [if_neg c_8] at K
        refine lv_aload_n hx hb dX0_dropBelow_11 rfl (lv_at hl 1 rfl) ?_
        refine va_get (D := (dC, dI)) (ci := 0) (v := .ref b) (C := RX0) (T := TX0) (N := 1) hx hb hts hinX0 hown hK hP 0 rfl rfl 0 (by decide) hf9 (fun _ h9 => h9) rfl dX0_dropBelow_12 ?_
        refine lv_iload_n hx hb dX0_dropBelow_15 rfl (lv_at hl 0 rfl) ?_
        have o_16 : vp_in x2_2 64 := hs.1
        have hs := hs.2
        refine va_iald hx hb hK hP 1 0 rfl rfl o_16 dX0_dropBelow_16 ?_
        refine lv_iload_n hx hb dX0_dropBelow_17 rfl (lv_at hl 2 rfl) ?_
        suffices J_18 : ∀ (H : Heap) (locs : List Loc) (ls : Array Slot), va_P (dC, dI) vwCl (iW cI a b (if p1 ≤ (f2 x2_2.toNatClampNeg) then f2 else upd f2 x2_2.toNatClampNeg (-1))) H → va_D A (iW cI a b (if p1 ≤ (f2 x2_2.toNatClampNeg) then f2 else upd f2 x2_2.toNatClampNeg (-1))) → va_S A s.heap H locs → lv_has ls 3 [(2, .int x2_2), (0, .ref a), (1, .int p1)] → W p l e (headSpec wsX0_dropBelow ({ frames := 0, cells := 0, slots := 0, locals := 0 })).room s m [.ref a, .int p1].toArray below meth c H locs 0 0 (MQ below (va_Qv (fun (u : (Nat → Int32)) => u = v_X0_dropBelow f p1) (qW (dC, dI) A (fun u => iW cI a b u)) A) [.ref a, .int p1].toArray s 0 0 A) (F0 m 28 ls []) by
          have hs := hs.1
          refine lv_icmp_ge (tgt := 28) hx hb dX0_dropBelow_18 (by decide) (fun c_18 => ?_) (fun c_18 => ?_)
          · skip
            have hs := hs.1 c_18
            rw [if_pos c_18] at J_18
            exact J_18 H locs ls hP hD hS (lv_sub hl [0, 1, 2] rfl)
          · skip
            have hs := hs.2 c_18
            rw [if_neg c_18] at J_18
            refine lv_aload_n hx hb dX0_dropBelow_21 rfl (lv_at hl 1 rfl) ?_
            refine va_get (D := (dC, dI)) (ci := 0) (v := .ref b) (C := RX0) (T := TX0) (N := 1) hx hb hts hinX0 hown hK hP 0 rfl rfl 0 (by decide) hf9 (fun _ h9 => h9) rfl dX0_dropBelow_22 ?_
            refine lv_iload_n hx hb dX0_dropBelow_25 rfl (lv_at hl 0 rfl) ?_
            refine lv_iconst (v := (-1)) hx hb dX0_dropBelow_26 (by decide) ?_
            have o_27 : vp_in x2_2 64 := hs.1
            have hs := hs.2
            refine va_iast hx hb hK hP hD hS 1 0 rfl rfl o_27 dX0_dropBelow_27 (fun H locs hP hD hS => ?_)
            have hP : va_P (dC, dI) vwCl (iW cI a b (upd f2 x2_2.toNatClampNeg (-1))) H := hP
            have hD : va_D A (iW cI a b (upd f2 x2_2.toNatClampNeg (-1))) := hD
            exact J_18 H locs ls hP hD hS (lv_sub hl [0, 1, 2] rfl)
        have hs := hs.2
        intro H locs ls hP hD hS hl
        refine lv_iinc (v := x2_2 + 1) (lv' := [(2, .int (x2_2 + 1)), (0, .ref a), (1, .int p1)]) hx hb dX0_dropBelow_28 hl (k := 0) rfl rfl (by decide) rfl (fun ls hl => ?_)
        refine lv_goto (tgt := 2) hx hb dX0_dropBelow_31 (by decide) ?_
        exact ih (if p1 ≤ (f2 x2_2.toNatClampNeg) then f2 else upd f2 x2_2.toNatClampNeg (-1)) (x2_2 + 1) H locs ls hs K hP hD hS (lv_sub hl [0, 1, 2] rfl)
  refine loop_2 100 f 0 H locs ls o_l2 (fun z_2 hw H locs ls hP hD hS hl => ?_) hP hD hS (lv_sub hl [0, 1, 2] rfl)
  try rw [← hw] at hV
  exact rV (w := fun u => iW cI a b u) (z_2.1) hx hb hr hlocks hP hD hS (Nat.le_of_ble_eq_true rfl) (Nat.le_of_ble_eq_true rfl) dX0_dropBelow_34 (by rw [hV] <;> rfl)
def v_X1_store (f : ((Nat → Int32) × (Nat → Int32))) (p1 : Int32) (p2 : Int32) (p3 : Int32) : ((Nat → Int32) × (Nat → Int32)) := if (v_J9_floorMod_7cf53 p1 96) < 0 then f else if 96 ≤ (v_J9_floorMod_7cf53 p1 96) then f else if 96 ≤ (v_J9_floorMod_7cf53 p1 96) then f else ((upd f.1 (v_J9_floorMod_7cf53 p1 96).toNatClampNeg p2, f.2).1, upd ((upd f.1 (v_J9_floorMod_7cf53 p1 96).toNatClampNeg p2, f.2).2) (v_J9_floorMod_7cf53 p1 96).toNatClampNeg p3)
theorem v_X1_store_e (f : ((Nat → Int32) × (Nat → Int32))) (p1 : Int32) (p2 : Int32) (p3 : Int32) : v_X1_store f p1 p2 p3 = if (v_J9_floorMod_7cf53 p1 96) < 0 then f else if 96 ≤ (v_J9_floorMod_7cf53 p1 96) then f else if 96 ≤ (v_J9_floorMod_7cf53 p1 96) then f else ((upd f.1 (v_J9_floorMod_7cf53 p1 96).toNatClampNeg p2, f.2).1, upd ((upd f.1 (v_J9_floorMod_7cf53 p1 96).toNatClampNeg p2, f.2).2) (v_J9_floorMod_7cf53 p1 96).toNatClampNeg p3) := rfl
def s_X1_store (f : ((Nat → Int32) × (Nat → Int32))) (p1 : Int32) (p2 : Int32) (p3 : Int32) : Prop := (s_J9_floorMod_7cf53 p1 96 ∧ True)
set_option maxHeartbeats 1000000 in
set_option maxRecDepth 100000 in
theorem c_X1_store (l : Launch) (dC : Nat → ClassId) (dI : Nat → Nat → Nat) (cI : ClassId) (a : Nat) (b : Nat) (c9 : Nat) (sz : Nat) (f : ((Nat → Int32) × (Nat → Int32))) (p1 : Int32) (p2 : Int32) (p3 : Int32) (hs : s_X1_store f p1 p2 p3) : Met l yX1_store wsX1_store ({ frames := 1, cells := 0, slots := 0, locals := 22 }) (va_Pc [.ref a, .int p1, .int p2, .int p3] (pW (dC, dI) [(cI, .int)] (gW cI a b c9 f) sz)) (va_Qv (fun (u : ((Nat → Int32) × (Nat → Int32))) => u = v_X1_store f p1 p2 p3) (qW (dC, dI) (va_A (gW cI a b c9 f) sz) (fun u => gW cI a b c9 u)) (va_A (gW cI a b c9 f) sz)) 0 0 (va_A (gW cI a b c9 f) sz) := by
  refine Met.ofW (cc := cX1_store) (maxL := 5) (ret := none) (by decide) rfl ?_
  intro p e s m args below meth c s₁ B hml hv
  obtain ⟨rfl, hsz, hP, hK, hD0⟩ := hv
  have hx := B.exec
  have hb := B.bytes
  have hr := B.returns
  have hts := atoms_spec (ws := wsX1_store) B.pre
  have hown : s.vm.findClass RX1 = some m.cls := findClass_of_methodNamed B.named
  have hlocks := B.notSynchronized
  have hinX1 : ∀ w ∈ wsX10, w ∈ wsX1_store := by decide +kernel
  have hf9 := hts (.fieldLink RX1 9 "Keysapart$Log" "keys" "[I") (by decide +kernel)
  have hf15 := hts (.fieldLink RX1 15 "Keysapart$Log" "values" "[I") (by decide +kernel)
  subst hsz
  have hD := hD0.self (sz := s.heap.size)
  generalize hAe : va_A (gW cI a b c9 f) s.heap.size = A at hD ⊢
  have hA : ∀ q : Nat, s.heap.size ≤ q → A q := fun q h => by rw [← hAe]; exact Or.inr h
  have hl := lv_entry ([.ref a, .int p1, .int p2, .int p3]) (n := 5) (Nat.le_of_ble_eq_true rfl)
  rw [lg_entry_eq]
  generalize (lg_sl ([.ref a, .int p1, .int p2, .int p3]) ++ List.replicate (5 - (lg_sl ([.ref a, .int p1, .int p2, .int p3])).length) Slot.unset).toArray = ls at hl ⊢
  have hl : lv_has ls 5 [(0, .ref a), (1, .int p1), (2, .int p2), (3, .int p3)] := hl
  generalize hHe : s.heap = H at hP ⊢
  generalize hLe : ([] : List Loc) = locs
  have hS : va_S A s.heap H locs := by
    rw [← hLe, ← hHe]
    exact va_S.rf
  unfold s_X1_store at hs
  have hV := v_X1_store_e f p1 p2 p3
  refine lv_iload_n hx hb dX1_store_0 rfl (lv_at hl 1 rfl) ?_
  refine lv_bipush (v := 96) hx hb dX1_store_1 (by decide) ?_
  have o_3 : s_J9_floorMod_7cf53 p1 96 := hs.1
  have hs := hs.2
  have hPc := hP.sub (ws' := eW) [] rfl
  have hDc := hD.sub (ws' := eW) [] (by decide) rfl
  refine rcI (W2 := fun _ => gW cI a b c9 f) (va_runS (As := [.int p1, .int 96]) (rest := []) ⟨hx, hb, hml, hown, hts⟩ (c_J9_floorMod_7cf53 l dC dI cI H.size p1 96 o_3) (va_cwS 2 hts gX1_store_J9_floorMod_7cf53 rfl rfl rfl (by decide +kernel) ⟨Nat.le_of_ble_eq_true rfl, Nat.le_of_ble_eq_true rfl⟩) (pW_S hPc hK hDc) rfl rfl hl.1 rfl (lv_room (Nat.le_of_ble_eq_true rfl)) dX1_store_3 ⟨Nat.le_of_ble_eq_true rfl, Nat.le_of_ble_eq_true rfl⟩) hP hD hS hA [] [0, 1, 2] [0, 1, 2] rfl rfl (by decide) (fun _ => rfl) (fun r_3 u_3 H locs hw hP hD hS => ?_)
  try rw [← hw] at hV
  refine lv_istore (lv' := [(4, .int r_3), (0, .ref a), (1, .int p1), (2, .int p2), (3, .int p3)]) hx hb dX1_store_6 hl (by decide) rfl (fun ls hl => ?_)
  refine lv_iload hx hb dX1_store_8 (lv_at hl 0 rfl) ?_
  refine lv_if_lt (tgt := 49) hx hb dX1_store_10 (by decide) (fun c_10 => ?_) (fun c_10 => ?_)
  · skip
    rw [if_pos c_10] at hV
    exact rV (w := fun u => gW cI a b c9 u) (f) hx hb hr hlocks hP hD hS (Nat.le_of_ble_eq_true rfl) (Nat.le_of_ble_eq_true rfl) dX1_store_49 (by rw [hV] <;> rfl)
  · skip
    rw [if_neg c_10] at hV
    refine lv_iload hx hb dX1_store_13 (lv_at hl 0 rfl) ?_
    refine lv_aload_n hx hb dX1_store_15 rfl (lv_at hl 1 rfl) ?_
    refine va_get (D := (dC, dI)) (ci := 1) (v := .ref b) (C := RX1) (T := TX1) (N := 2) hx hb hts hinX1 hown hK hP 0 rfl rfl 0 (by decide) hf9 (fun _ h9 => h9) rfl dX1_store_16 ?_
    refine va_alen (v := 96) hx hb hK hP 1 0 rfl rfl rfl dX1_store_19 ?_
    refine lv_icmp_ge (tgt := 49) hx hb dX1_store_20 (by decide) (fun c_20 => ?_) (fun c_20 => ?_)
    · skip
      rw [if_pos c_20] at hV
      exact rV (w := fun u => gW cI a b c9 u) (f) hx hb hr hlocks hP hD hS (Nat.le_of_ble_eq_true rfl) (Nat.le_of_ble_eq_true rfl) dX1_store_49 (by rw [hV] <;> rfl)
    · skip
      rw [if_neg c_20] at hV
      refine lv_iload hx hb dX1_store_23 (lv_at hl 0 rfl) ?_
      refine lv_aload_n hx hb dX1_store_25 rfl (lv_at hl 1 rfl) ?_
      refine va_get (D := (dC, dI)) (ci := 1) (v := .ref c9) (C := RX1) (T := TX1) (N := 2) hx hb hts hinX1 hown hK hP 0 rfl rfl 1 (by decide) hf15 (fun _ h9 => h9) rfl dX1_store_26 ?_
      refine va_alen (v := 96) hx hb hK hP 2 0 rfl rfl rfl dX1_store_29 ?_
      refine lv_icmp_ge (tgt := 49) hx hb dX1_store_30 (by decide) (fun c_30 => ?_) (fun c_30 => ?_)
      · skip
        rw [if_pos c_30] at hV
        exact rV (w := fun u => gW cI a b c9 u) (f) hx hb hr hlocks hP hD hS (Nat.le_of_ble_eq_true rfl) (Nat.le_of_ble_eq_true rfl) dX1_store_49 (by rw [hV] <;> rfl)
      · skip
        rw [if_neg c_30] at hV
        refine lv_aload_n hx hb dX1_store_33 rfl (lv_at hl 1 rfl) ?_
        refine va_get (D := (dC, dI)) (ci := 1) (v := .ref b) (C := RX1) (T := TX1) (N := 2) hx hb hts hinX1 hown hK hP 0 rfl rfl 0 (by decide) hf9 (fun _ h9 => h9) rfl dX1_store_34 ?_
        refine lv_iload hx hb dX1_store_37 (lv_at hl 0 rfl) ?_
        refine lv_iload_n hx hb dX1_store_39 rfl (lv_at hl 3 rfl) ?_
        refine va_iast hx hb hK hP hD hS 1 0 rfl rfl (in_guard (n := 96) rfl (by decide) c_10 c_20) dX1_store_40 (fun H locs hP hD hS => ?_)
        have hP : va_P (dC, dI) vwCl (gW cI a b c9 (upd f.1 r_3.toNatClampNeg p2, f.2)) H := hP
        have hD : va_D A (gW cI a b c9 (upd f.1 r_3.toNatClampNeg p2, f.2)) := hD
        refine lv_aload_n hx hb dX1_store_41 rfl (lv_at hl 1 rfl) ?_
        refine va_get (D := (dC, dI)) (ci := 1) (v := .ref c9) (C := RX1) (T := TX1) (N := 2) hx hb hts hinX1 hown hK hP 0 rfl rfl 1 (by decide) hf15 (fun _ h9 => h9) rfl dX1_store_42 ?_
        refine lv_iload hx hb dX1_store_45 (lv_at hl 0 rfl) ?_
        refine lv_iload_n hx hb dX1_store_47 rfl (lv_at hl 4 rfl) ?_
        refine va_iast hx hb hK hP hD hS 2 0 rfl rfl (in_guard (n := 96) rfl (by decide) c_10 c_30) dX1_store_48 (fun H locs hP hD hS => ?_)
        have hP : va_P (dC, dI) vwCl (gW cI a b c9 ((upd f.1 r_3.toNatClampNeg p2, f.2).1, upd ((upd f.1 r_3.toNatClampNeg p2, f.2).2) r_3.toNatClampNeg p3)) H := hP
        have hD : va_D A (gW cI a b c9 ((upd f.1 r_3.toNatClampNeg p2, f.2).1, upd ((upd f.1 r_3.toNatClampNeg p2, f.2).2) r_3.toNatClampNeg p3)) := hD
        exact rV (w := fun u => gW cI a b c9 u) (((upd f.1 r_3.toNatClampNeg p2, f.2).1, upd ((upd f.1 r_3.toNatClampNeg p2, f.2).2) r_3.toNatClampNeg p3)) hx hb hr hlocks hP hD hS (Nat.le_of_ble_eq_true rfl) (Nat.le_of_ble_eq_true rfl) dX1_store_49 (by rw [hV] <;> rfl)
def v_X1_keyAt (f : ((Nat → Int32) × (Nat → Int32))) (p1 : Int32) : Int32 := if (v_J9_floorMod_7cf53 p1 96) < 0 then (-1) else if 96 ≤ (v_J9_floorMod_7cf53 p1 96) then (-1) else (f.1 (v_J9_floorMod_7cf53 p1 96).toNatClampNeg)
theorem v_X1_keyAt_e (f : ((Nat → Int32) × (Nat → Int32))) (p1 : Int32) : v_X1_keyAt f p1 = if (v_J9_floorMod_7cf53 p1 96) < 0 then (-1) else if 96 ≤ (v_J9_floorMod_7cf53 p1 96) then (-1) else (f.1 (v_J9_floorMod_7cf53 p1 96).toNatClampNeg) := rfl
def s_X1_keyAt (f : ((Nat → Int32) × (Nat → Int32))) (p1 : Int32) : Prop := (s_J9_floorMod_7cf53 p1 96 ∧ True)
set_option maxHeartbeats 1000000 in
set_option maxRecDepth 100000 in
theorem c_X1_keyAt (l : Launch) (dC : Nat → ClassId) (dI : Nat → Nat → Nat) (cI : ClassId) (a : Nat) (b : Nat) (c9 : Nat) (sz : Nat) (f : ((Nat → Int32) × (Nat → Int32))) (p1 : Int32) (hs : s_X1_keyAt f p1) : Met l yX1_keyAt wsX1_keyAt ({ frames := 1, cells := 0, slots := 0, locals := 22 }) (va_Pc [.ref a, .int p1] (pW (dC, dI) [(cI, .int)] (gW cI a b c9 f) sz)) (va_Qi (fun (r : Int32) (u : Unit) => r = v_X1_keyAt f p1) (qW (dC, dI) (va_A (gW cI a b c9 f) sz) (fun _ => gW cI a b c9 f)) (va_A (gW cI a b c9 f) sz)) 0 0 (va_A (gW cI a b c9 f) sz) := by
  refine Met.ofW (cc := cX1_keyAt) (maxL := 3) (ret := (some .int)) (by decide) rfl ?_
  intro p e s m args below meth c s₁ B hml hv
  obtain ⟨rfl, hsz, hP, hK, hD0⟩ := hv
  have hx := B.exec
  have hb := B.bytes
  have hr := B.returns
  have hts := atoms_spec (ws := wsX1_keyAt) B.pre
  have hown : s.vm.findClass RX1 = some m.cls := findClass_of_methodNamed B.named
  have hlocks := B.notSynchronized
  have hinX1 : ∀ w ∈ wsX10, w ∈ wsX1_keyAt := by decide +kernel
  have hf9 := hts (.fieldLink RX1 9 "Keysapart$Log" "keys" "[I") (by decide +kernel)
  subst hsz
  have hD := hD0.self (sz := s.heap.size)
  generalize hAe : va_A (gW cI a b c9 f) s.heap.size = A at hD ⊢
  have hA : ∀ q : Nat, s.heap.size ≤ q → A q := fun q h => by rw [← hAe]; exact Or.inr h
  have hl := lv_entry ([.ref a, .int p1]) (n := 3) (Nat.le_of_ble_eq_true rfl)
  rw [lg_entry_eq]
  generalize (lg_sl ([.ref a, .int p1]) ++ List.replicate (3 - (lg_sl ([.ref a, .int p1])).length) Slot.unset).toArray = ls at hl ⊢
  have hl : lv_has ls 3 [(0, .ref a), (1, .int p1)] := hl
  generalize hHe : s.heap = H at hP ⊢
  generalize hLe : ([] : List Loc) = locs
  have hS : va_S A s.heap H locs := by
    rw [← hLe, ← hHe]
    exact va_S.rf
  unfold s_X1_keyAt at hs
  have hV := v_X1_keyAt_e f p1
  refine lv_iload_n hx hb dX1_keyAt_0 rfl (lv_at hl 1 rfl) ?_
  refine lv_bipush (v := 96) hx hb dX1_keyAt_1 (by decide) ?_
  have o_3 : s_J9_floorMod_7cf53 p1 96 := hs.1
  have hs := hs.2
  have hPc := hP.sub (ws' := eW) [] rfl
  have hDc := hD.sub (ws' := eW) [] (by decide) rfl
  refine rcI (W2 := fun _ => gW cI a b c9 f) (va_runS (As := [.int p1, .int 96]) (rest := []) ⟨hx, hb, hml, hown, hts⟩ (c_J9_floorMod_7cf53 l dC dI cI H.size p1 96 o_3) (va_cwS 2 hts gX1_keyAt_J9_floorMod_7cf53 rfl rfl rfl (by decide +kernel) ⟨Nat.le_of_ble_eq_true rfl, Nat.le_of_ble_eq_true rfl⟩) (pW_S hPc hK hDc) rfl rfl hl.1 rfl (lv_room (Nat.le_of_ble_eq_true rfl)) dX1_keyAt_3 ⟨Nat.le_of_ble_eq_true rfl, Nat.le_of_ble_eq_true rfl⟩) hP hD hS hA [] [0, 1, 2] [0, 1, 2] rfl rfl (by decide) (fun _ => rfl) (fun r_3 u_3 H locs hw hP hD hS => ?_)
  try rw [← hw] at hV
  refine lv_istore_n (lv' := [(2, .int r_3), (0, .ref a), (1, .int p1)]) hx hb dX1_keyAt_6 rfl hl (by decide) rfl (fun ls hl => ?_)
  refine lv_iload_n hx hb dX1_keyAt_7 rfl (lv_at hl 0 rfl) ?_
  refine lv_if_lt (tgt := 29) hx hb dX1_keyAt_8 (by decide) (fun c_8 => ?_) (fun c_8 => ?_)
  · skip
    rw [if_pos c_8] at hV
    refine lv_iconst (v := (-1)) hx hb dX1_keyAt_29 (by decide) ?_
    exact rI (w := fun _ => gW cI a b c9 f) (()) hx hb hr hlocks hP hD hS (Nat.le_of_ble_eq_true rfl) (Nat.le_of_ble_eq_true rfl) dX1_keyAt_30 (by rw [hV] <;> rfl)
  · skip
    rw [if_neg c_8] at hV
    refine lv_iload_n hx hb dX1_keyAt_11 rfl (lv_at hl 0 rfl) ?_
    refine lv_aload_n hx hb dX1_keyAt_12 rfl (lv_at hl 1 rfl) ?_
    refine va_get (D := (dC, dI)) (ci := 1) (v := .ref b) (C := RX1) (T := TX1) (N := 2) hx hb hts hinX1 hown hK hP 0 rfl rfl 0 (by decide) hf9 (fun _ h9 => h9) rfl dX1_keyAt_13 ?_
    refine va_alen (v := 96) hx hb hK hP 1 0 rfl rfl rfl dX1_keyAt_16 ?_
    refine lv_icmp_ge (tgt := 29) hx hb dX1_keyAt_17 (by decide) (fun c_17 => ?_) (fun c_17 => ?_)
    · skip
      rw [if_pos c_17] at hV
      refine lv_iconst (v := (-1)) hx hb dX1_keyAt_29 (by decide) ?_
      exact rI (w := fun _ => gW cI a b c9 f) (()) hx hb hr hlocks hP hD hS (Nat.le_of_ble_eq_true rfl) (Nat.le_of_ble_eq_true rfl) dX1_keyAt_30 (by rw [hV] <;> rfl)
    · skip
      rw [if_neg c_17] at hV
      refine lv_aload_n hx hb dX1_keyAt_20 rfl (lv_at hl 1 rfl) ?_
      refine va_get (D := (dC, dI)) (ci := 1) (v := .ref b) (C := RX1) (T := TX1) (N := 2) hx hb hts hinX1 hown hK hP 0 rfl rfl 0 (by decide) hf9 (fun _ h9 => h9) rfl dX1_keyAt_21 ?_
      refine lv_iload_n hx hb dX1_keyAt_24 rfl (lv_at hl 0 rfl) ?_
      refine va_iald hx hb hK hP 1 0 rfl rfl (in_guard (n := 96) rfl (by decide) c_8 c_17) dX1_keyAt_25 ?_
      refine lv_goto (tgt := 30) hx hb dX1_keyAt_26 (by decide) ?_
      exact rI (w := fun _ => gW cI a b c9 f) (()) hx hb hr hlocks hP hD hS (Nat.le_of_ble_eq_true rfl) (Nat.le_of_ble_eq_true rfl) dX1_keyAt_30 (by rw [hV] <;> rfl)
def v_X1_valueAt (f : ((Nat → Int32) × (Nat → Int32))) (p1 : Int32) : Int32 := if (v_J9_floorMod_7cf53 p1 96) < 0 then (-1) else if 96 ≤ (v_J9_floorMod_7cf53 p1 96) then (-1) else (f.2 (v_J9_floorMod_7cf53 p1 96).toNatClampNeg)
theorem v_X1_valueAt_e (f : ((Nat → Int32) × (Nat → Int32))) (p1 : Int32) : v_X1_valueAt f p1 = if (v_J9_floorMod_7cf53 p1 96) < 0 then (-1) else if 96 ≤ (v_J9_floorMod_7cf53 p1 96) then (-1) else (f.2 (v_J9_floorMod_7cf53 p1 96).toNatClampNeg) := rfl
def s_X1_valueAt (f : ((Nat → Int32) × (Nat → Int32))) (p1 : Int32) : Prop := (s_J9_floorMod_7cf53 p1 96 ∧ True)
set_option maxHeartbeats 1000000 in
set_option maxRecDepth 100000 in
theorem c_X1_valueAt (l : Launch) (dC : Nat → ClassId) (dI : Nat → Nat → Nat) (cI : ClassId) (a : Nat) (b : Nat) (c9 : Nat) (sz : Nat) (f : ((Nat → Int32) × (Nat → Int32))) (p1 : Int32) (hs : s_X1_valueAt f p1) : Met l yX1_valueAt wsX1_valueAt ({ frames := 1, cells := 0, slots := 0, locals := 22 }) (va_Pc [.ref a, .int p1] (pW (dC, dI) [(cI, .int)] (gW cI a b c9 f) sz)) (va_Qi (fun (r : Int32) (u : Unit) => r = v_X1_valueAt f p1) (qW (dC, dI) (va_A (gW cI a b c9 f) sz) (fun _ => gW cI a b c9 f)) (va_A (gW cI a b c9 f) sz)) 0 0 (va_A (gW cI a b c9 f) sz) := by
  refine Met.ofW (cc := cX1_valueAt) (maxL := 3) (ret := (some .int)) (by decide) rfl ?_
  intro p e s m args below meth c s₁ B hml hv
  obtain ⟨rfl, hsz, hP, hK, hD0⟩ := hv
  have hx := B.exec
  have hb := B.bytes
  have hr := B.returns
  have hts := atoms_spec (ws := wsX1_valueAt) B.pre
  have hown : s.vm.findClass RX1 = some m.cls := findClass_of_methodNamed B.named
  have hlocks := B.notSynchronized
  have hinX1 : ∀ w ∈ wsX10, w ∈ wsX1_valueAt := by decide +kernel
  have hf15 := hts (.fieldLink RX1 15 "Keysapart$Log" "values" "[I") (by decide +kernel)
  subst hsz
  have hD := hD0.self (sz := s.heap.size)
  generalize hAe : va_A (gW cI a b c9 f) s.heap.size = A at hD ⊢
  have hA : ∀ q : Nat, s.heap.size ≤ q → A q := fun q h => by rw [← hAe]; exact Or.inr h
  have hl := lv_entry ([.ref a, .int p1]) (n := 3) (Nat.le_of_ble_eq_true rfl)
  rw [lg_entry_eq]
  generalize (lg_sl ([.ref a, .int p1]) ++ List.replicate (3 - (lg_sl ([.ref a, .int p1])).length) Slot.unset).toArray = ls at hl ⊢
  have hl : lv_has ls 3 [(0, .ref a), (1, .int p1)] := hl
  generalize hHe : s.heap = H at hP ⊢
  generalize hLe : ([] : List Loc) = locs
  have hS : va_S A s.heap H locs := by
    rw [← hLe, ← hHe]
    exact va_S.rf
  unfold s_X1_valueAt at hs
  have hV := v_X1_valueAt_e f p1
  refine lv_iload_n hx hb dX1_valueAt_0 rfl (lv_at hl 1 rfl) ?_
  refine lv_bipush (v := 96) hx hb dX1_valueAt_1 (by decide) ?_
  have o_3 : s_J9_floorMod_7cf53 p1 96 := hs.1
  have hs := hs.2
  have hPc := hP.sub (ws' := eW) [] rfl
  have hDc := hD.sub (ws' := eW) [] (by decide) rfl
  refine rcI (W2 := fun _ => gW cI a b c9 f) (va_runS (As := [.int p1, .int 96]) (rest := []) ⟨hx, hb, hml, hown, hts⟩ (c_J9_floorMod_7cf53 l dC dI cI H.size p1 96 o_3) (va_cwS 2 hts gX1_valueAt_J9_floorMod_7cf53 rfl rfl rfl (by decide +kernel) ⟨Nat.le_of_ble_eq_true rfl, Nat.le_of_ble_eq_true rfl⟩) (pW_S hPc hK hDc) rfl rfl hl.1 rfl (lv_room (Nat.le_of_ble_eq_true rfl)) dX1_valueAt_3 ⟨Nat.le_of_ble_eq_true rfl, Nat.le_of_ble_eq_true rfl⟩) hP hD hS hA [] [0, 1, 2] [0, 1, 2] rfl rfl (by decide) (fun _ => rfl) (fun r_3 u_3 H locs hw hP hD hS => ?_)
  try rw [← hw] at hV
  refine lv_istore_n (lv' := [(2, .int r_3), (0, .ref a), (1, .int p1)]) hx hb dX1_valueAt_6 rfl hl (by decide) rfl (fun ls hl => ?_)
  refine lv_iload_n hx hb dX1_valueAt_7 rfl (lv_at hl 0 rfl) ?_
  refine lv_if_lt (tgt := 29) hx hb dX1_valueAt_8 (by decide) (fun c_8 => ?_) (fun c_8 => ?_)
  · skip
    rw [if_pos c_8] at hV
    refine lv_iconst (v := (-1)) hx hb dX1_valueAt_29 (by decide) ?_
    exact rI (w := fun _ => gW cI a b c9 f) (()) hx hb hr hlocks hP hD hS (Nat.le_of_ble_eq_true rfl) (Nat.le_of_ble_eq_true rfl) dX1_valueAt_30 (by rw [hV] <;> rfl)
  · skip
    rw [if_neg c_8] at hV
    refine lv_iload_n hx hb dX1_valueAt_11 rfl (lv_at hl 0 rfl) ?_
    refine lv_aload_n hx hb dX1_valueAt_12 rfl (lv_at hl 1 rfl) ?_
    refine va_get (D := (dC, dI)) (ci := 1) (v := .ref c9) (C := RX1) (T := TX1) (N := 2) hx hb hts hinX1 hown hK hP 0 rfl rfl 1 (by decide) hf15 (fun _ h9 => h9) rfl dX1_valueAt_13 ?_
    refine va_alen (v := 96) hx hb hK hP 2 0 rfl rfl rfl dX1_valueAt_16 ?_
    refine lv_icmp_ge (tgt := 29) hx hb dX1_valueAt_17 (by decide) (fun c_17 => ?_) (fun c_17 => ?_)
    · skip
      rw [if_pos c_17] at hV
      refine lv_iconst (v := (-1)) hx hb dX1_valueAt_29 (by decide) ?_
      exact rI (w := fun _ => gW cI a b c9 f) (()) hx hb hr hlocks hP hD hS (Nat.le_of_ble_eq_true rfl) (Nat.le_of_ble_eq_true rfl) dX1_valueAt_30 (by rw [hV] <;> rfl)
    · skip
      rw [if_neg c_17] at hV
      refine lv_aload_n hx hb dX1_valueAt_20 rfl (lv_at hl 1 rfl) ?_
      refine va_get (D := (dC, dI)) (ci := 1) (v := .ref c9) (C := RX1) (T := TX1) (N := 2) hx hb hts hinX1 hown hK hP 0 rfl rfl 1 (by decide) hf15 (fun _ h9 => h9) rfl dX1_valueAt_21 ?_
      refine lv_iload_n hx hb dX1_valueAt_24 rfl (lv_at hl 0 rfl) ?_
      refine va_iald hx hb hK hP 2 0 rfl rfl (in_guard (n := 96) rfl (by decide) c_8 c_17) dX1_valueAt_25 ?_
      refine lv_goto (tgt := 30) hx hb dX1_valueAt_26 (by decide) ?_
      exact rI (w := fun _ => gW cI a b c9 f) (()) hx hb hr hlocks hP hD hS (Nat.le_of_ble_eq_true rfl) (Nat.le_of_ble_eq_true rfl) dX1_valueAt_30 (by rw [hV] <;> rfl)
