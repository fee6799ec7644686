def zNc (U : State) : Prop := va_Nc "java/lang/IllegalStateException" "java/lang/IllegalArgumentException" U
def pL (D : va_G) (tys : List (ClassId × FieldType)) (ws : va_W) (sz : Nat) : State → Prop := fun U => pX D tys ws sz U ∧ zNc U
theorem pL_blind {D : va_G} {tys : List (ClassId × FieldType)} {ws : va_W} {sz : Nat} {av : List Value} : FrameBlind (va_Pc av (pL D tys ws sz)) := by
  intro a U g mk q
  obtain ⟨q0, q1, q2⟩ := q
  have h := (pX_blind (D := D) (tys := tys) (ws := ws) (sz := sz) (av := av)) a U g mk ⟨q0, q1⟩
  exact ⟨h.1, h.2, va_Nc.moved (u := U) (U := U.calling g mk a) (Vm.Alike.refl U.vm) q2⟩
theorem pL_S {D : va_G} {tys : List (ClassId × FieldType)} {wc : va_W} {s : State} {H : Heap} {locs : List Loc} {A B : Nat → Prop} {As : List Value} (hP : va_P D vwCl wc H) (hK : va_K D vwCl tys s) (hD : va_D B wc) (hZ : zZ A s) (hS : va_S A s.heap H locs) (hB : ∀ q, va_A wc H.size q → A q) (hN : zNc s) : PreS s H (va_Pc As (pL D tys wc H.size)) As :=
  ⟨pL_blind, fun U hU hW => ⟨rfl, ⟨(pW_at hP hK hD As U hU hW).2, zZ_at hZ hS hB U hU hW⟩, va_Nc.moved hW.alike hN⟩⟩
/-- the script, in a call -/
def pC (b L : Nat) (xs : Nat → Int32) (sz : Nat) : State → Prop := fun U => U.heap.size = sz ∧ va_X b L xs U U.heap ∧ b < sz
theorem pC_blind {b L : Nat} {xs : Nat → Int32} {sz : Nat} {av : List Value} : FrameBlind (va_Pc av (pC b L xs sz)) := by
  intro a U g mk q
  obtain ⟨q0, q1, q2, q3⟩ := q
  exact ⟨q0, q1, va_X.moved (u := U) (U := U.calling g mk a) (Vm.Alike.refl U.vm) q2, q3⟩
theorem pC_S {b L : Nat} {xs : Nat → Int32} {s : State} {H : Heap} {locs : List Loc} {A : Nat → Prop} {As : List Value} (hX : va_X b L xs s s.heap) (hbl : b < s.heap.size) (hbA : ¬ A b) (hS : va_S A s.heap H locs) : PreS s H (va_Pc As (pC b L xs H.size)) As :=
  ⟨pC_blind, fun U hU hW => ⟨rfl, by rw [hU], by rw [hU]; exact (hX.kept (hS.2.1 b hbl hbA)).moved hW.alike, Nat.lt_of_lt_of_le hbl hS.1⟩⟩
theorem and_max (x : Int32) : ∃ j : Nat, j < 2 ^ 31 ∧ x &&& 2147483647 = nI j := pk_andE x 31 (by decide)
set_option maxHeartbeats 1000000 in
set_option maxRecDepth 100000 in
theorem w_put (l : Launch) (dC : Nat → ClassId) (dI : Nat → Nat → Nat) (cI : ClassId) (h : Nat → Nat) (sz : Nat) (κ : KS) (p1 : Int32) (p2 : Int32) (hX : x_X2_put κ p1 p2 = 0) (hs : s_X2_put κ p1 p2) : Met l yL_put wsL_put ({ frames := 8, cells := 0, slots := 0, locals := 126 }) (va_Pc [.ref (h 0), .int p1, .int p2] (pW (dC, dI) [(cI, .int)] (kW cI h κ) sz)) (va_Qi (fun (r : Int32) (u : KS) => r = (v_X2_put κ p1 p2).1 ∧ u = (v_X2_put κ p1 p2).2) (qW (dC, dI) (va_A (kW cI h κ) sz) (fun u => kW cI h u)) (va_A (kW cI h κ) sz)) 0 0 (va_A (kW cI h κ) sz) := by
  refine va_MetW (cc := cL_put) (maxL := 4) (ret := (some .int)) (by decide) rfl ?_
  intro p e s m args below meth c s₁ B hml hv
  obtain ⟨rfl, hsz, hP, hK, hD0⟩ := hv
  have hx := B.exec
  have hb := B.bytes
  have hr := B.returns
  have hts := atoms_spec (ws := wsL_put) B.pre
  have hown : s.vm.findClass RL = some m.cls := findClass_of_methodNamed B.named
  have hlocks := B.notSynchronized
  subst hsz
  have hD := hD0.self (sz := s.heap.size)
  generalize hAe : va_A (kW cI h κ) s.heap.size = A at hD ⊢
  have hA : ∀ q : Nat, s.heap.size ≤ q → A q := fun q h => by rw [← hAe]; exact Or.inr h
  have hl := lv_entry ([.ref (h 0), .int p1, .int p2]) (n := 4) (Nat.le_of_ble_eq_true rfl)
  rw [lg_entry_eq]
  generalize (lg_sl ([.ref (h 0), .int p1, .int p2]) ++ List.replicate (4 - (lg_sl ([.ref (h 0), .int p1, .int p2])).length) Slot.unset).toArray = ls at hl ⊢
  have hl : lv_has ls 4 [(0, .ref (h 0)), (1, .int p1), (2, .int p2)] := hl
  generalize hHe : s.heap = H at hP ⊢
  generalize hLe : ([] : List Loc) = locs
  have hS : va_S A s.heap H locs := by
    rw [← hLe, ← hHe]
    exact va_S.rf
  refine lv_aload_n hx hb dL_put_0 rfl (lv_at hl 0 rfl) ?_
  refine lv_iload_n hx hb dL_put_1 rfl (lv_at hl 1 rfl) ?_
  refine lv_iload_n hx hb dL_put_2 rfl (lv_at hl 2 rfl) ?_
  have hPc := hP.sub (ws' := kW cI h κ) [0, 1, 2, 3, 4, 5, 6, 7, 8, 9] rfl
  have hDc := hD.sub (ws' := kW cI h κ) [0, 1, 2, 3, 4, 5, 6, 7, 8, 9] (by decide) rfl
  refine rcI (W2 := fun u => kW cI h u) (va_runV (As := [.int p1, .int p2]) (rest := []) ⟨hx, hb, hml, hown, hts⟩ (c_X2_put l dC dI cI h H.size κ p1 p2 hX hs) (cwV 2 hts gL_put_X2_put rfl rfl rfl (by decide +kernel) ⟨Nat.le_of_ble_eq_true rfl, Nat.le_of_ble_eq_true rfl⟩) (pW_V hPc hK hDc (ci := 2) (q0 := 0) rfl rfl) rfl rfl hl.1 rfl (lv_room (Nat.le_of_ble_eq_true rfl)) dL_put_3 ⟨Nat.le_of_ble_eq_true rfl, Nat.le_of_ble_eq_true rfl⟩) hP hD hS hA [0, 1, 2, 3, 4, 5, 6, 7, 8, 9] [] [0, 1, 2, 3, 4, 5, 6, 7, 8, 9] rfl rfl (by decide) (fun _ => rfl) (fun r u H locs hw hP hD hS => ?_)
  exact rI (w := fun u => kW cI h u) u hx hb hr hlocks hP hD hS (Nat.le_of_ble_eq_true rfl) (Nat.le_of_ble_eq_true rfl) dL_put_6 hw
set_option maxHeartbeats 1000000 in
set_option maxRecDepth 100000 in
theorem y_put (l : Launch) (hlt : l.stackTraces = false) (dC : Nat → ClassId) (dI : Nat → Nat → Nat) (cI : ClassId) (h : Nat → Nat) (sz : Nat) (κ : KS) (p1 : Int32) (p2 : Int32) (hX : x_X2_put κ p1 p2 = 2) (hs : s_X2_put κ p1 p2) : Met l yL_put wsL_put ({ frames := 8, cells := 1, slots := 6, locals := 126 }) (va_Pc [.ref (h 0), .int p1, .int p2] (pL (dC, dI) [(cI, .int)] (kW cI h κ) sz)) (va_Qi (fun (r : Int32) (u : Unit) => r = -103) (qW (dC, dI) (va_A (kW cI h κ) sz) (fun _ => kW cI h κ)) (va_A (kW cI h κ) sz)) 1 6 (va_A (kW cI h κ) sz) := by
  refine va_MetW (cc := cL_put) (maxL := 4) (ret := (some .int)) (by decide) rfl ?_
  intro p e s m args below meth c s₁ B hml hv
  obtain ⟨rfl, ⟨⟨hsz, hP, hK, hD0⟩, hZ⟩, hNc⟩ := hv
  have hx := B.exec
  have hb := B.bytes
  have hr := B.returns
  have hts := atoms_spec (ws := wsL_put) B.pre
  have hown : s.vm.findClass RL = some m.cls := findClass_of_methodNamed B.named
  have hlocks := B.notSynchronized
  have htab : c.exceptionTable.toList = tableOf [(0, 6, 7, 15), (0, 6, 11, 17)] := vx_table (x := yL_put) B (hts _ List.mem_cons_self)
  subst hsz
  have hD := hD0.self (sz := s.heap.size)
  generalize hAe : va_A (kW cI h κ) s.heap.size = A at hD hZ ⊢
  have hA : ∀ q : Nat, s.heap.size ≤ q → A q := fun q h => by rw [← hAe]; exact Or.inr h
  have hl := lv_entry ([.ref (h 0), .int p1, .int p2]) (n := 4) (Nat.le_of_ble_eq_true rfl)
  rw [lg_entry_eq]
  generalize (lg_sl ([.ref (h 0), .int p1, .int p2]) ++ List.replicate (4 - (lg_sl ([.ref (h 0), .int p1, .int p2])).length) Slot.unset).toArray = ls at hl ⊢
  have hl : lv_has ls 4 [(0, .ref (h 0)), (1, .int p1), (2, .int p2)] := hl
  generalize hHe : s.heap = H at hP ⊢
  generalize hLe : ([] : List Loc) = locs
  have hS : va_S A s.heap H locs := by
    rw [← hLe, ← hHe]
    exact va_S.rf
  refine lv_aload_n hx hb dL_put_0 rfl (lv_at hl 0 rfl) ?_
  refine lv_iload_n hx hb dL_put_1 rfl (lv_at hl 1 rfl) ?_
  refine lv_iload_n hx hb dL_put_2 rfl (lv_at hl 2 rfl) ?_
  have hPc := hP.sub (ws' := kW cI h κ) [0, 1, 2, 3, 4, 5, 6, 7, 8, 9] rfl
  have hDc := hD.sub (ws' := kW cI h κ) [0, 1, 2, 3, 4, 5, 6, 7, 8, 9] (by decide) rfl
  have hFc := va_free (wc := kW cI h κ) hD hS hA [0, 1, 2, 3, 4, 5, 6, 7, 8, 9] rfl
  refine rxC (vx_runV (As := [.int p1, .int p2]) (rest := []) ⟨hx, hb, hml, hown, hts⟩ (b_X2_put l hlt dC dI cI h H.size κ p1 p2 (by rw [hX]; decide) hs) (cwV 2 hts gL_put_X2_put rfl rfl rfl (by decide +kernel) ⟨Nat.le_of_ble_eq_true rfl, Nat.le_of_ble_eq_true rfl⟩) (pX_V hPc hK hDc hZ hS hFc (ci := 2) (q0 := 0) rfl rfl) rfl rfl hl.1 rfl (lv_room (Nat.le_of_ble_eq_true rfl)) dL_put_3 ⟨Nat.le_of_ble_eq_true rfl, Nat.le_of_ble_eq_true rfl⟩) hP hD hS hA [0, 1, 2, 3, 4, 5, 6, 7, 8, 9] [] [0, 1, 2, 3, 4, 5, 6, 7, 8, 9] rfl rfl (by decide) rfl (fun E ce q9 H locs hk hP hS hce hcv hcl => ?_)
  rcases hk with ⟨hk, rfl⟩ | ⟨hk, rfl⟩
  · exact absurd (hX.symm.trans hk) (by decide)
  · refine vx_catch (own := RL) (name := "java/lang/IllegalStateException") hown [(⟨0, 6, 7, 15⟩ : ExceptionTableEntry)] (⟨0, 6, 11, 17⟩ : ExceptionTableEntry) [] (by rw [htab]; rfl) (fun z hz => by cases hz with | head => exact Or.inr ⟨by decide, "java/lang/IllegalArgumentException", hts (.classLink RL 15 "java/lang/IllegalArgumentException") (by decide +kernel), hNc⟩ | tail _ h9 => cases h9) (by decide) (by decide) (hts (.classLink RL 17 "java/lang/IllegalStateException") (by decide +kernel)) (zN.use hZ.2.2.2 _ (by decide +kernel)) hce hcv hcl ?_
    refine lv_astore_n (lv' := [(3, .ref q9), (0, .ref (h 0)), (1, .int p1), (2, .int p2)]) hx hb dL_put_11 rfl hl (by decide) rfl (fun ls hl => ?_)
    refine lv_bipush (v := (-103)) hx hb dL_put_12 (by decide) ?_
    exact rI (w := fun _ => kW cI h κ) () hx hb hr hlocks hP hD hS (Nat.le_of_ble_eq_true rfl) (Nat.le_of_ble_eq_true rfl) dL_put_14 rfl
set_option maxHeartbeats 1000000 in
set_option maxRecDepth 100000 in
theorem w_delete (l : Launch) (dC : Nat → ClassId) (dI : Nat → Nat → Nat) (cI : ClassId) (h : Nat → Nat) (sz : Nat) (κ : KS) (p1 : Int32) (hX : x_X2_delete κ p1 = 0) (hs : s_X2_delete κ p1) : Met l yL_delete wsL_delete ({ frames := 8, cells := 0, slots := 0, locals := 126 }) (va_Pc [.ref (h 0), .int p1] (pW (dC, dI) [(cI, .int)] (kW cI h κ) sz)) (va_Qi (fun (r : Int32) (u : KS) => r = (v_X2_delete κ p1).1 ∧ u = (v_X2_delete κ p1).2) (qW (dC, dI) (va_A (kW cI h κ) sz) (fun u => kW cI h u)) (va_A (kW cI h κ) sz)) 0 0 (va_A (kW cI h κ) sz) := by
  refine va_MetW (cc := cL_delete) (maxL := 3) (ret := (some .int)) (by decide) rfl ?_
  intro p e s m args below meth c s₁ B hml hv
  obtain ⟨rfl, hsz, hP, hK, hD0⟩ := hv
  have hx := B.exec
  have hb := B.bytes
  have hr := B.returns
  have hts := atoms_spec (ws := wsL_delete) B.pre
  have hown : s.vm.findClass RL = some m.cls := findClass_of_methodNamed B.named
  have hlocks := B.notSynchronized
  subst hsz
  have hD := hD0.self (sz := s.heap.size)
  generalize hAe : va_A (kW cI h κ) s.heap.size = A at hD ⊢
  have hA : ∀ q : Nat, s.heap.size ≤ q → A q := fun q h => by rw [← hAe]; exact Or.inr h
  have hl := lv_entry ([.ref (h 0), .int p1]) (n := 3) (Nat.le_of_ble_eq_true rfl)
  rw [lg_entry_eq]
  generalize (lg_sl ([.ref (h 0), .int p1]) ++ List.replicate (3 - (lg_sl ([.ref (h 0), .int p1])).length) Slot.unset).toArray = ls at hl ⊢
  have hl : lv_has ls 3 [(0, .ref (h 0)), (1, .int p1)] := hl
  generalize hHe : s.heap = H at hP ⊢
  generalize hLe : ([] : List Loc) = locs
  have hS : va_S A s.heap H locs := by
    rw [← hLe, ← hHe]
    exact va_S.rf
  refine lv_aload_n hx hb dL_delete_0 rfl (lv_at hl 0 rfl) ?_
  refine lv_iload_n hx hb dL_delete_1 rfl (lv_at hl 1 rfl) ?_
  have hPc := hP.sub (ws' := kW cI h κ) [0, 1, 2, 3, 4, 5, 6, 7, 8, 9] rfl
  have hDc := hD.sub (ws' := kW cI h κ) [0, 1, 2, 3, 4, 5, 6, 7, 8, 9] (by decide) rfl
  refine rcI (W2 := fun u => kW cI h u) (va_runV (As := [.int p1]) (rest := []) ⟨hx, hb, hml, hown, hts⟩ (c_X2_delete l dC dI cI h H.size κ p1 hX hs) (cwV 1 hts gL_delete_X2_delete rfl rfl rfl (by decide +kernel) ⟨Nat.le_of_ble_eq_true rfl, Nat.le_of_ble_eq_true rfl⟩) (pW_V hPc hK hDc (ci := 2) (q0 := 0) rfl rfl) rfl rfl hl.1 rfl (lv_room (Nat.le_of_ble_eq_true rfl)) dL_delete_2 ⟨Nat.le_of_ble_eq_true rfl, Nat.le_of_ble_eq_true rfl⟩) hP hD hS hA [0, 1, 2, 3, 4, 5, 6, 7, 8, 9] [] [0, 1, 2, 3, 4, 5, 6, 7, 8, 9] rfl rfl (by decide) (fun _ => rfl) (fun r u H locs hw hP hD hS => ?_)
  exact rI (w := fun u => kW cI h u) u hx hb hr hlocks hP hD hS (Nat.le_of_ble_eq_true rfl) (Nat.le_of_ble_eq_true rfl) dL_delete_5 hw
set_option maxHeartbeats 1000000 in
set_option maxRecDepth 100000 in
theorem y_delete (l : Launch) (hlt : l.stackTraces = false) (dC : Nat → ClassId) (dI : Nat → Nat → Nat) (cI : ClassId) (h : Nat → Nat) (sz : Nat) (κ : KS) (p1 : Int32) (hX : x_X2_delete κ p1 = 2) (hs : s_X2_delete κ p1) : Met l yL_delete wsL_delete ({ frames := 8, cells := 1, slots := 6, locals := 126 }) (va_Pc [.ref (h 0), .int p1] (pL (dC, dI) [(cI, .int)] (kW cI h κ) sz)) (va_Qi (fun (r : Int32) (u : Unit) => r = -103) (qW (dC, dI) (va_A (kW cI h κ) sz) (fun _ => kW cI h κ)) (va_A (kW cI h κ) sz)) 1 6 (va_A (kW cI h κ) sz) := by
  refine va_MetW (cc := cL_delete) (maxL := 3) (ret := (some .int)) (by decide) rfl ?_
  intro p e s m args below meth c s₁ B hml hv
  obtain ⟨rfl, ⟨⟨hsz, hP, hK, hD0⟩, hZ⟩, hNc⟩ := hv
  have hx := B.exec
  have hb := B.bytes
  have hr := B.returns
  have hts := atoms_spec (ws := wsL_delete) B.pre
  have hown : s.vm.findClass RL = some m.cls := findClass_of_methodNamed B.named
  have hlocks := B.notSynchronized
  have htab : c.exceptionTable.toList = tableOf [(0, 5, 6, 15), (0, 5, 10, 17)] := vx_table (x := yL_delete) B (hts _ List.mem_cons_self)
  subst hsz
  have hD := hD0.self (sz := s.heap.size)
  generalize hAe : va_A (kW cI h κ) s.heap.size = A at hD hZ ⊢
  have hA : ∀ q : Nat, s.heap.size ≤ q → A q := fun q h => by rw [← hAe]; exact Or.inr h
  have hl := lv_entry ([.ref (h 0), .int p1]) (n := 3) (Nat.le_of_ble_eq_true rfl)
  rw [lg_entry_eq]
  generalize (lg_sl ([.ref (h 0), .int p1]) ++ List.replicate (3 - (lg_sl ([.ref (h 0), .int p1])).length) Slot.unset).toArray = ls at hl ⊢
  have hl : lv_has ls 3 [(0, .ref (h 0)), (1, .int p1)] := hl
  generalize hHe : s.heap = H at hP ⊢
  generalize hLe : ([] : List Loc) = locs
  have hS : va_S A s.heap H locs := by
    rw [← hLe, ← hHe]
    exact va_S.rf
  refine lv_aload_n hx hb dL_delete_0 rfl (lv_at hl 0 rfl) ?_
  refine lv_iload_n hx hb dL_delete_1 rfl (lv_at hl 1 rfl) ?_
  have hPc := hP.sub (ws' := kW cI h κ) [0, 1, 2, 3, 4, 5, 6, 7, 8, 9] rfl
  have hDc := hD.sub (ws' := kW cI h κ) [0, 1, 2, 3, 4, 5, 6, 7, 8, 9] (by decide) rfl
  have hFc := va_free (wc := kW cI h κ) hD hS hA [0, 1, 2, 3, 4, 5, 6, 7, 8, 9] rfl
  refine rxC (vx_runV (As := [.int p1]) (rest := []) ⟨hx, hb, hml, hown, hts⟩ (b_X2_delete l hlt dC dI cI h H.size κ p1 (by rw [hX]; decide) hs) (cwV 1 hts gL_delete_X2_delete rfl rfl rfl (by decide +kernel) ⟨Nat.le_of_ble_eq_true rfl, Nat.le_of_ble_eq_true rfl⟩) (pX_V hPc hK hDc hZ hS hFc (ci := 2) (q0 := 0) rfl rfl) rfl rfl hl.1 rfl (lv_room (Nat.le_of_ble_eq_true rfl)) dL_delete_2 ⟨Nat.le_of_ble_eq_true rfl, Nat.le_of_ble_eq_true rfl⟩) hP hD hS hA [0, 1, 2, 3, 4, 5, 6, 7, 8, 9] [] [0, 1, 2, 3, 4, 5, 6, 7, 8, 9] rfl rfl (by decide) rfl (fun E ce q9 H locs hk hP hS hce hcv hcl => ?_)
  rcases hk with ⟨hk, rfl⟩ | ⟨hk, rfl⟩
  · exact absurd (hX.symm.trans hk) (by decide)
  · refine vx_catch (own := RL) (name := "java/lang/IllegalStateException") hown [(⟨0, 5, 6, 15⟩ : ExceptionTableEntry)] (⟨0, 5, 10, 17⟩ : ExceptionTableEntry) [] (by rw [htab]; rfl) (fun z hz => by cases hz with | head => exact Or.inr ⟨by decide, "java/lang/IllegalArgumentException", hts (.classLink RL 15 "java/lang/IllegalArgumentException") (by decide +kernel), hNc⟩ | tail _ h9 => cases h9) (by decide) (by decide) (hts (.classLink RL 17 "java/lang/IllegalStateException") (by decide +kernel)) (zN.use hZ.2.2.2 _ (by decide +kernel)) hce hcv hcl ?_
    refine lv_astore_n (lv' := [(2, .ref q9), (0, .ref (h 0)), (1, .int p1)]) hx hb dL_delete_10 rfl hl (by decide) rfl (fun ls hl => ?_)
    refine lv_bipush (v := (-103)) hx hb dL_delete_11 (by decide) ?_
    exact rI (w := fun _ => kW cI h κ) () hx hb hr hlocks hP hD hS (Nat.le_of_ble_eq_true rfl) (Nat.le_of_ble_eq_true rfl) dL_delete_13 rfl
set_option maxHeartbeats 1000000 in
set_option maxRecDepth 100000 in
theorem w_get (l : Launch) (dC : Nat → ClassId) (dI : Nat → Nat → Nat) (cI : ClassId) (h : Nat → Nat) (sz : Nat) (κ : KS) (p1 : Int32) (hX : x_X2_get κ p1 = 0) (hs : s_X2_get κ p1) : Met l yL_get wsL_get ({ frames := 8, cells := 0, slots := 0, locals := 123 }) (va_Pc [.ref (h 0), .int p1] (pW (dC, dI) [(cI, .int)] (kW cI h κ) sz)) (va_Qi (fun (r : Int32) (u : Unit) => r = v_X2_get κ p1) (qW (dC, dI) (va_A (kW cI h κ) sz) (fun _ => kW cI h κ)) (va_A (kW cI h κ) sz)) 0 0 (va_A (kW cI h κ) sz) := by
  refine va_MetW (cc := cL_get) (maxL := 3) (ret := (some .int)) (by decide) rfl ?_
  intro p e s m args below meth c s₁ B hml hv
  obtain ⟨rfl, hsz, hP, hK, hD0⟩ := hv
  have hx := B.exec
  have hb := B.bytes
  have hr := B.returns
  have hts := atoms_spec (ws := wsL_get) B.pre
  have hown : s.vm.findClass RL = some m.cls := findClass_of_methodNamed B.named
  have hlocks := B.notSynchronized
  subst hsz
  have hD := hD0.self (sz := s.heap.size)
  generalize hAe : va_A (kW cI h κ) s.heap.size = A at hD ⊢
  have hA : ∀ q : Nat, s.heap.size ≤ q → A q := fun q h => by rw [← hAe]; exact Or.inr h
  have hl := lv_entry ([.ref (h 0), .int p1]) (n := 3) (Nat.le_of_ble_eq_true rfl)
  rw [lg_entry_eq]
  generalize (lg_sl ([.ref (h 0), .int p1]) ++ List.replicate (3 - (lg_sl ([.ref (h 0), .int p1])).length) Slot.unset).toArray = ls at hl ⊢
  have hl : lv_has ls 3 [(0, .ref (h 0)), (1, .int p1)] := hl
  generalize hHe : s.heap = H at hP ⊢
  generalize hLe : ([] : List Loc) = locs
  have hS : va_S A s.heap H locs := by
    rw [← hLe, ← hHe]
    exact va_S.rf
  refine lv_aload_n hx hb dL_get_0 rfl (lv_at hl 0 rfl) ?_
  refine lv_iload_n hx hb dL_get_1 rfl (lv_at hl 1 rfl) ?_
  have hPc := hP.sub (ws' := kW cI h κ) [0, 1, 2, 3, 4, 5, 6, 7, 8, 9] rfl
  have hDc := hD.sub (ws' := kW cI h κ) [0, 1, 2, 3, 4, 5, 6, 7, 8, 9] (by decide) rfl
  refine rcI (W2 := fun _ => kW cI h κ) (va_runV (As := [.int p1]) (rest := []) ⟨hx, hb, hml, hown, hts⟩ (c_X2_get l dC dI cI h H.size κ p1 hX hs) (cwV 1 hts gL_get_X2_get rfl rfl rfl (by decide +kernel) ⟨Nat.le_of_ble_eq_true rfl, Nat.le_of_ble_eq_true rfl⟩) (pW_V hPc hK hDc (ci := 2) (q0 := 0) rfl rfl) rfl rfl hl.1 rfl (lv_room (Nat.le_of_ble_eq_true rfl)) dL_get_2 ⟨Nat.le_of_ble_eq_true rfl, Nat.le_of_ble_eq_true rfl⟩) hP hD hS hA [0, 1, 2, 3, 4, 5, 6, 7, 8, 9] [] [0, 1, 2, 3, 4, 5, 6, 7, 8, 9] rfl rfl (by decide) (fun _ => rfl) (fun r u H locs hw hP hD hS => ?_)
  exact rI (w := fun _ => kW cI h κ) () hx hb hr hlocks hP hD hS (Nat.le_of_ble_eq_true rfl) (Nat.le_of_ble_eq_true rfl) dL_get_5 hw
set_option maxHeartbeats 1000000 in
set_option maxRecDepth 100000 in
theorem y_get (l : Launch) (hlt : l.stackTraces = false) (dC : Nat → ClassId) (dI : Nat → Nat → Nat) (cI : ClassId) (h : Nat → Nat) (sz : Nat) (κ : KS) (p1 : Int32) (hX : x_X2_get κ p1 = 2) (hs : s_X2_get κ p1) : Met l yL_get wsL_get ({ frames := 8, cells := 1, slots := 6, locals := 123 }) (va_Pc [.ref (h 0), .int p1] (pL (dC, dI) [(cI, .int)] (kW cI h κ) sz)) (va_Qi (fun (r : Int32) (u : Unit) => r = -103) (qW (dC, dI) (va_A (kW cI h κ) sz) (fun _ => kW cI h κ)) (va_A (kW cI h κ) sz)) 1 6 (va_A (kW cI h κ) sz) := by
  refine va_MetW (cc := cL_get) (maxL := 3) (ret := (some .int)) (by decide) rfl ?_
  intro p e s m args below meth c s₁ B hml hv
  obtain ⟨rfl, ⟨⟨hsz, hP, hK, hD0⟩, hZ⟩, hNc⟩ := hv
  have hx := B.exec
  have hb := B.bytes
  have hr := B.returns
  have hts := atoms_spec (ws := wsL_get) B.pre
  have hown : s.vm.findClass RL = some m.cls := findClass_of_methodNamed B.named
  have hlocks := B.notSynchronized
  have htab : c.exceptionTable.toList = tableOf [(0, 5, 6, 15), (0, 5, 10, 17)] := vx_table (x := yL_get) B (hts _ List.mem_cons_self)
  subst hsz
  have hD := hD0.self (sz := s.heap.size)
  generalize hAe : va_A (kW cI h κ) s.heap.size = A at hD hZ ⊢
  have hA : ∀ q : Nat, s.heap.size ≤ q → A q := fun q h => by rw [← hAe]; exact Or.inr h
  have hl := lv_entry ([.ref (h 0), .int p1]) (n := 3) (Nat.le_of_ble_eq_true rfl)
  rw [lg_entry_eq]
  generalize (lg_sl ([.ref (h 0), .int p1]) ++ List.replicate (3 - (lg_sl ([.ref (h 0), .int p1])).length) Slot.unset).toArray = ls at hl ⊢
  have hl : lv_has ls 3 [(0, .ref (h 0)), (1, .int p1)] := hl
  generalize hHe : s.heap = H at hP ⊢
  generalize hLe : ([] : List Loc) = locs
  have hS : va_S A s.heap H locs := by
    rw [← hLe, ← hHe]
    exact va_S.rf
  refine lv_aload_n hx hb dL_get_0 rfl (lv_at hl 0 rfl) ?_
  refine lv_iload_n hx hb dL_get_1 rfl (lv_at hl 1 rfl) ?_
  have hPc := hP.sub (ws' := kW cI h κ) [0, 1, 2, 3, 4, 5, 6, 7, 8, 9] rfl
  have hDc := hD.sub (ws' := kW cI h κ) [0, 1, 2, 3, 4, 5, 6, 7, 8, 9] (by decide) rfl
  have hFc := va_free (wc := kW cI h κ) hD hS hA [0, 1, 2, 3, 4, 5, 6, 7, 8, 9] rfl
  refine rxC (vx_runV (As := [.int p1]) (rest := []) ⟨hx, hb, hml, hown, hts⟩ (b_X2_get l hlt dC dI cI h H.size κ p1 (by rw [hX]; decide) hs) (cwV 1 hts gL_get_X2_get rfl rfl rfl (by decide +kernel) ⟨Nat.le_of_ble_eq_true rfl, Nat.le_of_ble_eq_true rfl⟩) (pX_V hPc hK hDc hZ hS hFc (ci := 2) (q0 := 0) rfl rfl) rfl rfl hl.1 rfl (lv_room (Nat.le_of_ble_eq_true rfl)) dL_get_2 ⟨Nat.le_of_ble_eq_true rfl, Nat.le_of_ble_eq_true rfl⟩) hP hD hS hA [0, 1, 2, 3, 4, 5, 6, 7, 8, 9] [] [0, 1, 2, 3, 4, 5, 6, 7, 8, 9] rfl rfl (by decide) rfl (fun E ce q9 H locs hk hP hS hce hcv hcl => ?_)
  rcases hk with ⟨hk, rfl⟩ | ⟨hk, rfl⟩
  · exact absurd (hX.symm.trans hk) (by decide)
  · refine vx_catch (own := RL) (name := "java/lang/IllegalStateException") hown [(⟨0, 5, 6, 15⟩ : ExceptionTableEntry)] (⟨0, 5, 10, 17⟩ : ExceptionTableEntry) [] (by rw [htab]; rfl) (fun z hz => by cases hz with | head => exact Or.inr ⟨by decide, "java/lang/IllegalArgumentException", hts (.classLink RL 15 "java/lang/IllegalArgumentException") (by decide +kernel), hNc⟩ | tail _ h9 => cases h9) (by decide) (by decide) (hts (.classLink RL 17 "java/lang/IllegalStateException") (by decide +kernel)) (zN.use hZ.2.2.2 _ (by decide +kernel)) hce hcv hcl ?_
    refine lv_astore_n (lv' := [(2, .ref q9), (0, .ref (h 0)), (1, .int p1)]) hx hb dL_get_10 rfl hl (by decide) rfl (fun ls hl => ?_)
    refine lv_bipush (v := (-103)) hx hb dL_get_11 (by decide) ?_
    exact rI (w := fun _ => kW cI h κ) () hx hb hr hlocks hP hD hS (Nat.le_of_ble_eq_true rfl) (Nat.le_of_ble_eq_true rfl) dL_get_13 rfl
set_option maxHeartbeats 1000000 in
set_option maxRecDepth 100000 in
theorem w_next (l : Launch) (dC : Nat → ClassId) (dI : Nat → Nat → Nat) (cI : ClassId) (h : Nat → Nat) (sz : Nat) (κ : KS) (p1 : Int32) (hX : x_X2_next κ p1 = 0) (hs : s_X2_next κ p1) : Met l yL_next wsL_next ({ frames := 8, cells := 0, slots := 0, locals := 124 }) (va_Pc [.ref (h 0), .int p1] (pW (dC, dI) [(cI, .int)] (kW cI h κ) sz)) (va_Qi (fun (r : Int32) (u : Unit) => r = v_X2_next κ p1) (qW (dC, dI) (va_A (kW cI h κ) sz) (fun _ => kW cI h κ)) (va_A (kW cI h κ) sz)) 0 0 (va_A (kW cI h κ) sz) := by
  refine va_MetW (cc := cL_next) (maxL := 3) (ret := (some .int)) (by decide) rfl ?_
  intro p e s m args below meth c s₁ B hml hv
  obtain ⟨rfl, hsz, hP, hK, hD0⟩ := hv
  have hx := B.exec
  have hb := B.bytes
  have hr := B.returns
  have hts := atoms_spec (ws := wsL_next) B.pre
  have hown : s.vm.findClass RL = some m.cls := findClass_of_methodNamed B.named
  have hlocks := B.notSynchronized
  subst hsz
  have hD := hD0.self (sz := s.heap.size)
  generalize hAe : va_A (kW cI h κ) s.heap.size = A at hD ⊢
  have hA : ∀ q : Nat, s.heap.size ≤ q → A q := fun q h => by rw [← hAe]; exact Or.inr h
  have hl := lv_entry ([.ref (h 0), .int p1]) (n := 3) (Nat.le_of_ble_eq_true rfl)
  rw [lg_entry_eq]
  generalize (lg_sl ([.ref (h 0), .int p1]) ++ List.replicate (3 - (lg_sl ([.ref (h 0), .int p1])).length) Slot.unset).toArray = ls at hl ⊢
  have hl : lv_has ls 3 [(0, .ref (h 0)), (1, .int p1)] := hl
  generalize hHe : s.heap = H at hP ⊢
  generalize hLe : ([] : List Loc) = locs
  have hS : va_S A s.heap H locs := by
    rw [← hLe, ← hHe]
    exact va_S.rf
  refine lv_aload_n hx hb dL_next_0 rfl (lv_at hl 0 rfl) ?_
  refine lv_iload_n hx hb dL_next_1 rfl (lv_at hl 1 rfl) ?_
  have hPc := hP.sub (ws' := kW cI h κ) [0, 1, 2, 3, 4, 5, 6, 7, 8, 9] rfl
  have hDc := hD.sub (ws' := kW cI h κ) [0, 1, 2, 3, 4, 5, 6, 7, 8, 9] (by decide) rfl
  refine rcI (W2 := fun _ => kW cI h κ) (va_runV (As := [.int p1]) (rest := []) ⟨hx, hb, hml, hown, hts⟩ (c_X2_next l dC dI cI h H.size κ p1 hX hs) (cwV 1 hts gL_next_X2_next rfl rfl rfl (by decide +kernel) ⟨Nat.le_of_ble_eq_true rfl, Nat.le_of_ble_eq_true rfl⟩) (pW_V hPc hK hDc (ci := 2) (q0 := 0) rfl rfl) rfl rfl hl.1 rfl (lv_room (Nat.le_of_ble_eq_true rfl)) dL_next_2 ⟨Nat.le_of_ble_eq_true rfl, Nat.le_of_ble_eq_true rfl⟩) hP hD hS hA [0, 1, 2, 3, 4, 5, 6, 7, 8, 9] [] [0, 1, 2, 3, 4, 5, 6, 7, 8, 9] rfl rfl (by decide) (fun _ => rfl) (fun r u H locs hw hP hD hS => ?_)
  exact rI (w := fun _ => kW cI h κ) () hx hb hr hlocks hP hD hS (Nat.le_of_ble_eq_true rfl) (Nat.le_of_ble_eq_true rfl) dL_next_5 hw
set_option maxHeartbeats 1000000 in
set_option maxRecDepth 100000 in
theorem w_sum (l : Launch) (dC : Nat → ClassId) (dI : Nat → Nat → Nat) (cI : ClassId) (h : Nat → Nat) (sz : Nat) (κ : KS) (p1 : Int32) (p2 : Int32) (hX : x_X2_sum κ p1 p2 = 0) (hs : s_X2_sum κ p1 p2) : Met l yL_sum wsL_sum ({ frames := 9, cells := 0, slots := 0, locals := 147 }) (va_Pc [.ref (h 0), .int p1, .int p2] (pW (dC, dI) [(cI, .int)] (kW cI h κ) sz)) (va_Qi (fun (r : Int32) (u : Unit) => r = v_X2_sum κ p1 p2) (qW (dC, dI) (va_A (kW cI h κ) sz) (fun _ => kW cI h κ)) (va_A (kW cI h κ) sz)) 0 0 (va_A (kW cI h κ) sz) := by
  refine va_MetW (cc := cL_sum) (maxL := 4) (ret := (some .int)) (by decide) rfl ?_
  intro p e s m args below meth c s₁ B hml hv
  obtain ⟨rfl, hsz, hP, hK, hD0⟩ := hv
  have hx := B.exec
  have hb := B.bytes
  have hr := B.returns
  have hts := atoms_spec (ws := wsL_sum) B.pre
  have hown : s.vm.findClass RL = some m.cls := findClass_of_methodNamed B.named
  have hlocks := B.notSynchronized
  subst hsz
  have hD := hD0.self (sz := s.heap.size)
  generalize hAe : va_A (kW cI h κ) s.heap.size = A at hD ⊢
  have hA : ∀ q : Nat, s.heap.size ≤ q → A q := fun q h => by rw [← hAe]; exact Or.inr h
  have hl := lv_entry ([.ref (h 0), .int p1, .int p2]) (n := 4) (Nat.le_of_ble_eq_true rfl)
  rw [lg_entry_eq]
  generalize (lg_sl ([.ref (h 0), .int p1, .int p2]) ++ List.replicate (4 - (lg_sl ([.ref (h 0), .int p1, .int p2])).length) Slot.unset).toArray = ls at hl ⊢
  have hl : lv_has ls 4 [(0, .ref (h 0)), (1, .int p1), (2, .int p2)] := hl
  generalize hHe : s.heap = H at hP ⊢
  generalize hLe : ([] : List Loc) = locs
  have hS : va_S A s.heap H locs := by
    rw [← hLe, ← hHe]
    exact va_S.rf
  refine lv_aload_n hx hb dL_sum_0 rfl (lv_at hl 0 rfl) ?_
  refine lv_iload_n hx hb dL_sum_1 rfl (lv_at hl 1 rfl) ?_
  refine lv_iload_n hx hb dL_sum_2 rfl (lv_at hl 2 rfl) ?_
  have hPc := hP.sub (ws' := kW cI h κ) [0, 1, 2, 3, 4, 5, 6, 7, 8, 9] rfl
  have hDc := hD.sub (ws' := kW cI h κ) [0, 1, 2, 3, 4, 5, 6, 7, 8, 9] (by decide) rfl
  refine rcI (W2 := fun _ => kW cI h κ) (va_runV (As := [.int p1, .int p2]) (rest := []) ⟨hx, hb, hml, hown, hts⟩ (c_X2_sum l dC dI cI h H.size κ p1 p2 hX hs) (cwV 2 hts gL_sum_X2_sum rfl rfl rfl (by decide +kernel) ⟨Nat.le_of_ble_eq_true rfl, Nat.le_of_ble_eq_true rfl⟩) (pW_V hPc hK hDc (ci := 2) (q0 := 0) rfl rfl) rfl rfl hl.1 rfl (lv_room (Nat.le_of_ble_eq_true rfl)) dL_sum_3 ⟨Nat.le_of_ble_eq_true rfl, Nat.le_of_ble_eq_true rfl⟩) hP hD hS hA [0, 1, 2, 3, 4, 5, 6, 7, 8, 9] [] [0, 1, 2, 3, 4, 5, 6, 7, 8, 9] rfl rfl (by decide) (fun _ => rfl) (fun r u H locs hw hP hD hS => ?_)
  exact rI (w := fun _ => kW cI h κ) () hx hb hr hlocks hP hD hS (Nat.le_of_ble_eq_true rfl) (Nat.le_of_ble_eq_true rfl) dL_sum_6 hw
set_option maxHeartbeats 1000000 in
set_option maxRecDepth 100000 in
theorem w_fetches (l : Launch) (dC : Nat → ClassId) (dI : Nat → Nat → Nat) (cI : ClassId) (h : Nat → Nat) (sz : Nat) (κ : KS) (p1 : Int32) (p2 : Int32) (hX : x_X2_fetches κ p1 p2 = 0) (hs : s_X2_fetches κ p1 p2) : Met l yL_fetches wsL_fetches ({ frames := 9, cells := 0, slots := 0, locals := 148 }) (va_Pc [.ref (h 0), .int p1, .int p2] (pW (dC, dI) [(cI, .int)] (kW cI h κ) sz)) (va_Qi (fun (r : Int32) (u : Unit) => r = v_X2_fetches κ p1 p2) (qW (dC, dI) (va_A (kW cI h κ) sz) (fun _ => kW cI h κ)) (va_A (kW cI h κ) sz)) 0 0 (va_A (kW cI h κ) sz) := by
  refine va_MetW (cc := cL_fetches) (maxL := 4) (ret := (some .int)) (by decide) rfl ?_
  intro p e s m args below meth c s₁ B hml hv
  obtain ⟨rfl, hsz, hP, hK, hD0⟩ := hv
  have hx := B.exec
  have hb := B.bytes
  have hr := B.returns
  have hts := atoms_spec (ws := wsL_fetches) B.pre
  have hown : s.vm.findClass RL = some m.cls := findClass_of_methodNamed B.named
  have hlocks := B.notSynchronized
  subst hsz
  have hD := hD0.self (sz := s.heap.size)
  generalize hAe : va_A (kW cI h κ) s.heap.size = A at hD ⊢
  have hA : ∀ q : Nat, s.heap.size ≤ q → A q := fun q h => by rw [← hAe]; exact Or.inr h
  have hl := lv_entry ([.ref (h 0), .int p1, .int p2]) (n := 4) (Nat.le_of_ble_eq_true rfl)
  rw [lg_entry_eq]
  generalize (lg_sl ([.ref (h 0), .int p1, .int p2]) ++ List.replicate (4 - (lg_sl ([.ref (h 0), .int p1, .int p2])).length) Slot.unset).toArray = ls at hl ⊢
  have hl : lv_has ls 4 [(0, .ref (h 0)), (1, .int p1), (2, .int p2)] := hl
  generalize hHe : s.heap = H at hP ⊢
  generalize hLe : ([] : List Loc) = locs
  have hS : va_S A s.heap H locs := by
    rw [← hLe, ← hHe]
    exact va_S.rf
  refine lv_aload_n hx hb dL_fetches_0 rfl (lv_at hl 0 rfl) ?_
  refine lv_iload_n hx hb dL_fetches_1 rfl (lv_at hl 1 rfl) ?_
  refine lv_iload_n hx hb dL_fetches_2 rfl (lv_at hl 2 rfl) ?_
  have hPc := hP.sub (ws' := kW cI h κ) [0, 1, 2, 3, 4, 5, 6, 7, 8, 9] rfl
  have hDc := hD.sub (ws' := kW cI h κ) [0, 1, 2, 3, 4, 5, 6, 7, 8, 9] (by decide) rfl
  refine rcI (W2 := fun _ => kW cI h κ) (va_runV (As := [.int p1, .int p2]) (rest := []) ⟨hx, hb, hml, hown, hts⟩ (c_X2_fetches l dC dI cI h H.size κ p1 p2 hX hs) (cwV 2 hts gL_fetches_X2_fetches rfl rfl rfl (by decide +kernel) ⟨Nat.le_of_ble_eq_true rfl, Nat.le_of_ble_eq_true rfl⟩) (pW_V hPc hK hDc (ci := 2) (q0 := 0) rfl rfl) rfl rfl hl.1 rfl (lv_room (Nat.le_of_ble_eq_true rfl)) dL_fetches_3 ⟨Nat.le_of_ble_eq_true rfl, Nat.le_of_ble_eq_true rfl⟩) hP hD hS hA [0, 1, 2, 3, 4, 5, 6, 7, 8, 9] [] [0, 1, 2, 3, 4, 5, 6, 7, 8, 9] rfl rfl (by decide) (fun _ => rfl) (fun r u H locs hw hP hD hS => ?_)
  exact rI (w := fun _ => kW cI h κ) () hx hb hr hlocks hP hD hS (Nat.le_of_ble_eq_true rfl) (Nat.le_of_ble_eq_true rfl) dL_fetches_6 hw
set_option maxHeartbeats 1000000 in
set_option maxRecDepth 100000 in
theorem w_sync (l : Launch) (dC : Nat → ClassId) (dI : Nat → Nat → Nat) (cI : ClassId) (h : Nat → Nat) (sz : Nat) (κ : KS) (hX : x_X2_synchronize κ = 0) (hs : s_X2_synchronize κ) : Met l yL_sync wsL_sync ({ frames := 8, cells := 0, slots := 0, locals := 122 }) (va_Pc [.ref (h 0)] (pW (dC, dI) [(cI, .int)] (kW cI h κ) sz)) (va_Qi (fun (r : Int32) (u : KS) => r = (if (v_X2_synchronize κ).1 = 0 then 0 else 1) ∧ u = (v_X2_synchronize κ).2) (qW (dC, dI) (va_A (kW cI h κ) sz) (fun u => kW cI h u)) (va_A (kW cI h κ) sz)) 0 0 (va_A (kW cI h κ) sz) := by
  refine va_MetW (cc := cL_sync) (maxL := 2) (ret := (some .int)) (by decide) rfl ?_
  intro p e s m args below meth c s₁ B hml hv
  obtain ⟨rfl, hsz, hP, hK, hD0⟩ := hv
  have hx := B.exec
  have hb := B.bytes
  have hr := B.returns
  have hts := atoms_spec (ws := wsL_sync) B.pre
  have hown : s.vm.findClass RL = some m.cls := findClass_of_methodNamed B.named
  have hlocks := B.notSynchronized
  subst hsz
  have hD := hD0.self (sz := s.heap.size)
  generalize hAe : va_A (kW cI h κ) s.heap.size = A at hD ⊢
  have hA : ∀ q : Nat, s.heap.size ≤ q → A q := fun q h => by rw [← hAe]; exact Or.inr h
  have hl := lv_entry ([.ref (h 0)]) (n := 2) (Nat.le_of_ble_eq_true rfl)
  rw [lg_entry_eq]
  generalize (lg_sl ([.ref (h 0)]) ++ List.replicate (2 - (lg_sl ([.ref (h 0)])).length) Slot.unset).toArray = ls at hl ⊢
  have hl : lv_has ls 2 [(0, .ref (h 0))] := hl
  generalize hHe : s.heap = H at hP ⊢
  generalize hLe : ([] : List Loc) = locs
  have hS : va_S A s.heap H locs := by
    rw [← hLe, ← hHe]
    exact va_S.rf
  refine lv_aload_n hx hb dL_sync_0 rfl (lv_at hl 0 rfl) ?_
  have hPc := hP.sub (ws' := kW cI h κ) [0, 1, 2, 3, 4, 5, 6, 7, 8, 9] rfl
  have hDc := hD.sub (ws' := kW cI h κ) [0, 1, 2, 3, 4, 5, 6, 7, 8, 9] (by decide) rfl
  refine rcI (W2 := fun u => kW cI h u) (va_runV (As := []) (rest := []) ⟨hx, hb, hml, hown, hts⟩ (c_X2_synchronize l dC dI cI h H.size κ hX hs) (cwV 0 hts gL_sync_X2_synchronize rfl rfl rfl (by decide +kernel) ⟨Nat.le_of_ble_eq_true rfl, Nat.le_of_ble_eq_true rfl⟩) (pW_V hPc hK hDc (ci := 2) (q0 := 0) rfl rfl) rfl rfl hl.1 rfl (lv_room (Nat.le_of_ble_eq_true rfl)) dL_sync_1 ⟨Nat.le_of_ble_eq_true rfl, Nat.le_of_ble_eq_true rfl⟩) hP hD hS hA [0, 1, 2, 3, 4, 5, 6, 7, 8, 9] [] [0, 1, 2, 3, 4, 5, 6, 7, 8, 9] rfl rfl (by decide) (fun _ => rfl) (fun r u H locs hw hP hD hS => ?_)
  obtain ⟨hw, hw2, hz⟩ := hw
  refine lv_if_eq (tgt := 11) hx hb dL_sync_4 (by decide) (fun c_1 => ?_) (fun c_1 => ?_)
  · refine lv_iconst (v := 0) hx hb dL_sync_11 (by decide) ?_
    exact rI (w := fun u => kW cI h u) u hx hb hr hlocks hP hD hS (Nat.le_of_ble_eq_true rfl) (Nat.le_of_ble_eq_true rfl) dL_sync_12 ⟨(if_pos (hw ▸ c_1)).symm, hw2⟩
  · refine lv_iconst (v := 1) hx hb dL_sync_7 (by decide) ?_
    refine lv_goto (tgt := 12) hx hb dL_sync_8 (by decide) ?_
    exact rI (w := fun u => kW cI h u) u hx hb hr hlocks hP hD hS (Nat.le_of_ble_eq_true rfl) (Nat.le_of_ble_eq_true rfl) dL_sync_12 ⟨(if_neg (hw ▸ c_1)).symm, hw2⟩
set_option maxHeartbeats 1000000 in
set_option maxRecDepth 100000 in
theorem w_check (l : Launch) (dC : Nat → ClassId) (dI : Nat → Nat → Nat) (cI : ClassId) (h : Nat → Nat) (sz : Nat) (κ : KS) (hX : x_X2_checkpoint κ = 0) (hs : s_X2_checkpoint κ) : Met l yL_check wsL_check ({ frames := 8, cells := 0, slots := 0, locals := 122 }) (va_Pc [.ref (h 0)] (pW (dC, dI) [(cI, .int)] (kW cI h κ) sz)) (va_Qi (fun (r : Int32) (u : KS) => r = (if (v_X2_checkpoint κ).1 = 0 then 0 else 1) ∧ u = (v_X2_checkpoint κ).2) (qW (dC, dI) (va_A (kW cI h κ) sz) (fun u => kW cI h u)) (va_A (kW cI h κ) sz)) 0 0 (va_A (kW cI h κ) sz) := by
  refine va_MetW (cc := cL_check) (maxL := 2) (ret := (some .int)) (by decide) rfl ?_
  intro p e s m args below meth c s₁ B hml hv
  obtain ⟨rfl, hsz, hP, hK, hD0⟩ := hv
  have hx := B.exec
  have hb := B.bytes
  have hr := B.returns
  have hts := atoms_spec (ws := wsL_check) B.pre
  have hown : s.vm.findClass RL = some m.cls := findClass_of_methodNamed B.named
  have hlocks := B.notSynchronized
  subst hsz
  have hD := hD0.self (sz := s.heap.size)
  generalize hAe : va_A (kW cI h κ) s.heap.size = A at hD ⊢
  have hA : ∀ q : Nat, s.heap.size ≤ q → A q := fun q h => by rw [← hAe]; exact Or.inr h
  have hl := lv_entry ([.ref (h 0)]) (n := 2) (Nat.le_of_ble_eq_true rfl)
  rw [lg_entry_eq]
  generalize (lg_sl ([.ref (h 0)]) ++ List.replicate (2 - (lg_sl ([.ref (h 0)])).length) Slot.unset).toArray = ls at hl ⊢
  have hl : lv_has ls 2 [(0, .ref (h 0))] := hl
  generalize hHe : s.heap = H at hP ⊢
  generalize hLe : ([] : List Loc) = locs
  have hS : va_S A s.heap H locs := by
    rw [← hLe, ← hHe]
    exact va_S.rf
  refine lv_aload_n hx hb dL_check_0 rfl (lv_at hl 0 rfl) ?_
  have hPc := hP.sub (ws' := kW cI h κ) [0, 1, 2, 3, 4, 5, 6, 7, 8, 9] rfl
  have hDc := hD.sub (ws' := kW cI h κ) [0, 1, 2, 3, 4, 5, 6, 7, 8, 9] (by decide) rfl
  refine rcI (W2 := fun u => kW cI h u) (va_runV (As := []) (rest := []) ⟨hx, hb, hml, hown, hts⟩ (c_X2_checkpoint l dC dI cI h H.size κ hX hs) (cwV 0 hts gL_check_X2_checkpoint rfl rfl rfl (by decide +kernel) ⟨Nat.le_of_ble_eq_true rfl, Nat.le_of_ble_eq_true rfl⟩) (pW_V hPc hK hDc (ci := 2) (q0 := 0) rfl rfl) rfl rfl hl.1 rfl (lv_room (Nat.le_of_ble_eq_true rfl)) dL_check_1 ⟨Nat.le_of_ble_eq_true rfl, Nat.le_of_ble_eq_true rfl⟩) hP hD hS hA [0, 1, 2, 3, 4, 5, 6, 7, 8, 9] [] [0, 1, 2, 3, 4, 5, 6, 7, 8, 9] rfl rfl (by decide) (fun _ => rfl) (fun r u H locs hw hP hD hS => ?_)
  obtain ⟨hw, hw2, hz⟩ := hw
  refine lv_if_eq (tgt := 11) hx hb dL_check_4 (by decide) (fun c_1 => ?_) (fun c_1 => ?_)
  · refine lv_iconst (v := 0) hx hb dL_check_11 (by decide) ?_
    exact rI (w := fun u => kW cI h u) u hx hb hr hlocks hP hD hS (Nat.le_of_ble_eq_true rfl) (Nat.le_of_ble_eq_true rfl) dL_check_12 ⟨(if_pos (hw ▸ c_1)).symm, hw2⟩
  · refine lv_iconst (v := 1) hx hb dL_check_7 (by decide) ?_
    refine lv_goto (tgt := 12) hx hb dL_check_8 (by decide) ?_
    exact rI (w := fun u => kW cI h u) u hx hb hr hlocks hP hD hS (Nat.le_of_ble_eq_true rfl) (Nat.le_of_ble_eq_true rfl) dL_check_12 ⟨(if_neg (hw ▸ c_1)).symm, hw2⟩
set_option maxHeartbeats 1000000 in
set_option maxRecDepth 100000 in
theorem w_collect (l : Launch) (dC : Nat → ClassId) (dI : Nat → Nat → Nat) (cI : ClassId) (h : Nat → Nat) (sz : Nat) (κ : KS) (p1 : Int32) (hX : x_X2_collect κ p1 = 0) (hs : s_X2_collect κ p1) : Met l yL_collect wsL_collect ({ frames := 8, cells := 0, slots := 0, locals := 134 }) (va_Pc [.ref (h 0), .int p1] (pW (dC, dI) [(cI, .int)] (kW cI h κ) sz)) (va_Qi (fun (r : Int32) (u : KS) => r = (if (v_X2_collect κ p1).1 = 0 then 0 else 1) ∧ u = (v_X2_collect κ p1).2) (qW (dC, dI) (va_A (kW cI h κ) sz) (fun u => kW cI h u)) (va_A (kW cI h κ) sz)) 0 0 (va_A (kW cI h κ) sz) := by
  refine va_MetW (cc := cL_collect) (maxL := 3) (ret := (some .int)) (by decide) rfl ?_
  intro p e s m args below meth c s₁ B hml hv
  obtain ⟨rfl, hsz, hP, hK, hD0⟩ := hv
  have hx := B.exec
  have hb := B.bytes
  have hr := B.returns
  have hts := atoms_spec (ws := wsL_collect) B.pre
  have hown : s.vm.findClass RL = some m.cls := findClass_of_methodNamed B.named
  have hlocks := B.notSynchronized
  subst hsz
  have hD := hD0.self (sz := s.heap.size)
  generalize hAe : va_A (kW cI h κ) s.heap.size = A at hD ⊢
  have hA : ∀ q : Nat, s.heap.size ≤ q → A q := fun q h => by rw [← hAe]; exact Or.inr h
  have hl := lv_entry ([.ref (h 0), .int p1]) (n := 3) (Nat.le_of_ble_eq_true rfl)
  rw [lg_entry_eq]
  generalize (lg_sl ([.ref (h 0), .int p1]) ++ List.replicate (3 - (lg_sl ([.ref (h 0), .int p1])).length) Slot.unset).toArray = ls at hl ⊢
  have hl : lv_has ls 3 [(0, .ref (h 0)), (1, .int p1)] := hl
  generalize hHe : s.heap = H at hP ⊢
  generalize hLe : ([] : List Loc) = locs
  have hS : va_S A s.heap H locs := by
    rw [← hLe, ← hHe]
    exact va_S.rf
  refine lv_aload_n hx hb dL_collect_0 rfl (lv_at hl 0 rfl) ?_
  refine lv_iload_n hx hb dL_collect_1 rfl (lv_at hl 1 rfl) ?_
  have hPc := hP.sub (ws' := kW cI h κ) [0, 1, 2, 3, 4, 5, 6, 7, 8, 9] rfl
  have hDc := hD.sub (ws' := kW cI h κ) [0, 1, 2, 3, 4, 5, 6, 7, 8, 9] (by decide) rfl
  refine rcI (W2 := fun u => kW cI h u) (va_runV (As := [.int p1]) (rest := []) ⟨hx, hb, hml, hown, hts⟩ (c_X2_collect l dC dI cI h H.size κ p1 hX hs) (cwV 1 hts gL_collect_X2_collect rfl rfl rfl (by decide +kernel) ⟨Nat.le_of_ble_eq_true rfl, Nat.le_of_ble_eq_true rfl⟩) (pW_V hPc hK hDc (ci := 2) (q0 := 0) rfl rfl) rfl rfl hl.1 rfl (lv_room (Nat.le_of_ble_eq_true rfl)) dL_collect_2 ⟨Nat.le_of_ble_eq_true rfl, Nat.le_of_ble_eq_true rfl⟩) hP hD hS hA [0, 1, 2, 3, 4, 5, 6, 7, 8, 9] [] [0, 1, 2, 3, 4, 5, 6, 7, 8, 9] rfl rfl (by decide) (fun _ => rfl) (fun r u H locs hw hP hD hS => ?_)
  obtain ⟨hw, hw2, hz⟩ := hw
  refine lv_if_eq (tgt := 12) hx hb dL_collect_5 (by decide) (fun c_1 => ?_) (fun c_1 => ?_)
  · refine lv_iconst (v := 0) hx hb dL_collect_12 (by decide) ?_
    exact rI (w := fun u => kW cI h u) u hx hb hr hlocks hP hD hS (Nat.le_of_ble_eq_true rfl) (Nat.le_of_ble_eq_true rfl) dL_collect_13 ⟨(if_pos (hw ▸ c_1)).symm, hw2⟩
  · refine lv_iconst (v := 1) hx hb dL_collect_8 (by decide) ?_
    refine lv_goto (tgt := 13) hx hb dL_collect_9 (by decide) ?_
    exact rI (w := fun u => kW cI h u) u hx hb hr hlocks hP hD hS (Nat.le_of_ble_eq_true rfl) (Nat.le_of_ble_eq_true rfl) dL_collect_13 ⟨(if_neg (hw ▸ c_1)).symm, hw2⟩
set_option maxHeartbeats 1000000 in
set_option maxRecDepth 100000 in
theorem y_collect (l : Launch) (hlt : l.stackTraces = false) (dC : Nat → ClassId) (dI : Nat → Nat → Nat) (cI : ClassId) (h : Nat → Nat) (sz : Nat) (κ : KS) (p1 : Int32) (hX : x_X2_collect κ p1 = 2) (hs : s_X2_collect κ p1) : Met l yL_collect wsL_collect ({ frames := 8, cells := 1, slots := 6, locals := 134 }) (va_Pc [.ref (h 0), .int p1] (pL (dC, dI) [(cI, .int)] (kW cI h κ) sz)) (va_Qi (fun (r : Int32) (u : Unit) => r = -103) (qW (dC, dI) (va_A (kW cI h κ) sz) (fun _ => kW cI h κ)) (va_A (kW cI h κ) sz)) 1 6 (va_A (kW cI h κ) sz) := by
  refine va_MetW (cc := cL_collect) (maxL := 3) (ret := (some .int)) (by decide) rfl ?_
  intro p e s m args below meth c s₁ B hml hv
  obtain ⟨rfl, ⟨⟨hsz, hP, hK, hD0⟩, hZ⟩, hNc⟩ := hv
  have hx := B.exec
  have hb := B.bytes
  have hr := B.returns
  have hts := atoms_spec (ws := wsL_collect) B.pre
  have hown : s.vm.findClass RL = some m.cls := findClass_of_methodNamed B.named
  have hlocks := B.notSynchronized
  have htab : c.exceptionTable.toList = tableOf [(0, 13, 14, 15), (0, 13, 18, 17)] := vx_table (x := yL_collect) B (hts _ List.mem_cons_self)
  subst hsz
  have hD := hD0.self (sz := s.heap.size)
  generalize hAe : va_A (kW cI h κ) s.heap.size = A at hD hZ ⊢
  have hA : ∀ q : Nat, s.heap.size ≤ q → A q := fun q h => by rw [← hAe]; exact Or.inr h
  have hl := lv_entry ([.ref (h 0), .int p1]) (n := 3) (Nat.le_of_ble_eq_true rfl)
  rw [lg_entry_eq]
  generalize (lg_sl ([.ref (h 0), .int p1]) ++ List.replicate (3 - (lg_sl ([.ref (h 0), .int p1])).length) Slot.unset).toArray = ls at hl ⊢
  have hl : lv_has ls 3 [(0, .ref (h 0)), (1, .int p1)] := hl
  generalize hHe : s.heap = H at hP ⊢
  generalize hLe : ([] : List Loc) = locs
  have hS : va_S A s.heap H locs := by
    rw [← hLe, ← hHe]
    exact va_S.rf
  refine lv_aload_n hx hb dL_collect_0 rfl (lv_at hl 0 rfl) ?_
  refine lv_iload_n hx hb dL_collect_1 rfl (lv_at hl 1 rfl) ?_
  have hPc := hP.sub (ws' := kW cI h κ) [0, 1, 2, 3, 4, 5, 6, 7, 8, 9] rfl
  have hDc := hD.sub (ws' := kW cI h κ) [0, 1, 2, 3, 4, 5, 6, 7, 8, 9] (by decide) rfl
  have hFc := va_free (wc := kW cI h κ) hD hS hA [0, 1, 2, 3, 4, 5, 6, 7, 8, 9] rfl
  refine rxC (vx_runV (As := [.int p1]) (rest := []) ⟨hx, hb, hml, hown, hts⟩ (b_X2_collect l hlt dC dI cI h H.size κ p1 (by rw [hX]; decide) hs) (cwV 1 hts gL_collect_X2_collect rfl rfl rfl (by decide +kernel) ⟨Nat.le_of_ble_eq_true rfl, Nat.le_of_ble_eq_true rfl⟩) (pX_V hPc hK hDc hZ hS hFc (ci := 2) (q0 := 0) rfl rfl) rfl rfl hl.1 rfl (lv_room (Nat.le_of_ble_eq_true rfl)) dL_collect_2 ⟨Nat.le_of_ble_eq_true rfl, Nat.le_of_ble_eq_true rfl⟩) hP hD hS hA [0, 1, 2, 3, 4, 5, 6, 7, 8, 9] [] [0, 1, 2, 3, 4, 5, 6, 7, 8, 9] rfl rfl (by decide) rfl (fun E ce q9 H locs hk hP hS hce hcv hcl => ?_)
  rcases hk with ⟨hk, rfl⟩ | ⟨hk, rfl⟩
  · exact absurd (hX.symm.trans hk) (by decide)
  · refine vx_catch (own := RL) (name := "java/lang/IllegalStateException") hown [(⟨0, 13, 14, 15⟩ : ExceptionTableEntry)] (⟨0, 13, 18, 17⟩ : ExceptionTableEntry) [] (by rw [htab]; rfl) (fun z hz => by cases hz with | head => exact Or.inr ⟨by decide, "java/lang/IllegalArgumentException", hts (.classLink RL 15 "java/lang/IllegalArgumentException") (by decide +kernel), hNc⟩ | tail _ h9 => cases h9) (by decide) (by decide) (hts (.classLink RL 17 "java/lang/IllegalStateException") (by decide +kernel)) (zN.use hZ.2.2.2 _ (by decide +kernel)) hce hcv hcl ?_
    refine lv_astore_n (lv' := [(2, .ref q9), (0, .ref (h 0)), (1, .int p1)]) hx hb dL_collect_18 rfl hl (by decide) rfl (fun ls hl => ?_)
    refine lv_bipush (v := (-103)) hx hb dL_collect_19 (by decide) ?_
    exact rI (w := fun _ => kW cI h κ) () hx hb hr hlocks hP hD hS (Nat.le_of_ble_eq_true rfl) (Nat.le_of_ble_eq_true rfl) dL_collect_21 rfl
set_option maxHeartbeats 1000000 in
set_option maxRecDepth 100000 in
theorem w_crash (l : Launch) (dC : Nat → ClassId) (dI : Nat → Nat → Nat) (cI : ClassId) (h : Nat → Nat) (sz : Nat) (κ : KS) (hX : x_X2_crash κ = 0) : Met l yL_crash wsL_crash ({ frames := 8, cells := 0, slots := 0, locals := 123 }) (va_Pc [.ref (h 0)] (pW (dC, dI) [(cI, .int)] (kW cI h κ) sz)) (va_Qi (fun (r : Int32) (u : KS) => r = (v_X2_crash κ).1 ∧ u = (v_X2_crash κ).2) (qW (dC, dI) (va_A (kW cI h κ) sz) (fun u => kW cI h u)) (va_A (kW cI h κ) sz)) 0 0 (va_A (kW cI h κ) sz) := by
  refine va_MetW (cc := cL_crash) (maxL := 2) (ret := (some .int)) (by decide) rfl ?_
  intro p e s m args below meth c s₁ B hml hv
  obtain ⟨rfl, hsz, hP, hK, hD0⟩ := hv
  have hx := B.exec
  have hb := B.bytes
  have hr := B.returns
  have hts := atoms_spec (ws := wsL_crash) B.pre
  have hown : s.vm.findClass RL = some m.cls := findClass_of_methodNamed B.named
  have hlocks := B.notSynchronized
  subst hsz
  have hD := hD0.self (sz := s.heap.size)
  generalize hAe : va_A (kW cI h κ) s.heap.size = A at hD ⊢
  have hA : ∀ q : Nat, s.heap.size ≤ q → A q := fun q h => by rw [← hAe]; exact Or.inr h
  have hl := lv_entry ([.ref (h 0)]) (n := 2) (Nat.le_of_ble_eq_true rfl)
  rw [lg_entry_eq]
  generalize (lg_sl ([.ref (h 0)]) ++ List.replicate (2 - (lg_sl ([.ref (h 0)])).length) Slot.unset).toArray = ls at hl ⊢
  have hl : lv_has ls 2 [(0, .ref (h 0))] := hl
  generalize hHe : s.heap = H at hP ⊢
  generalize hLe : ([] : List Loc) = locs
  have hS : va_S A s.heap H locs := by
    rw [← hLe, ← hHe]
    exact va_S.rf
  refine lv_aload_n hx hb dL_crash_0 rfl (lv_at hl 0 rfl) ?_
  have hPc := hP.sub (ws' := kW cI h κ) [0, 1, 2, 3, 4, 5, 6, 7, 8, 9] rfl
  have hDc := hD.sub (ws' := kW cI h κ) [0, 1, 2, 3, 4, 5, 6, 7, 8, 9] (by decide) rfl
  refine rcI (W2 := fun u => kW cI h u) (va_runV (As := []) (rest := []) ⟨hx, hb, hml, hown, hts⟩ (c_X2_crash l dC dI cI h H.size κ hX) (cwV 0 hts gL_crash_X2_crash rfl rfl rfl (by decide +kernel) ⟨Nat.le_of_ble_eq_true rfl, Nat.le_of_ble_eq_true rfl⟩) (pW_V hPc hK hDc (ci := 2) (q0 := 0) rfl rfl) rfl rfl hl.1 rfl (lv_room (Nat.le_of_ble_eq_true rfl)) dL_crash_1 ⟨Nat.le_of_ble_eq_true rfl, Nat.le_of_ble_eq_true rfl⟩) hP hD hS hA [0, 1, 2, 3, 4, 5, 6, 7, 8, 9] [] [0, 1, 2, 3, 4, 5, 6, 7, 8, 9] rfl rfl (by decide) (fun _ => rfl) (fun r u H locs hw hP hD hS => ?_)
  exact rI (w := fun u => kW cI h u) u hx hb hr hlocks hP hD hS (Nat.le_of_ble_eq_true rfl) (Nat.le_of_ble_eq_true rfl) dL_crash_4 hw
set_option maxHeartbeats 1000000 in
set_option maxRecDepth 100000 in
theorem w_start (l : Launch) (dC : Nat → ClassId) (dI : Nat → Nat → Nat) (cI : ClassId) (h : Nat → Nat) (sz : Nat) (κ : KS) (hX : x_X2_start κ = 0) (hs : s_X2_start κ) : Met l yL_start wsL_start ({ frames := 7, cells := 0, slots := 0, locals := 109 }) (va_Pc [.ref (h 0)] (pW (dC, dI) [(cI, .int)] (kW cI h κ) sz)) (va_Qi (fun (r : Int32) (u : KS) => r = (v_X2_start κ).1 ∧ u = (v_X2_start κ).2) (qW (dC, dI) (va_A (kW cI h κ) sz) (fun u => kW cI h u)) (va_A (kW cI h κ) sz)) 0 0 (va_A (kW cI h κ) sz) := by
  refine va_MetW (cc := cL_start) (maxL := 2) (ret := (some .int)) (by decide) rfl ?_
  intro p e s m args below meth c s₁ B hml hv
  obtain ⟨rfl, hsz, hP, hK, hD0⟩ := hv
  have hx := B.exec
  have hb := B.bytes
  have hr := B.returns
  have hts := atoms_spec (ws := wsL_start) B.pre
  have hown : s.vm.findClass RL = some m.cls := findClass_of_methodNamed B.named
  have hlocks := B.notSynchronized
  subst hsz
  have hD := hD0.self (sz := s.heap.size)
  generalize hAe : va_A (kW cI h κ) s.heap.size = A at hD ⊢
  have hA : ∀ q : Nat, s.heap.size ≤ q → A q := fun q h => by rw [← hAe]; exact Or.inr h
  have hl := lv_entry ([.ref (h 0)]) (n := 2) (Nat.le_of_ble_eq_true rfl)
  rw [lg_entry_eq]
  generalize (lg_sl ([.ref (h 0)]) ++ List.replicate (2 - (lg_sl ([.ref (h 0)])).length) Slot.unset).toArray = ls at hl ⊢
  have hl : lv_has ls 2 [(0, .ref (h 0))] := hl
  generalize hHe : s.heap = H at hP ⊢
  generalize hLe : ([] : List Loc) = locs
  have hS : va_S A s.heap H locs := by
    rw [← hLe, ← hHe]
    exact va_S.rf
  refine lv_aload_n hx hb dL_start_0 rfl (lv_at hl 0 rfl) ?_
  have hPc := hP.sub (ws' := kW cI h κ) [0, 1, 2, 3, 4, 5, 6, 7, 8, 9] rfl
  have hDc := hD.sub (ws' := kW cI h κ) [0, 1, 2, 3, 4, 5, 6, 7, 8, 9] (by decide) rfl
  refine rcI (W2 := fun u => kW cI h u) (va_runV (As := []) (rest := []) ⟨hx, hb, hml, hown, hts⟩ (c_X2_start l dC dI cI h H.size κ hX hs) (cwV 0 hts gL_start_X2_start rfl rfl rfl (by decide +kernel) ⟨Nat.le_of_ble_eq_true rfl, Nat.le_of_ble_eq_true rfl⟩) (pW_V hPc hK hDc (ci := 2) (q0 := 0) rfl rfl) rfl rfl hl.1 rfl (lv_room (Nat.le_of_ble_eq_true rfl)) dL_start_1 ⟨Nat.le_of_ble_eq_true rfl, Nat.le_of_ble_eq_true rfl⟩) hP hD hS hA [0, 1, 2, 3, 4, 5, 6, 7, 8, 9] [] [0, 1, 2, 3, 4, 5, 6, 7, 8, 9] rfl rfl (by decide) (fun _ => rfl) (fun r u H locs hw hP hD hS => ?_)
  exact rI (w := fun u => kW cI h u) u hx hb hr hlocks hP hD hS (Nat.le_of_ble_eq_true rfl) (Nat.le_of_ble_eq_true rfl) dL_start_4 hw
set_option maxHeartbeats 1000000 in
set_option maxRecDepth 100000 in
theorem w_position (l : Launch) (dC : Nat → ClassId) (dI : Nat → Nat → Nat) (cI : ClassId) (h : Nat → Nat) (sz : Nat) (κ : KS) (p1 : Int32) (hX : x_X2_positionOf κ p1 = 0) : Met l yL_position wsL_position ({ frames := 8, cells := 0, slots := 0, locals := 123 }) (va_Pc [.ref (h 0), .int p1] (pW (dC, dI) [(cI, .int)] (kW cI h κ) sz)) (va_Qi (fun (r : Int32) (u : Unit) => r = v_X2_positionOf κ p1) (qW (dC, dI) (va_A (kW cI h κ) sz) (fun _ => kW cI h κ)) (va_A (kW cI h κ) sz)) 0 0 (va_A (kW cI h κ) sz) := by
  refine va_MetW (cc := cL_position) (maxL := 3) (ret := (some .int)) (by decide) rfl ?_
  intro p e s m args below meth c s₁ B hml hv
  obtain ⟨rfl, hsz, hP, hK, hD0⟩ := hv
  have hx := B.exec
  have hb := B.bytes
  have hr := B.returns
  have hts := atoms_spec (ws := wsL_position) B.pre
  have hown : s.vm.findClass RL = some m.cls := findClass_of_methodNamed B.named
  have hlocks := B.notSynchronized
  subst hsz
  have hD := hD0.self (sz := s.heap.size)
  generalize hAe : va_A (kW cI h κ) s.heap.size = A at hD ⊢
  have hA : ∀ q : Nat, s.heap.size ≤ q → A q := fun q h => by rw [← hAe]; exact Or.inr h
  have hl := lv_entry ([.ref (h 0), .int p1]) (n := 3) (Nat.le_of_ble_eq_true rfl)
  rw [lg_entry_eq]
  generalize (lg_sl ([.ref (h 0), .int p1]) ++ List.replicate (3 - (lg_sl ([.ref (h 0), .int p1])).length) Slot.unset).toArray = ls at hl ⊢
  have hl : lv_has ls 3 [(0, .ref (h 0)), (1, .int p1)] := hl
  generalize hHe : s.heap = H at hP ⊢
  generalize hLe : ([] : List Loc) = locs
  have hS : va_S A s.heap H locs := by
    rw [← hLe, ← hHe]
    exact va_S.rf
  refine lv_aload_n hx hb dL_position_0 rfl (lv_at hl 0 rfl) ?_
  refine lv_iload_n hx hb dL_position_1 rfl (lv_at hl 1 rfl) ?_
  have hPc := hP.sub (ws' := kW cI h κ) [0, 1, 2, 3, 4, 5, 6, 7, 8, 9] rfl
  have hDc := hD.sub (ws' := kW cI h κ) [0, 1, 2, 3, 4, 5, 6, 7, 8, 9] (by decide) rfl
  refine rcI (W2 := fun _ => kW cI h κ) (va_runV (As := [.int p1]) (rest := []) ⟨hx, hb, hml, hown, hts⟩ (c_X2_positionOf l dC dI cI h H.size κ p1 hX) (cwV 1 hts gL_position_X2_positionOf rfl rfl rfl (by decide +kernel) ⟨Nat.le_of_ble_eq_true rfl, Nat.le_of_ble_eq_true rfl⟩) (pW_V hPc hK hDc (ci := 2) (q0 := 0) rfl rfl) rfl rfl hl.1 rfl (lv_room (Nat.le_of_ble_eq_true rfl)) dL_position_2 ⟨Nat.le_of_ble_eq_true rfl, Nat.le_of_ble_eq_true rfl⟩) hP hD hS hA [0, 1, 2, 3, 4, 5, 6, 7, 8, 9] [] [0, 1, 2, 3, 4, 5, 6, 7, 8, 9] rfl rfl (by decide) (fun _ => rfl) (fun r u H locs hw hP hD hS => ?_)
  exact rI (w := fun _ => kW cI h κ) () hx hb hr hlocks hP hD hS (Nat.le_of_ble_eq_true rfl) (Nat.le_of_ble_eq_true rfl) dL_position_5 hw
set_option maxHeartbeats 1000000 in
set_option maxRecDepth 100000 in
theorem w_live (l : Launch) (dC : Nat → ClassId) (dI : Nat → Nat → Nat) (cI : ClassId) (h : Nat → Nat) (sz : Nat) (κ : KS) (hX : x_X2_live κ = 0) (hs : s_X2_live κ) : Met l yL_live wsL_live ({ frames := 8, cells := 0, slots := 0, locals := 122 }) (va_Pc [.ref (h 0)] (pW (dC, dI) [(cI, .int)] (kW cI h κ) sz)) (va_Qi (fun (r : Int32) (u : Unit) => r = v_X2_live κ) (qW (dC, dI) (va_A (kW cI h κ) sz) (fun _ => kW cI h κ)) (va_A (kW cI h κ) sz)) 0 0 (va_A (kW cI h κ) sz) := by
  refine va_MetW (cc := cL_live) (maxL := 2) (ret := (some .int)) (by decide) rfl ?_
  intro p e s m args below meth c s₁ B hml hv
  obtain ⟨rfl, hsz, hP, hK, hD0⟩ := hv
  have hx := B.exec
  have hb := B.bytes
  have hr := B.returns
  have hts := atoms_spec (ws := wsL_live) B.pre
  have hown : s.vm.findClass RL = some m.cls := findClass_of_methodNamed B.named
  have hlocks := B.notSynchronized
  subst hsz
  have hD := hD0.self (sz := s.heap.size)
  generalize hAe : va_A (kW cI h κ) s.heap.size = A at hD ⊢
  have hA : ∀ q : Nat, s.heap.size ≤ q → A q := fun q h => by rw [← hAe]; exact Or.inr h
  have hl := lv_entry ([.ref (h 0)]) (n := 2) (Nat.le_of_ble_eq_true rfl)
  rw [lg_entry_eq]
  generalize (lg_sl ([.ref (h 0)]) ++ List.replicate (2 - (lg_sl ([.ref (h 0)])).length) Slot.unset).toArray = ls at hl ⊢
  have hl : lv_has ls 2 [(0, .ref (h 0))] := hl
  generalize hHe : s.heap = H at hP ⊢
  generalize hLe : ([] : List Loc) = locs
  have hS : va_S A s.heap H locs := by
    rw [← hLe, ← hHe]
    exact va_S.rf
  refine lv_aload_n hx hb dL_live_0 rfl (lv_at hl 0 rfl) ?_
  have hPc := hP.sub (ws' := kW cI h κ) [0, 1, 2, 3, 4, 5, 6, 7, 8, 9] rfl
  have hDc := hD.sub (ws' := kW cI h κ) [0, 1, 2, 3, 4, 5, 6, 7, 8, 9] (by decide) rfl
  refine rcI (W2 := fun _ => kW cI h κ) (va_runV (As := []) (rest := []) ⟨hx, hb, hml, hown, hts⟩ (c_X2_live l dC dI cI h H.size κ hX hs) (cwV 0 hts gL_live_X2_live rfl rfl rfl (by decide +kernel) ⟨Nat.le_of_ble_eq_true rfl, Nat.le_of_ble_eq_true rfl⟩) (pW_V hPc hK hDc (ci := 2) (q0 := 0) rfl rfl) rfl rfl hl.1 rfl (lv_room (Nat.le_of_ble_eq_true rfl)) dL_live_1 ⟨Nat.le_of_ble_eq_true rfl, Nat.le_of_ble_eq_true rfl⟩) hP hD hS hA [0, 1, 2, 3, 4, 5, 6, 7, 8, 9] [] [0, 1, 2, 3, 4, 5, 6, 7, 8, 9] rfl rfl (by decide) (fun _ => rfl) (fun r u H locs hw hP hD hS => ?_)
  exact rI (w := fun _ => kW cI h κ) () hx hb hr hlocks hP hD hS (Nat.le_of_ble_eq_true rfl) (Nat.le_of_ble_eq_true rfl) dL_live_4 hw
set_option maxHeartbeats 1000000 in
set_option maxRecDepth 100000 in
/-- an int of the script, or one made up behind its end: not below 0 -/
theorem c_cell (l : Launch) (dC : Nat → ClassId) (dI : Nat → Nat → Nat) (b L : Nat) (xs : Nat → Int32) (hL : L < 2 ^ 31) (k : Nat) (hk : k < 2 ^ 31) (sz : Nat) : Met l yL_cell wsL_cell ({ frames := 0, cells := 0, slots := 0, locals := 0 }) (va_Pc [.ref b, .int (nI k)] (pC b L xs sz)) (va_Qi (fun (r : Int32) (u : Unit) => ∃ j : Nat, j < 2 ^ 31 ∧ r = nI j) (qW (dC, dI) (va_A eW sz) (fun _ => eW)) (va_A eW sz)) 0 0 (va_A eW sz) := by
  refine Met.ofW (cc := cL_cell) (maxL := 2) (ret := (some .int)) (by decide) rfl ?_
  intro p e s m args below meth c s₁ B hml hv
  obtain ⟨rfl, hsz, hX, hbl⟩ := hv
  have hx := B.exec
  have hb := B.bytes
  have hr := B.returns
  have hts := atoms_spec (ws := wsL_cell) B.pre
  have hown : s.vm.findClass RL = some m.cls := findClass_of_methodNamed B.named
  have hlocks := B.notSynchronized
  subst hsz
  have hbA : ¬ va_A eW s.heap.size b := by
    rintro (⟨k, e, h⟩ | h)
    · simp [eW] at h
    · omega
  generalize va_A eW s.heap.size = A at hbA ⊢
  have hP : va_P (dC, dI) vwCl eW s.heap := fun k q h => by simp [eW] at h
  have hD : va_D A eW := ⟨fun i j p q h => by simp [eW] at h, fun k q h => by simp [eW] at h⟩
  have hl := lv_entry ([.ref b, .int (nI k)]) (n := 2) (Nat.le_of_ble_eq_true rfl)
  rw [lg_entry_eq]
  generalize (lg_sl ([.ref b, .int (nI k)]) ++ List.replicate (2 - (lg_sl ([.ref b, .int (nI k)])).length) Slot.unset).toArray = ls at hl ⊢
  have hl : lv_has ls 2 [(0, .ref b), (1, .int (nI k))] := hl
  have hS : va_S A s.heap s.heap [] := va_S.rf
  have K24 : ∀ x : Int32, W p l e (headSpec wsL_cell ({ frames := 0, cells := 0, slots := 0, locals := 0 })).room s m [.ref b, .int (nI k)].toArray below meth c s.heap [] 0 0 (MQ below (va_Qi (fun (r : Int32) (u : Unit) => ∃ j : Nat, j < 2 ^ 31 ∧ r = nI j) (qW (dC, dI) A (fun _ => eW)) A) [.ref b, .int (nI k)].toArray s 0 0 A) (F0 m 24 ls [.int x]) := by
    intro x
    refine lv_ldc (v := 2147483647) hx hb hown (hts _ (by decide +kernel)) dL_cell_24 ?_
    refine lv_iand hx hb dL_cell_26 ?_
    exact rI (w := fun _ => eW) () hx hb hr hlocks hP hD hS (Nat.le_of_ble_eq_true rfl) (Nat.le_of_ble_eq_true rfl) dL_cell_27 (and_max x)
  refine lv_iload_n hx hb dL_cell_0 rfl (lv_at hl 1 rfl) ?_
  refine lv_aload_n hx hb dL_cell_1 rfl (lv_at hl 0 rfl) ?_
  refine va_slen hx hb hX hbl hbA hS dL_cell_2 ?_
  refine lv_icmp_ge (tgt := 12) hx hb dL_cell_3 (by decide) (fun c_1 => ?_) (fun c_1 => ?_)
  · refine lv_ldc (v := 51001) hx hb hown (hts _ (by decide +kernel)) dL_cell_12 ?_
    refine lv_iload_n hx hb dL_cell_14 rfl (lv_at hl 1 rfl) ?_
    refine lv_sipush (v := 6833) hx hb dL_cell_15 (by decide) ?_
    refine lv_irem hx hb dL_cell_18 (by decide) ?_
    refine lv_imul hx hb dL_cell_19 ?_
    refine lv_sipush (v := 2203) hx hb dL_cell_20 (by decide) ?_
    refine lv_iadd hx hb dL_cell_23 ?_
    exact K24 _
  · refine lv_aload_n hx hb dL_cell_6 rfl (lv_at hl 0 rfl) ?_
    refine lv_iload_n hx hb dL_cell_7 rfl (lv_at hl 1 rfl) ?_
    refine va_sld hx hb hX hbl hbA hS (in_guard rfl hL (nI_pos hk) c_1) dL_cell_8 ?_
    refine lv_goto (tgt := 24) hx hb dL_cell_9 (by decide) ?_
    exact K24 _
