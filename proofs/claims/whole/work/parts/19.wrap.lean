theorem in01 : vp_in 0 1 := by
  rw [← nI_0]
  exact vp_in_nI (by decide) (by decide)
theorem uL0 (f : Nat → Int64) (x : Int64) : vp_updL f (0 : Int32).toNatClampNeg x 0 = x := if_pos (by decide)
/-- the class's ten cells and the law's row -/
def wL (cI cL : ClassId) (h : Nat → Nat) (o : Nat) (z : KS) (out : Nat → Int64) : va_W := kW cI h z ++ [(o, .inl (cL, 1, .inr (.inl out)))]
def zNc (U : State) : Prop := va_Nc "java/lang/IllegalStateException" "java/lang/IllegalArgumentException" U
def pL (D : va_G) (tys : List (ClassId × FieldType)) (ws : va_W) (sz : Nat) : State → Prop := fun U => pX D tys ws sz U ∧ zNc U
theorem pL_blind {D : va_G} {tys : List (ClassId × FieldType)} {ws : va_W} {sz : Nat} {av : List Value} : FrameBlind (va_Pc av (pL D tys ws sz)) := by
  intro a U g mk q
  obtain ⟨q0, q1, q2⟩ := q
  have h := (pX_blind (D := D) (tys := tys) (ws := ws) (sz := sz) (av := av)) a U g mk ⟨q0, q1⟩
  exact ⟨h.1, h.2, va_Nc.moved (u := U) (U := U.calling g mk a) (Vm.Alike.refl U.vm) q2⟩
theorem pL_S {D : va_G} {tys : List (ClassId × FieldType)} {wc : va_W} {s : State} {H : Heap} {locs : List Loc} {A B : Nat → Prop} {As : List Value} (hP : va_P D vwCl wc H) (hK : va_K D vwCl tys s) (hD : va_D B wc) (hZ : zZ A s) (hS : va_S A s.heap H locs) (hB : ∀ q, va_A wc H.size q → A q) (hN : zNc s) : PreS s H (va_Pc As (pL D tys wc H.size)) As :=
  ⟨pL_blind, fun U hU hW => ⟨rfl, ⟨(pW_at hP hK hD As U hU hW).2, zZ_at hZ hS hB U hU hW⟩, va_Nc.moved hW.alike hN⟩⟩
theorem up_x1 (κ : KS) : ¬ x_X2_needUp κ = 1 := by
  unfold x_X2_needUp
  split
  · decide
  · decide
theorem up1_of {κ : KS} {x : Nat} (h : x = if x_X2_needUp κ = 0 then 0 else x_X2_needUp κ) : ¬ x = 1 := by
  rw [h]
  split
  · decide
  · exact up_x1 κ
theorem x1_synchronize (κ : KS) : ¬ x_X2_synchronize κ = 1 := up1_of (x_X2_synchronize_e κ)
theorem x1_checkpoint (κ : KS) : ¬ x_X2_checkpoint κ = 1 := up1_of (x_X2_checkpoint_e κ)
theorem x1_crash (κ : KS) : ¬ x_X2_crash κ = 1 := up1_of (x_X2_crash_e κ)
theorem x1_live (κ : KS) : ¬ x_X2_live κ = 1 := up1_of (x_X2_live_e κ)
theorem x1_start (κ : KS) : ¬ x_X2_start κ = 1 := by
  rw [x_X2_start_e]
  split
  · decide
  · decide
theorem x2_failAfter (κ : KS) (p : Int32) : ¬ x_X2_failAfter κ p = 2 := by
  rw [x_X2_failAfter_e]
  split
  · decide
  · split
    · decide
    · split
      · decide
      · decide
theorem kc1_s {x : Nat} (h : x = 2) : (1 : Int32) = kc1 x := by rw [h]; rfl
theorem nI_s1 {x : Nat} (h : x = 1) : (1 : Int32) = nI x := by rw [h]; rfl
theorem nI_s2 {x : Nat} (h : x = 2) : (2 : Int32) = nI x := by rw [h]; rfl
set_option maxHeartbeats 1000000 in
set_option maxRecDepth 100000 in
theorem w_put (l : Launch) (hlt : l.stackTraces = false) (dC : Nat → ClassId) (dI : Nat → Nat → Nat) (cI : ClassId) (cL : ClassId) (h : Nat → Nat) (o : Nat) (sz : Nat) (κ : KS) (out : Nat → Int64) (p1 : Int32) (p2 : Int32) (hs : s_X2_put κ p1 p2) : Met l yL_put wsL_put ({ frames := 8, cells := 1, slots := 6, locals := 126 }) (va_Pc [.ref (h 0), .int p1, .int p2, .ref o] (pL (dC, dI) [(cI, .int), (cL, .long)] (wL cI cL h o κ out) sz)) (va_Qi (fun (r : Int32) (u : KS × (Nat → Int64)) => (x_X2_put κ p1 p2 = 0 → r = 0 ∧ u.1 = (v_X2_put κ p1 p2).2 ∧ u.2 0 = Int32.toInt64 (v_X2_put κ p1 p2).1) ∧ (¬ x_X2_put κ p1 p2 = 0 → r = nI (x_X2_put κ p1 p2) ∧ ¬ r = 0 ∧ u.1 = κ)) (qW (dC, dI) (va_A (wL cI cL h o κ out) sz) (fun (u : KS × (Nat → Int64)) => wL cI cL h o u.1 u.2)) (va_A (wL cI cL h o κ out) sz)) 1 6 (va_A (wL cI cL h o κ out) sz) := by
  refine va_MetW (cc := cL_put) (maxL := 5) (ret := (some .int)) (by decide) rfl ?_
  intro p e s m args below meth c s₁ B hml hv
  obtain ⟨rfl, ⟨⟨hsz, hP, hK, hD0⟩, hZ⟩, hNc⟩ := hv
  have hx := B.exec
  have hb := B.bytes
  have hr := B.returns
  have hts := atoms_spec (ws := wsL_put) B.pre
  have hown : s.vm.findClass RL = some m.cls := findClass_of_methodNamed B.named
  have hlocks := B.notSynchronized
  have htab : c.exceptionTable.toList = tableOf [(0, 10, 13, 13), (0, 10, 17, 15)] := vx_table (x := yL_put) B (hts _ List.mem_cons_self)
  subst hsz
  have hD := hD0.self (sz := s.heap.size)
  generalize hAe : va_A (wL cI cL h o κ out) s.heap.size = A at hD hZ ⊢
  have hA : ∀ q : Nat, s.heap.size ≤ q → A q := fun q h => by rw [← hAe]; exact Or.inr h
  have hl := lv_entry ([.ref (h 0), .int p1, .int p2, .ref o]) (n := 5) (Nat.le_of_ble_eq_true rfl)
  rw [lg_entry_eq]
  generalize (lg_sl ([.ref (h 0), .int p1, .int p2, .ref o]) ++ List.replicate (5 - (lg_sl ([.ref (h 0), .int p1, .int p2, .ref o])).length) Slot.unset).toArray = ls at hl ⊢
  have hl : lv_has ls 5 [(0, .ref (h 0)), (1, .int p1), (2, .int p2), (3, .ref o)] := hl
  generalize hHe : s.heap = H at hP ⊢
  generalize hLe : ([] : List Loc) = locs
  have hS : va_S A s.heap H locs := by
    rw [← hLe, ← hHe]
    exact va_S.rf
  refine lv_aload_n hx hb dL_put_0 rfl (lv_at hl 3 rfl) ?_
  refine lv_iconst (v := 0) hx hb dL_put_1 (by decide) ?_
  refine lv_aload_n hx hb dL_put_2 rfl (lv_at hl 0 rfl) ?_
  refine lv_iload_n hx hb dL_put_3 rfl (lv_at hl 1 rfl) ?_
  refine lv_iload_n hx hb dL_put_4 rfl (lv_at hl 2 rfl) ?_
  have hPc := hP.sub (ws' := kW cI h κ) [0, 1, 2, 3, 4, 5, 6, 7, 8, 9] rfl
  have hDc := hD.sub (ws' := kW cI h κ) [0, 1, 2, 3, 4, 5, 6, 7, 8, 9] (by decide) rfl
  have hKc := hK.sub (tys' := [(cI, .int)]) [0] rfl
  by_cases hX : x_X2_put κ p1 p2 = 0
  · refine rcI (W2 := fun u => wL cI cL h o u out) (va_runV (As := [.int p1, .int p2]) (rest := [.int 0, .ref o]) ⟨hx, hb, hml, hown, hts⟩ (c_X2_put l dC dI cI h H.size κ p1 p2 hX hs) (cwV 2 hts gL_put_X2_put rfl rfl rfl (by decide +kernel) ⟨Nat.le_of_ble_eq_true rfl, Nat.le_of_ble_eq_true rfl⟩) (pW_V hPc hKc hDc (ci := 2) (q0 := 0) rfl rfl) rfl rfl hl.1 rfl (lv_room (Nat.le_of_ble_eq_true rfl)) dL_put_5 ⟨Nat.le_of_ble_eq_true rfl, Nat.le_of_ble_eq_true rfl⟩) hP hD hS hA [0, 1, 2, 3, 4, 5, 6, 7, 8, 9] [10] [1, 2, 3, 4, 5, 6, 7, 8, 9, 10, 0] rfl rfl (by decide) (fun _ => rfl) (fun r u H locs hw hP hD hS => ?_)
    obtain ⟨hw, hw2⟩ := hw
    refine lv_i2l (v := Int32.toInt64 r) hx hb dL_put_8 rfl ?_
    refine va_last hx hb hK hP hD hS 10 1 rfl rfl in01 dL_put_9 (fun H locs hP hD hS => ?_)
    have hP : va_P (dC, dI) vwCl (wL cI cL h o u (vp_updL out (0 : Int32).toNatClampNeg (Int32.toInt64 r))) H := hP
    have hD : va_D A (wL cI cL h o u (vp_updL out (0 : Int32).toNatClampNeg (Int32.toInt64 r))) := hD
    refine lv_goto (tgt := 21) hx hb dL_put_10 (by decide) ?_
    refine lv_iconst (v := 0) hx hb dL_put_21 (by decide) ?_
    exact rI (w := fun (u : KS × (Nat → Int64)) => wL cI cL h o u.1 u.2) (u, (vp_updL out (0 : Int32).toNatClampNeg (Int32.toInt64 r))) hx hb hr hlocks hP hD hS (Nat.le_of_ble_eq_true rfl) (Nat.le_of_ble_eq_true rfl) dL_put_22 ⟨fun _ => ⟨rfl, hw2, (uL0 out ((Int32.toInt64 r))).trans (congrArg Int32.toInt64 hw)⟩, fun h9 => absurd hX h9⟩
  · have hFc := va_free (wc := kW cI h κ) hD hS hA [0, 1, 2, 3, 4, 5, 6, 7, 8, 9] rfl
    refine rxC (vx_runV (As := [.int p1, .int p2]) (rest := [.int 0, .ref o]) ⟨hx, hb, hml, hown, hts⟩ (b_X2_put l hlt dC dI cI h H.size κ p1 p2 hX hs) (cwV 2 hts gL_put_X2_put rfl rfl rfl (by decide +kernel) ⟨Nat.le_of_ble_eq_true rfl, Nat.le_of_ble_eq_true rfl⟩) (pX_V hPc hKc hDc hZ hS hFc (ci := 2) (q0 := 0) rfl rfl) rfl rfl hl.1 rfl (lv_room (Nat.le_of_ble_eq_true rfl)) dL_put_5 ⟨Nat.le_of_ble_eq_true rfl, Nat.le_of_ble_eq_true rfl⟩) hP hD hS hA [0, 1, 2, 3, 4, 5, 6, 7, 8, 9] [10] [1, 2, 3, 4, 5, 6, 7, 8, 9, 10, 0] rfl rfl (by decide) rfl (fun E ce q9 H locs hk hP hS hce hcv hcl => ?_)
    rcases hk with ⟨hk, rfl⟩ | ⟨hk, rfl⟩
    · refine vx_catch (own := RL) (name := "java/lang/IllegalArgumentException") hown [] (⟨0, 10, 13, 13⟩ : ExceptionTableEntry) [(⟨0, 10, 17, 15⟩ : ExceptionTableEntry)] (by rw [htab]; rfl) (fun z hz => by cases hz) (by decide) (by decide) (hts (.classLink RL 13 "java/lang/IllegalArgumentException") (by decide +kernel)) (zN.use hZ.2.2.2 _ (by decide +kernel)) hce hcv hcl ?_
      refine lv_astore (lv' := [(4, .ref q9), (0, .ref (h 0)), (1, .int p1), (2, .int p2), (3, .ref o)]) hx hb dL_put_13 hl (by decide) rfl (fun ls hl => ?_)
      refine lv_iconst (v := 1) hx hb dL_put_15 (by decide) ?_
      exact rI (w := fun (u : KS × (Nat → Int64)) => wL cI cL h o u.1 u.2) (κ, out) hx hb hr hlocks hP hD hS (Nat.le_of_ble_eq_true rfl) (Nat.le_of_ble_eq_true rfl) dL_put_16 ⟨fun h9 => absurd h9 hX, fun _ => ⟨nI_s1 hk, by decide, rfl⟩⟩
    · refine vx_catch (own := RL) (name := "java/lang/IllegalStateException") hown [(⟨0, 10, 13, 13⟩ : ExceptionTableEntry)] (⟨0, 10, 17, 15⟩ : ExceptionTableEntry) [] (by rw [htab]; rfl) (fun z hz => by cases hz with | head => exact Or.inr ⟨by decide, "java/lang/IllegalArgumentException", hts (.classLink RL 13 "java/lang/IllegalArgumentException") (by decide +kernel), hNc⟩ | tail _ h9 => cases h9) (by decide) (by decide) (hts (.classLink RL 15 "java/lang/IllegalStateException") (by decide +kernel)) (zN.use hZ.2.2.2 _ (by decide +kernel)) hce hcv hcl ?_
      refine lv_astore (lv' := [(4, .ref q9), (0, .ref (h 0)), (1, .int p1), (2, .int p2), (3, .ref o)]) hx hb dL_put_17 hl (by decide) rfl (fun ls hl => ?_)
      refine lv_iconst (v := 2) hx hb dL_put_19 (by decide) ?_
      exact rI (w := fun (u : KS × (Nat → Int64)) => wL cI cL h o u.1 u.2) (κ, out) hx hb hr hlocks hP hD hS (Nat.le_of_ble_eq_true rfl) (Nat.le_of_ble_eq_true rfl) dL_put_20 ⟨fun h9 => absurd h9 hX, fun _ => ⟨nI_s2 hk, by decide, rfl⟩⟩
set_option maxHeartbeats 1000000 in
set_option maxRecDepth 100000 in
theorem w_delete (l : Launch) (hlt : l.stackTraces = false) (dC : Nat → ClassId) (dI : Nat → Nat → Nat) (cI : ClassId) (cL : ClassId) (h : Nat → Nat) (o : Nat) (sz : Nat) (κ : KS) (out : Nat → Int64) (p1 : Int32) (hs : s_X2_delete κ p1) : Met l yL_delete wsL_delete ({ frames := 8, cells := 1, slots := 6, locals := 126 }) (va_Pc [.ref (h 0), .int p1, .ref o] (pL (dC, dI) [(cI, .int), (cL, .long)] (wL cI cL h o κ out) sz)) (va_Qi (fun (r : Int32) (u : KS × (Nat → Int64)) => (x_X2_delete κ p1 = 0 → r = 0 ∧ u.1 = (v_X2_delete κ p1).2 ∧ u.2 0 = Int32.toInt64 (v_X2_delete κ p1).1) ∧ (¬ x_X2_delete κ p1 = 0 → r = nI (x_X2_delete κ p1) ∧ ¬ r = 0 ∧ u.1 = κ)) (qW (dC, dI) (va_A (wL cI cL h o κ out) sz) (fun (u : KS × (Nat → Int64)) => wL cI cL h o u.1 u.2)) (va_A (wL cI cL h o κ out) sz)) 1 6 (va_A (wL cI cL h o κ out) sz) := by
  refine va_MetW (cc := cL_delete) (maxL := 4) (ret := (some .int)) (by decide) rfl ?_
  intro p e s m args below meth c s₁ B hml hv
  obtain ⟨rfl, ⟨⟨hsz, hP, hK, hD0⟩, hZ⟩, hNc⟩ := hv
  have hx := B.exec
  have hb := B.bytes
  have hr := B.returns
  have hts := atoms_spec (ws := wsL_delete) B.pre
  have hown : s.vm.findClass RL = some m.cls := findClass_of_methodNamed B.named
  have hlocks := B.notSynchronized
  have htab : c.exceptionTable.toList = tableOf [(0, 9, 12, 13), (0, 9, 15, 15)] := vx_table (x := yL_delete) B (hts _ List.mem_cons_self)
  subst hsz
  have hD := hD0.self (sz := s.heap.size)
  generalize hAe : va_A (wL cI cL h o κ out) s.heap.size = A at hD hZ ⊢
  have hA : ∀ q : Nat, s.heap.size ≤ q → A q := fun q h => by rw [← hAe]; exact Or.inr h
  have hl := lv_entry ([.ref (h 0), .int p1, .ref o]) (n := 4) (Nat.le_of_ble_eq_true rfl)
  rw [lg_entry_eq]
  generalize (lg_sl ([.ref (h 0), .int p1, .ref o]) ++ List.replicate (4 - (lg_sl ([.ref (h 0), .int p1, .ref o])).length) Slot.unset).toArray = ls at hl ⊢
  have hl : lv_has ls 4 [(0, .ref (h 0)), (1, .int p1), (2, .ref o)] := hl
  generalize hHe : s.heap = H at hP ⊢
  generalize hLe : ([] : List Loc) = locs
  have hS : va_S A s.heap H locs := by
    rw [← hLe, ← hHe]
    exact va_S.rf
  refine lv_aload_n hx hb dL_delete_0 rfl (lv_at hl 2 rfl) ?_
  refine lv_iconst (v := 0) hx hb dL_delete_1 (by decide) ?_
  refine lv_aload_n hx hb dL_delete_2 rfl (lv_at hl 0 rfl) ?_
  refine lv_iload_n hx hb dL_delete_3 rfl (lv_at hl 1 rfl) ?_
  have hPc := hP.sub (ws' := kW cI h κ) [0, 1, 2, 3, 4, 5, 6, 7, 8, 9] rfl
  have hDc := hD.sub (ws' := kW cI h κ) [0, 1, 2, 3, 4, 5, 6, 7, 8, 9] (by decide) rfl
  have hKc := hK.sub (tys' := [(cI, .int)]) [0] rfl
  by_cases hX : x_X2_delete κ p1 = 0
  · refine rcI (W2 := fun u => wL cI cL h o u out) (va_runV (As := [.int p1]) (rest := [.int 0, .ref o]) ⟨hx, hb, hml, hown, hts⟩ (c_X2_delete l dC dI cI h H.size κ p1 hX hs) (cwV 1 hts gL_delete_X2_delete rfl rfl rfl (by decide +kernel) ⟨Nat.le_of_ble_eq_true rfl, Nat.le_of_ble_eq_true rfl⟩) (pW_V hPc hKc hDc (ci := 2) (q0 := 0) rfl rfl) rfl rfl hl.1 rfl (lv_room (Nat.le_of_ble_eq_true rfl)) dL_delete_4 ⟨Nat.le_of_ble_eq_true rfl, Nat.le_of_ble_eq_true rfl⟩) hP hD hS hA [0, 1, 2, 3, 4, 5, 6, 7, 8, 9] [10] [1, 2, 3, 4, 5, 6, 7, 8, 9, 10, 0] rfl rfl (by decide) (fun _ => rfl) (fun r u H locs hw hP hD hS => ?_)
    obtain ⟨hw, hw2⟩ := hw
    refine lv_i2l (v := Int32.toInt64 r) hx hb dL_delete_7 rfl ?_
    refine va_last hx hb hK hP hD hS 10 1 rfl rfl in01 dL_delete_8 (fun H locs hP hD hS => ?_)
    have hP : va_P (dC, dI) vwCl (wL cI cL h o u (vp_updL out (0 : Int32).toNatClampNeg (Int32.toInt64 r))) H := hP
    have hD : va_D A (wL cI cL h o u (vp_updL out (0 : Int32).toNatClampNeg (Int32.toInt64 r))) := hD
    refine lv_goto (tgt := 18) hx hb dL_delete_9 (by decide) ?_
    refine lv_iconst (v := 0) hx hb dL_delete_18 (by decide) ?_
    exact rI (w := fun (u : KS × (Nat → Int64)) => wL cI cL h o u.1 u.2) (u, (vp_updL out (0 : Int32).toNatClampNeg (Int32.toInt64 r))) hx hb hr hlocks hP hD hS (Nat.le_of_ble_eq_true rfl) (Nat.le_of_ble_eq_true rfl) dL_delete_19 ⟨fun _ => ⟨rfl, hw2, (uL0 out ((Int32.toInt64 r))).trans (congrArg Int32.toInt64 hw)⟩, fun h9 => absurd hX h9⟩
  · have hFc := va_free (wc := kW cI h κ) hD hS hA [0, 1, 2, 3, 4, 5, 6, 7, 8, 9] rfl
    refine rxC (vx_runV (As := [.int p1]) (rest := [.int 0, .ref o]) ⟨hx, hb, hml, hown, hts⟩ (b_X2_delete l hlt dC dI cI h H.size κ p1 hX hs) (cwV 1 hts gL_delete_X2_delete rfl rfl rfl (by decide +kernel) ⟨Nat.le_of_ble_eq_true rfl, Nat.le_of_ble_eq_true rfl⟩) (pX_V hPc hKc hDc hZ hS hFc (ci := 2) (q0 := 0) rfl rfl) rfl rfl hl.1 rfl (lv_room (Nat.le_of_ble_eq_true rfl)) dL_delete_4 ⟨Nat.le_of_ble_eq_true rfl, Nat.le_of_ble_eq_true rfl⟩) hP hD hS hA [0, 1, 2, 3, 4, 5, 6, 7, 8, 9] [10] [1, 2, 3, 4, 5, 6, 7, 8, 9, 10, 0] rfl rfl (by decide) rfl (fun E ce q9 H locs hk hP hS hce hcv hcl => ?_)
    rcases hk with ⟨hk, rfl⟩ | ⟨hk, rfl⟩
    · refine vx_catch (own := RL) (name := "java/lang/IllegalArgumentException") hown [] (⟨0, 9, 12, 13⟩ : ExceptionTableEntry) [(⟨0, 9, 15, 15⟩ : ExceptionTableEntry)] (by rw [htab]; rfl) (fun z hz => by cases hz) (by decide) (by decide) (hts (.classLink RL 13 "java/lang/IllegalArgumentException") (by decide +kernel)) (zN.use hZ.2.2.2 _ (by decide +kernel)) hce hcv hcl ?_
      refine lv_astore_n (lv' := [(3, .ref q9), (0, .ref (h 0)), (1, .int p1), (2, .ref o)]) hx hb dL_delete_12 rfl hl (by decide) rfl (fun ls hl => ?_)
      refine lv_iconst (v := 1) hx hb dL_delete_13 (by decide) ?_
      exact rI (w := fun (u : KS × (Nat → Int64)) => wL cI cL h o u.1 u.2) (κ, out) hx hb hr hlocks hP hD hS (Nat.le_of_ble_eq_true rfl) (Nat.le_of_ble_eq_true rfl) dL_delete_14 ⟨fun h9 => absurd h9 hX, fun _ => ⟨nI_s1 hk, by decide, rfl⟩⟩
    · refine vx_catch (own := RL) (name := "java/lang/IllegalStateException") hown [(⟨0, 9, 12, 13⟩ : ExceptionTableEntry)] (⟨0, 9, 15, 15⟩ : ExceptionTableEntry) [] (by rw [htab]; rfl) (fun z hz => by cases hz with | head => exact Or.inr ⟨by decide, "java/lang/IllegalArgumentException", hts (.classLink RL 13 "java/lang/IllegalArgumentException") (by decide +kernel), hNc⟩ | tail _ h9 => cases h9) (by decide) (by decide) (hts (.classLink RL 15 "java/lang/IllegalStateException") (by decide +kernel)) (zN.use hZ.2.2.2 _ (by decide +kernel)) hce hcv hcl ?_
      refine lv_astore_n (lv' := [(3, .ref q9), (0, .ref (h 0)), (1, .int p1), (2, .ref o)]) hx hb dL_delete_15 rfl hl (by decide) rfl (fun ls hl => ?_)
      refine lv_iconst (v := 2) hx hb dL_delete_16 (by decide) ?_
      exact rI (w := fun (u : KS × (Nat → Int64)) => wL cI cL h o u.1 u.2) (κ, out) hx hb hr hlocks hP hD hS (Nat.le_of_ble_eq_true rfl) (Nat.le_of_ble_eq_true rfl) dL_delete_17 ⟨fun h9 => absurd h9 hX, fun _ => ⟨nI_s2 hk, by decide, rfl⟩⟩
set_option maxHeartbeats 1000000 in
set_option maxRecDepth 100000 in
theorem w_get (l : Launch) (hlt : l.stackTraces = false) (dC : Nat → ClassId) (dI : Nat → Nat → Nat) (cI : ClassId) (cL : ClassId) (h : Nat → Nat) (o : Nat) (sz : Nat) (κ : KS) (out : Nat → Int64) (p1 : Int32) (hs : s_X2_get κ p1) : Met l yL_get wsL_get ({ frames := 8, cells := 1, slots := 6, locals := 123 }) (va_Pc [.ref (h 0), .int p1, .ref o] (pL (dC, dI) [(cI, .int), (cL, .long)] (wL cI cL h o κ out) sz)) (va_Qi (fun (r : Int32) (u : KS × (Nat → Int64)) => (x_X2_get κ p1 = 0 → r = 0 ∧ u.1 = κ ∧ u.2 0 = Int32.toInt64 (v_X2_get κ p1)) ∧ (¬ x_X2_get κ p1 = 0 → r = nI (x_X2_get κ p1) ∧ ¬ r = 0 ∧ u.1 = κ)) (qW (dC, dI) (va_A (wL cI cL h o κ out) sz) (fun (u : KS × (Nat → Int64)) => wL cI cL h o u.1 u.2)) (va_A (wL cI cL h o κ out) sz)) 1 6 (va_A (wL cI cL h o κ out) sz) := by
  refine va_MetW (cc := cL_get) (maxL := 4) (ret := (some .int)) (by decide) rfl ?_
  intro p e s m args below meth c s₁ B hml hv
  obtain ⟨rfl, ⟨⟨hsz, hP, hK, hD0⟩, hZ⟩, hNc⟩ := hv
  have hx := B.exec
  have hb := B.bytes
  have hr := B.returns
  have hts := atoms_spec (ws := wsL_get) B.pre
  have hown : s.vm.findClass RL = some m.cls := findClass_of_methodNamed B.named
  have hlocks := B.notSynchronized
  have htab : c.exceptionTable.toList = tableOf [(0, 9, 12, 13), (0, 9, 15, 15)] := vx_table (x := yL_get) B (hts _ List.mem_cons_self)
  subst hsz
  have hD := hD0.self (sz := s.heap.size)
  generalize hAe : va_A (wL cI cL h o κ out) s.heap.size = A at hD hZ ⊢
  have hA : ∀ q : Nat, s.heap.size ≤ q → A q := fun q h => by rw [← hAe]; exact Or.inr h
  have hl := lv_entry ([.ref (h 0), .int p1, .ref o]) (n := 4) (Nat.le_of_ble_eq_true rfl)
  rw [lg_entry_eq]
  generalize (lg_sl ([.ref (h 0), .int p1, .ref o]) ++ List.replicate (4 - (lg_sl ([.ref (h 0), .int p1, .ref o])).length) Slot.unset).toArray = ls at hl ⊢
  have hl : lv_has ls 4 [(0, .ref (h 0)), (1, .int p1), (2, .ref o)] := hl
  generalize hHe : s.heap = H at hP ⊢
  generalize hLe : ([] : List Loc) = locs
  have hS : va_S A s.heap H locs := by
    rw [← hLe, ← hHe]
    exact va_S.rf
  refine lv_aload_n hx hb dL_get_0 rfl (lv_at hl 2 rfl) ?_
  refine lv_iconst (v := 0) hx hb dL_get_1 (by decide) ?_
  refine lv_aload_n hx hb dL_get_2 rfl (lv_at hl 0 rfl) ?_
  refine lv_iload_n hx hb dL_get_3 rfl (lv_at hl 1 rfl) ?_
  have hPc := hP.sub (ws' := kW cI h κ) [0, 1, 2, 3, 4, 5, 6, 7, 8, 9] rfl
  have hDc := hD.sub (ws' := kW cI h κ) [0, 1, 2, 3, 4, 5, 6, 7, 8, 9] (by decide) rfl
  have hKc := hK.sub (tys' := [(cI, .int)]) [0] rfl
  by_cases hX : x_X2_get κ p1 = 0
  · refine rcI (W2 := fun _ => wL cI cL h o κ out) (va_runV (As := [.int p1]) (rest := [.int 0, .ref o]) ⟨hx, hb, hml, hown, hts⟩ (c_X2_get l dC dI cI h H.size κ p1 hX hs) (cwV 1 hts gL_get_X2_get rfl rfl rfl (by decide +kernel) ⟨Nat.le_of_ble_eq_true rfl, Nat.le_of_ble_eq_true rfl⟩) (pW_V hPc hKc hDc (ci := 2) (q0 := 0) rfl rfl) rfl rfl hl.1 rfl (lv_room (Nat.le_of_ble_eq_true rfl)) dL_get_4 ⟨Nat.le_of_ble_eq_true rfl, Nat.le_of_ble_eq_true rfl⟩) hP hD hS hA [0, 1, 2, 3, 4, 5, 6, 7, 8, 9] [10] [1, 2, 3, 4, 5, 6, 7, 8, 9, 10, 0] rfl rfl (by decide) (fun _ => rfl) (fun r u H locs hw hP hD hS => ?_)
    refine lv_i2l (v := Int32.toInt64 r) hx hb dL_get_7 rfl ?_
    refine va_last hx hb hK hP hD hS 10 1 rfl rfl in01 dL_get_8 (fun H locs hP hD hS => ?_)
    have hP : va_P (dC, dI) vwCl (wL cI cL h o κ (vp_updL out (0 : Int32).toNatClampNeg (Int32.toInt64 r))) H := hP
    have hD : va_D A (wL cI cL h o κ (vp_updL out (0 : Int32).toNatClampNeg (Int32.toInt64 r))) := hD
    refine lv_goto (tgt := 18) hx hb dL_get_9 (by decide) ?_
    refine lv_iconst (v := 0) hx hb dL_get_18 (by decide) ?_
    exact rI (w := fun (u : KS × (Nat → Int64)) => wL cI cL h o u.1 u.2) (κ, (vp_updL out (0 : Int32).toNatClampNeg (Int32.toInt64 r))) hx hb hr hlocks hP hD hS (Nat.le_of_ble_eq_true rfl) (Nat.le_of_ble_eq_true rfl) dL_get_19 ⟨fun _ => ⟨rfl, rfl, (uL0 out ((Int32.toInt64 r))).trans (congrArg Int32.toInt64 hw)⟩, fun h9 => absurd hX h9⟩
  · have hFc := va_free (wc := kW cI h κ) hD hS hA [0, 1, 2, 3, 4, 5, 6, 7, 8, 9] rfl
    refine rxC (vx_runV (As := [.int p1]) (rest := [.int 0, .ref o]) ⟨hx, hb, hml, hown, hts⟩ (b_X2_get l hlt dC dI cI h H.size κ p1 hX hs) (cwV 1 hts gL_get_X2_get rfl rfl rfl (by decide +kernel) ⟨Nat.le_of_ble_eq_true rfl, Nat.le_of_ble_eq_true rfl⟩) (pX_V hPc hKc hDc hZ hS hFc (ci := 2) (q0 := 0) rfl rfl) rfl rfl hl.1 rfl (lv_room (Nat.le_of_ble_eq_true rfl)) dL_get_4 ⟨Nat.le_of_ble_eq_true rfl, Nat.le_of_ble_eq_true rfl⟩) hP hD hS hA [0, 1, 2, 3, 4, 5, 6, 7, 8, 9] [10] [1, 2, 3, 4, 5, 6, 7, 8, 9, 10, 0] rfl rfl (by decide) rfl (fun E ce q9 H locs hk hP hS hce hcv hcl => ?_)
    rcases hk with ⟨hk, rfl⟩ | ⟨hk, rfl⟩
    · refine vx_catch (own := RL) (name := "java/lang/IllegalArgumentException") hown [] (⟨0, 9, 12, 13⟩ : ExceptionTableEntry) [(⟨0, 9, 15, 15⟩ : ExceptionTableEntry)] (by rw [htab]; rfl) (fun z hz => by cases hz) (by decide) (by decide) (hts (.classLink RL 13 "java/lang/IllegalArgumentException") (by decide +kernel)) (zN.use hZ.2.2.2 _ (by decide +kernel)) hce hcv hcl ?_
      refine lv_astore_n (lv' := [(3, .ref q9), (0, .ref (h 0)), (1, .int p1), (2, .ref o)]) hx hb dL_get_12 rfl hl (by decide) rfl (fun ls hl => ?_)
      refine lv_iconst (v := 1) hx hb dL_get_13 (by decide) ?_
      exact rI (w := fun (u : KS × (Nat → Int64)) => wL cI cL h o u.1 u.2) (κ, out) hx hb hr hlocks hP hD hS (Nat.le_of_ble_eq_true rfl) (Nat.le_of_ble_eq_true rfl) dL_get_14 ⟨fun h9 => absurd h9 hX, fun _ => ⟨nI_s1 hk, by decide, rfl⟩⟩
    · refine vx_catch (own := RL) (name := "java/lang/IllegalStateException") hown [(⟨0, 9, 12, 13⟩ : ExceptionTableEntry)] (⟨0, 9, 15, 15⟩ : ExceptionTableEntry) [] (by rw [htab]; rfl) (fun z hz => by cases hz with | head => exact Or.inr ⟨by decide, "java/lang/IllegalArgumentException", hts (.classLink RL 13 "java/lang/IllegalArgumentException") (by decide +kernel), hNc⟩ | tail _ h9 => cases h9) (by decide) (by decide) (hts (.classLink RL 15 "java/lang/IllegalStateException") (by decide +kernel)) (zN.use hZ.2.2.2 _ (by decide +kernel)) hce hcv hcl ?_
      refine lv_astore_n (lv' := [(3, .ref q9), (0, .ref (h 0)), (1, .int p1), (2, .ref o)]) hx hb dL_get_15 rfl hl (by decide) rfl (fun ls hl => ?_)
      refine lv_iconst (v := 2) hx hb dL_get_16 (by decide) ?_
      exact rI (w := fun (u : KS × (Nat → Int64)) => wL cI cL h o u.1 u.2) (κ, out) hx hb hr hlocks hP hD hS (Nat.le_of_ble_eq_true rfl) (Nat.le_of_ble_eq_true rfl) dL_get_17 ⟨fun h9 => absurd h9 hX, fun _ => ⟨nI_s2 hk, by decide, rfl⟩⟩
set_option maxHeartbeats 1000000 in
set_option maxRecDepth 100000 in
theorem w_next (l : Launch) (hlt : l.stackTraces = false) (dC : Nat → ClassId) (dI : Nat → Nat → Nat) (cI : ClassId) (cL : ClassId) (h : Nat → Nat) (o : Nat) (sz : Nat) (κ : KS) (out : Nat → Int64) (p1 : Int32) (hs : s_X2_next κ p1) : Met l yL_next wsL_next ({ frames := 8, cells := 1, slots := 6, locals := 124 }) (va_Pc [.ref (h 0), .int p1, .ref o] (pL (dC, dI) [(cI, .int), (cL, .long)] (wL cI cL h o κ out) sz)) (va_Qi (fun (r : Int32) (u : KS × (Nat → Int64)) => (x_X2_next κ p1 = 0 → r = 0 ∧ u.1 = κ ∧ u.2 0 = Int32.toInt64 (v_X2_next κ p1)) ∧ (¬ x_X2_next κ p1 = 0 → r = nI (x_X2_next κ p1) ∧ ¬ r = 0 ∧ u.1 = κ)) (qW (dC, dI) (va_A (wL cI cL h o κ out) sz) (fun (u : KS × (Nat → Int64)) => wL cI cL h o u.1 u.2)) (va_A (wL cI cL h o κ out) sz)) 1 6 (va_A (wL cI cL h o κ out) sz) := by
  refine va_MetW (cc := cL_next) (maxL := 4) (ret := (some .int)) (by decide) rfl ?_
  intro p e s m args below meth c s₁ B hml hv
  obtain ⟨rfl, ⟨⟨hsz, hP, hK, hD0⟩, hZ⟩, hNc⟩ := hv
  have hx := B.exec
  have hb := B.bytes
  have hr := B.returns
  have hts := atoms_spec (ws := wsL_next) B.pre
  have hown : s.vm.findClass RL = some m.cls := findClass_of_methodNamed B.named
  have hlocks := B.notSynchronized
  have htab : c.exceptionTable.toList = tableOf [(0, 9, 12, 13), (0, 9, 15, 15)] := vx_table (x := yL_next) B (hts _ List.mem_cons_self)
  subst hsz
  have hD := hD0.self (sz := s.heap.size)
  generalize hAe : va_A (wL cI cL h o κ out) s.heap.size = A at hD hZ ⊢
  have hA : ∀ q : Nat, s.heap.size ≤ q → A q := fun q h => by rw [← hAe]; exact Or.inr h
  have hl := lv_entry ([.ref (h 0), .int p1, .ref o]) (n := 4) (Nat.le_of_ble_eq_true rfl)
  rw [lg_entry_eq]
  generalize (lg_sl ([.ref (h 0), .int p1, .ref o]) ++ List.replicate (4 - (lg_sl ([.ref (h 0), .int p1, .ref o])).length) Slot.unset).toArray = ls at hl ⊢
  have hl : lv_has ls 4 [(0, .ref (h 0)), (1, .int p1), (2, .ref o)] := hl
  generalize hHe : s.heap = H at hP ⊢
  generalize hLe : ([] : List Loc) = locs
  have hS : va_S A s.heap H locs := by
    rw [← hLe, ← hHe]
    exact va_S.rf
  refine lv_aload_n hx hb dL_next_0 rfl (lv_at hl 2 rfl) ?_
  refine lv_iconst (v := 0) hx hb dL_next_1 (by decide) ?_
  refine lv_aload_n hx hb dL_next_2 rfl (lv_at hl 0 rfl) ?_
  refine lv_iload_n hx hb dL_next_3 rfl (lv_at hl 1 rfl) ?_
  have hPc := hP.sub (ws' := kW cI h κ) [0, 1, 2, 3, 4, 5, 6, 7, 8, 9] rfl
  have hDc := hD.sub (ws' := kW cI h κ) [0, 1, 2, 3, 4, 5, 6, 7, 8, 9] (by decide) rfl
  have hKc := hK.sub (tys' := [(cI, .int)]) [0] rfl
  by_cases hX : x_X2_next κ p1 = 0
  · refine rcI (W2 := fun _ => wL cI cL h o κ out) (va_runV (As := [.int p1]) (rest := [.int 0, .ref o]) ⟨hx, hb, hml, hown, hts⟩ (c_X2_next l dC dI cI h H.size κ p1 hX hs) (cwV 1 hts gL_next_X2_next rfl rfl rfl (by decide +kernel) ⟨Nat.le_of_ble_eq_true rfl, Nat.le_of_ble_eq_true rfl⟩) (pW_V hPc hKc hDc (ci := 2) (q0 := 0) rfl rfl) rfl rfl hl.1 rfl (lv_room (Nat.le_of_ble_eq_true rfl)) dL_next_4 ⟨Nat.le_of_ble_eq_true rfl, Nat.le_of_ble_eq_true rfl⟩) hP hD hS hA [0, 1, 2, 3, 4, 5, 6, 7, 8, 9] [10] [1, 2, 3, 4, 5, 6, 7, 8, 9, 10, 0] rfl rfl (by decide) (fun _ => rfl) (fun r u H locs hw hP hD hS => ?_)
    refine lv_i2l (v := Int32.toInt64 r) hx hb dL_next_7 rfl ?_
    refine va_last hx hb hK hP hD hS 10 1 rfl rfl in01 dL_next_8 (fun H locs hP hD hS => ?_)
    have hP : va_P (dC, dI) vwCl (wL cI cL h o κ (vp_updL out (0 : Int32).toNatClampNeg (Int32.toInt64 r))) H := hP
    have hD : va_D A (wL cI cL h o κ (vp_updL out (0 : Int32).toNatClampNeg (Int32.toInt64 r))) := hD
    refine lv_goto (tgt := 18) hx hb dL_next_9 (by decide) ?_
    refine lv_iconst (v := 0) hx hb dL_next_18 (by decide) ?_
    exact rI (w := fun (u : KS × (Nat → Int64)) => wL cI cL h o u.1 u.2) (κ, (vp_updL out (0 : Int32).toNatClampNeg (Int32.toInt64 r))) hx hb hr hlocks hP hD hS (Nat.le_of_ble_eq_true rfl) (Nat.le_of_ble_eq_true rfl) dL_next_19 ⟨fun _ => ⟨rfl, rfl, (uL0 out ((Int32.toInt64 r))).trans (congrArg Int32.toInt64 hw)⟩, fun h9 => absurd hX h9⟩
  · have hFc := va_free (wc := kW cI h κ) hD hS hA [0, 1, 2, 3, 4, 5, 6, 7, 8, 9] rfl
    refine rxC (vx_runV (As := [.int p1]) (rest := [.int 0, .ref o]) ⟨hx, hb, hml, hown, hts⟩ (b_X2_next l hlt dC dI cI h H.size κ p1 hX hs) (cwV 1 hts gL_next_X2_next rfl rfl rfl (by decide +kernel) ⟨Nat.le_of_ble_eq_true rfl, Nat.le_of_ble_eq_true rfl⟩) (pX_V hPc hKc hDc hZ hS hFc (ci := 2) (q0 := 0) rfl rfl) rfl rfl hl.1 rfl (lv_room (Nat.le_of_ble_eq_true rfl)) dL_next_4 ⟨Nat.le_of_ble_eq_true rfl, Nat.le_of_ble_eq_true rfl⟩) hP hD hS hA [0, 1, 2, 3, 4, 5, 6, 7, 8, 9] [10] [1, 2, 3, 4, 5, 6, 7, 8, 9, 10, 0] rfl rfl (by decide) rfl (fun E ce q9 H locs hk hP hS hce hcv hcl => ?_)
    rcases hk with ⟨hk, rfl⟩ | ⟨hk, rfl⟩
    · refine vx_catch (own := RL) (name := "java/lang/IllegalArgumentException") hown [] (⟨0, 9, 12, 13⟩ : ExceptionTableEntry) [(⟨0, 9, 15, 15⟩ : ExceptionTableEntry)] (by rw [htab]; rfl) (fun z hz => by cases hz) (by decide) (by decide) (hts (.classLink RL 13 "java/lang/IllegalArgumentException") (by decide +kernel)) (zN.use hZ.2.2.2 _ (by decide +kernel)) hce hcv hcl ?_
      refine lv_astore_n (lv' := [(3, .ref q9), (0, .ref (h 0)), (1, .int p1), (2, .ref o)]) hx hb dL_next_12 rfl hl (by decide) rfl (fun ls hl => ?_)
      refine lv_iconst (v := 1) hx hb dL_next_13 (by decide) ?_
      exact rI (w := fun (u : KS × (Nat → Int64)) => wL cI cL h o u.1 u.2) (κ, out) hx hb hr hlocks hP hD hS (Nat.le_of_ble_eq_true rfl) (Nat.le_of_ble_eq_true rfl) dL_next_14 ⟨fun h9 => absurd h9 hX, fun _ => ⟨nI_s1 hk, by decide, rfl⟩⟩
    · refine vx_catch (own := RL) (name := "java/lang/IllegalStateException") hown [(⟨0, 9, 12, 13⟩ : ExceptionTableEntry)] (⟨0, 9, 15, 15⟩ : ExceptionTableEntry) [] (by rw [htab]; rfl) (fun z hz => by cases hz with | head => exact Or.inr ⟨by decide, "java/lang/IllegalArgumentException", hts (.classLink RL 13 "java/lang/IllegalArgumentException") (by decide +kernel), hNc⟩ | tail _ h9 => cases h9) (by decide) (by decide) (hts (.classLink RL 15 "java/lang/IllegalStateException") (by decide +kernel)) (zN.use hZ.2.2.2 _ (by decide +kernel)) hce hcv hcl ?_
      refine lv_astore_n (lv' := [(3, .ref q9), (0, .ref (h 0)), (1, .int p1), (2, .ref o)]) hx hb dL_next_15 rfl hl (by decide) rfl (fun ls hl => ?_)
      refine lv_iconst (v := 2) hx hb dL_next_16 (by decide) ?_
      exact rI (w := fun (u : KS × (Nat → Int64)) => wL cI cL h o u.1 u.2) (κ, out) hx hb hr hlocks hP hD hS (Nat.le_of_ble_eq_true rfl) (Nat.le_of_ble_eq_true rfl) dL_next_17 ⟨fun h9 => absurd h9 hX, fun _ => ⟨nI_s2 hk, by decide, rfl⟩⟩
set_option maxHeartbeats 1000000 in
set_option maxRecDepth 100000 in
theorem w_sum (l : Launch) (hlt : l.stackTraces = false) (dC : Nat → ClassId) (dI : Nat → Nat → Nat) (cI : ClassId) (cL : ClassId) (h : Nat → Nat) (o : Nat) (sz : Nat) (κ : KS) (out : Nat → Int64) (p1 : Int32) (p2 : Int32) (hs : s_X2_sum κ p1 p2) : Met l yL_sum wsL_sum ({ frames := 9, cells := 1, slots := 6, locals := 147 }) (va_Pc [.ref (h 0), .int p1, .int p2, .ref o] (pL (dC, dI) [(cI, .int), (cL, .long)] (wL cI cL h o κ out) sz)) (va_Qi (fun (r : Int32) (u : KS × (Nat → Int64)) => (x_X2_sum κ p1 p2 = 0 → r = 0 ∧ u.1 = κ ∧ u.2 0 = Int32.toInt64 (v_X2_sum κ p1 p2)) ∧ (¬ x_X2_sum κ p1 p2 = 0 → r = nI (x_X2_sum κ p1 p2) ∧ ¬ r = 0 ∧ u.1 = κ)) (qW (dC, dI) (va_A (wL cI cL h o κ out) sz) (fun (u : KS × (Nat → Int64)) => wL cI cL h o u.1 u.2)) (va_A (wL cI cL h o κ out) sz)) 1 6 (va_A (wL cI cL h o κ out) sz) := by
  refine va_MetW (cc := cL_sum) (maxL := 5) (ret := (some .int)) (by decide) rfl ?_
  intro p e s m args below meth c s₁ B hml hv
  obtain ⟨rfl, ⟨⟨hsz, hP, hK, hD0⟩, hZ⟩, hNc⟩ := hv
  have hx := B.exec
  have hb := B.bytes
  have hr := B.returns
  have hts := atoms_spec (ws := wsL_sum) B.pre
  have hown : s.vm.findClass RL = some m.cls := findClass_of_methodNamed B.named
  have hlocks := B.notSynchronized
  have htab : c.exceptionTable.toList = tableOf [(0, 10, 13, 13), (0, 10, 17, 15)] := vx_table (x := yL_sum) B (hts _ List.mem_cons_self)
  subst hsz
  have hD := hD0.self (sz := s.heap.size)
  generalize hAe : va_A (wL cI cL h o κ out) s.heap.size = A at hD hZ ⊢
  have hA : ∀ q : Nat, s.heap.size ≤ q → A q := fun q h => by rw [← hAe]; exact Or.inr h
  have hl := lv_entry ([.ref (h 0), .int p1, .int p2, .ref o]) (n := 5) (Nat.le_of_ble_eq_true rfl)
  rw [lg_entry_eq]
  generalize (lg_sl ([.ref (h 0), .int p1, .int p2, .ref o]) ++ List.replicate (5 - (lg_sl ([.ref (h 0), .int p1, .int p2, .ref o])).length) Slot.unset).toArray = ls at hl ⊢
  have hl : lv_has ls 5 [(0, .ref (h 0)), (1, .int p1), (2, .int p2), (3, .ref o)] := hl
  generalize hHe : s.heap = H at hP ⊢
  generalize hLe : ([] : List Loc) = locs
  have hS : va_S A s.heap H locs := by
    rw [← hLe, ← hHe]
    exact va_S.rf
  refine lv_aload_n hx hb dL_sum_0 rfl (lv_at hl 3 rfl) ?_
  refine lv_iconst (v := 0) hx hb dL_sum_1 (by decide) ?_
  refine lv_aload_n hx hb dL_sum_2 rfl (lv_at hl 0 rfl) ?_
  refine lv_iload_n hx hb dL_sum_3 rfl (lv_at hl 1 rfl) ?_
  refine lv_iload_n hx hb dL_sum_4 rfl (lv_at hl 2 rfl) ?_
  have hPc := hP.sub (ws' := kW cI h κ) [0, 1, 2, 3, 4, 5, 6, 7, 8, 9] rfl
  have hDc := hD.sub (ws' := kW cI h κ) [0, 1, 2, 3, 4, 5, 6, 7, 8, 9] (by decide) rfl
  have hKc := hK.sub (tys' := [(cI, .int)]) [0] rfl
  by_cases hX : x_X2_sum κ p1 p2 = 0
  · refine rcI (W2 := fun _ => wL cI cL h o κ out) (va_runV (As := [.int p1, .int p2]) (rest := [.int 0, .ref o]) ⟨hx, hb, hml, hown, hts⟩ (c_X2_sum l dC dI cI h H.size κ p1 p2 hX hs) (cwV 2 hts gL_sum_X2_sum rfl rfl rfl (by decide +kernel) ⟨Nat.le_of_ble_eq_true rfl, Nat.le_of_ble_eq_true rfl⟩) (pW_V hPc hKc hDc (ci := 2) (q0 := 0) rfl rfl) rfl rfl hl.1 rfl (lv_room (Nat.le_of_ble_eq_true rfl)) dL_sum_5 ⟨Nat.le_of_ble_eq_true rfl, Nat.le_of_ble_eq_true rfl⟩) hP hD hS hA [0, 1, 2, 3, 4, 5, 6, 7, 8, 9] [10] [1, 2, 3, 4, 5, 6, 7, 8, 9, 10, 0] rfl rfl (by decide) (fun _ => rfl) (fun r u H locs hw hP hD hS => ?_)
    refine lv_i2l (v := Int32.toInt64 r) hx hb dL_sum_8 rfl ?_
    refine va_last hx hb hK hP hD hS 10 1 rfl rfl in01 dL_sum_9 (fun H locs hP hD hS => ?_)
    have hP : va_P (dC, dI) vwCl (wL cI cL h o κ (vp_updL out (0 : Int32).toNatClampNeg (Int32.toInt64 r))) H := hP
    have hD : va_D A (wL cI cL h o κ (vp_updL out (0 : Int32).toNatClampNeg (Int32.toInt64 r))) := hD
    refine lv_goto (tgt := 21) hx hb dL_sum_10 (by decide) ?_
    refine lv_iconst (v := 0) hx hb dL_sum_21 (by decide) ?_
    exact rI (w := fun (u : KS × (Nat → Int64)) => wL cI cL h o u.1 u.2) (κ, (vp_updL out (0 : Int32).toNatClampNeg (Int32.toInt64 r))) hx hb hr hlocks hP hD hS (Nat.le_of_ble_eq_true rfl) (Nat.le_of_ble_eq_true rfl) dL_sum_22 ⟨fun _ => ⟨rfl, rfl, (uL0 out ((Int32.toInt64 r))).trans (congrArg Int32.toInt64 hw)⟩, fun h9 => absurd hX h9⟩
  · have hFc := va_free (wc := kW cI h κ) hD hS hA [0, 1, 2, 3, 4, 5, 6, 7, 8, 9] rfl
    refine rxC (vx_runV (As := [.int p1, .int p2]) (rest := [.int 0, .ref o]) ⟨hx, hb, hml, hown, hts⟩ (b_X2_sum l hlt dC dI cI h H.size κ p1 p2 hX hs) (cwV 2 hts gL_sum_X2_sum rfl rfl rfl (by decide +kernel) ⟨Nat.le_of_ble_eq_true rfl, Nat.le_of_ble_eq_true rfl⟩) (pX_V hPc hKc hDc hZ hS hFc (ci := 2) (q0 := 0) rfl rfl) rfl rfl hl.1 rfl (lv_room (Nat.le_of_ble_eq_true rfl)) dL_sum_5 ⟨Nat.le_of_ble_eq_true rfl, Nat.le_of_ble_eq_true rfl⟩) hP hD hS hA [0, 1, 2, 3, 4, 5, 6, 7, 8, 9] [10] [1, 2, 3, 4, 5, 6, 7, 8, 9, 10, 0] rfl rfl (by decide) rfl (fun E ce q9 H locs hk hP hS hce hcv hcl => ?_)
    rcases hk with ⟨hk, rfl⟩ | ⟨hk, rfl⟩
    · refine vx_catch (own := RL) (name := "java/lang/IllegalArgumentException") hown [] (⟨0, 10, 13, 13⟩ : ExceptionTableEntry) [(⟨0, 10, 17, 15⟩ : ExceptionTableEntry)] (by rw [htab]; rfl) (fun z hz => by cases hz) (by decide) (by decide) (hts (.classLink RL 13 "java/lang/IllegalArgumentException") (by decide +kernel)) (zN.use hZ.2.2.2 _ (by decide +kernel)) hce hcv hcl ?_
      refine lv_astore (lv' := [(4, .ref q9), (0, .ref (h 0)), (1, .int p1), (2, .int p2), (3, .ref o)]) hx hb dL_sum_13 hl (by decide) rfl (fun ls hl => ?_)
      refine lv_iconst (v := 1) hx hb dL_sum_15 (by decide) ?_
      exact rI (w := fun (u : KS × (Nat → Int64)) => wL cI cL h o u.1 u.2) (κ, out) hx hb hr hlocks hP hD hS (Nat.le_of_ble_eq_true rfl) (Nat.le_of_ble_eq_true rfl) dL_sum_16 ⟨fun h9 => absurd h9 hX, fun _ => ⟨nI_s1 hk, by decide, rfl⟩⟩
    · refine vx_catch (own := RL) (name := "java/lang/IllegalStateException") hown [(⟨0, 10, 13, 13⟩ : ExceptionTableEntry)] (⟨0, 10, 17, 15⟩ : ExceptionTableEntry) [] (by rw [htab]; rfl) (fun z hz => by cases hz with | head => exact Or.inr ⟨by decide, "java/lang/IllegalArgumentException", hts (.classLink RL 13 "java/lang/IllegalArgumentException") (by decide +kernel), hNc⟩ | tail _ h9 => cases h9) (by decide) (by decide) (hts (.classLink RL 15 "java/lang/IllegalStateException") (by decide +kernel)) (zN.use hZ.2.2.2 _ (by decide +kernel)) hce hcv hcl ?_
      refine lv_astore (lv' := [(4, .ref q9), (0, .ref (h 0)), (1, .int p1), (2, .int p2), (3, .ref o)]) hx hb dL_sum_17 hl (by decide) rfl (fun ls hl => ?_)
      refine lv_iconst (v := 2) hx hb dL_sum_19 (by decide) ?_
      exact rI (w := fun (u : KS × (Nat → Int64)) => wL cI cL h o u.1 u.2) (κ, out) hx hb hr hlocks hP hD hS (Nat.le_of_ble_eq_true rfl) (Nat.le_of_ble_eq_true rfl) dL_sum_20 ⟨fun h9 => absurd h9 hX, fun _ => ⟨nI_s2 hk, by decide, rfl⟩⟩
set_option maxHeartbeats 1000000 in
set_option maxRecDepth 100000 in
theorem w_fetches (l : Launch) (hlt : l.stackTraces = false) (dC : Nat → ClassId) (dI : Nat → Nat → Nat) (cI : ClassId) (cL : ClassId) (h : Nat → Nat) (o : Nat) (sz : Nat) (κ : KS) (out : Nat → Int64) (p1 : Int32) (p2 : Int32) (hs : s_X2_fetches κ p1 p2) : Met l yL_fetches wsL_fetches ({ frames := 9, cells := 1, slots := 6, locals := 148 }) (va_Pc [.ref (h 0), .int p1, .int p2, .ref o] (pL (dC, dI) [(cI, .int), (cL, .long)] (wL cI cL h o κ out) sz)) (va_Qi (fun (r : Int32) (u : KS × (Nat → Int64)) => (x_X2_fetches κ p1 p2 = 0 → r = 0 ∧ u.1 = κ ∧ u.2 0 = Int32.toInt64 (v_X2_fetches κ p1 p2)) ∧ (¬ x_X2_fetches κ p1 p2 = 0 → r = nI (x_X2_fetches κ p1 p2) ∧ ¬ r = 0 ∧ u.1 = κ)) (qW (dC, dI) (va_A (wL cI cL h o κ out) sz) (fun (u : KS × (Nat → Int64)) => wL cI cL h o u.1 u.2)) (va_A (wL cI cL h o κ out) sz)) 1 6 (va_A (wL cI cL h o κ out) sz) := by
  refine va_MetW (cc := cL_fetches) (maxL := 5) (ret := (some .int)) (by decide) rfl ?_
  intro p e s m args below meth c s₁ B hml hv
  obtain ⟨rfl, ⟨⟨hsz, hP, hK, hD0⟩, hZ⟩, hNc⟩ := hv
  have hx := B.exec
  have hb := B.bytes
  have hr := B.returns
  have hts := atoms_spec (ws := wsL_fetches) B.pre
  have hown : s.vm.findClass RL = some m.cls := findClass_of_methodNamed B.named
  have hlocks := B.notSynchronized
  have htab : c.exceptionTable.toList = tableOf [(0, 10, 13, 13), (0, 10, 17, 15)] := vx_table (x := yL_fetches) B (hts _ List.mem_cons_self)
  subst hsz
  have hD := hD0.self (sz := s.heap.size)
  generalize hAe : va_A (wL cI cL h o κ out) s.heap.size = A at hD hZ ⊢
  have hA : ∀ q : Nat, s.heap.size ≤ q → A q := fun q h => by rw [← hAe]; exact Or.inr h
  have hl := lv_entry ([.ref (h 0), .int p1, .int p2, .ref o]) (n := 5) (Nat.le_of_ble_eq_true rfl)
  rw [lg_entry_eq]
  generalize (lg_sl ([.ref (h 0), .int p1, .int p2, .ref o]) ++ List.replicate (5 - (lg_sl ([.ref (h 0), .int p1, .int p2, .ref o])).length) Slot.unset).toArray = ls at hl ⊢
  have hl : lv_has ls 5 [(0, .ref (h 0)), (1, .int p1), (2, .int p2), (3, .ref o)] := hl
  generalize hHe : s.heap = H at hP ⊢
  generalize hLe : ([] : List Loc) = locs
  have hS : va_S A s.heap H locs := by
    rw [← hLe, ← hHe]
    exact va_S.rf
  refine lv_aload_n hx hb dL_fetches_0 rfl (lv_at hl 3 rfl) ?_
  refine lv_iconst (v := 0) hx hb dL_fetches_1 (by decide) ?_
  refine lv_aload_n hx hb dL_fetches_2 rfl (lv_at hl 0 rfl) ?_
  refine lv_iload_n hx hb dL_fetches_3 rfl (lv_at hl 1 rfl) ?_
  refine lv_iload_n hx hb dL_fetches_4 rfl (lv_at hl 2 rfl) ?_
  have hPc := hP.sub (ws' := kW cI h κ) [0, 1, 2, 3, 4, 5, 6, 7, 8, 9] rfl
  have hDc := hD.sub (ws' := kW cI h κ) [0, 1, 2, 3, 4, 5, 6, 7, 8, 9] (by decide) rfl
  have hKc := hK.sub (tys' := [(cI, .int)]) [0] rfl
  by_cases hX : x_X2_fetches κ p1 p2 = 0
  · refine rcI (W2 := fun _ => wL cI cL h o κ out) (va_runV (As := [.int p1, .int p2]) (rest := [.int 0, .ref o]) ⟨hx, hb, hml, hown, hts⟩ (c_X2_fetches l dC dI cI h H.size κ p1 p2 hX hs) (cwV 2 hts gL_fetches_X2_fetches rfl rfl rfl (by decide +kernel) ⟨Nat.le_of_ble_eq_true rfl, Nat.le_of_ble_eq_true rfl⟩) (pW_V hPc hKc hDc (ci := 2) (q0 := 0) rfl rfl) rfl rfl hl.1 rfl (lv_room (Nat.le_of_ble_eq_true rfl)) dL_fetches_5 ⟨Nat.le_of_ble_eq_true rfl, Nat.le_of_ble_eq_true rfl⟩) hP hD hS hA [0, 1, 2, 3, 4, 5, 6, 7, 8, 9] [10] [1, 2, 3, 4, 5, 6, 7, 8, 9, 10, 0] rfl rfl (by decide) (fun _ => rfl) (fun r u H locs hw hP hD hS => ?_)
    refine lv_i2l (v := Int32.toInt64 r) hx hb dL_fetches_8 rfl ?_
    refine va_last hx hb hK hP hD hS 10 1 rfl rfl in01 dL_fetches_9 (fun H locs hP hD hS => ?_)
    have hP : va_P (dC, dI) vwCl (wL cI cL h o κ (vp_updL out (0 : Int32).toNatClampNeg (Int32.toInt64 r))) H := hP
    have hD : va_D A (wL cI cL h o κ (vp_updL out (0 : Int32).toNatClampNeg (Int32.toInt64 r))) := hD
    refine lv_goto (tgt := 21) hx hb dL_fetches_10 (by decide) ?_
    refine lv_iconst (v := 0) hx hb dL_fetches_21 (by decide) ?_
    exact rI (w := fun (u : KS × (Nat → Int64)) => wL cI cL h o u.1 u.2) (κ, (vp_updL out (0 : Int32).toNatClampNeg (Int32.toInt64 r))) hx hb hr hlocks hP hD hS (Nat.le_of_ble_eq_true rfl) (Nat.le_of_ble_eq_true rfl) dL_fetches_22 ⟨fun _ => ⟨rfl, rfl, (uL0 out ((Int32.toInt64 r))).trans (congrArg Int32.toInt64 hw)⟩, fun h9 => absurd hX h9⟩
  · have hFc := va_free (wc := kW cI h κ) hD hS hA [0, 1, 2, 3, 4, 5, 6, 7, 8, 9] rfl
    refine rxC (vx_runV (As := [.int p1, .int p2]) (rest := [.int 0, .ref o]) ⟨hx, hb, hml, hown, hts⟩ (b_X2_fetches l hlt dC dI cI h H.size κ p1 p2 hX hs) (cwV 2 hts gL_fetches_X2_fetches rfl rfl rfl (by decide +kernel) ⟨Nat.le_of_ble_eq_true rfl, Nat.le_of_ble_eq_true rfl⟩) (pX_V hPc hKc hDc hZ hS hFc (ci := 2) (q0 := 0) rfl rfl) rfl rfl hl.1 rfl (lv_room (Nat.le_of_ble_eq_true rfl)) dL_fetches_5 ⟨Nat.le_of_ble_eq_true rfl, Nat.le_of_ble_eq_true rfl⟩) hP hD hS hA [0, 1, 2, 3, 4, 5, 6, 7, 8, 9] [10] [1, 2, 3, 4, 5, 6, 7, 8, 9, 10, 0] rfl rfl (by decide) rfl (fun E ce q9 H locs hk hP hS hce hcv hcl => ?_)
    rcases hk with ⟨hk, rfl⟩ | ⟨hk, rfl⟩
    · refine vx_catch (own := RL) (name := "java/lang/IllegalArgumentException") hown [] (⟨0, 10, 13, 13⟩ : ExceptionTableEntry) [(⟨0, 10, 17, 15⟩ : ExceptionTableEntry)] (by rw [htab]; rfl) (fun z hz => by cases hz) (by decide) (by decide) (hts (.classLink RL 13 "java/lang/IllegalArgumentException") (by decide +kernel)) (zN.use hZ.2.2.2 _ (by decide +kernel)) hce hcv hcl ?_
      refine lv_astore (lv' := [(4, .ref q9), (0, .ref (h 0)), (1, .int p1), (2, .int p2), (3, .ref o)]) hx hb dL_fetches_13 hl (by decide) rfl (fun ls hl => ?_)
      refine lv_iconst (v := 1) hx hb dL_fetches_15 (by decide) ?_
      exact rI (w := fun (u : KS × (Nat → Int64)) => wL cI cL h o u.1 u.2) (κ, out) hx hb hr hlocks hP hD hS (Nat.le_of_ble_eq_true rfl) (Nat.le_of_ble_eq_true rfl) dL_fetches_16 ⟨fun h9 => absurd h9 hX, fun _ => ⟨nI_s1 hk, by decide, rfl⟩⟩
    · refine vx_catch (own := RL) (name := "java/lang/IllegalStateException") hown [(⟨0, 10, 13, 13⟩ : ExceptionTableEntry)] (⟨0, 10, 17, 15⟩ : ExceptionTableEntry) [] (by rw [htab]; rfl) (fun z hz => by cases hz with | head => exact Or.inr ⟨by decide, "java/lang/IllegalArgumentException", hts (.classLink RL 13 "java/lang/IllegalArgumentException") (by decide +kernel), hNc⟩ | tail _ h9 => cases h9) (by decide) (by decide) (hts (.classLink RL 15 "java/lang/IllegalStateException") (by decide +kernel)) (zN.use hZ.2.2.2 _ (by decide +kernel)) hce hcv hcl ?_
      refine lv_astore (lv' := [(4, .ref q9), (0, .ref (h 0)), (1, .int p1), (2, .int p2), (3, .ref o)]) hx hb dL_fetches_17 hl (by decide) rfl (fun ls hl => ?_)
      refine lv_iconst (v := 2) hx hb dL_fetches_19 (by decide) ?_
      exact rI (w := fun (u : KS × (Nat → Int64)) => wL cI cL h o u.1 u.2) (κ, out) hx hb hr hlocks hP hD hS (Nat.le_of_ble_eq_true rfl) (Nat.le_of_ble_eq_true rfl) dL_fetches_20 ⟨fun h9 => absurd h9 hX, fun _ => ⟨nI_s2 hk, by decide, rfl⟩⟩
set_option maxHeartbeats 1000000 in
set_option maxRecDepth 100000 in
theorem w_synchronize (l : Launch) (hlt : l.stackTraces = false) (dC : Nat → ClassId) (dI : Nat → Nat → Nat) (cI : ClassId) (cL : ClassId) (h : Nat → Nat) (o : Nat) (sz : Nat) (κ : KS) (out : Nat → Int64) (hs : s_X2_synchronize κ) : Met l yL_synchronize wsL_synchronize ({ frames := 8, cells := 1, slots := 6, locals := 122 }) (va_Pc [.ref (h 0), .ref o] (pL (dC, dI) [(cI, .int), (cL, .long)] (wL cI cL h o κ out) sz)) (va_Qi (fun (r : Int32) (u : KS × (Nat → Int64)) => (x_X2_synchronize κ = 0 → r = 0 ∧ u.1 = (v_X2_synchronize κ).2 ∧ u.2 0 = (if (v_X2_synchronize κ).1 = 0 then 0 else 1 : Int64)) ∧ (¬ x_X2_synchronize κ = 0 → r = kc1 (x_X2_synchronize κ) ∧ ¬ r = 0 ∧ u.1 = κ)) (qW (dC, dI) (va_A (wL cI cL h o κ out) sz) (fun (u : KS × (Nat → Int64)) => wL cI cL h o u.1 u.2)) (va_A (wL cI cL h o κ out) sz)) 1 6 (va_A (wL cI cL h o κ out) sz) := by
  refine va_MetW (cc := cL_synchronize) (maxL := 3) (ret := (some .int)) (by decide) rfl ?_
  intro p e s m args below meth c s₁ B hml hv
  obtain ⟨rfl, ⟨⟨hsz, hP, hK, hD0⟩, hZ⟩, hNc⟩ := hv
  have hx := B.exec
  have hb := B.bytes
  have hr := B.returns
  have hts := atoms_spec (ws := wsL_synchronize) B.pre
  have hown : s.vm.findClass RL = some m.cls := findClass_of_methodNamed B.named
  have hlocks := B.notSynchronized
  have htab : c.exceptionTable.toList = tableOf [(0, 15, 18, 15)] := vx_table (x := yL_synchronize) B (hts _ List.mem_cons_self)
  subst hsz
  have hD := hD0.self (sz := s.heap.size)
  generalize hAe : va_A (wL cI cL h o κ out) s.heap.size = A at hD hZ ⊢
  have hA : ∀ q : Nat, s.heap.size ≤ q → A q := fun q h => by rw [← hAe]; exact Or.inr h
  have hl := lv_entry ([.ref (h 0), .ref o]) (n := 3) (Nat.le_of_ble_eq_true rfl)
  rw [lg_entry_eq]
  generalize (lg_sl ([.ref (h 0), .ref o]) ++ List.replicate (3 - (lg_sl ([.ref (h 0), .ref o])).length) Slot.unset).toArray = ls at hl ⊢
  have hl : lv_has ls 3 [(0, .ref (h 0)), (1, .ref o)] := hl
  generalize hHe : s.heap = H at hP ⊢
  generalize hLe : ([] : List Loc) = locs
  have hS : va_S A s.heap H locs := by
    rw [← hLe, ← hHe]
    exact va_S.rf
  refine lv_aload_n hx hb dL_synchronize_0 rfl (lv_at hl 1 rfl) ?_
  refine lv_iconst (v := 0) hx hb dL_synchronize_1 (by decide) ?_
  refine lv_aload_n hx hb dL_synchronize_2 rfl (lv_at hl 0 rfl) ?_
  have hPc := hP.sub (ws' := kW cI h κ) [0, 1, 2, 3, 4, 5, 6, 7, 8, 9] rfl
  have hDc := hD.sub (ws' := kW cI h κ) [0, 1, 2, 3, 4, 5, 6, 7, 8, 9] (by decide) rfl
  have hKc := hK.sub (tys' := [(cI, .int)]) [0] rfl
  by_cases hX : x_X2_synchronize κ = 0
  · refine rcI (W2 := fun u => wL cI cL h o u out) (va_runV (As := []) (rest := [.int 0, .ref o]) ⟨hx, hb, hml, hown, hts⟩ (c_X2_synchronize l dC dI cI h H.size κ hX hs) (cwV 0 hts gL_synchronize_X2_synchronize rfl rfl rfl (by decide +kernel) ⟨Nat.le_of_ble_eq_true rfl, Nat.le_of_ble_eq_true rfl⟩) (pW_V hPc hKc hDc (ci := 2) (q0 := 0) rfl rfl) rfl rfl hl.1 rfl (lv_room (Nat.le_of_ble_eq_true rfl)) dL_synchronize_3 ⟨Nat.le_of_ble_eq_true rfl, Nat.le_of_ble_eq_true rfl⟩) hP hD hS hA [0, 1, 2, 3, 4, 5, 6, 7, 8, 9] [10] [1, 2, 3, 4, 5, 6, 7, 8, 9, 10, 0] rfl rfl (by decide) (fun _ => rfl) (fun r u H locs hw hP hD hS => ?_)
    obtain ⟨hw, hw2, hz⟩ := hw
    refine lv_if_eq (tgt := 13) hx hb dL_synchronize_6 (by decide) (fun c_1 => ?_) (fun c_1 => ?_)
    · refine lv_lconst (v := 0) hx hb dL_synchronize_13 rfl ?_
      refine va_last hx hb hK hP hD hS 10 1 rfl rfl in01 dL_synchronize_14 (fun H locs hP hD hS => ?_)
      have hP : va_P (dC, dI) vwCl (wL cI cL h o u (vp_updL out (0 : Int32).toNatClampNeg 0)) H := hP
      have hD : va_D A (wL cI cL h o u (vp_updL out (0 : Int32).toNatClampNeg 0)) := hD
      refine lv_goto (tgt := 21) hx hb dL_synchronize_15 (by decide) ?_
      refine lv_iconst (v := 0) hx hb dL_synchronize_21 (by decide) ?_
      exact rI (w := fun (u : KS × (Nat → Int64)) => wL cI cL h o u.1 u.2) (u, (vp_updL out (0 : Int32).toNatClampNeg 0)) hx hb hr hlocks hP hD hS (Nat.le_of_ble_eq_true rfl) (Nat.le_of_ble_eq_true rfl) dL_synchronize_22 ⟨fun _ => ⟨rfl, hw2, (uL0 out (0)).trans ((if_pos (hw ▸ c_1)).symm)⟩, fun h9 => absurd hX h9⟩
    · refine lv_lconst (v := 1) hx hb dL_synchronize_9 rfl ?_
      refine lv_goto (tgt := 14) hx hb dL_synchronize_10 (by decide) ?_
      refine va_last hx hb hK hP hD hS 10 1 rfl rfl in01 dL_synchronize_14 (fun H locs hP hD hS => ?_)
      have hP : va_P (dC, dI) vwCl (wL cI cL h o u (vp_updL out (0 : Int32).toNatClampNeg 1)) H := hP
      have hD : va_D A (wL cI cL h o u (vp_updL out (0 : Int32).toNatClampNeg 1)) := hD
      refine lv_goto (tgt := 21) hx hb dL_synchronize_15 (by decide) ?_
      refine lv_iconst (v := 0) hx hb dL_synchronize_21 (by decide) ?_
      exact rI (w := fun (u : KS × (Nat → Int64)) => wL cI cL h o u.1 u.2) (u, (vp_updL out (0 : Int32).toNatClampNeg 1)) hx hb hr hlocks hP hD hS (Nat.le_of_ble_eq_true rfl) (Nat.le_of_ble_eq_true rfl) dL_synchronize_22 ⟨fun _ => ⟨rfl, hw2, (uL0 out (1)).trans ((if_neg (hw ▸ c_1)).symm)⟩, fun h9 => absurd hX h9⟩
  · have hFc := va_free (wc := kW cI h κ) hD hS hA [0, 1, 2, 3, 4, 5, 6, 7, 8, 9] rfl
    refine rxC (vx_runV (As := []) (rest := [.int 0, .ref o]) ⟨hx, hb, hml, hown, hts⟩ (b_X2_synchronize l hlt dC dI cI h H.size κ hX hs) (cwV 0 hts gL_synchronize_X2_synchronize rfl rfl rfl (by decide +kernel) ⟨Nat.le_of_ble_eq_true rfl, Nat.le_of_ble_eq_true rfl⟩) (pX_V hPc hKc hDc hZ hS hFc (ci := 2) (q0 := 0) rfl rfl) rfl rfl hl.1 rfl (lv_room (Nat.le_of_ble_eq_true rfl)) dL_synchronize_3 ⟨Nat.le_of_ble_eq_true rfl, Nat.le_of_ble_eq_true rfl⟩) hP hD hS hA [0, 1, 2, 3, 4, 5, 6, 7, 8, 9] [10] [1, 2, 3, 4, 5, 6, 7, 8, 9, 10, 0] rfl rfl (by decide) rfl (fun E ce q9 H locs hk hP hS hce hcv hcl => ?_)
    rcases hk with ⟨hk, rfl⟩ | ⟨hk, rfl⟩
    · exact absurd hk (x1_synchronize κ)
    · refine vx_catch (own := RL) (name := "java/lang/IllegalStateException") hown [] (⟨0, 15, 18, 15⟩ : ExceptionTableEntry) [] (by rw [htab]; rfl) (fun z hz => by cases hz) (by decide) (by decide) (hts (.classLink RL 15 "java/lang/IllegalStateException") (by decide +kernel)) (zN.use hZ.2.2.2 _ (by decide +kernel)) hce hcv hcl ?_
      refine lv_astore_n (lv' := [(2, .ref q9), (0, .ref (h 0)), (1, .ref o)]) hx hb dL_synchronize_18 rfl hl (by decide) rfl (fun ls hl => ?_)
      refine lv_iconst (v := 1) hx hb dL_synchronize_19 (by decide) ?_
      exact rI (w := fun (u : KS × (Nat → Int64)) => wL cI cL h o u.1 u.2) (κ, out) hx hb hr hlocks hP hD hS (Nat.le_of_ble_eq_true rfl) (Nat.le_of_ble_eq_true rfl) dL_synchronize_20 ⟨fun h9 => absurd h9 hX, fun _ => ⟨kc1_s hk, by decide, rfl⟩⟩
set_option maxHeartbeats 1000000 in
set_option maxRecDepth 100000 in
theorem w_checkpoint (l : Launch) (hlt : l.stackTraces = false) (dC : Nat → ClassId) (dI : Nat → Nat → Nat) (cI : ClassId) (cL : ClassId) (h : Nat → Nat) (o : Nat) (sz : Nat) (κ : KS) (out : Nat → Int64) (hs : s_X2_checkpoint κ) : Met l yL_checkpoint wsL_checkpoint ({ frames := 8, cells := 1, slots := 6, locals := 122 }) (va_Pc [.ref (h 0), .ref o] (pL (dC, dI) [(cI, .int), (cL, .long)] (wL cI cL h o κ out) sz)) (va_Qi (fun (r : Int32) (u : KS × (Nat → Int64)) => (x_X2_checkpoint κ = 0 → r = 0 ∧ u.1 = (v_X2_checkpoint κ).2 ∧ u.2 0 = (if (v_X2_checkpoint κ).1 = 0 then 0 else 1 : Int64)) ∧ (¬ x_X2_checkpoint κ = 0 → r = kc1 (x_X2_checkpoint κ) ∧ ¬ r = 0 ∧ u.1 = κ)) (qW (dC, dI) (va_A (wL cI cL h o κ out) sz) (fun (u : KS × (Nat → Int64)) => wL cI cL h o u.1 u.2)) (va_A (wL cI cL h o κ out) sz)) 1 6 (va_A (wL cI cL h o κ out) sz) := by
  refine va_MetW (cc := cL_checkpoint) (maxL := 3) (ret := (some .int)) (by decide) rfl ?_
  intro p e s m args below meth c s₁ B hml hv
  obtain ⟨rfl, ⟨⟨hsz, hP, hK, hD0⟩, hZ⟩, hNc⟩ := hv
  have hx := B.exec
  have hb := B.bytes
  have hr := B.returns
  have hts := atoms_spec (ws := wsL_checkpoint) B.pre
  have hown : s.vm.findClass RL = some m.cls := findClass_of_methodNamed B.named
  have hlocks := B.notSynchronized
  have htab : c.exceptionTable.toList = tableOf [(0, 15, 18, 15)] := vx_table (x := yL_checkpoint) B (hts _ List.mem_cons_self)
  subst hsz
  have hD := hD0.self (sz := s.heap.size)
  generalize hAe : va_A (wL cI cL h o κ out) s.heap.size = A at hD hZ ⊢
  have hA : ∀ q : Nat, s.heap.size ≤ q → A q := fun q h => by rw [← hAe]; exact Or.inr h
  have hl := lv_entry ([.ref (h 0), .ref o]) (n := 3) (Nat.le_of_ble_eq_true rfl)
  rw [lg_entry_eq]
  generalize (lg_sl ([.ref (h 0), .ref o]) ++ List.replicate (3 - (lg_sl ([.ref (h 0), .ref o])).length) Slot.unset).toArray = ls at hl ⊢
  have hl : lv_has ls 3 [(0, .ref (h 0)), (1, .ref o)] := hl
  generalize hHe : s.heap = H at hP ⊢
  generalize hLe : ([] : List Loc) = locs
  have hS : va_S A s.heap H locs := by
    rw [← hLe, ← hHe]
    exact va_S.rf
  refine lv_aload_n hx hb dL_checkpoint_0 rfl (lv_at hl 1 rfl) ?_
  refine lv_iconst (v := 0) hx hb dL_checkpoint_1 (by decide) ?_
  refine lv_aload_n hx hb dL_checkpoint_2 rfl (lv_at hl 0 rfl) ?_
  have hPc := hP.sub (ws' := kW cI h κ) [0, 1, 2, 3, 4, 5, 6, 7, 8, 9] rfl
  have hDc := hD.sub (ws' := kW cI h κ) [0, 1, 2, 3, 4, 5, 6, 7, 8, 9] (by decide) rfl
  have hKc := hK.sub (tys' := [(cI, .int)]) [0] rfl
  by_cases hX : x_X2_checkpoint κ = 0
  · refine rcI (W2 := fun u => wL cI cL h o u out) (va_runV (As := []) (rest := [.int 0, .ref o]) ⟨hx, hb, hml, hown, hts⟩ (c_X2_checkpoint l dC dI cI h H.size κ hX hs) (cwV 0 hts gL_checkpoint_X2_checkpoint rfl rfl rfl (by decide +kernel) ⟨Nat.le_of_ble_eq_true rfl, Nat.le_of_ble_eq_true rfl⟩) (pW_V hPc hKc hDc (ci := 2) (q0 := 0) rfl rfl) rfl rfl hl.1 rfl (lv_room (Nat.le_of_ble_eq_true rfl)) dL_checkpoint_3 ⟨Nat.le_of_ble_eq_true rfl, Nat.le_of_ble_eq_true rfl⟩) hP hD hS hA [0, 1, 2, 3, 4, 5, 6, 7, 8, 9] [10] [1, 2, 3, 4, 5, 6, 7, 8, 9, 10, 0] rfl rfl (by decide) (fun _ => rfl) (fun r u H locs hw hP hD hS => ?_)
    obtain ⟨hw, hw2, hz⟩ := hw
    refine lv_if_eq (tgt := 13) hx hb dL_checkpoint_6 (by decide) (fun c_1 => ?_) (fun c_1 => ?_)
    · refine lv_lconst (v := 0) hx hb dL_checkpoint_13 rfl ?_
      refine va_last hx hb hK hP hD hS 10 1 rfl rfl in01 dL_checkpoint_14 (fun H locs hP hD hS => ?_)
      have hP : va_P (dC, dI) vwCl (wL cI cL h o u (vp_updL out (0 : Int32).toNatClampNeg 0)) H := hP
      have hD : va_D A (wL cI cL h o u (vp_updL out (0 : Int32).toNatClampNeg 0)) := hD
      refine lv_goto (tgt := 21) hx hb dL_checkpoint_15 (by decide) ?_
      refine lv_iconst (v := 0) hx hb dL_checkpoint_21 (by decide) ?_
      exact rI (w := fun (u : KS × (Nat → Int64)) => wL cI cL h o u.1 u.2) (u, (vp_updL out (0 : Int32).toNatClampNeg 0)) hx hb hr hlocks hP hD hS (Nat.le_of_ble_eq_true rfl) (Nat.le_of_ble_eq_true rfl) dL_checkpoint_22 ⟨fun _ => ⟨rfl, hw2, (uL0 out (0)).trans ((if_pos (hw ▸ c_1)).symm)⟩, fun h9 => absurd hX h9⟩
    · refine lv_lconst (v := 1) hx hb dL_checkpoint_9 rfl ?_
      refine lv_goto (tgt := 14) hx hb dL_checkpoint_10 (by decide) ?_
      refine va_last hx hb hK hP hD hS 10 1 rfl rfl in01 dL_checkpoint_14 (fun H locs hP hD hS => ?_)
      have hP : va_P (dC, dI) vwCl (wL cI cL h o u (vp_updL out (0 : Int32).toNatClampNeg 1)) H := hP
      have hD : va_D A (wL cI cL h o u (vp_updL out (0 : Int32).toNatClampNeg 1)) := hD
      refine lv_goto (tgt := 21) hx hb dL_checkpoint_15 (by decide) ?_
      refine lv_iconst (v := 0) hx hb dL_checkpoint_21 (by decide) ?_
      exact rI (w := fun (u : KS × (Nat → Int64)) => wL cI cL h o u.1 u.2) (u, (vp_updL out (0 : Int32).toNatClampNeg 1)) hx hb hr hlocks hP hD hS (Nat.le_of_ble_eq_true rfl) (Nat.le_of_ble_eq_true rfl) dL_checkpoint_22 ⟨fun _ => ⟨rfl, hw2, (uL0 out (1)).trans ((if_neg (hw ▸ c_1)).symm)⟩, fun h9 => absurd hX h9⟩
  · have hFc := va_free (wc := kW cI h κ) hD hS hA [0, 1, 2, 3, 4, 5, 6, 7, 8, 9] rfl
    refine rxC (vx_runV (As := []) (rest := [.int 0, .ref o]) ⟨hx, hb, hml, hown, hts⟩ (b_X2_checkpoint l hlt dC dI cI h H.size κ hX hs) (cwV 0 hts gL_checkpoint_X2_checkpoint rfl rfl rfl (by decide +kernel) ⟨Nat.le_of_ble_eq_true rfl, Nat.le_of_ble_eq_true rfl⟩) (pX_V hPc hKc hDc hZ hS hFc (ci := 2) (q0 := 0) rfl rfl) rfl rfl hl.1 rfl (lv_room (Nat.le_of_ble_eq_true rfl)) dL_checkpoint_3 ⟨Nat.le_of_ble_eq_true rfl, Nat.le_of_ble_eq_true rfl⟩) hP hD hS hA [0, 1, 2, 3, 4, 5, 6, 7, 8, 9] [10] [1, 2, 3, 4, 5, 6, 7, 8, 9, 10, 0] rfl rfl (by decide) rfl (fun E ce q9 H locs hk hP hS hce hcv hcl => ?_)
    rcases hk with ⟨hk, rfl⟩ | ⟨hk, rfl⟩
    · exact absurd hk (x1_checkpoint κ)
    · refine vx_catch (own := RL) (name := "java/lang/IllegalStateException") hown [] (⟨0, 15, 18, 15⟩ : ExceptionTableEntry) [] (by rw [htab]; rfl) (fun z hz => by cases hz) (by decide) (by decide) (hts (.classLink RL 15 "java/lang/IllegalStateException") (by decide +kernel)) (zN.use hZ.2.2.2 _ (by decide +kernel)) hce hcv hcl ?_
      refine lv_astore_n (lv' := [(2, .ref q9), (0, .ref (h 0)), (1, .ref o)]) hx hb dL_checkpoint_18 rfl hl (by decide) rfl (fun ls hl => ?_)
      refine lv_iconst (v := 1) hx hb dL_checkpoint_19 (by decide) ?_
      exact rI (w := fun (u : KS × (Nat → Int64)) => wL cI cL h o u.1 u.2) (κ, out) hx hb hr hlocks hP hD hS (Nat.le_of_ble_eq_true rfl) (Nat.le_of_ble_eq_true rfl) dL_checkpoint_20 ⟨fun h9 => absurd h9 hX, fun _ => ⟨kc1_s hk, by decide, rfl⟩⟩
set_option maxHeartbeats 1000000 in
set_option maxRecDepth 100000 in
theorem w_collect (l : Launch) (hlt : l.stackTraces = false) (dC : Nat → ClassId) (dI : Nat → Nat → Nat) (cI : ClassId) (cL : ClassId) (h : Nat → Nat) (o : Nat) (sz : Nat) (κ : KS) (out : Nat → Int64) (p1 : Int32) (hs : s_X2_collect κ p1) : Met l yL_collect wsL_collect ({ frames := 8, cells := 1, slots := 6, locals := 134 }) (va_Pc [.ref (h 0), .int p1, .ref o] (pL (dC, dI) [(cI, .int), (cL, .long)] (wL cI cL h o κ out) sz)) (va_Qi (fun (r : Int32) (u : KS × (Nat → Int64)) => (x_X2_collect κ p1 = 0 → r = 0 ∧ u.1 = (v_X2_collect κ p1).2 ∧ u.2 0 = (if (v_X2_collect κ p1).1 = 0 then 0 else 1 : Int64)) ∧ (¬ x_X2_collect κ p1 = 0 → r = nI (x_X2_collect κ p1) ∧ ¬ r = 0 ∧ u.1 = κ)) (qW (dC, dI) (va_A (wL cI cL h o κ out) sz) (fun (u : KS × (Nat → Int64)) => wL cI cL h o u.1 u.2)) (va_A (wL cI cL h o κ out) sz)) 1 6 (va_A (wL cI cL h o κ out) sz) := by
  refine va_MetW (cc := cL_collect) (maxL := 4) (ret := (some .int)) (by decide) rfl ?_
  intro p e s m args below meth c s₁ B hml hv
  obtain ⟨rfl, ⟨⟨hsz, hP, hK, hD0⟩, hZ⟩, hNc⟩ := hv
  have hx := B.exec
  have hb := B.bytes
  have hr := B.returns
  have hts := atoms_spec (ws := wsL_collect) B.pre
  have hown : s.vm.findClass RL = some m.cls := findClass_of_methodNamed B.named
  have hlocks := B.notSynchronized
  have htab : c.exceptionTable.toList = tableOf [(0, 16, 19, 13), (0, 16, 22, 15)] := vx_table (x := yL_collect) B (hts _ List.mem_cons_self)
  subst hsz
  have hD := hD0.self (sz := s.heap.size)
  generalize hAe : va_A (wL cI cL h o κ out) s.heap.size = A at hD hZ ⊢
  have hA : ∀ q : Nat, s.heap.size ≤ q → A q := fun q h => by rw [← hAe]; exact Or.inr h
  have hl := lv_entry ([.ref (h 0), .int p1, .ref o]) (n := 4) (Nat.le_of_ble_eq_true rfl)
  rw [lg_entry_eq]
  generalize (lg_sl ([.ref (h 0), .int p1, .ref o]) ++ List.replicate (4 - (lg_sl ([.ref (h 0), .int p1, .ref o])).length) Slot.unset).toArray = ls at hl ⊢
  have hl : lv_has ls 4 [(0, .ref (h 0)), (1, .int p1), (2, .ref o)] := hl
  generalize hHe : s.heap = H at hP ⊢
  generalize hLe : ([] : List Loc) = locs
  have hS : va_S A s.heap H locs := by
    rw [← hLe, ← hHe]
    exact va_S.rf
  refine lv_aload_n hx hb dL_collect_0 rfl (lv_at hl 2 rfl) ?_
  refine lv_iconst (v := 0) hx hb dL_collect_1 (by decide) ?_
  refine lv_aload_n hx hb dL_collect_2 rfl (lv_at hl 0 rfl) ?_
  refine lv_iload_n hx hb dL_collect_3 rfl (lv_at hl 1 rfl) ?_
  have hPc := hP.sub (ws' := kW cI h κ) [0, 1, 2, 3, 4, 5, 6, 7, 8, 9] rfl
  have hDc := hD.sub (ws' := kW cI h κ) [0, 1, 2, 3, 4, 5, 6, 7, 8, 9] (by decide) rfl
  have hKc := hK.sub (tys' := [(cI, .int)]) [0] rfl
  by_cases hX : x_X2_collect κ p1 = 0
  · refine rcI (W2 := fun u => wL cI cL h o u out) (va_runV (As := [.int p1]) (rest := [.int 0, .ref o]) ⟨hx, hb, hml, hown, hts⟩ (c_X2_collect l dC dI cI h H.size κ p1 hX hs) (cwV 1 hts gL_collect_X2_collect rfl rfl rfl (by decide +kernel) ⟨Nat.le_of_ble_eq_true rfl, Nat.le_of_ble_eq_true rfl⟩) (pW_V hPc hKc hDc (ci := 2) (q0 := 0) rfl rfl) rfl rfl hl.1 rfl (lv_room (Nat.le_of_ble_eq_true rfl)) dL_collect_4 ⟨Nat.le_of_ble_eq_true rfl, Nat.le_of_ble_eq_true rfl⟩) hP hD hS hA [0, 1, 2, 3, 4, 5, 6, 7, 8, 9] [10] [1, 2, 3, 4, 5, 6, 7, 8, 9, 10, 0] rfl rfl (by decide) (fun _ => rfl) (fun r u H locs hw hP hD hS => ?_)
    obtain ⟨hw, hw2, hz⟩ := hw
    refine lv_if_eq (tgt := 14) hx hb dL_collect_7 (by decide) (fun c_1 => ?_) (fun c_1 => ?_)
    · refine lv_lconst (v := 0) hx hb dL_collect_14 rfl ?_
      refine va_last hx hb hK hP hD hS 10 1 rfl rfl in01 dL_collect_15 (fun H locs hP hD hS => ?_)
      have hP : va_P (dC, dI) vwCl (wL cI cL h o u (vp_updL out (0 : Int32).toNatClampNeg 0)) H := hP
      have hD : va_D A (wL cI cL h o u (vp_updL out (0 : Int32).toNatClampNeg 0)) := hD
      refine lv_goto (tgt := 25) hx hb dL_collect_16 (by decide) ?_
      refine lv_iconst (v := 0) hx hb dL_collect_25 (by decide) ?_
      exact rI (w := fun (u : KS × (Nat → Int64)) => wL cI cL h o u.1 u.2) (u, (vp_updL out (0 : Int32).toNatClampNeg 0)) hx hb hr hlocks hP hD hS (Nat.le_of_ble_eq_true rfl) (Nat.le_of_ble_eq_true rfl) dL_collect_26 ⟨fun _ => ⟨rfl, hw2, (uL0 out (0)).trans ((if_pos (hw ▸ c_1)).symm)⟩, fun h9 => absurd hX h9⟩
    · refine lv_lconst (v := 1) hx hb dL_collect_10 rfl ?_
      refine lv_goto (tgt := 15) hx hb dL_collect_11 (by decide) ?_
      refine va_last hx hb hK hP hD hS 10 1 rfl rfl in01 dL_collect_15 (fun H locs hP hD hS => ?_)
      have hP : va_P (dC, dI) vwCl (wL cI cL h o u (vp_updL out (0 : Int32).toNatClampNeg 1)) H := hP
      have hD : va_D A (wL cI cL h o u (vp_updL out (0 : Int32).toNatClampNeg 1)) := hD
      refine lv_goto (tgt := 25) hx hb dL_collect_16 (by decide) ?_
      refine lv_iconst (v := 0) hx hb dL_collect_25 (by decide) ?_
      exact rI (w := fun (u : KS × (Nat → Int64)) => wL cI cL h o u.1 u.2) (u, (vp_updL out (0 : Int32).toNatClampNeg 1)) hx hb hr hlocks hP hD hS (Nat.le_of_ble_eq_true rfl) (Nat.le_of_ble_eq_true rfl) dL_collect_26 ⟨fun _ => ⟨rfl, hw2, (uL0 out (1)).trans ((if_neg (hw ▸ c_1)).symm)⟩, fun h9 => absurd hX h9⟩
  · have hFc := va_free (wc := kW cI h κ) hD hS hA [0, 1, 2, 3, 4, 5, 6, 7, 8, 9] rfl
    refine rxC (vx_runV (As := [.int p1]) (rest := [.int 0, .ref o]) ⟨hx, hb, hml, hown, hts⟩ (b_X2_collect l hlt dC dI cI h H.size κ p1 hX hs) (cwV 1 hts gL_collect_X2_collect rfl rfl rfl (by decide +kernel) ⟨Nat.le_of_ble_eq_true rfl, Nat.le_of_ble_eq_true rfl⟩) (pX_V hPc hKc hDc hZ hS hFc (ci := 2) (q0 := 0) rfl rfl) rfl rfl hl.1 rfl (lv_room (Nat.le_of_ble_eq_true rfl)) dL_collect_4 ⟨Nat.le_of_ble_eq_true rfl, Nat.le_of_ble_eq_true rfl⟩) hP hD hS hA [0, 1, 2, 3, 4, 5, 6, 7, 8, 9] [10] [1, 2, 3, 4, 5, 6, 7, 8, 9, 10, 0] rfl rfl (by decide) rfl (fun E ce q9 H locs hk hP hS hce hcv hcl => ?_)
    rcases hk with ⟨hk, rfl⟩ | ⟨hk, rfl⟩
    · refine vx_catch (own := RL) (name := "java/lang/IllegalArgumentException") hown [] (⟨0, 16, 19, 13⟩ : ExceptionTableEntry) [(⟨0, 16, 22, 15⟩ : ExceptionTableEntry)] (by rw [htab]; rfl) (fun z hz => by cases hz) (by decide) (by decide) (hts (.classLink RL 13 "java/lang/IllegalArgumentException") (by decide +kernel)) (zN.use hZ.2.2.2 _ (by decide +kernel)) hce hcv hcl ?_
      refine lv_astore_n (lv' := [(3, .ref q9), (0, .ref (h 0)), (1, .int p1), (2, .ref o)]) hx hb dL_collect_19 rfl hl (by decide) rfl (fun ls hl => ?_)
      refine lv_iconst (v := 1) hx hb dL_collect_20 (by decide) ?_
      exact rI (w := fun (u : KS × (Nat → Int64)) => wL cI cL h o u.1 u.2) (κ, out) hx hb hr hlocks hP hD hS (Nat.le_of_ble_eq_true rfl) (Nat.le_of_ble_eq_true rfl) dL_collect_21 ⟨fun h9 => absurd h9 hX, fun _ => ⟨nI_s1 hk, by decide, rfl⟩⟩
    · refine vx_catch (own := RL) (name := "java/lang/IllegalStateException") hown [(⟨0, 16, 19, 13⟩ : ExceptionTableEntry)] (⟨0, 16, 22, 15⟩ : ExceptionTableEntry) [] (by rw [htab]; rfl) (fun z hz => by cases hz with | head => exact Or.inr ⟨by decide, "java/lang/IllegalArgumentException", hts (.classLink RL 13 "java/lang/IllegalArgumentException") (by decide +kernel), hNc⟩ | tail _ h9 => cases h9) (by decide) (by decide) (hts (.classLink RL 15 "java/lang/IllegalStateException") (by decide +kernel)) (zN.use hZ.2.2.2 _ (by decide +kernel)) hce hcv hcl ?_
      refine lv_astore_n (lv' := [(3, .ref q9), (0, .ref (h 0)), (1, .int p1), (2, .ref o)]) hx hb dL_collect_22 rfl hl (by decide) rfl (fun ls hl => ?_)
      refine lv_iconst (v := 2) hx hb dL_collect_23 (by decide) ?_
      exact rI (w := fun (u : KS × (Nat → Int64)) => wL cI cL h o u.1 u.2) (κ, out) hx hb hr hlocks hP hD hS (Nat.le_of_ble_eq_true rfl) (Nat.le_of_ble_eq_true rfl) dL_collect_24 ⟨fun h9 => absurd h9 hX, fun _ => ⟨nI_s2 hk, by decide, rfl⟩⟩
set_option maxHeartbeats 1000000 in
set_option maxRecDepth 100000 in
theorem w_failAfter (l : Launch) (hlt : l.stackTraces = false) (dC : Nat → ClassId) (dI : Nat → Nat → Nat) (cI : ClassId) (h : Nat → Nat) (sz : Nat) (κ : KS) (p1 : Int32) : Met l yL_failAfter wsL_failAfter ({ frames := 7, cells := 1, slots := 6, locals := 103 }) (va_Pc [.ref (h 0), .int p1] (pL (dC, dI) [(cI, .int)] (kW cI h κ) sz)) (va_Qi (fun (r : Int32) (u : KS) => (x_X2_failAfter κ p1 = 0 → r = 0 ∧ u = v_X2_failAfter κ p1) ∧ (¬ x_X2_failAfter κ p1 = 0 → r = nI (x_X2_failAfter κ p1) ∧ ¬ r = 0 ∧ u = κ)) (qW (dC, dI) (va_A (kW cI h κ) sz) (fun (u : KS) => kW cI h u)) (va_A (kW cI h κ) sz)) 1 6 (va_A (kW cI h κ) sz) := by
  refine va_MetW (cc := cL_failAfter) (maxL := 3) (ret := (some .int)) (by decide) rfl ?_
  intro p e s m args below meth c s₁ B hml hv
  obtain ⟨rfl, ⟨⟨hsz, hP, hK, hD0⟩, hZ⟩, hNc⟩ := hv
  have hx := B.exec
  have hb := B.bytes
  have hr := B.returns
  have hts := atoms_spec (ws := wsL_failAfter) B.pre
  have hown : s.vm.findClass RL = some m.cls := findClass_of_methodNamed B.named
  have hlocks := B.notSynchronized
  have htab : c.exceptionTable.toList = tableOf [(0, 5, 8, 13)] := vx_table (x := yL_failAfter) B (hts _ List.mem_cons_self)
  subst hsz
  have hD := hD0.self (sz := s.heap.size)
  generalize hAe : va_A (kW cI h κ) s.heap.size = A at hD hZ ⊢
  have hA : ∀ q : Nat, s.heap.size ≤ q → A q := fun q h => by rw [← hAe]; exact Or.inr h
  have hl := lv_entry ([.ref (h 0), .int p1]) (n := 3) (Nat.le_of_ble_eq_true rfl)
  rw [lg_entry_eq]
  generalize (lg_sl ([.ref (h 0), .int p1]) ++ List.replicate (3 - (lg_sl ([.ref (h 0), .int p1])).length) Slot.unset).toArray = ls at hl ⊢
  have hl : lv_has ls 3 [(0, .ref (h 0)), (1, .int p1)] := hl
  generalize hHe : s.heap = H at hP ⊢
  generalize hLe : ([] : List Loc) = locs
  have hS : va_S A s.heap H locs := by
    rw [← hLe, ← hHe]
    exact va_S.rf
  refine lv_aload_n hx hb dL_failAfter_0 rfl (lv_at hl 0 rfl) ?_
  refine lv_iload_n hx hb dL_failAfter_1 rfl (lv_at hl 1 rfl) ?_
  have hPc := hP.sub (ws' := kW cI h κ) [0, 1, 2, 3, 4, 5, 6, 7, 8, 9] rfl
  have hDc := hD.sub (ws' := kW cI h κ) [0, 1, 2, 3, 4, 5, 6, 7, 8, 9] (by decide) rfl
  have hKc := hK.sub (tys' := [(cI, .int)]) [0] rfl
  by_cases hX : x_X2_failAfter κ p1 = 0
  · refine rcV (W2 := fun u => kW cI h u) (va_runV (As := [.int p1]) (rest := []) ⟨hx, hb, hml, hown, hts⟩ (c_X2_failAfter l dC dI cI h H.size κ p1 hX) (cwV 1 hts gL_failAfter_X2_failAfter rfl rfl rfl (by decide +kernel) ⟨Nat.le_of_ble_eq_true rfl, Nat.le_of_ble_eq_true rfl⟩) (pW_V hPc hKc hDc (ci := 2) (q0 := 0) rfl rfl) rfl rfl hl.1 rfl (lv_room (Nat.le_of_ble_eq_true rfl)) dL_failAfter_2 ⟨Nat.le_of_ble_eq_true rfl, Nat.le_of_ble_eq_true rfl⟩) hP hD hS hA [0, 1, 2, 3, 4, 5, 6, 7, 8, 9] [] [0, 1, 2, 3, 4, 5, 6, 7, 8, 9] rfl rfl (by decide) (fun _ => rfl) (fun u H locs hw hP hD hS => ?_)
    refine lv_goto (tgt := 11) hx hb dL_failAfter_5 (by decide) ?_
    refine lv_iconst (v := 0) hx hb dL_failAfter_11 (by decide) ?_
    exact rI (w := fun (u : KS) => kW cI h u) u hx hb hr hlocks hP hD hS (Nat.le_of_ble_eq_true rfl) (Nat.le_of_ble_eq_true rfl) dL_failAfter_12 ⟨fun _ => ⟨rfl, hw⟩, fun h9 => absurd hX h9⟩
  · have hFc := va_free (wc := kW cI h κ) hD hS hA [0, 1, 2, 3, 4, 5, 6, 7, 8, 9] rfl
    refine rxC (vx_runV (As := [.int p1]) (rest := []) ⟨hx, hb, hml, hown, hts⟩ (b_X2_failAfter l hlt dC dI cI h H.size κ p1 hX) (cwV 1 hts gL_failAfter_X2_failAfter rfl rfl rfl (by decide +kernel) ⟨Nat.le_of_ble_eq_true rfl, Nat.le_of_ble_eq_true rfl⟩) (pX_V hPc hKc hDc hZ hS hFc (ci := 2) (q0 := 0) rfl rfl) rfl rfl hl.1 rfl (lv_room (Nat.le_of_ble_eq_true rfl)) dL_failAfter_2 ⟨Nat.le_of_ble_eq_true rfl, Nat.le_of_ble_eq_true rfl⟩) hP hD hS hA [0, 1, 2, 3, 4, 5, 6, 7, 8, 9] [] [0, 1, 2, 3, 4, 5, 6, 7, 8, 9] rfl rfl (by decide) rfl (fun E ce q9 H locs hk hP hS hce hcv hcl => ?_)
    rcases hk with ⟨hk, rfl⟩ | ⟨hk, rfl⟩
    · refine vx_catch (own := RL) (name := "java/lang/IllegalArgumentException") hown [] (⟨0, 5, 8, 13⟩ : ExceptionTableEntry) [] (by rw [htab]; rfl) (fun z hz => by cases hz) (by decide) (by decide) (hts (.classLink RL 13 "java/lang/IllegalArgumentException") (by decide +kernel)) (zN.use hZ.2.2.2 _ (by decide +kernel)) hce hcv hcl ?_
      refine lv_astore_n (lv' := [(2, .ref q9), (0, .ref (h 0)), (1, .int p1)]) hx hb dL_failAfter_8 rfl hl (by decide) rfl (fun ls hl => ?_)
      refine lv_iconst (v := 1) hx hb dL_failAfter_9 (by decide) ?_
      exact rI (w := fun (u : KS) => kW cI h u) κ hx hb hr hlocks hP hD hS (Nat.le_of_ble_eq_true rfl) (Nat.le_of_ble_eq_true rfl) dL_failAfter_10 ⟨fun h9 => absurd h9 hX, fun _ => ⟨nI_s1 hk, by decide, rfl⟩⟩
    · exact absurd hk (x2_failAfter κ p1)
set_option maxHeartbeats 1000000 in
set_option maxRecDepth 100000 in
theorem w_crash (l : Launch) (hlt : l.stackTraces = false) (dC : Nat → ClassId) (dI : Nat → Nat → Nat) (cI : ClassId) (cL : ClassId) (h : Nat → Nat) (o : Nat) (sz : Nat) (κ : KS) (out : Nat → Int64) : Met l yL_crash wsL_crash ({ frames := 8, cells := 1, slots := 6, locals := 123 }) (va_Pc [.ref (h 0), .ref o] (pL (dC, dI) [(cI, .int), (cL, .long)] (wL cI cL h o κ out) sz)) (va_Qi (fun (r : Int32) (u : KS × (Nat → Int64)) => (x_X2_crash κ = 0 → r = 0 ∧ u.1 = (v_X2_crash κ).2 ∧ u.2 0 = Int32.toInt64 (v_X2_crash κ).1) ∧ (¬ x_X2_crash κ = 0 → r = kc1 (x_X2_crash κ) ∧ ¬ r = 0 ∧ u.1 = κ)) (qW (dC, dI) (va_A (wL cI cL h o κ out) sz) (fun (u : KS × (Nat → Int64)) => wL cI cL h o u.1 u.2)) (va_A (wL cI cL h o κ out) sz)) 1 6 (va_A (wL cI cL h o κ out) sz) := by
  refine va_MetW (cc := cL_crash) (maxL := 3) (ret := (some .int)) (by decide) rfl ?_
  intro p e s m args below meth c s₁ B hml hv
  obtain ⟨rfl, ⟨⟨hsz, hP, hK, hD0⟩, hZ⟩, hNc⟩ := hv
  have hx := B.exec
  have hb := B.bytes
  have hr := B.returns
  have hts := atoms_spec (ws := wsL_crash) B.pre
  have hown : s.vm.findClass RL = some m.cls := findClass_of_methodNamed B.named
  have hlocks := B.notSynchronized
  have htab : c.exceptionTable.toList = tableOf [(0, 8, 11, 15)] := vx_table (x := yL_crash) B (hts _ List.mem_cons_self)
  subst hsz
  have hD := hD0.self (sz := s.heap.size)
  generalize hAe : va_A (wL cI cL h o κ out) s.heap.size = A at hD hZ ⊢
  have hA : ∀ q : Nat, s.heap.size ≤ q → A q := fun q h => by rw [← hAe]; exact Or.inr h
  have hl := lv_entry ([.ref (h 0), .ref o]) (n := 3) (Nat.le_of_ble_eq_true rfl)
  rw [lg_entry_eq]
  generalize (lg_sl ([.ref (h 0), .ref o]) ++ List.replicate (3 - (lg_sl ([.ref (h 0), .ref o])).length) Slot.unset).toArray = ls at hl ⊢
  have hl : lv_has ls 3 [(0, .ref (h 0)), (1, .ref o)] := hl
  generalize hHe : s.heap = H at hP ⊢
  generalize hLe : ([] : List Loc) = locs
  have hS : va_S A s.heap H locs := by
    rw [← hLe, ← hHe]
    exact va_S.rf
  refine lv_aload_n hx hb dL_crash_0 rfl (lv_at hl 1 rfl) ?_
  refine lv_iconst (v := 0) hx hb dL_crash_1 (by decide) ?_
  refine lv_aload_n hx hb dL_crash_2 rfl (lv_at hl 0 rfl) ?_
  have hPc := hP.sub (ws' := kW cI h κ) [0, 1, 2, 3, 4, 5, 6, 7, 8, 9] rfl
  have hDc := hD.sub (ws' := kW cI h κ) [0, 1, 2, 3, 4, 5, 6, 7, 8, 9] (by decide) rfl
  have hKc := hK.sub (tys' := [(cI, .int)]) [0] rfl
  by_cases hX : x_X2_crash κ = 0
  · refine rcI (W2 := fun u => wL cI cL h o u out) (va_runV (As := []) (rest := [.int 0, .ref o]) ⟨hx, hb, hml, hown, hts⟩ (c_X2_crash l dC dI cI h H.size κ hX) (cwV 0 hts gL_crash_X2_crash rfl rfl rfl (by decide +kernel) ⟨Nat.le_of_ble_eq_true rfl, Nat.le_of_ble_eq_true rfl⟩) (pW_V hPc hKc hDc (ci := 2) (q0 := 0) rfl rfl) rfl rfl hl.1 rfl (lv_room (Nat.le_of_ble_eq_true rfl)) dL_crash_3 ⟨Nat.le_of_ble_eq_true rfl, Nat.le_of_ble_eq_true rfl⟩) hP hD hS hA [0, 1, 2, 3, 4, 5, 6, 7, 8, 9] [10] [1, 2, 3, 4, 5, 6, 7, 8, 9, 10, 0] rfl rfl (by decide) (fun _ => rfl) (fun r u H locs hw hP hD hS => ?_)
    obtain ⟨hw, hw2⟩ := hw
    refine lv_i2l (v := Int32.toInt64 r) hx hb dL_crash_6 rfl ?_
    refine va_last hx hb hK hP hD hS 10 1 rfl rfl in01 dL_crash_7 (fun H locs hP hD hS => ?_)
    have hP : va_P (dC, dI) vwCl (wL cI cL h o u (vp_updL out (0 : Int32).toNatClampNeg (Int32.toInt64 r))) H := hP
    have hD : va_D A (wL cI cL h o u (vp_updL out (0 : Int32).toNatClampNeg (Int32.toInt64 r))) := hD
    refine lv_goto (tgt := 14) hx hb dL_crash_8 (by decide) ?_
    refine lv_iconst (v := 0) hx hb dL_crash_14 (by decide) ?_
    exact rI (w := fun (u : KS × (Nat → Int64)) => wL cI cL h o u.1 u.2) (u, (vp_updL out (0 : Int32).toNatClampNeg (Int32.toInt64 r))) hx hb hr hlocks hP hD hS (Nat.le_of_ble_eq_true rfl) (Nat.le_of_ble_eq_true rfl) dL_crash_15 ⟨fun _ => ⟨rfl, hw2, (uL0 out ((Int32.toInt64 r))).trans (congrArg Int32.toInt64 hw)⟩, fun h9 => absurd hX h9⟩
  · have hFc := va_free (wc := kW cI h κ) hD hS hA [0, 1, 2, 3, 4, 5, 6, 7, 8, 9] rfl
    refine rxC (vx_runV (As := []) (rest := [.int 0, .ref o]) ⟨hx, hb, hml, hown, hts⟩ (b_X2_crash l hlt dC dI cI h H.size κ hX) (cwV 0 hts gL_crash_X2_crash rfl rfl rfl (by decide +kernel) ⟨Nat.le_of_ble_eq_true rfl, Nat.le_of_ble_eq_true rfl⟩) (pX_V hPc hKc hDc hZ hS hFc (ci := 2) (q0 := 0) rfl rfl) rfl rfl hl.1 rfl (lv_room (Nat.le_of_ble_eq_true rfl)) dL_crash_3 ⟨Nat.le_of_ble_eq_true rfl, Nat.le_of_ble_eq_true rfl⟩) hP hD hS hA [0, 1, 2, 3, 4, 5, 6, 7, 8, 9] [10] [1, 2, 3, 4, 5, 6, 7, 8, 9, 10, 0] rfl rfl (by decide) rfl (fun E ce q9 H locs hk hP hS hce hcv hcl => ?_)
    rcases hk with ⟨hk, rfl⟩ | ⟨hk, rfl⟩
    · exact absurd hk (x1_crash κ)
    · refine vx_catch (own := RL) (name := "java/lang/IllegalStateException") hown [] (⟨0, 8, 11, 15⟩ : ExceptionTableEntry) [] (by rw [htab]; rfl) (fun z hz => by cases hz) (by decide) (by decide) (hts (.classLink RL 15 "java/lang/IllegalStateException") (by decide +kernel)) (zN.use hZ.2.2.2 _ (by decide +kernel)) hce hcv hcl ?_
      refine lv_astore_n (lv' := [(2, .ref q9), (0, .ref (h 0)), (1, .ref o)]) hx hb dL_crash_11 rfl hl (by decide) rfl (fun ls hl => ?_)
      refine lv_iconst (v := 1) hx hb dL_crash_12 (by decide) ?_
      exact rI (w := fun (u : KS × (Nat → Int64)) => wL cI cL h o u.1 u.2) (κ, out) hx hb hr hlocks hP hD hS (Nat.le_of_ble_eq_true rfl) (Nat.le_of_ble_eq_true rfl) dL_crash_13 ⟨fun h9 => absurd h9 hX, fun _ => ⟨kc1_s hk, by decide, rfl⟩⟩
set_option maxHeartbeats 1000000 in
set_option maxRecDepth 100000 in
theorem w_start (l : Launch) (hlt : l.stackTraces = false) (dC : Nat → ClassId) (dI : Nat → Nat → Nat) (cI : ClassId) (cL : ClassId) (h : Nat → Nat) (o : Nat) (sz : Nat) (κ : KS) (out : Nat → Int64) (hs : s_X2_start κ) : Met l yL_start wsL_start ({ frames := 7, cells := 1, slots := 6, locals := 109 }) (va_Pc [.ref (h 0), .ref o] (pL (dC, dI) [(cI, .int), (cL, .long)] (wL cI cL h o κ out) sz)) (va_Qi (fun (r : Int32) (u : KS × (Nat → Int64)) => (x_X2_start κ = 0 → r = 0 ∧ u.1 = (v_X2_start κ).2 ∧ u.2 0 = Int32.toInt64 (v_X2_start κ).1) ∧ (¬ x_X2_start κ = 0 → r = kc1 (x_X2_start κ) ∧ ¬ r = 0 ∧ u.1 = κ)) (qW (dC, dI) (va_A (wL cI cL h o κ out) sz) (fun (u : KS × (Nat → Int64)) => wL cI cL h o u.1 u.2)) (va_A (wL cI cL h o κ out) sz)) 1 6 (va_A (wL cI cL h o κ out) sz) := by
  refine va_MetW (cc := cL_start) (maxL := 3) (ret := (some .int)) (by decide) rfl ?_
  intro p e s m args below meth c s₁ B hml hv
  obtain ⟨rfl, ⟨⟨hsz, hP, hK, hD0⟩, hZ⟩, hNc⟩ := hv
  have hx := B.exec
  have hb := B.bytes
  have hr := B.returns
  have hts := atoms_spec (ws := wsL_start) B.pre
  have hown : s.vm.findClass RL = some m.cls := findClass_of_methodNamed B.named
  have hlocks := B.notSynchronized
  have htab : c.exceptionTable.toList = tableOf [(0, 8, 11, 15)] := vx_table (x := yL_start) B (hts _ List.mem_cons_self)
  subst hsz
  have hD := hD0.self (sz := s.heap.size)
  generalize hAe : va_A (wL cI cL h o κ out) s.heap.size = A at hD hZ ⊢
  have hA : ∀ q : Nat, s.heap.size ≤ q → A q := fun q h => by rw [← hAe]; exact Or.inr h
  have hl := lv_entry ([.ref (h 0), .ref o]) (n := 3) (Nat.le_of_ble_eq_true rfl)
  rw [lg_entry_eq]
  generalize (lg_sl ([.ref (h 0), .ref o]) ++ List.replicate (3 - (lg_sl ([.ref (h 0), .ref o])).length) Slot.unset).toArray = ls at hl ⊢
  have hl : lv_has ls 3 [(0, .ref (h 0)), (1, .ref o)] := hl
  generalize hHe : s.heap = H at hP ⊢
  generalize hLe : ([] : List Loc) = locs
  have hS : va_S A s.heap H locs := by
    rw [← hLe, ← hHe]
    exact va_S.rf
  refine lv_aload_n hx hb dL_start_0 rfl (lv_at hl 1 rfl) ?_
  refine lv_iconst (v := 0) hx hb dL_start_1 (by decide) ?_
  refine lv_aload_n hx hb dL_start_2 rfl (lv_at hl 0 rfl) ?_
  have hPc := hP.sub (ws' := kW cI h κ) [0, 1, 2, 3, 4, 5, 6, 7, 8, 9] rfl
  have hDc := hD.sub (ws' := kW cI h κ) [0, 1, 2, 3, 4, 5, 6, 7, 8, 9] (by decide) rfl
  have hKc := hK.sub (tys' := [(cI, .int)]) [0] rfl
  by_cases hX : x_X2_start κ = 0
  · refine rcI (W2 := fun u => wL cI cL h o u out) (va_runV (As := []) (rest := [.int 0, .ref o]) ⟨hx, hb, hml, hown, hts⟩ (c_X2_start l dC dI cI h H.size κ hX hs) (cwV 0 hts gL_start_X2_start rfl rfl rfl (by decide +kernel) ⟨Nat.le_of_ble_eq_true rfl, Nat.le_of_ble_eq_true rfl⟩) (pW_V hPc hKc hDc (ci := 2) (q0 := 0) rfl rfl) rfl rfl hl.1 rfl (lv_room (Nat.le_of_ble_eq_true rfl)) dL_start_3 ⟨Nat.le_of_ble_eq_true rfl, Nat.le_of_ble_eq_true rfl⟩) hP hD hS hA [0, 1, 2, 3, 4, 5, 6, 7, 8, 9] [10] [1, 2, 3, 4, 5, 6, 7, 8, 9, 10, 0] rfl rfl (by decide) (fun _ => rfl) (fun r u H locs hw hP hD hS => ?_)
    obtain ⟨hw, hw2⟩ := hw
    refine lv_i2l (v := Int32.toInt64 r) hx hb dL_start_6 rfl ?_
    refine va_last hx hb hK hP hD hS 10 1 rfl rfl in01 dL_start_7 (fun H locs hP hD hS => ?_)
    have hP : va_P (dC, dI) vwCl (wL cI cL h o u (vp_updL out (0 : Int32).toNatClampNeg (Int32.toInt64 r))) H := hP
    have hD : va_D A (wL cI cL h o u (vp_updL out (0 : Int32).toNatClampNeg (Int32.toInt64 r))) := hD
    refine lv_goto (tgt := 14) hx hb dL_start_8 (by decide) ?_
    refine lv_iconst (v := 0) hx hb dL_start_14 (by decide) ?_
    exact rI (w := fun (u : KS × (Nat → Int64)) => wL cI cL h o u.1 u.2) (u, (vp_updL out (0 : Int32).toNatClampNeg (Int32.toInt64 r))) hx hb hr hlocks hP hD hS (Nat.le_of_ble_eq_true rfl) (Nat.le_of_ble_eq_true rfl) dL_start_15 ⟨fun _ => ⟨rfl, hw2, (uL0 out ((Int32.toInt64 r))).trans (congrArg Int32.toInt64 hw)⟩, fun h9 => absurd hX h9⟩
  · have hFc := va_free (wc := kW cI h κ) hD hS hA [0, 1, 2, 3, 4, 5, 6, 7, 8, 9] rfl
    refine rxC (vx_runV (As := []) (rest := [.int 0, .ref o]) ⟨hx, hb, hml, hown, hts⟩ (b_X2_start l hlt dC dI cI h H.size κ hX hs) (cwV 0 hts gL_start_X2_start rfl rfl rfl (by decide +kernel) ⟨Nat.le_of_ble_eq_true rfl, Nat.le_of_ble_eq_true rfl⟩) (pX_V hPc hKc hDc hZ hS hFc (ci := 2) (q0 := 0) rfl rfl) rfl rfl hl.1 rfl (lv_room (Nat.le_of_ble_eq_true rfl)) dL_start_3 ⟨Nat.le_of_ble_eq_true rfl, Nat.le_of_ble_eq_true rfl⟩) hP hD hS hA [0, 1, 2, 3, 4, 5, 6, 7, 8, 9] [10] [1, 2, 3, 4, 5, 6, 7, 8, 9, 10, 0] rfl rfl (by decide) rfl (fun E ce q9 H locs hk hP hS hce hcv hcl => ?_)
    rcases hk with ⟨hk, rfl⟩ | ⟨hk, rfl⟩
    · exact absurd hk (x1_start κ)
    · refine vx_catch (own := RL) (name := "java/lang/IllegalStateException") hown [] (⟨0, 8, 11, 15⟩ : ExceptionTableEntry) [] (by rw [htab]; rfl) (fun z hz => by cases hz) (by decide) (by decide) (hts (.classLink RL 15 "java/lang/IllegalStateException") (by decide +kernel)) (zN.use hZ.2.2.2 _ (by decide +kernel)) hce hcv hcl ?_
      refine lv_astore_n (lv' := [(2, .ref q9), (0, .ref (h 0)), (1, .ref o)]) hx hb dL_start_11 rfl hl (by decide) rfl (fun ls hl => ?_)
      refine lv_iconst (v := 1) hx hb dL_start_12 (by decide) ?_
      exact rI (w := fun (u : KS × (Nat → Int64)) => wL cI cL h o u.1 u.2) (κ, out) hx hb hr hlocks hP hD hS (Nat.le_of_ble_eq_true rfl) (Nat.le_of_ble_eq_true rfl) dL_start_13 ⟨fun h9 => absurd h9 hX, fun _ => ⟨kc1_s hk, by decide, rfl⟩⟩
set_option maxHeartbeats 1000000 in
set_option maxRecDepth 100000 in
theorem w_positionOf (l : Launch) (hlt : l.stackTraces = false) (dC : Nat → ClassId) (dI : Nat → Nat → Nat) (cI : ClassId) (cL : ClassId) (h : Nat → Nat) (o : Nat) (sz : Nat) (κ : KS) (out : Nat → Int64) (p1 : Int32) : Met l yL_positionOf wsL_positionOf ({ frames := 8, cells := 1, slots := 6, locals := 123 }) (va_Pc [.ref (h 0), .int p1, .ref o] (pL (dC, dI) [(cI, .int), (cL, .long)] (wL cI cL h o κ out) sz)) (va_Qi (fun (r : Int32) (u : KS × (Nat → Int64)) => (x_X2_positionOf κ p1 = 0 → r = 0 ∧ u.1 = κ ∧ u.2 0 = Int32.toInt64 (v_X2_positionOf κ p1)) ∧ (¬ x_X2_positionOf κ p1 = 0 → r = nI (x_X2_positionOf κ p1) ∧ ¬ r = 0 ∧ u.1 = κ)) (qW (dC, dI) (va_A (wL cI cL h o κ out) sz) (fun (u : KS × (Nat → Int64)) => wL cI cL h o u.1 u.2)) (va_A (wL cI cL h o κ out) sz)) 1 6 (va_A (wL cI cL h o κ out) sz) := by
  refine va_MetW (cc := cL_positionOf) (maxL := 4) (ret := (some .int)) (by decide) rfl ?_
  intro p e s m args below meth c s₁ B hml hv
  obtain ⟨rfl, ⟨⟨hsz, hP, hK, hD0⟩, hZ⟩, hNc⟩ := hv
  have hx := B.exec
  have hb := B.bytes
  have hr := B.returns
  have hts := atoms_spec (ws := wsL_positionOf) B.pre
  have hown : s.vm.findClass RL = some m.cls := findClass_of_methodNamed B.named
  have hlocks := B.notSynchronized
  have htab : c.exceptionTable.toList = tableOf [(0, 9, 12, 13), (0, 9, 15, 15)] := vx_table (x := yL_positionOf) B (hts _ List.mem_cons_self)
  subst hsz
  have hD := hD0.self (sz := s.heap.size)
  generalize hAe : va_A (wL cI cL h o κ out) s.heap.size = A at hD hZ ⊢
  have hA : ∀ q : Nat, s.heap.size ≤ q → A q := fun q h => by rw [← hAe]; exact Or.inr h
  have hl := lv_entry ([.ref (h 0), .int p1, .ref o]) (n := 4) (Nat.le_of_ble_eq_true rfl)
  rw [lg_entry_eq]
  generalize (lg_sl ([.ref (h 0), .int p1, .ref o]) ++ List.replicate (4 - (lg_sl ([.ref (h 0), .int p1, .ref o])).length) Slot.unset).toArray = ls at hl ⊢
  have hl : lv_has ls 4 [(0, .ref (h 0)), (1, .int p1), (2, .ref o)] := hl
  generalize hHe : s.heap = H at hP ⊢
  generalize hLe : ([] : List Loc) = locs
  have hS : va_S A s.heap H locs := by
    rw [← hLe, ← hHe]
    exact va_S.rf
  refine lv_aload_n hx hb dL_positionOf_0 rfl (lv_at hl 2 rfl) ?_
  refine lv_iconst (v := 0) hx hb dL_positionOf_1 (by decide) ?_
  refine lv_aload_n hx hb dL_positionOf_2 rfl (lv_at hl 0 rfl) ?_
  refine lv_iload_n hx hb dL_positionOf_3 rfl (lv_at hl 1 rfl) ?_
  have hPc := hP.sub (ws' := kW cI h κ) [0, 1, 2, 3, 4, 5, 6, 7, 8, 9] rfl
  have hDc := hD.sub (ws' := kW cI h κ) [0, 1, 2, 3, 4, 5, 6, 7, 8, 9] (by decide) rfl
  have hKc := hK.sub (tys' := [(cI, .int)]) [0] rfl
  by_cases hX : x_X2_positionOf κ p1 = 0
  · refine rcI (W2 := fun _ => wL cI cL h o κ out) (va_runV (As := [.int p1]) (rest := [.int 0, .ref o]) ⟨hx, hb, hml, hown, hts⟩ (c_X2_positionOf l dC dI cI h H.size κ p1 hX) (cwV 1 hts gL_positionOf_X2_positionOf rfl rfl rfl (by decide +kernel) ⟨Nat.le_of_ble_eq_true rfl, Nat.le_of_ble_eq_true rfl⟩) (pW_V hPc hKc hDc (ci := 2) (q0 := 0) rfl rfl) rfl rfl hl.1 rfl (lv_room (Nat.le_of_ble_eq_true rfl)) dL_positionOf_4 ⟨Nat.le_of_ble_eq_true rfl, Nat.le_of_ble_eq_true rfl⟩) hP hD hS hA [0, 1, 2, 3, 4, 5, 6, 7, 8, 9] [10] [1, 2, 3, 4, 5, 6, 7, 8, 9, 10, 0] rfl rfl (by decide) (fun _ => rfl) (fun r u H locs hw hP hD hS => ?_)
    refine lv_i2l (v := Int32.toInt64 r) hx hb dL_positionOf_7 rfl ?_
    refine va_last hx hb hK hP hD hS 10 1 rfl rfl in01 dL_positionOf_8 (fun H locs hP hD hS => ?_)
    have hP : va_P (dC, dI) vwCl (wL cI cL h o κ (vp_updL out (0 : Int32).toNatClampNeg (Int32.toInt64 r))) H := hP
    have hD : va_D A (wL cI cL h o κ (vp_updL out (0 : Int32).toNatClampNeg (Int32.toInt64 r))) := hD
    refine lv_goto (tgt := 18) hx hb dL_positionOf_9 (by decide) ?_
    refine lv_iconst (v := 0) hx hb dL_positionOf_18 (by decide) ?_
    exact rI (w := fun (u : KS × (Nat → Int64)) => wL cI cL h o u.1 u.2) (κ, (vp_updL out (0 : Int32).toNatClampNeg (Int32.toInt64 r))) hx hb hr hlocks hP hD hS (Nat.le_of_ble_eq_true rfl) (Nat.le_of_ble_eq_true rfl) dL_positionOf_19 ⟨fun _ => ⟨rfl, rfl, (uL0 out ((Int32.toInt64 r))).trans (congrArg Int32.toInt64 hw)⟩, fun h9 => absurd hX h9⟩
  · have hFc := va_free (wc := kW cI h κ) hD hS hA [0, 1, 2, 3, 4, 5, 6, 7, 8, 9] rfl
    refine rxC (vx_runV (As := [.int p1]) (rest := [.int 0, .ref o]) ⟨hx, hb, hml, hown, hts⟩ (b_X2_positionOf l hlt dC dI cI h H.size κ p1 hX) (cwV 1 hts gL_positionOf_X2_positionOf rfl rfl rfl (by decide +kernel) ⟨Nat.le_of_ble_eq_true rfl, Nat.le_of_ble_eq_true rfl⟩) (pX_V hPc hKc hDc hZ hS hFc (ci := 2) (q0 := 0) rfl rfl) rfl rfl hl.1 rfl (lv_room (Nat.le_of_ble_eq_true rfl)) dL_positionOf_4 ⟨Nat.le_of_ble_eq_true rfl, Nat.le_of_ble_eq_true rfl⟩) hP hD hS hA [0, 1, 2, 3, 4, 5, 6, 7, 8, 9] [10] [1, 2, 3, 4, 5, 6, 7, 8, 9, 10, 0] rfl rfl (by decide) rfl (fun E ce q9 H locs hk hP hS hce hcv hcl => ?_)
    rcases hk with ⟨hk, rfl⟩ | ⟨hk, rfl⟩
    · refine vx_catch (own := RL) (name := "java/lang/IllegalArgumentException") hown [] (⟨0, 9, 12, 13⟩ : ExceptionTableEntry) [(⟨0, 9, 15, 15⟩ : ExceptionTableEntry)] (by rw [htab]; rfl) (fun z hz => by cases hz) (by decide) (by decide) (hts (.classLink RL 13 "java/lang/IllegalArgumentException") (by decide +kernel)) (zN.use hZ.2.2.2 _ (by decide +kernel)) hce hcv hcl ?_
      refine lv_astore_n (lv' := [(3, .ref q9), (0, .ref (h 0)), (1, .int p1), (2, .ref o)]) hx hb dL_positionOf_12 rfl hl (by decide) rfl (fun ls hl => ?_)
      refine lv_iconst (v := 1) hx hb dL_positionOf_13 (by decide) ?_
      exact rI (w := fun (u : KS × (Nat → Int64)) => wL cI cL h o u.1 u.2) (κ, out) hx hb hr hlocks hP hD hS (Nat.le_of_ble_eq_true rfl) (Nat.le_of_ble_eq_true rfl) dL_positionOf_14 ⟨fun h9 => absurd h9 hX, fun _ => ⟨nI_s1 hk, by decide, rfl⟩⟩
    · refine vx_catch (own := RL) (name := "java/lang/IllegalStateException") hown [(⟨0, 9, 12, 13⟩ : ExceptionTableEntry)] (⟨0, 9, 15, 15⟩ : ExceptionTableEntry) [] (by rw [htab]; rfl) (fun z hz => by cases hz with | head => exact Or.inr ⟨by decide, "java/lang/IllegalArgumentException", hts (.classLink RL 13 "java/lang/IllegalArgumentException") (by decide +kernel), hNc⟩ | tail _ h9 => cases h9) (by decide) (by decide) (hts (.classLink RL 15 "java/lang/IllegalStateException") (by decide +kernel)) (zN.use hZ.2.2.2 _ (by decide +kernel)) hce hcv hcl ?_
      refine lv_astore_n (lv' := [(3, .ref q9), (0, .ref (h 0)), (1, .int p1), (2, .ref o)]) hx hb dL_positionOf_15 rfl hl (by decide) rfl (fun ls hl => ?_)
      refine lv_iconst (v := 2) hx hb dL_positionOf_16 (by decide) ?_
      exact rI (w := fun (u : KS × (Nat → Int64)) => wL cI cL h o u.1 u.2) (κ, out) hx hb hr hlocks hP hD hS (Nat.le_of_ble_eq_true rfl) (Nat.le_of_ble_eq_true rfl) dL_positionOf_17 ⟨fun h9 => absurd h9 hX, fun _ => ⟨nI_s2 hk, by decide, rfl⟩⟩
set_option maxHeartbeats 1000000 in
set_option maxRecDepth 100000 in
theorem w_live (l : Launch) (hlt : l.stackTraces = false) (dC : Nat → ClassId) (dI : Nat → Nat → Nat) (cI : ClassId) (cL : ClassId) (h : Nat → Nat) (o : Nat) (sz : Nat) (κ : KS) (out : Nat → Int64) (hs : s_X2_live κ) : Met l yL_live wsL_live ({ frames := 8, cells := 1, slots := 6, locals := 122 }) (va_Pc [.ref (h 0), .ref o] (pL (dC, dI) [(cI, .int), (cL, .long)] (wL cI cL h o κ out) sz)) (va_Qi (fun (r : Int32) (u : KS × (Nat → Int64)) => (x_X2_live κ = 0 → r = 0 ∧ u.1 = κ ∧ u.2 0 = Int32.toInt64 (v_X2_live κ)) ∧ (¬ x_X2_live κ = 0 → r = kc1 (x_X2_live κ) ∧ ¬ r = 0 ∧ u.1 = κ)) (qW (dC, dI) (va_A (wL cI cL h o κ out) sz) (fun (u : KS × (Nat → Int64)) => wL cI cL h o u.1 u.2)) (va_A (wL cI cL h o κ out) sz)) 1 6 (va_A (wL cI cL h o κ out) sz) := by
  refine va_MetW (cc := cL_live) (maxL := 3) (ret := (some .int)) (by decide) rfl ?_
  intro p e s m args below meth c s₁ B hml hv
  obtain ⟨rfl, ⟨⟨hsz, hP, hK, hD0⟩, hZ⟩, hNc⟩ := hv
  have hx := B.exec
  have hb := B.bytes
  have hr := B.returns
  have hts := atoms_spec (ws := wsL_live) B.pre
  have hown : s.vm.findClass RL = some m.cls := findClass_of_methodNamed B.named
  have hlocks := B.notSynchronized
  have htab : c.exceptionTable.toList = tableOf [(0, 8, 11, 15)] := vx_table (x := yL_live) B (hts _ List.mem_cons_self)
  subst hsz
  have hD := hD0.self (sz := s.heap.size)
  generalize hAe : va_A (wL cI cL h o κ out) s.heap.size = A at hD hZ ⊢
  have hA : ∀ q : Nat, s.heap.size ≤ q → A q := fun q h => by rw [← hAe]; exact Or.inr h
  have hl := lv_entry ([.ref (h 0), .ref o]) (n := 3) (Nat.le_of_ble_eq_true rfl)
  rw [lg_entry_eq]
  generalize (lg_sl ([.ref (h 0), .ref o]) ++ List.replicate (3 - (lg_sl ([.ref (h 0), .ref o])).length) Slot.unset).toArray = ls at hl ⊢
  have hl : lv_has ls 3 [(0, .ref (h 0)), (1, .ref o)] := hl
  generalize hHe : s.heap = H at hP ⊢
  generalize hLe : ([] : List Loc) = locs
  have hS : va_S A s.heap H locs := by
    rw [← hLe, ← hHe]
    exact va_S.rf
  refine lv_aload_n hx hb dL_live_0 rfl (lv_at hl 1 rfl) ?_
  refine lv_iconst (v := 0) hx hb dL_live_1 (by decide) ?_
  refine lv_aload_n hx hb dL_live_2 rfl (lv_at hl 0 rfl) ?_
  have hPc := hP.sub (ws' := kW cI h κ) [0, 1, 2, 3, 4, 5, 6, 7, 8, 9] rfl
  have hDc := hD.sub (ws' := kW cI h κ) [0, 1, 2, 3, 4, 5, 6, 7, 8, 9] (by decide) rfl
  have hKc := hK.sub (tys' := [(cI, .int)]) [0] rfl
  by_cases hX : x_X2_live κ = 0
  · refine rcI (W2 := fun _ => wL cI cL h o κ out) (va_runV (As := []) (rest := [.int 0, .ref o]) ⟨hx, hb, hml, hown, hts⟩ (c_X2_live l dC dI cI h H.size κ hX hs) (cwV 0 hts gL_live_X2_live rfl rfl rfl (by decide +kernel) ⟨Nat.le_of_ble_eq_true rfl, Nat.le_of_ble_eq_true rfl⟩) (pW_V hPc hKc hDc (ci := 2) (q0 := 0) rfl rfl) rfl rfl hl.1 rfl (lv_room (Nat.le_of_ble_eq_true rfl)) dL_live_3 ⟨Nat.le_of_ble_eq_true rfl, Nat.le_of_ble_eq_true rfl⟩) hP hD hS hA [0, 1, 2, 3, 4, 5, 6, 7, 8, 9] [10] [1, 2, 3, 4, 5, 6, 7, 8, 9, 10, 0] rfl rfl (by decide) (fun _ => rfl) (fun r u H locs hw hP hD hS => ?_)
    refine lv_i2l (v := Int32.toInt64 r) hx hb dL_live_6 rfl ?_
    refine va_last hx hb hK hP hD hS 10 1 rfl rfl in01 dL_live_7 (fun H locs hP hD hS => ?_)
    have hP : va_P (dC, dI) vwCl (wL cI cL h o κ (vp_updL out (0 : Int32).toNatClampNeg (Int32.toInt64 r))) H := hP
    have hD : va_D A (wL cI cL h o κ (vp_updL out (0 : Int32).toNatClampNeg (Int32.toInt64 r))) := hD
    refine lv_goto (tgt := 14) hx hb dL_live_8 (by decide) ?_
    refine lv_iconst (v := 0) hx hb dL_live_14 (by decide) ?_
    exact rI (w := fun (u : KS × (Nat → Int64)) => wL cI cL h o u.1 u.2) (κ, (vp_updL out (0 : Int32).toNatClampNeg (Int32.toInt64 r))) hx hb hr hlocks hP hD hS (Nat.le_of_ble_eq_true rfl) (Nat.le_of_ble_eq_true rfl) dL_live_15 ⟨fun _ => ⟨rfl, rfl, (uL0 out ((Int32.toInt64 r))).trans (congrArg Int32.toInt64 hw)⟩, fun h9 => absurd hX h9⟩
  · have hFc := va_free (wc := kW cI h κ) hD hS hA [0, 1, 2, 3, 4, 5, 6, 7, 8, 9] rfl
    refine rxC (vx_runV (As := []) (rest := [.int 0, .ref o]) ⟨hx, hb, hml, hown, hts⟩ (b_X2_live l hlt dC dI cI h H.size κ hX hs) (cwV 0 hts gL_live_X2_live rfl rfl rfl (by decide +kernel) ⟨Nat.le_of_ble_eq_true rfl, Nat.le_of_ble_eq_true rfl⟩) (pX_V hPc hKc hDc hZ hS hFc (ci := 2) (q0 := 0) rfl rfl) rfl rfl hl.1 rfl (lv_room (Nat.le_of_ble_eq_true rfl)) dL_live_3 ⟨Nat.le_of_ble_eq_true rfl, Nat.le_of_ble_eq_true rfl⟩) hP hD hS hA [0, 1, 2, 3, 4, 5, 6, 7, 8, 9] [10] [1, 2, 3, 4, 5, 6, 7, 8, 9, 10, 0] rfl rfl (by decide) rfl (fun E ce q9 H locs hk hP hS hce hcv hcl => ?_)
    rcases hk with ⟨hk, rfl⟩ | ⟨hk, rfl⟩
    · exact absurd hk (x1_live κ)
    · refine vx_catch (own := RL) (name := "java/lang/IllegalStateException") hown [] (⟨0, 8, 11, 15⟩ : ExceptionTableEntry) [] (by rw [htab]; rfl) (fun z hz => by cases hz) (by decide) (by decide) (hts (.classLink RL 15 "java/lang/IllegalStateException") (by decide +kernel)) (zN.use hZ.2.2.2 _ (by decide +kernel)) hce hcv hcl ?_
      refine lv_astore_n (lv' := [(2, .ref q9), (0, .ref (h 0)), (1, .ref o)]) hx hb dL_live_11 rfl hl (by decide) rfl (fun ls hl => ?_)
      refine lv_iconst (v := 1) hx hb dL_live_12 (by decide) ?_
      exact rI (w := fun (u : KS × (Nat → Int64)) => wL cI cL h o u.1 u.2) (κ, out) hx hb hr hlocks hP hD hS (Nat.le_of_ble_eq_true rfl) (Nat.le_of_ble_eq_true rfl) dL_live_13 ⟨fun h9 => absurd h9 hX, fun _ => ⟨kc1_s hk, by decide, rfl⟩⟩
