def v_X3_put (μ : MS) (p1 : Int32) (p2 : Int32) : Int32 × MS := if ((v_X3_goes μ (if (v_X3_isKey p1) = 0 then 0 else if p2 < 0 then 0 else if 10000 ≤ p2 then 0 else 1 : Int32) (if (mDn μ) = 0 then if (v_X3_canAppend μ 1) = 0 then 0 else 1 else 0 : Int32)).1) = 0 then (0, ((v_X3_goes μ (if (v_X3_isKey p1) = 0 then 0 else if p2 < 0 then 0 else if 10000 ≤ p2 then 0 else 1 : Int32) (if (mDn μ) = 0 then if (v_X3_canAppend μ 1) = 0 then 0 else 1 else 0 : Int32)).2)) else (((upd (mIx ((v_X3_appends ((v_X3_goes μ (if (v_X3_isKey p1) = 0 then 0 else if p2 < 0 then 0 else if 10000 ≤ p2 then 0 else 1 : Int32) (if (mDn μ) = 0 then if (v_X3_canAppend μ 1) = 0 then 0 else 1 else 0 : Int32)).2) p1 p2).2)) p1.toNatClampNeg ((v_X3_appends ((v_X3_goes μ (if (v_X3_isKey p1) = 0 then 0 else if p2 < 0 then 0 else if 10000 ≤ p2 then 0 else 1 : Int32) (if (mDn μ) = 0 then if (v_X3_canAppend μ 1) = 0 then 0 else 1 else 0 : Int32)).2) p1 p2).1)) p1.toNatClampNeg), mSIx ((v_X3_appends ((v_X3_goes μ (if (v_X3_isKey p1) = 0 then 0 else if p2 < 0 then 0 else if 10000 ≤ p2 then 0 else 1 : Int32) (if (mDn μ) = 0 then if (v_X3_canAppend μ 1) = 0 then 0 else 1 else 0 : Int32)).2) p1 p2).2) (upd (mIx ((v_X3_appends ((v_X3_goes μ (if (v_X3_isKey p1) = 0 then 0 else if p2 < 0 then 0 else if 10000 ≤ p2 then 0 else 1 : Int32) (if (mDn μ) = 0 then if (v_X3_canAppend μ 1) = 0 then 0 else 1 else 0 : Int32)).2) p1 p2).2)) p1.toNatClampNeg ((v_X3_appends ((v_X3_goes μ (if (v_X3_isKey p1) = 0 then 0 else if p2 < 0 then 0 else if 10000 ≤ p2 then 0 else 1 : Int32) (if (mDn μ) = 0 then if (v_X3_canAppend μ 1) = 0 then 0 else 1 else 0 : Int32)).2) p1 p2).1)))
theorem v_X3_put_e (μ : MS) (p1 : Int32) (p2 : Int32) : v_X3_put μ p1 p2 = if ((v_X3_goes μ (if (v_X3_isKey p1) = 0 then 0 else if p2 < 0 then 0 else if 10000 ≤ p2 then 0 else 1 : Int32) (if (mDn μ) = 0 then if (v_X3_canAppend μ 1) = 0 then 0 else 1 else 0 : Int32)).1) = 0 then (0, ((v_X3_goes μ (if (v_X3_isKey p1) = 0 then 0 else if p2 < 0 then 0 else if 10000 ≤ p2 then 0 else 1 : Int32) (if (mDn μ) = 0 then if (v_X3_canAppend μ 1) = 0 then 0 else 1 else 0 : Int32)).2)) else (((upd (mIx ((v_X3_appends ((v_X3_goes μ (if (v_X3_isKey p1) = 0 then 0 else if p2 < 0 then 0 else if 10000 ≤ p2 then 0 else 1 : Int32) (if (mDn μ) = 0 then if (v_X3_canAppend μ 1) = 0 then 0 else 1 else 0 : Int32)).2) p1 p2).2)) p1.toNatClampNeg ((v_X3_appends ((v_X3_goes μ (if (v_X3_isKey p1) = 0 then 0 else if p2 < 0 then 0 else if 10000 ≤ p2 then 0 else 1 : Int32) (if (mDn μ) = 0 then if (v_X3_canAppend μ 1) = 0 then 0 else 1 else 0 : Int32)).2) p1 p2).1)) p1.toNatClampNeg), mSIx ((v_X3_appends ((v_X3_goes μ (if (v_X3_isKey p1) = 0 then 0 else if p2 < 0 then 0 else if 10000 ≤ p2 then 0 else 1 : Int32) (if (mDn μ) = 0 then if (v_X3_canAppend μ 1) = 0 then 0 else 1 else 0 : Int32)).2) p1 p2).2) (upd (mIx ((v_X3_appends ((v_X3_goes μ (if (v_X3_isKey p1) = 0 then 0 else if p2 < 0 then 0 else if 10000 ≤ p2 then 0 else 1 : Int32) (if (mDn μ) = 0 then if (v_X3_canAppend μ 1) = 0 then 0 else 1 else 0 : Int32)).2) p1 p2).2)) p1.toNatClampNeg ((v_X3_appends ((v_X3_goes μ (if (v_X3_isKey p1) = 0 then 0 else if p2 < 0 then 0 else if 10000 ≤ p2 then 0 else 1 : Int32) (if (mDn μ) = 0 then if (v_X3_canAppend μ 1) = 0 then 0 else 1 else 0 : Int32)).2) p1 p2).1))) := rfl
def s_X3_put (μ : MS) (p1 : Int32) (p2 : Int32) : Prop := ((((v_X3_goes μ (if (v_X3_isKey p1) = 0 then 0 else if p2 < 0 then 0 else if 10000 ≤ p2 then 0 else 1 : Int32) (if (mDn μ) = 0 then if (v_X3_canAppend μ 1) = 0 then 0 else 1 else 0 : Int32)).1) = 0 → True) ∧ (¬ ((v_X3_goes μ (if (v_X3_isKey p1) = 0 then 0 else if p2 < 0 then 0 else if 10000 ≤ p2 then 0 else 1 : Int32) (if (mDn μ) = 0 then if (v_X3_canAppend μ 1) = 0 then 0 else 1 else 0 : Int32)).1) = 0 → (s_X3_appends ((v_X3_goes μ (if (v_X3_isKey p1) = 0 then 0 else if p2 < 0 then 0 else if 10000 ≤ p2 then 0 else 1 : Int32) (if (mDn μ) = 0 then if (v_X3_canAppend μ 1) = 0 then 0 else 1 else 0 : Int32)).2) p1 p2 ∧ (vp_in p1 64 ∧ (vp_in p1 64 ∧ True)))))
set_option maxHeartbeats 1000000 in
set_option maxRecDepth 100000 in
theorem c_X3_put (l : Launch) (dC : Nat → ClassId) (dI : Nat → Nat → Nat) (cI : ClassId) (h : Nat → Nat) (sz : Nat) (μ : MS) (p1 : Int32) (p2 : Int32) (hs : s_X3_put μ p1 p2) : Met l yX3_put wsX3_put ({ frames := 2, cells := 0, slots := 0, locals := 42 }) (va_Pc [.ref (h 0), .int p1, .int p2] (pW (dC, dI) [(cI, .int)] (mW cI h μ) sz)) (va_Qi (fun (r : Int32) (u : MS) => r = (v_X3_put μ p1 p2).1 ∧ u = (v_X3_put μ p1 p2).2) (qW (dC, dI) (va_A (mW cI h μ) sz) (fun u => mW cI h u)) (va_A (mW cI h μ) sz)) 0 0 (va_A (mW cI h μ) sz) := by
  refine Met.ofW (cc := cX3_put) (maxL := 3) (ret := (some .int)) (by decide) rfl ?_
  intro p e s m args below meth c s₁ B hml hv
  obtain ⟨rfl, hsz, hP, hK, hD0⟩ := hv
  have hx := B.exec
  have hb := B.bytes
  have hr := B.returns
  have hts := atoms_spec (ws := wsX3_put) B.pre
  have hown : s.vm.findClass RX3 = some m.cls := findClass_of_methodNamed B.named
  have hlocks := B.notSynchronized
  have hinX3 : ∀ w ∈ wsX30, w ∈ wsX3_put := by decide +kernel
  have hf16 := hts (.fieldLink RX3 16 "KeysapartModel" "index" "[I") (by decide +kernel)
  have hf46 := hts (.fieldLink RX3 46 "KeysapartModel" "isDown" "Z") (by decide +kernel)
  subst hsz
  have hD := hD0.self (sz := s.heap.size)
  generalize hAe : va_A (mW cI h μ) s.heap.size = A at hD ⊢
  have hA : ∀ q : Nat, s.heap.size ≤ q → A q := fun q h => by rw [← hAe]; exact Or.inr h
  have hl := lv_entry ([.ref (h 0), .int p1, .int p2]) (n := 3) (Nat.le_of_ble_eq_true rfl)
  rw [lg_entry_eq]
  generalize (lg_sl ([.ref (h 0), .int p1, .int p2]) ++ List.replicate (3 - (lg_sl ([.ref (h 0), .int p1, .int p2])).length) Slot.unset).toArray = ls at hl ⊢
  have hl : lv_has ls 3 [(0, .ref (h 0)), (1, .int p1), (2, .int p2)] := hl
  generalize hHe : s.heap = H at hP ⊢
  generalize hLe : ([] : List Loc) = locs
  have hS : va_S A s.heap H locs := by
    rw [← hLe, ← hHe]
    exact va_S.rf
  unfold s_X3_put at hs
  have hV := v_X3_put_e μ p1 p2
  refine lv_aload_n hx hb dX3_put_0 rfl (lv_at hl 0 rfl) ?_
  refine lv_iload_n hx hb dX3_put_1 rfl (lv_at hl 1 rfl) ?_
  have hPc := hP.sub (ws' := eW) [] rfl
  have hDc := hD.sub (ws' := eW) [] (by decide) rfl
  refine rcI (W2 := fun _ => mW cI h μ) (va_runS (As := [.int p1]) (rest := [.ref (h 0)]) ⟨hx, hb, hml, hown, hts⟩ (c_X3_isKey l dC dI cI H.size p1) (va_cwS 1 hts gX3_put_X3_isKey rfl rfl rfl (by decide +kernel) ⟨Nat.le_of_ble_eq_true rfl, Nat.le_of_ble_eq_true rfl⟩) (pW_S hPc hK hDc) rfl rfl hl.1 rfl (lv_room (Nat.le_of_ble_eq_true rfl)) dX3_put_2 ⟨Nat.le_of_ble_eq_true rfl, Nat.le_of_ble_eq_true rfl⟩) hP hD hS hA [] [0, 1, 2, 3, 4, 5] [0, 1, 2, 3, 4, 5] rfl rfl (by decide) (fun _ => rfl) (fun r_2 u_2 H locs hw hP hD hS => ?_)
  obtain ⟨hw, hz_2⟩ := hw
  try rw [← hw] at hV
  try rw [← hw] at hs
  suffices J_5 : W p l e (headSpec wsX3_put ({ frames := 2, cells := 0, slots := 0, locals := 42 })).room s m [.ref (h 0), .int p1, .int p2].toArray below meth c H locs 0 0 (MQ below (va_Qi (fun (r : Int32) (u : MS) => r = (v_X3_put μ p1 p2).1 ∧ u = (v_X3_put μ p1 p2).2) (qW (dC, dI) A (fun u => mW cI h u)) A) [.ref (h 0), .int p1, .int p2].toArray s 0 0 A) (F0 m 24 ls [.int (if r_2 = 0 then 0 else if p2 < 0 then 0 else if 10000 ≤ p2 then 0 else 1 : Int32), .ref (h 0)]) by
    refine lv_if_eq (tgt := 23) hx hb dX3_put_5 (by decide) (fun c_5 => ?_) (fun c_5 => ?_)
    · skip
      rw [if_pos c_5] at J_5
      refine lv_iconst (v := 0) hx hb dX3_put_23 (by decide) ?_
      exact J_5
    · skip
      rw [if_neg c_5] at J_5
      refine lv_iload_n hx hb dX3_put_8 rfl (lv_at hl 2 rfl) ?_
      refine lv_if_lt (tgt := 23) hx hb dX3_put_9 (by decide) (fun c_9 => ?_) (fun c_9 => ?_)
      · skip
        rw [if_pos c_9] at J_5
        refine lv_iconst (v := 0) hx hb dX3_put_23 (by decide) ?_
        exact J_5
      · skip
        rw [if_neg c_9] at J_5
        refine lv_iload_n hx hb dX3_put_12 rfl (lv_at hl 2 rfl) ?_
        refine lv_sipush (v := 10000) hx hb dX3_put_13 (by decide) ?_
        refine lv_icmp_ge (tgt := 23) hx hb dX3_put_16 (by decide) (fun c_16 => ?_) (fun c_16 => ?_)
        · skip
          rw [if_pos c_16] at J_5
          refine lv_iconst (v := 0) hx hb dX3_put_23 (by decide) ?_
          exact J_5
        · skip
          rw [if_neg c_16] at J_5
          refine lv_iconst (v := 1) hx hb dX3_put_19 (by decide) ?_
          refine lv_goto (tgt := 24) hx hb dX3_put_20 (by decide) ?_
          exact J_5
  refine lv_aload_n hx hb dX3_put_24 rfl (lv_at hl 0 rfl) ?_
  refine va_get (D := (dC, dI)) (ci := 3) (v := .int (mDn μ)) (C := RX3) (T := TX3) (N := 12) hx hb hts hinX3 hown hK hP 0 rfl rfl 10 (by decide) hf46 (fun _ h9 => h9) rfl dX3_put_25 ?_
  suffices J_28 : ∀ (H : Heap) (locs : List Loc) (ls : Array Slot), va_P (dC, dI) vwCl (mW cI h μ) H → va_D A (mW cI h μ) → va_S A s.heap H locs → lv_has ls 3 [(0, .ref (h 0)), (1, .int p1), (2, .int p2)] → W p l e (headSpec wsX3_put ({ frames := 2, cells := 0, slots := 0, locals := 42 })).room s m [.ref (h 0), .int p1, .int p2].toArray below meth c H locs 0 0 (MQ below (va_Qi (fun (r : Int32) (u : MS) => r = (v_X3_put μ p1 p2).1 ∧ u = (v_X3_put μ p1 p2).2) (qW (dC, dI) A (fun u => mW cI h u)) A) [.ref (h 0), .int p1, .int p2].toArray s 0 0 A) (F0 m 44 ls [.int (if (mDn μ) = 0 then if (v_X3_canAppend μ 1) = 0 then 0 else 1 else 0 : Int32), .int (if r_2 = 0 then 0 else if p2 < 0 then 0 else if 10000 ≤ p2 then 0 else 1 : Int32), .ref (h 0)]) by
    refine lv_if_ne (tgt := 43) hx hb dX3_put_28 (by decide) (fun c_28 => ?_) (fun c_28 => ?_)
    · skip
      rw [if_neg c_28] at J_28
      refine lv_iconst (v := 0) hx hb dX3_put_43 (by decide) ?_
      exact J_28 H locs ls hP hD hS (lv_sub hl [0, 1, 2] rfl)
    · skip
      rw [if_pos c_28] at J_28
      refine lv_aload_n hx hb dX3_put_31 rfl (lv_at hl 0 rfl) ?_
      refine lv_iconst (v := 1) hx hb dX3_put_32 (by decide) ?_
      have hPc := hP.sub (ws' := mW cI h μ) [0, 1, 2, 3, 4, 5] rfl
      have hDc := hD.sub (ws' := mW cI h μ) [0, 1, 2, 3, 4, 5] (by decide) rfl
      refine rcI (W2 := fun _ => mW cI h μ) (va_runV (As := [.int 1]) (rest := [.int (if r_2 = 0 then 0 else if p2 < 0 then 0 else if 10000 ≤ p2 then 0 else 1 : Int32), .ref (h 0)]) ⟨hx, hb, hml, hown, hts⟩ (c_X3_canAppend l dC dI cI h H.size μ 1) (cwV 1 hts gX3_put_X3_canAppend rfl rfl rfl (by decide +kernel) ⟨Nat.le_of_ble_eq_true rfl, Nat.le_of_ble_eq_true rfl⟩) (pW_V hPc hK hDc (ci := 3) (q0 := 0) rfl rfl) rfl rfl hl.1 rfl (lv_room (Nat.le_of_ble_eq_true rfl)) dX3_put_33 ⟨Nat.le_of_ble_eq_true rfl, Nat.le_of_ble_eq_true rfl⟩) hP hD hS hA [0, 1, 2, 3, 4, 5] [] [0, 1, 2, 3, 4, 5] rfl rfl (by decide) (fun _ => rfl) (fun r_33 u_33 H locs hw hP hD hS => ?_)
      obtain ⟨hw, hz_33⟩ := hw
      try rw [← hw] at J_28
      refine lv_if_eq (tgt := 43) hx hb dX3_put_36 (by decide) (fun c_36 => ?_) (fun c_36 => ?_)
      · skip
        rw [if_pos c_36] at J_28
        refine lv_iconst (v := 0) hx hb dX3_put_43 (by decide) ?_
        exact J_28 H locs ls hP hD hS (lv_sub hl [0, 1, 2] rfl)
      · skip
        rw [if_neg c_36] at J_28
        refine lv_iconst (v := 1) hx hb dX3_put_39 (by decide) ?_
        refine lv_goto (tgt := 44) hx hb dX3_put_40 (by decide) ?_
        exact J_28 H locs ls hP hD hS (lv_sub hl [0, 1, 2] rfl)
  intro H locs ls hP hD hS hl
  have hPc := hP.sub (ws' := mW cI h μ) [0, 1, 2, 3, 4, 5] rfl
  have hDc := hD.sub (ws' := mW cI h μ) [0, 1, 2, 3, 4, 5] (by decide) rfl
  refine rcI (W2 := fun u => mW cI h u) (va_runV (As := [.int (if r_2 = 0 then 0 else if p2 < 0 then 0 else if 10000 ≤ p2 then 0 else 1 : Int32), .int (if (mDn μ) = 0 then if (v_X3_canAppend μ 1) = 0 then 0 else 1 else 0 : Int32)]) (rest := []) ⟨hx, hb, hml, hown, hts⟩ (c_X3_goes l dC dI cI h H.size μ (if r_2 = 0 then 0 else if p2 < 0 then 0 else if 10000 ≤ p2 then 0 else 1 : Int32) (if (mDn μ) = 0 then if (v_X3_canAppend μ 1) = 0 then 0 else 1 else 0 : Int32)) (cwV 2 hts gX3_put_X3_goes rfl rfl rfl (by decide +kernel) ⟨Nat.le_of_ble_eq_true rfl, Nat.le_of_ble_eq_true rfl⟩) (pW_V hPc hK hDc (ci := 3) (q0 := 0) rfl rfl) rfl rfl hl.1 rfl (lv_room (Nat.le_of_ble_eq_true rfl)) dX3_put_44 ⟨Nat.le_of_ble_eq_true rfl, Nat.le_of_ble_eq_true rfl⟩) hP hD hS hA [0, 1, 2, 3, 4, 5] [] [0, 1, 2, 3, 4, 5] rfl rfl (by decide) (fun _ => rfl) (fun r_44 u_44 H locs hw hP hD hS => ?_)
  obtain ⟨hw, hw2, hz_44⟩ := hw
  try rw [← hw] at hV
  try rw [← hw] at hs
  try rw [← hw2] at hV
  try rw [← hw2] at hs
  refine lv_if_ne (tgt := 52) hx hb dX3_put_47 (by decide) (fun c_47 => ?_) (fun c_47 => ?_)
  · skip
    have hs := hs.2 c_47
    rw [if_neg c_47] at hV
    refine lv_aload_n hx hb dX3_put_52 rfl (lv_at hl 0 rfl) ?_
    refine va_get (D := (dC, dI)) (ci := 3) (v := .ref (h 3)) (C := RX3) (T := TX3) (N := 12) hx hb hts hinX3 hown hK hP 0 rfl rfl 2 (by decide) hf16 (fun _ h9 => h9) rfl dX3_put_53 ?_
    refine lv_iload_n hx hb dX3_put_56 rfl (lv_at hl 1 rfl) ?_
    refine lv_aload_n hx hb dX3_put_57 rfl (lv_at hl 0 rfl) ?_
    refine lv_iload_n hx hb dX3_put_58 rfl (lv_at hl 1 rfl) ?_
    refine lv_iload_n hx hb dX3_put_59 rfl (lv_at hl 2 rfl) ?_
    have o_60 : s_X3_appends u_44 p1 p2 := hs.1
    have hs := hs.2
    have hPc := hP.sub (ws' := mW cI h u_44) [0, 1, 2, 3, 4, 5] rfl
    have hDc := hD.sub (ws' := mW cI h u_44) [0, 1, 2, 3, 4, 5] (by decide) rfl
    refine rcI (W2 := fun u => mW cI h u) (va_runV (As := [.int p1, .int p2]) (rest := [.int p1, .ref (h 3)]) ⟨hx, hb, hml, hown, hts⟩ (c_X3_appends l dC dI cI h H.size u_44 p1 p2 o_60) (cwV 2 hts gX3_put_X3_appends rfl rfl rfl (by decide +kernel) ⟨Nat.le_of_ble_eq_true rfl, Nat.le_of_ble_eq_true rfl⟩) (pW_V hPc hK hDc (ci := 3) (q0 := 0) rfl rfl) rfl rfl hl.1 rfl (lv_room (Nat.le_of_ble_eq_true rfl)) dX3_put_60 ⟨Nat.le_of_ble_eq_true rfl, Nat.le_of_ble_eq_true rfl⟩) hP hD hS hA [0, 1, 2, 3, 4, 5] [] [0, 1, 2, 3, 4, 5] rfl rfl (by decide) (fun _ => rfl) (fun r_60 u_60 H locs hw hP hD hS => ?_)
    obtain ⟨hw, hw2⟩ := hw
    try rw [← hw] at hV
    try rw [← hw] at hs
    try rw [← hw2] at hV
    try rw [← hw2] at hs
    have o_63 : vp_in p1 64 := hs.1
    have hs := hs.2
    refine va_iast hx hb hK hP hD hS 3 0 rfl rfl o_63 dX3_put_63 (fun H locs hP hD hS => ?_)
    have hP : va_P (dC, dI) vwCl (mW cI h (mSIx u_60 (upd (mIx u_60) p1.toNatClampNeg r_60))) H := hP
    have hD : va_D A (mW cI h (mSIx u_60 (upd (mIx u_60) p1.toNatClampNeg r_60))) := hD
    refine lv_aload_n hx hb dX3_put_64 rfl (lv_at hl 0 rfl) ?_
    refine va_get (D := (dC, dI)) (ci := 3) (v := .ref (h 3)) (C := RX3) (T := TX3) (N := 12) hx hb hts hinX3 hown hK hP 0 rfl rfl 2 (by decide) hf16 (fun _ h9 => h9) rfl dX3_put_65 ?_
    refine lv_iload_n hx hb dX3_put_68 rfl (lv_at hl 1 rfl) ?_
    have o_69 : vp_in p1 64 := hs.1
    have hs := hs.2
    refine va_iald hx hb hK hP 3 0 rfl rfl o_69 dX3_put_69 ?_
    exact rI (w := fun u => mW cI h u) (mSIx u_60 (upd (mIx u_60) p1.toNatClampNeg r_60)) hx hb hr hlocks hP hD hS (Nat.le_of_ble_eq_true rfl) (Nat.le_of_ble_eq_true rfl) dX3_put_70 ⟨by rw [hV] <;> rfl, by rw [hV] <;> rfl⟩
  · skip
    have hs := hs.1 c_47
    rw [if_pos c_47] at hV
    refine lv_iconst (v := 0) hx hb dX3_put_50 (by decide) ?_
    exact rI (w := fun u => mW cI h u) (u_44) hx hb hr hlocks hP hD hS (Nat.le_of_ble_eq_true rfl) (Nat.le_of_ble_eq_true rfl) dX3_put_51 ⟨by rw [hV] <;> rfl, by rw [hV] <;> rfl⟩
def v_X3_delete (μ : MS) (p1 : Int32) : Int32 × MS := if ((v_X3_goes μ (v_X3_isKey p1) (if (v_X3_isKey p1) = 0 then 0 else if (mDn μ) = 0 then if ((mIx μ) p1.toNatClampNeg) < 0 then 0 else if (v_X3_canAppend μ 1) = 0 then 0 else 1 else 0 : Int32)).1) = 0 then (0, ((v_X3_goes μ (v_X3_isKey p1) (if (v_X3_isKey p1) = 0 then 0 else if (mDn μ) = 0 then if ((mIx μ) p1.toNatClampNeg) < 0 then 0 else if (v_X3_canAppend μ 1) = 0 then 0 else 1 else 0 : Int32)).2)) else ((v_X3_valueOf ((v_X3_goes μ (v_X3_isKey p1) (if (v_X3_isKey p1) = 0 then 0 else if (mDn μ) = 0 then if ((mIx μ) p1.toNatClampNeg) < 0 then 0 else if (v_X3_canAppend μ 1) = 0 then 0 else 1 else 0 : Int32)).2) p1), mSIx ((v_X3_appends ((v_X3_goes μ (v_X3_isKey p1) (if (v_X3_isKey p1) = 0 then 0 else if (mDn μ) = 0 then if ((mIx μ) p1.toNatClampNeg) < 0 then 0 else if (v_X3_canAppend μ 1) = 0 then 0 else 1 else 0 : Int32)).2) p1 (-1)).2) (upd (mIx ((v_X3_appends ((v_X3_goes μ (v_X3_isKey p1) (if (v_X3_isKey p1) = 0 then 0 else if (mDn μ) = 0 then if ((mIx μ) p1.toNatClampNeg) < 0 then 0 else if (v_X3_canAppend μ 1) = 0 then 0 else 1 else 0 : Int32)).2) p1 (-1)).2)) p1.toNatClampNeg (-1)))
theorem v_X3_delete_e (μ : MS) (p1 : Int32) : v_X3_delete μ p1 = if ((v_X3_goes μ (v_X3_isKey p1) (if (v_X3_isKey p1) = 0 then 0 else if (mDn μ) = 0 then if ((mIx μ) p1.toNatClampNeg) < 0 then 0 else if (v_X3_canAppend μ 1) = 0 then 0 else 1 else 0 : Int32)).1) = 0 then (0, ((v_X3_goes μ (v_X3_isKey p1) (if (v_X3_isKey p1) = 0 then 0 else if (mDn μ) = 0 then if ((mIx μ) p1.toNatClampNeg) < 0 then 0 else if (v_X3_canAppend μ 1) = 0 then 0 else 1 else 0 : Int32)).2)) else ((v_X3_valueOf ((v_X3_goes μ (v_X3_isKey p1) (if (v_X3_isKey p1) = 0 then 0 else if (mDn μ) = 0 then if ((mIx μ) p1.toNatClampNeg) < 0 then 0 else if (v_X3_canAppend μ 1) = 0 then 0 else 1 else 0 : Int32)).2) p1), mSIx ((v_X3_appends ((v_X3_goes μ (v_X3_isKey p1) (if (v_X3_isKey p1) = 0 then 0 else if (mDn μ) = 0 then if ((mIx μ) p1.toNatClampNeg) < 0 then 0 else if (v_X3_canAppend μ 1) = 0 then 0 else 1 else 0 : Int32)).2) p1 (-1)).2) (upd (mIx ((v_X3_appends ((v_X3_goes μ (v_X3_isKey p1) (if (v_X3_isKey p1) = 0 then 0 else if (mDn μ) = 0 then if ((mIx μ) p1.toNatClampNeg) < 0 then 0 else if (v_X3_canAppend μ 1) = 0 then 0 else 1 else 0 : Int32)).2) p1 (-1)).2)) p1.toNatClampNeg (-1))) := rfl
def s_X3_delete (μ : MS) (p1 : Int32) : Prop := ((((v_X3_isKey p1) = 0 → True) ∧ (¬ (v_X3_isKey p1) = 0 → (((mDn μ) = 0 → (vp_in p1 64 ∧ True)) ∧ (¬ (mDn μ) = 0 → True)))) ∧ ((((v_X3_goes μ (v_X3_isKey p1) (if (v_X3_isKey p1) = 0 then 0 else if (mDn μ) = 0 then if ((mIx μ) p1.toNatClampNeg) < 0 then 0 else if (v_X3_canAppend μ 1) = 0 then 0 else 1 else 0 : Int32)).1) = 0 → True) ∧ (¬ ((v_X3_goes μ (v_X3_isKey p1) (if (v_X3_isKey p1) = 0 then 0 else if (mDn μ) = 0 then if ((mIx μ) p1.toNatClampNeg) < 0 then 0 else if (v_X3_canAppend μ 1) = 0 then 0 else 1 else 0 : Int32)).1) = 0 → (s_X3_valueOf ((v_X3_goes μ (v_X3_isKey p1) (if (v_X3_isKey p1) = 0 then 0 else if (mDn μ) = 0 then if ((mIx μ) p1.toNatClampNeg) < 0 then 0 else if (v_X3_canAppend μ 1) = 0 then 0 else 1 else 0 : Int32)).2) p1 ∧ (s_X3_appends ((v_X3_goes μ (v_X3_isKey p1) (if (v_X3_isKey p1) = 0 then 0 else if (mDn μ) = 0 then if ((mIx μ) p1.toNatClampNeg) < 0 then 0 else if (v_X3_canAppend μ 1) = 0 then 0 else 1 else 0 : Int32)).2) p1 (-1) ∧ (vp_in p1 64 ∧ True))))))
set_option maxHeartbeats 1000000 in
set_option maxRecDepth 100000 in
theorem c_X3_delete (l : Launch) (dC : Nat → ClassId) (dI : Nat → Nat → Nat) (cI : ClassId) (h : Nat → Nat) (sz : Nat) (μ : MS) (p1 : Int32) (hs : s_X3_delete μ p1) : Met l yX3_delete wsX3_delete ({ frames := 2, cells := 0, slots := 0, locals := 42 }) (va_Pc [.ref (h 0), .int p1] (pW (dC, dI) [(cI, .int)] (mW cI h μ) sz)) (va_Qi (fun (r : Int32) (u : MS) => r = (v_X3_delete μ p1).1 ∧ u = (v_X3_delete μ p1).2) (qW (dC, dI) (va_A (mW cI h μ) sz) (fun u => mW cI h u)) (va_A (mW cI h μ) sz)) 0 0 (va_A (mW cI h μ) sz) := by
  refine Met.ofW (cc := cX3_delete) (maxL := 4) (ret := (some .int)) (by decide) rfl ?_
  intro p e s m args below meth c s₁ B hml hv
  obtain ⟨rfl, hsz, hP, hK, hD0⟩ := hv
  have hx := B.exec
  have hb := B.bytes
  have hr := B.returns
  have hts := atoms_spec (ws := wsX3_delete) B.pre
  have hown : s.vm.findClass RX3 = some m.cls := findClass_of_methodNamed B.named
  have hlocks := B.notSynchronized
  have hinX3 : ∀ w ∈ wsX30, w ∈ wsX3_delete := by decide +kernel
  have hf16 := hts (.fieldLink RX3 16 "KeysapartModel" "index" "[I") (by decide +kernel)
  have hf46 := hts (.fieldLink RX3 46 "KeysapartModel" "isDown" "Z") (by decide +kernel)
  subst hsz
  have hD := hD0.self (sz := s.heap.size)
  generalize hAe : va_A (mW cI h μ) s.heap.size = A at hD ⊢
  have hA : ∀ q : Nat, s.heap.size ≤ q → A q := fun q h => by rw [← hAe]; exact Or.inr h
  have hl := lv_entry ([.ref (h 0), .int p1]) (n := 4) (Nat.le_of_ble_eq_true rfl)
  rw [lg_entry_eq]
  generalize (lg_sl ([.ref (h 0), .int p1]) ++ List.replicate (4 - (lg_sl ([.ref (h 0), .int p1])).length) Slot.unset).toArray = ls at hl ⊢
  have hl : lv_has ls 4 [(0, .ref (h 0)), (1, .int p1)] := hl
  generalize hHe : s.heap = H at hP ⊢
  generalize hLe : ([] : List Loc) = locs
  have hS : va_S A s.heap H locs := by
    rw [← hLe, ← hHe]
    exact va_S.rf
  unfold s_X3_delete at hs
  have hV := v_X3_delete_e μ p1
  refine lv_iload_n hx hb dX3_delete_0 rfl (lv_at hl 1 rfl) ?_
  have hPc := hP.sub (ws' := eW) [] rfl
  have hDc := hD.sub (ws' := eW) [] (by decide) rfl
  refine rcI (W2 := fun _ => mW cI h μ) (va_runS (As := [.int p1]) (rest := []) ⟨hx, hb, hml, hown, hts⟩ (c_X3_isKey l dC dI cI H.size p1) (va_cwS 1 hts gX3_delete_X3_isKey rfl rfl rfl (by decide +kernel) ⟨Nat.le_of_ble_eq_true rfl, Nat.le_of_ble_eq_true rfl⟩) (pW_S hPc hK hDc) rfl rfl hl.1 rfl (lv_room (Nat.le_of_ble_eq_true rfl)) dX3_delete_1 ⟨Nat.le_of_ble_eq_true rfl, Nat.le_of_ble_eq_true rfl⟩) hP hD hS hA [] [0, 1, 2, 3, 4, 5] [0, 1, 2, 3, 4, 5] rfl rfl (by decide) (fun _ => rfl) (fun r_1 u_1 H locs hw hP hD hS => ?_)
  obtain ⟨hw, hz_1⟩ := hw
  try rw [← hw] at hV
  try rw [← hw] at hs
  refine lv_istore_n (lv' := [(2, .int r_1), (0, .ref (h 0)), (1, .int p1)]) hx hb dX3_delete_4 rfl hl (by decide) rfl (fun ls hl => ?_)
  refine lv_aload_n hx hb dX3_delete_5 rfl (lv_at hl 1 rfl) ?_
  refine lv_iload_n hx hb dX3_delete_6 rfl (lv_at hl 0 rfl) ?_
  refine lv_iload_n hx hb dX3_delete_7 rfl (lv_at hl 0 rfl) ?_
  suffices J_8 : ∀ (H : Heap) (locs : List Loc) (ls : Array Slot), va_P (dC, dI) vwCl (mW cI h μ) H → va_D A (mW cI h μ) → va_S A s.heap H locs → lv_has ls 4 [(2, .int r_1), (0, .ref (h 0)), (1, .int p1)] → W p l e (headSpec wsX3_delete ({ frames := 2, cells := 0, slots := 0, locals := 42 })).room s m [.ref (h 0), .int p1].toArray below meth c H locs 0 0 (MQ below (va_Qi (fun (r : Int32) (u : MS) => r = (v_X3_delete μ p1).1 ∧ u = (v_X3_delete μ p1).2) (qW (dC, dI) A (fun u => mW cI h u)) A) [.ref (h 0), .int p1].toArray s 0 0 A) (F0 m 40 ls [.int (if r_1 = 0 then 0 else if (mDn μ) = 0 then if ((mIx μ) p1.toNatClampNeg) < 0 then 0 else if (v_X3_canAppend μ 1) = 0 then 0 else 1 else 0 : Int32), .int r_1, .ref (h 0)]) by
    have hs := hs.1
    refine lv_if_eq (tgt := 39) hx hb dX3_delete_8 (by decide) (fun c_8 => ?_) (fun c_8 => ?_)
    · skip
      have hs := hs.1 c_8
      rw [if_pos c_8] at J_8
      refine lv_iconst (v := 0) hx hb dX3_delete_39 (by decide) ?_
      exact J_8 H locs ls hP hD hS (lv_sub hl [0, 1, 2] rfl)
    · skip
      have hs := hs.2 c_8
      rw [if_neg c_8] at J_8
      refine lv_aload_n hx hb dX3_delete_11 rfl (lv_at hl 1 rfl) ?_
      refine va_get (D := (dC, dI)) (ci := 3) (v := .int (mDn μ)) (C := RX3) (T := TX3) (N := 12) hx hb hts hinX3 hown hK hP 0 rfl rfl 10 (by decide) hf46 (fun _ h9 => h9) rfl dX3_delete_12 ?_
      refine lv_if_ne (tgt := 39) hx hb dX3_delete_15 (by decide) (fun c_15 => ?_) (fun c_15 => ?_)
      · skip
        have hs := hs.2 c_15
        rw [if_neg c_15] at J_8
        refine lv_iconst (v := 0) hx hb dX3_delete_39 (by decide) ?_
        exact J_8 H locs ls hP hD hS (lv_sub hl [0, 1, 2] rfl)
      · skip
        have hs := hs.1 c_15
        rw [if_pos c_15] at J_8
        refine lv_aload_n hx hb dX3_delete_18 rfl (lv_at hl 1 rfl) ?_
        refine va_get (D := (dC, dI)) (ci := 3) (v := .ref (h 3)) (C := RX3) (T := TX3) (N := 12) hx hb hts hinX3 hown hK hP 0 rfl rfl 2 (by decide) hf16 (fun _ h9 => h9) rfl dX3_delete_19 ?_
        refine lv_iload_n hx hb dX3_delete_22 rfl (lv_at hl 2 rfl) ?_
        have o_23 : vp_in p1 64 := hs.1
        have hs := hs.2
        refine va_iald hx hb hK hP 3 0 rfl rfl o_23 dX3_delete_23 ?_
        refine lv_if_lt (tgt := 39) hx hb dX3_delete_24 (by decide) (fun c_24 => ?_) (fun c_24 => ?_)
        · skip
          rw [if_pos c_24] at J_8
          refine lv_iconst (v := 0) hx hb dX3_delete_39 (by decide) ?_
          exact J_8 H locs ls hP hD hS (lv_sub hl [0, 1, 2] rfl)
        · skip
          rw [if_neg c_24] at J_8
          refine lv_aload_n hx hb dX3_delete_27 rfl (lv_at hl 1 rfl) ?_
          refine lv_iconst (v := 1) hx hb dX3_delete_28 (by decide) ?_
          have hPc := hP.sub (ws' := mW cI h μ) [0, 1, 2, 3, 4, 5] rfl
          have hDc := hD.sub (ws' := mW cI h μ) [0, 1, 2, 3, 4, 5] (by decide) rfl
          refine rcI (W2 := fun _ => mW cI h μ) (va_runV (As := [.int 1]) (rest := [.int r_1, .ref (h 0)]) ⟨hx, hb, hml, hown, hts⟩ (c_X3_canAppend l dC dI cI h H.size μ 1) (cwV 1 hts gX3_delete_X3_canAppend rfl rfl rfl (by decide +kernel) ⟨Nat.le_of_ble_eq_true rfl, Nat.le_of_ble_eq_true rfl⟩) (pW_V hPc hK hDc (ci := 3) (q0 := 0) rfl rfl) rfl rfl hl.1 rfl (lv_room (Nat.le_of_ble_eq_true rfl)) dX3_delete_29 ⟨Nat.le_of_ble_eq_true rfl, Nat.le_of_ble_eq_true rfl⟩) hP hD hS hA [0, 1, 2, 3, 4, 5] [] [0, 1, 2, 3, 4, 5] rfl rfl (by decide) (fun _ => rfl) (fun r_29 u_29 H locs hw hP hD hS => ?_)
          obtain ⟨hw, hz_29⟩ := hw
          try rw [← hw] at J_8
          refine lv_if_eq (tgt := 39) hx hb dX3_delete_32 (by decide) (fun c_32 => ?_) (fun c_32 => ?_)
          · skip
            rw [if_pos c_32] at J_8
            refine lv_iconst (v := 0) hx hb dX3_delete_39 (by decide) ?_
            exact J_8 H locs ls hP hD hS (lv_sub hl [0, 1, 2] rfl)
          · skip
            rw [if_neg c_32] at J_8
            refine lv_iconst (v := 1) hx hb dX3_delete_35 (by decide) ?_
            refine lv_goto (tgt := 40) hx hb dX3_delete_36 (by decide) ?_
            exact J_8 H locs ls hP hD hS (lv_sub hl [0, 1, 2] rfl)
  have hs := hs.2
  intro H locs ls hP hD hS hl
  have hPc := hP.sub (ws' := mW cI h μ) [0, 1, 2, 3, 4, 5] rfl
  have hDc := hD.sub (ws' := mW cI h μ) [0, 1, 2, 3, 4, 5] (by decide) rfl
  refine rcI (W2 := fun u => mW cI h u) (va_runV (As := [.int r_1, .int (if r_1 = 0 then 0 else if (mDn μ) = 0 then if ((mIx μ) p1.toNatClampNeg) < 0 then 0 else if (v_X3_canAppend μ 1) = 0 then 0 else 1 else 0 : Int32)]) (rest := []) ⟨hx, hb, hml, hown, hts⟩ (c_X3_goes l dC dI cI h H.size μ r_1 (if r_1 = 0 then 0 else if (mDn μ) = 0 then if ((mIx μ) p1.toNatClampNeg) < 0 then 0 else if (v_X3_canAppend μ 1) = 0 then 0 else 1 else 0 : Int32)) (cwV 2 hts gX3_delete_X3_goes rfl rfl rfl (by decide +kernel) ⟨Nat.le_of_ble_eq_true rfl, Nat.le_of_ble_eq_true rfl⟩) (pW_V hPc hK hDc (ci := 3) (q0 := 0) rfl rfl) rfl rfl hl.1 rfl (lv_room (Nat.le_of_ble_eq_true rfl)) dX3_delete_40 ⟨Nat.le_of_ble_eq_true rfl, Nat.le_of_ble_eq_true rfl⟩) hP hD hS hA [0, 1, 2, 3, 4, 5] [] [0, 1, 2, 3, 4, 5] rfl rfl (by decide) (fun _ => rfl) (fun r_40 u_40 H locs hw hP hD hS => ?_)
  obtain ⟨hw, hw2, hz_40⟩ := hw
  try rw [← hw] at hV
  try rw [← hw] at hs
  try rw [← hw2] at hV
  try rw [← hw2] at hs
  refine lv_if_ne (tgt := 48) hx hb dX3_delete_43 (by decide) (fun c_43 => ?_) (fun c_43 => ?_)
  · skip
    have hs := hs.2 c_43
    rw [if_neg c_43] at hV
    refine lv_aload_n hx hb dX3_delete_48 rfl (lv_at hl 1 rfl) ?_
    refine lv_iload_n hx hb dX3_delete_49 rfl (lv_at hl 2 rfl) ?_
    have o_50 : s_X3_valueOf u_40 p1 := hs.1
    have hs := hs.2
    have hPc := hP.sub (ws' := mW cI h u_40) [0, 1, 2, 3, 4, 5] rfl
    have hDc := hD.sub (ws' := mW cI h u_40) [0, 1, 2, 3, 4, 5] (by decide) rfl
    refine rcI (W2 := fun _ => mW cI h u_40) (va_runV (As := [.int p1]) (rest := []) ⟨hx, hb, hml, hown, hts⟩ (c_X3_valueOf l dC dI cI h H.size u_40 p1 o_50) (cwV 1 hts gX3_delete_X3_valueOf rfl rfl rfl (by decide +kernel) ⟨Nat.le_of_ble_eq_true rfl, Nat.le_of_ble_eq_true rfl⟩) (pW_V hPc hK hDc (ci := 3) (q0 := 0) rfl rfl) rfl rfl hl.1 rfl (lv_room (Nat.le_of_ble_eq_true rfl)) dX3_delete_50 ⟨Nat.le_of_ble_eq_true rfl, Nat.le_of_ble_eq_true rfl⟩) hP hD hS hA [0, 1, 2, 3, 4, 5] [] [0, 1, 2, 3, 4, 5] rfl rfl (by decide) (fun _ => rfl) (fun r_50 u_50 H locs hw hP hD hS => ?_)
    try rw [← hw] at hV
    try rw [← hw] at hs
    refine lv_istore_n (lv' := [(3, .int r_50), (2, .int r_1), (0, .ref (h 0)), (1, .int p1)]) hx hb dX3_delete_53 rfl hl (by decide) rfl (fun ls hl => ?_)
    refine lv_aload_n hx hb dX3_delete_54 rfl (lv_at hl 2 rfl) ?_
    refine lv_iload_n hx hb dX3_delete_55 rfl (lv_at hl 3 rfl) ?_
    refine lv_iconst (v := (-1)) hx hb dX3_delete_56 (by decide) ?_
    have o_57 : s_X3_appends u_40 p1 (-1) := hs.1
    have hs := hs.2
    have hPc := hP.sub (ws' := mW cI h u_40) [0, 1, 2, 3, 4, 5] rfl
    have hDc := hD.sub (ws' := mW cI h u_40) [0, 1, 2, 3, 4, 5] (by decide) rfl
    refine rcI (W2 := fun u => mW cI h u) (va_runV (As := [.int p1, .int (-1)]) (rest := []) ⟨hx, hb, hml, hown, hts⟩ (c_X3_appends l dC dI cI h H.size u_40 p1 (-1) o_57) (cwV 2 hts gX3_delete_X3_appends rfl rfl rfl (by decide +kernel) ⟨Nat.le_of_ble_eq_true rfl, Nat.le_of_ble_eq_true rfl⟩) (pW_V hPc hK hDc (ci := 3) (q0 := 0) rfl rfl) rfl rfl hl.1 rfl (lv_room (Nat.le_of_ble_eq_true rfl)) dX3_delete_57 ⟨Nat.le_of_ble_eq_true rfl, Nat.le_of_ble_eq_true rfl⟩) hP hD hS hA [0, 1, 2, 3, 4, 5] [] [0, 1, 2, 3, 4, 5] rfl rfl (by decide) (fun _ => rfl) (fun r_57 u_57 H locs hw hP hD hS => ?_)
    obtain ⟨hw, hw2⟩ := hw
    try rw [← hw] at hV
    try rw [← hw] at hs
    try rw [← hw2] at hV
    try rw [← hw2] at hs
    refine lv_pop hx hb dX3_delete_60 rfl ?_
    refine lv_aload_n hx hb dX3_delete_61 rfl (lv_at hl 2 rfl) ?_
    refine va_get (D := (dC, dI)) (ci := 3) (v := .ref (h 3)) (C := RX3) (T := TX3) (N := 12) hx hb hts hinX3 hown hK hP 0 rfl rfl 2 (by decide) hf16 (fun _ h9 => h9) rfl dX3_delete_62 ?_
    refine lv_iload_n hx hb dX3_delete_65 rfl (lv_at hl 3 rfl) ?_
    refine lv_iconst (v := (-1)) hx hb dX3_delete_66 (by decide) ?_
    have o_67 : vp_in p1 64 := hs.1
    have hs := hs.2
    refine va_iast hx hb hK hP hD hS 3 0 rfl rfl o_67 dX3_delete_67 (fun H locs hP hD hS => ?_)
    have hP : va_P (dC, dI) vwCl (mW cI h (mSIx u_57 (upd (mIx u_57) p1.toNatClampNeg (-1)))) H := hP
    have hD : va_D A (mW cI h (mSIx u_57 (upd (mIx u_57) p1.toNatClampNeg (-1)))) := hD
    refine lv_iload_n hx hb dX3_delete_68 rfl (lv_at hl 0 rfl) ?_
    exact rI (w := fun u => mW cI h u) (mSIx u_57 (upd (mIx u_57) p1.toNatClampNeg (-1))) hx hb hr hlocks hP hD hS (Nat.le_of_ble_eq_true rfl) (Nat.le_of_ble_eq_true rfl) dX3_delete_69 ⟨by rw [hV] <;> rfl, by rw [hV] <;> rfl⟩
  · skip
    have hs := hs.1 c_43
    rw [if_pos c_43] at hV
    refine lv_iconst (v := 0) hx hb dX3_delete_46 (by decide) ?_
    exact rI (w := fun u => mW cI h u) (u_40) hx hb hr hlocks hP hD hS (Nat.le_of_ble_eq_true rfl) (Nat.le_of_ble_eq_true rfl) dX3_delete_47 ⟨by rw [hV] <;> rfl, by rw [hV] <;> rfl⟩
def v_X3_get (μ : MS) (p1 : Int32) : Int32 × MS := if ((v_X3_goes μ (v_X3_isKey p1) (if (mDn μ) = 0 then 1 else 0 : Int32)).1) = 0 then (0, ((v_X3_goes μ (v_X3_isKey p1) (if (mDn μ) = 0 then 1 else 0 : Int32)).2)) else ((v_X3_valueOf ((v_X3_goes μ (v_X3_isKey p1) (if (mDn μ) = 0 then 1 else 0 : Int32)).2) p1), ((v_X3_goes μ (v_X3_isKey p1) (if (mDn μ) = 0 then 1 else 0 : Int32)).2))
theorem v_X3_get_e (μ : MS) (p1 : Int32) : v_X3_get μ p1 = if ((v_X3_goes μ (v_X3_isKey p1) (if (mDn μ) = 0 then 1 else 0 : Int32)).1) = 0 then (0, ((v_X3_goes μ (v_X3_isKey p1) (if (mDn μ) = 0 then 1 else 0 : Int32)).2)) else ((v_X3_valueOf ((v_X3_goes μ (v_X3_isKey p1) (if (mDn μ) = 0 then 1 else 0 : Int32)).2) p1), ((v_X3_goes μ (v_X3_isKey p1) (if (mDn μ) = 0 then 1 else 0 : Int32)).2)) := rfl
def s_X3_get (μ : MS) (p1 : Int32) : Prop := ((((v_X3_goes μ (v_X3_isKey p1) (if (mDn μ) = 0 then 1 else 0 : Int32)).1) = 0 → True) ∧ (¬ ((v_X3_goes μ (v_X3_isKey p1) (if (mDn μ) = 0 then 1 else 0 : Int32)).1) = 0 → (s_X3_valueOf ((v_X3_goes μ (v_X3_isKey p1) (if (mDn μ) = 0 then 1 else 0 : Int32)).2) p1 ∧ True)))
set_option maxHeartbeats 1000000 in
set_option maxRecDepth 100000 in
theorem c_X3_get (l : Launch) (dC : Nat → ClassId) (dI : Nat → Nat → Nat) (cI : ClassId) (h : Nat → Nat) (sz : Nat) (μ : MS) (p1 : Int32) (hs : s_X3_get μ p1) : Met l yX3_get wsX3_get ({ frames := 1, cells := 0, slots := 0, locals := 22 }) (va_Pc [.ref (h 0), .int p1] (pW (dC, dI) [(cI, .int)] (mW cI h μ) sz)) (va_Qi (fun (r : Int32) (u : MS) => r = (v_X3_get μ p1).1 ∧ u = (v_X3_get μ p1).2) (qW (dC, dI) (va_A (mW cI h μ) sz) (fun u => mW cI h u)) (va_A (mW cI h μ) sz)) 0 0 (va_A (mW cI h μ) sz) := by
  refine Met.ofW (cc := cX3_get) (maxL := 2) (ret := (some .int)) (by decide) rfl ?_
  intro p e s m args below meth c s₁ B hml hv
  obtain ⟨rfl, hsz, hP, hK, hD0⟩ := hv
  have hx := B.exec
  have hb := B.bytes
  have hr := B.returns
  have hts := atoms_spec (ws := wsX3_get) B.pre
  have hown : s.vm.findClass RX3 = some m.cls := findClass_of_methodNamed B.named
  have hlocks := B.notSynchronized
  have hinX3 : ∀ w ∈ wsX30, w ∈ wsX3_get := by decide +kernel
  have hf46 := hts (.fieldLink RX3 46 "KeysapartModel" "isDown" "Z") (by decide +kernel)
  subst hsz
  have hD := hD0.self (sz := s.heap.size)
  generalize hAe : va_A (mW cI h μ) s.heap.size = A at hD ⊢
  have hA : ∀ q : Nat, s.heap.size ≤ q → A q := fun q h => by rw [← hAe]; exact Or.inr h
  have hl := lv_entry ([.ref (h 0), .int p1]) (n := 2) (Nat.le_of_ble_eq_true rfl)
  rw [lg_entry_eq]
  generalize (lg_sl ([.ref (h 0), .int p1]) ++ List.replicate (2 - (lg_sl ([.ref (h 0), .int p1])).length) Slot.unset).toArray = ls at hl ⊢
  have hl : lv_has ls 2 [(0, .ref (h 0)), (1, .int p1)] := hl
  generalize hHe : s.heap = H at hP ⊢
  generalize hLe : ([] : List Loc) = locs
  have hS : va_S A s.heap H locs := by
    rw [← hLe, ← hHe]
    exact va_S.rf
  unfold s_X3_get at hs
  have hV := v_X3_get_e μ p1
  refine lv_aload_n hx hb dX3_get_0 rfl (lv_at hl 0 rfl) ?_
  refine lv_iload_n hx hb dX3_get_1 rfl (lv_at hl 1 rfl) ?_
  have hPc := hP.sub (ws' := eW) [] rfl
  have hDc := hD.sub (ws' := eW) [] (by decide) rfl
  refine rcI (W2 := fun _ => mW cI h μ) (va_runS (As := [.int p1]) (rest := [.ref (h 0)]) ⟨hx, hb, hml, hown, hts⟩ (c_X3_isKey l dC dI cI H.size p1) (va_cwS 1 hts gX3_get_X3_isKey rfl rfl rfl (by decide +kernel) ⟨Nat.le_of_ble_eq_true rfl, Nat.le_of_ble_eq_true rfl⟩) (pW_S hPc hK hDc) rfl rfl hl.1 rfl (lv_room (Nat.le_of_ble_eq_true rfl)) dX3_get_2 ⟨Nat.le_of_ble_eq_true rfl, Nat.le_of_ble_eq_true rfl⟩) hP hD hS hA [] [0, 1, 2, 3, 4, 5] [0, 1, 2, 3, 4, 5] rfl rfl (by decide) (fun _ => rfl) (fun r_2 u_2 H locs hw hP hD hS => ?_)
  obtain ⟨hw, hz_2⟩ := hw
  try rw [← hw] at hV
  try rw [← hw] at hs
  refine lv_aload_n hx hb dX3_get_5 rfl (lv_at hl 0 rfl) ?_
  refine va_get (D := (dC, dI)) (ci := 3) (v := .int (mDn μ)) (C := RX3) (T := TX3) (N := 12) hx hb hts hinX3 hown hK hP 0 rfl rfl 10 (by decide) hf46 (fun _ h9 => h9) rfl dX3_get_6 ?_
  suffices J_9 : W p l e (headSpec wsX3_get ({ frames := 1, cells := 0, slots := 0, locals := 22 })).room s m [.ref (h 0), .int p1].toArray below meth c H locs 0 0 (MQ below (va_Qi (fun (r : Int32) (u : MS) => r = (v_X3_get μ p1).1 ∧ u = (v_X3_get μ p1).2) (qW (dC, dI) A (fun u => mW cI h u)) A) [.ref (h 0), .int p1].toArray s 0 0 A) (F0 m 17 ls [.int (if (mDn μ) = 0 then 1 else 0 : Int32), .int r_2, .ref (h 0)]) by
    refine lv_if_ne (tgt := 16) hx hb dX3_get_9 (by decide) (fun c_9 => ?_) (fun c_9 => ?_)
    · skip
      rw [if_neg c_9] at J_9
      refine lv_iconst (v := 0) hx hb dX3_get_16 (by decide) ?_
      exact J_9
    · skip
      rw [if_pos c_9] at J_9
      refine lv_iconst (v := 1) hx hb dX3_get_12 (by decide) ?_
      refine lv_goto (tgt := 17) hx hb dX3_get_13 (by decide) ?_
      exact J_9
  have hPc := hP.sub (ws' := mW cI h μ) [0, 1, 2, 3, 4, 5] rfl
  have hDc := hD.sub (ws' := mW cI h μ) [0, 1, 2, 3, 4, 5] (by decide) rfl
  refine rcI (W2 := fun u => mW cI h u) (va_runV (As := [.int r_2, .int (if (mDn μ) = 0 then 1 else 0 : Int32)]) (rest := []) ⟨hx, hb, hml, hown, hts⟩ (c_X3_goes l dC dI cI h H.size μ r_2 (if (mDn μ) = 0 then 1 else 0 : Int32)) (cwV 2 hts gX3_get_X3_goes rfl rfl rfl (by decide +kernel) ⟨Nat.le_of_ble_eq_true rfl, Nat.le_of_ble_eq_true rfl⟩) (pW_V hPc hK hDc (ci := 3) (q0 := 0) rfl rfl) rfl rfl hl.1 rfl (lv_room (Nat.le_of_ble_eq_true rfl)) dX3_get_17 ⟨Nat.le_of_ble_eq_true rfl, Nat.le_of_ble_eq_true rfl⟩) hP hD hS hA [0, 1, 2, 3, 4, 5] [] [0, 1, 2, 3, 4, 5] rfl rfl (by decide) (fun _ => rfl) (fun r_17 u_17 H locs hw hP hD hS => ?_)
  obtain ⟨hw, hw2, hz_17⟩ := hw
  try rw [← hw] at hV
  try rw [← hw] at hs
  try rw [← hw2] at hV
  try rw [← hw2] at hs
  refine lv_if_eq (tgt := 31) hx hb dX3_get_20 (by decide) (fun c_20 => ?_) (fun c_20 => ?_)
  · skip
    have hs := hs.1 c_20
    rw [if_pos c_20] at hV
    refine lv_iconst (v := 0) hx hb dX3_get_31 (by decide) ?_
    exact rI (w := fun u => mW cI h u) (u_17) hx hb hr hlocks hP hD hS (Nat.le_of_ble_eq_true rfl) (Nat.le_of_ble_eq_true rfl) dX3_get_32 ⟨by rw [hV] <;> rfl, by rw [hV] <;> rfl⟩
  · skip
    have hs := hs.2 c_20
    rw [if_neg c_20] at hV
    refine lv_aload_n hx hb dX3_get_23 rfl (lv_at hl 0 rfl) ?_
    refine lv_iload_n hx hb dX3_get_24 rfl (lv_at hl 1 rfl) ?_
    have o_25 : s_X3_valueOf u_17 p1 := hs.1
    have hs := hs.2
    have hPc := hP.sub (ws' := mW cI h u_17) [0, 1, 2, 3, 4, 5] rfl
    have hDc := hD.sub (ws' := mW cI h u_17) [0, 1, 2, 3, 4, 5] (by decide) rfl
    refine rcI (W2 := fun _ => mW cI h u_17) (va_runV (As := [.int p1]) (rest := []) ⟨hx, hb, hml, hown, hts⟩ (c_X3_valueOf l dC dI cI h H.size u_17 p1 o_25) (cwV 1 hts gX3_get_X3_valueOf rfl rfl rfl (by decide +kernel) ⟨Nat.le_of_ble_eq_true rfl, Nat.le_of_ble_eq_true rfl⟩) (pW_V hPc hK hDc (ci := 3) (q0 := 0) rfl rfl) rfl rfl hl.1 rfl (lv_room (Nat.le_of_ble_eq_true rfl)) dX3_get_25 ⟨Nat.le_of_ble_eq_true rfl, Nat.le_of_ble_eq_true rfl⟩) hP hD hS hA [0, 1, 2, 3, 4, 5] [] [0, 1, 2, 3, 4, 5] rfl rfl (by decide) (fun _ => rfl) (fun r_25 u_25 H locs hw hP hD hS => ?_)
    try rw [← hw] at hV
    refine lv_goto (tgt := 32) hx hb dX3_get_28 (by decide) ?_
    exact rI (w := fun u => mW cI h u) (u_17) hx hb hr hlocks hP hD hS (Nat.le_of_ble_eq_true rfl) (Nat.le_of_ble_eq_true rfl) dX3_get_32 ⟨by rw [hV] <;> rfl, by rw [hV] <;> rfl⟩
def l_X3_next_30 (μ : MS) (y1 : Int32) : Nat → Int32 → Int32 → Int32 × Int32
  | 0, x2_30, x3_30 => (x2_30, x3_30)
  | n + 1, x2_30, x3_30 => if x3_30 < y1 then (x2_30, x3_30) else l_X3_next_30 μ y1 n (if ((mIx μ) x3_30.toNatClampNeg) < 0 then x2_30 else x3_30 : Int32) (x3_30 + (-1))
theorem l_X3_next_30_s (μ : MS) (y1 : Int32) (n : Nat) (x2_30 : Int32) (x3_30 : Int32) : l_X3_next_30 μ y1 (n + 1) x2_30 x3_30 = if x3_30 < y1 then (x2_30, x3_30) else l_X3_next_30 μ y1 n (if ((mIx μ) x3_30.toNatClampNeg) < 0 then x2_30 else x3_30 : Int32) (x3_30 + (-1)) := rfl
def sl_X3_next_30 (μ : MS) (y1 : Int32) : Nat → Int32 → Int32 → Prop
  | 0, x2_30, x3_30 => False
  | n + 1, x2_30, x3_30 => ((x3_30 < y1 → True) ∧ (¬ x3_30 < y1 → (vp_in x3_30 64 ∧ sl_X3_next_30 μ y1 n (if ((mIx μ) x3_30.toNatClampNeg) < 0 then x2_30 else x3_30 : Int32) (x3_30 + (-1)))))
theorem sl_X3_next_30_s (μ : MS) (y1 : Int32) (n : Nat) (x2_30 : Int32) (x3_30 : Int32) : sl_X3_next_30 μ y1 (n + 1) x2_30 x3_30 = ((x3_30 < y1 → True) ∧ (¬ x3_30 < y1 → (vp_in x3_30 64 ∧ sl_X3_next_30 μ y1 n (if ((mIx μ) x3_30.toNatClampNeg) < 0 then x2_30 else x3_30 : Int32) (x3_30 + (-1))))) := rfl
def v_X3_next (μ : MS) (p1 : Int32) : Int32 × MS := if ((v_X3_goes μ (v_X3_isKey p1) (if (mDn μ) = 0 then 1 else 0 : Int32)).1) = 0 then (0, ((v_X3_goes μ (v_X3_isKey p1) (if (mDn μ) = 0 then 1 else 0 : Int32)).2)) else ((l_X3_next_30 ((v_X3_goes μ (v_X3_isKey p1) (if (mDn μ) = 0 then 1 else 0 : Int32)).2) p1 100 (-1) 63).1, ((v_X3_goes μ (v_X3_isKey p1) (if (mDn μ) = 0 then 1 else 0 : Int32)).2))
theorem v_X3_next_e (μ : MS) (p1 : Int32) : v_X3_next μ p1 = if ((v_X3_goes μ (v_X3_isKey p1) (if (mDn μ) = 0 then 1 else 0 : Int32)).1) = 0 then (0, ((v_X3_goes μ (v_X3_isKey p1) (if (mDn μ) = 0 then 1 else 0 : Int32)).2)) else ((l_X3_next_30 ((v_X3_goes μ (v_X3_isKey p1) (if (mDn μ) = 0 then 1 else 0 : Int32)).2) p1 100 (-1) 63).1, ((v_X3_goes μ (v_X3_isKey p1) (if (mDn μ) = 0 then 1 else 0 : Int32)).2)) := rfl
def s_X3_next (μ : MS) (p1 : Int32) : Prop := ((((v_X3_goes μ (v_X3_isKey p1) (if (mDn μ) = 0 then 1 else 0 : Int32)).1) = 0 → True) ∧ (¬ ((v_X3_goes μ (v_X3_isKey p1) (if (mDn μ) = 0 then 1 else 0 : Int32)).1) = 0 → (sl_X3_next_30 ((v_X3_goes μ (v_X3_isKey p1) (if (mDn μ) = 0 then 1 else 0 : Int32)).2) p1 100 (-1) 63 ∧ True)))
set_option maxHeartbeats 1000000 in
set_option maxRecDepth 100000 in
theorem c_X3_next (l : Launch) (dC : Nat → ClassId) (dI : Nat → Nat → Nat) (cI : ClassId) (h : Nat → Nat) (sz : Nat) (μ : MS) (p1 : Int32) (hs : s_X3_next μ p1) : Met l yX3_next wsX3_next ({ frames := 1, cells := 0, slots := 0, locals := 22 }) (va_Pc [.ref (h 0), .int p1] (pW (dC, dI) [(cI, .int)] (mW cI h μ) sz)) (va_Qi (fun (r : Int32) (u : MS) => r = (v_X3_next μ p1).1 ∧ u = (v_X3_next μ p1).2) (qW (dC, dI) (va_A (mW cI h μ) sz) (fun u => mW cI h u)) (va_A (mW cI h μ) sz)) 0 0 (va_A (mW cI h μ) sz) := by
  refine Met.ofW (cc := cX3_next) (maxL := 4) (ret := (some .int)) (by decide) rfl ?_
  intro p e s m args below meth c s₁ B hml hv
  obtain ⟨rfl, hsz, hP, hK, hD0⟩ := hv
  have hx := B.exec
  have hb := B.bytes
  have hr := B.returns
  have hts := atoms_spec (ws := wsX3_next) B.pre
  have hown : s.vm.findClass RX3 = some m.cls := findClass_of_methodNamed B.named
  have hlocks := B.notSynchronized
  have hinX3 : ∀ w ∈ wsX30, w ∈ wsX3_next := by decide +kernel
  have hf16 := hts (.fieldLink RX3 16 "KeysapartModel" "index" "[I") (by decide +kernel)
  have hf46 := hts (.fieldLink RX3 46 "KeysapartModel" "isDown" "Z") (by decide +kernel)
  subst hsz
  have hD := hD0.self (sz := s.heap.size)
  generalize hAe : va_A (mW cI h μ) s.heap.size = A at hD ⊢
  have hA : ∀ q : Nat, s.heap.size ≤ q → A q := fun q h => by rw [← hAe]; exact Or.inr h
  have hl := lv_entry ([.ref (h 0), .int p1]) (n := 4) (Nat.le_of_ble_eq_true rfl)
  rw [lg_entry_eq]
  generalize (lg_sl ([.ref (h 0), .int p1]) ++ List.replicate (4 - (lg_sl ([.ref (h 0), .int p1])).length) Slot.unset).toArray = ls at hl ⊢
  have hl : lv_has ls 4 [(0, .ref (h 0)), (1, .int p1)] := hl
  generalize hHe : s.heap = H at hP ⊢
  generalize hLe : ([] : List Loc) = locs
  have hS : va_S A s.heap H locs := by
    rw [← hLe, ← hHe]
    exact va_S.rf
  unfold s_X3_next at hs
  have hV := v_X3_next_e μ p1
  refine lv_aload_n hx hb dX3_next_0 rfl (lv_at hl 0 rfl) ?_
  refine lv_iload_n hx hb dX3_next_1 rfl (lv_at hl 1 rfl) ?_
  have hPc := hP.sub (ws' := eW) [] rfl
  have hDc := hD.sub (ws' := eW) [] (by decide) rfl
  refine rcI (W2 := fun _ => mW cI h μ) (va_runS (As := [.int p1]) (rest := [.ref (h 0)]) ⟨hx, hb, hml, hown, hts⟩ (c_X3_isKey l dC dI cI H.size p1) (va_cwS 1 hts gX3_next_X3_isKey rfl rfl rfl (by decide +kernel) ⟨Nat.le_of_ble_eq_true rfl, Nat.le_of_ble_eq_true rfl⟩) (pW_S hPc hK hDc) rfl rfl hl.1 rfl (lv_room (Nat.le_of_ble_eq_true rfl)) dX3_next_2 ⟨Nat.le_of_ble_eq_true rfl, Nat.le_of_ble_eq_true rfl⟩) hP hD hS hA [] [0, 1, 2, 3, 4, 5] [0, 1, 2, 3, 4, 5] rfl rfl (by decide) (fun _ => rfl) (fun r_2 u_2 H locs hw hP hD hS => ?_)
  obtain ⟨hw, hz_2⟩ := hw
  try rw [← hw] at hV
  try rw [← hw] at hs
  refine lv_aload_n hx hb dX3_next_5 rfl (lv_at hl 0 rfl) ?_
  refine va_get (D := (dC, dI)) (ci := 3) (v := .int (mDn μ)) (C := RX3) (T := TX3) (N := 12) hx hb hts hinX3 hown hK hP 0 rfl rfl 10 (by decide) hf46 (fun _ h9 => h9) rfl dX3_next_6 ?_
  suffices J_9 : W p l e (headSpec wsX3_next ({ frames := 1, cells := 0, slots := 0, locals := 22 })).room s m [.ref (h 0), .int p1].toArray below meth c H locs 0 0 (MQ below (va_Qi (fun (r : Int32) (u : MS) => r = (v_X3_next μ p1).1 ∧ u = (v_X3_next μ p1).2) (qW (dC, dI) A (fun u => mW cI h u)) A) [.ref (h 0), .int p1].toArray s 0 0 A) (F0 m 17 ls [.int (if (mDn μ) = 0 then 1 else 0 : Int32), .int r_2, .ref (h 0)]) by
    refine lv_if_ne (tgt := 16) hx hb dX3_next_9 (by decide) (fun c_9 => ?_) (fun c_9 => ?_)
    · skip
      rw [if_neg c_9] at J_9
      refine lv_iconst (v := 0) hx hb dX3_next_16 (by decide) ?_
      exact J_9
    · skip
      rw [if_pos c_9] at J_9
      refine lv_iconst (v := 1) hx hb dX3_next_12 (by decide) ?_
      refine lv_goto (tgt := 17) hx hb dX3_next_13 (by decide) ?_
      exact J_9
  have hPc := hP.sub (ws' := mW cI h μ) [0, 1, 2, 3, 4, 5] rfl
  have hDc := hD.sub (ws' := mW cI h μ) [0, 1, 2, 3, 4, 5] (by decide) rfl
  refine rcI (W2 := fun u => mW cI h u) (va_runV (As := [.int r_2, .int (if (mDn μ) = 0 then 1 else 0 : Int32)]) (rest := []) ⟨hx, hb, hml, hown, hts⟩ (c_X3_goes l dC dI cI h H.size μ r_2 (if (mDn μ) = 0 then 1 else 0 : Int32)) (cwV 2 hts gX3_next_X3_goes rfl rfl rfl (by decide +kernel) ⟨Nat.le_of_ble_eq_true rfl, Nat.le_of_ble_eq_true rfl⟩) (pW_V hPc hK hDc (ci := 3) (q0 := 0) rfl rfl) rfl rfl hl.1 rfl (lv_room (Nat.le_of_ble_eq_true rfl)) dX3_next_17 ⟨Nat.le_of_ble_eq_true rfl, Nat.le_of_ble_eq_true rfl⟩) hP hD hS hA [0, 1, 2, 3, 4, 5] [] [0, 1, 2, 3, 4, 5] rfl rfl (by decide) (fun _ => rfl) (fun r_17 u_17 H locs hw hP hD hS => ?_)
  obtain ⟨hw, hw2, hz_17⟩ := hw
  try rw [← hw] at hV
  try rw [← hw] at hs
  try rw [← hw2] at hV
  try rw [← hw2] at hs
  refine lv_if_ne (tgt := 25) hx hb dX3_next_20 (by decide) (fun c_20 => ?_) (fun c_20 => ?_)
  · skip
    have hs := hs.2 c_20
    rw [if_neg c_20] at hV
    refine lv_iconst (v := (-1)) hx hb dX3_next_25 (by decide) ?_
    refine lv_istore_n (lv' := [(2, .int (-1)), (0, .ref (h 0)), (1, .int p1)]) hx hb dX3_next_26 rfl hl (by decide) rfl (fun ls hl => ?_)
    refine lv_bipush (v := 63) hx hb dX3_next_27 (by decide) ?_
    refine lv_istore_n (lv' := [(3, .int 63), (2, .int (-1)), (0, .ref (h 0)), (1, .int p1)]) hx hb dX3_next_29 rfl hl (by decide) rfl (fun ls hl => ?_)
    have o_l30 : sl_X3_next_30 u_17 p1 100 (-1) 63 := hs.1
    have hs := hs.2
    have loop_30 : ∀ (n : Nat) (x2_30 : Int32) (x3_30 : Int32) (H : Heap) (locs : List Loc) (ls : Array Slot) (hs : sl_X3_next_30 u_17 p1 n x2_30 x3_30) (K : ∀ (z : Int32 × Int32) (hw : z = l_X3_next_30 u_17 p1 n x2_30 x3_30) (H : Heap) (locs : List Loc) (ls : Array Slot), va_P (dC, dI) vwCl (mW cI h u_17) H → va_D A (mW cI h u_17) → va_S A s.heap H locs → lv_has ls 4 [(2, .int z.1), (3, .int z.2), (0, .ref (h 0)), (1, .int p1)] → W p l e (headSpec wsX3_next ({ frames := 1, cells := 0, slots := 0, locals := 22 })).room s m [.ref (h 0), .int p1].toArray below meth c H locs 0 0 (MQ below (va_Qi (fun (r : Int32) (u : MS) => r = (v_X3_next μ p1).1 ∧ u = (v_X3_next μ p1).2) (qW (dC, dI) A (fun u => mW cI h u)) A) [.ref (h 0), .int p1].toArray s 0 0 A) (F0 m 56 ls [])) (hP : va_P (dC, dI) vwCl (mW cI h u_17) H) (hD : va_D A (mW cI h u_17)) (hS : va_S A s.heap H locs) (hl : lv_has ls 4 [(2, .int x2_30), (3, .int x3_30), (0, .ref (h 0)), (1, .int p1)]), W p l e (headSpec wsX3_next ({ frames := 1, cells := 0, slots := 0, locals := 22 })).room s m [.ref (h 0), .int p1].toArray below meth c H locs 0 0 (MQ below (va_Qi (fun (r : Int32) (u : MS) => r = (v_X3_next μ p1).1 ∧ u = (v_X3_next μ p1).2) (qW (dC, dI) A (fun u => mW cI h u)) A) [.ref (h 0), .int p1].toArray s 0 0 A) (F0 m 30 ls []) := by
      intro n
      induction n with
      | zero => intro x2_30 x3_30 H locs ls hs; exact False.elim hs
      | succ n ih =>
        intro x2_30 x3_30 H locs ls hs K hP hD hS hl
        rw [sl_X3_next_30_s] at hs
        rw [l_X3_next_30_s] at K
        refine lv_iload_n hx hb dX3_next_30 rfl (lv_at hl 1 rfl) ?_
        refine lv_iload_n hx hb dX3_next_31 rfl (lv_at hl 3 rfl) ?_
        refine lv_icmp_lt (tgt := 56) hx hb dX3_next_32 (by decide) (fun c_32 => ?_) (fun c_32 => ?_)
        · skip
          have hs := hs.1 c_32
          rw [if_pos c_32] at K
          exact K _ rfl H locs ls hP hD hS (lv_sub hl [0, 1, 2, 3] rfl)
        · skip
          have hs := hs.2 c_32
          rw [if_neg c_32] at K
          refine lv_aload_n hx hb dX3_next_35 rfl (lv_at hl 2 rfl) ?_
          refine va_get (D := (dC, dI)) (ci := 3) (v := .ref (h 3)) (C := RX3) (T := TX3) (N := 12) hx hb hts hinX3 hown hK hP 0 rfl rfl 2 (by decide) hf16 (fun _ h9 => h9) rfl dX3_next_36 ?_
          refine lv_iload_n hx hb dX3_next_39 rfl (lv_at hl 1 rfl) ?_
          have o_40 : vp_in x3_30 64 := hs.1
          have hs := hs.2
          refine va_iald hx hb hK hP 3 0 rfl rfl o_40 dX3_next_40 ?_
          suffices J_41 : W p l e (headSpec wsX3_next ({ frames := 1, cells := 0, slots := 0, locals := 22 })).room s m [.ref (h 0), .int p1].toArray below meth c H locs 0 0 (MQ below (va_Qi (fun (r : Int32) (u : MS) => r = (v_X3_next μ p1).1 ∧ u = (v_X3_next μ p1).2) (qW (dC, dI) A (fun u => mW cI h u)) A) [.ref (h 0), .int p1].toArray s 0 0 A) (F0 m 49 ls [.int (if ((mIx u_17) x3_30.toNatClampNeg) < 0 then x2_30 else x3_30 : Int32)]) by
            refine lv_if_lt (tgt := 48) hx hb dX3_next_41 (by decide) (fun c_41 => ?_) (fun c_41 => ?_)
            · skip
              rw [if_pos c_41] at J_41
              refine lv_iload_n hx hb dX3_next_48 rfl (lv_at hl 0 rfl) ?_
              exact J_41
            · skip
              rw [if_neg c_41] at J_41
              refine lv_iload_n hx hb dX3_next_44 rfl (lv_at hl 1 rfl) ?_
              refine lv_goto (tgt := 49) hx hb dX3_next_45 (by decide) ?_
              exact J_41
          refine lv_istore_n (lv' := [(2, .int (if ((mIx u_17) x3_30.toNatClampNeg) < 0 then x2_30 else x3_30 : Int32)), (3, .int x3_30), (0, .ref (h 0)), (1, .int p1)]) hx hb dX3_next_49 rfl hl (by decide) rfl (fun ls hl => ?_)
          refine lv_iinc (v := x3_30 + (-1)) (lv' := [(3, .int (x3_30 + (-1))), (2, .int (if ((mIx u_17) x3_30.toNatClampNeg) < 0 then x2_30 else x3_30 : Int32)), (0, .ref (h 0)), (1, .int p1)]) hx hb dX3_next_50 hl (k := 1) rfl rfl (by decide) rfl (fun ls hl => ?_)
          refine lv_goto (tgt := 30) hx hb dX3_next_53 (by decide) ?_
          exact ih (if ((mIx u_17) x3_30.toNatClampNeg) < 0 then x2_30 else x3_30 : Int32) (x3_30 + (-1)) H locs ls hs K hP hD hS (lv_sub hl [1, 0, 2, 3] rfl)
    refine loop_30 100 (-1) 63 H locs ls o_l30 (fun z_30 hw H locs ls hP hD hS hl => ?_) hP hD hS (lv_sub hl [1, 0, 2, 3] rfl)
    try rw [← hw] at hV
    refine lv_iload_n hx hb dX3_next_56 rfl (lv_at hl 0 rfl) ?_
    exact rI (w := fun u => mW cI h u) (u_17) hx hb hr hlocks hP hD hS (Nat.le_of_ble_eq_true rfl) (Nat.le_of_ble_eq_true rfl) dX3_next_57 ⟨by rw [hV] <;> rfl, by rw [hV] <;> rfl⟩
  · skip
    have hs := hs.1 c_20
    rw [if_pos c_20] at hV
    refine lv_iconst (v := 0) hx hb dX3_next_23 (by decide) ?_
    exact rI (w := fun u => mW cI h u) (u_17) hx hb hr hlocks hP hD hS (Nat.le_of_ble_eq_true rfl) (Nat.le_of_ble_eq_true rfl) dX3_next_24 ⟨by rw [hV] <;> rfl, by rw [hV] <;> rfl⟩
def l_X3_sum_31 (μ : MS) (y1 : Int32) (y2 : Int32) : Nat → Int32 → Int32 → Int32 × Int32
  | 0, x3_31, x4_31 => (x3_31, x4_31)
  | n + 1, x3_31, x4_31 => if y2 < x4_31 then (x3_31, x4_31) else l_X3_sum_31 μ y1 y2 n (x3_31 + (if ((mIx μ) x4_31.toNatClampNeg) < 0 then 0 else (v_X3_valueOf μ x4_31) : Int32)) (x4_31 + 1)
theorem l_X3_sum_31_s (μ : MS) (y1 : Int32) (y2 : Int32) (n : Nat) (x3_31 : Int32) (x4_31 : Int32) : l_X3_sum_31 μ y1 y2 (n + 1) x3_31 x4_31 = if y2 < x4_31 then (x3_31, x4_31) else l_X3_sum_31 μ y1 y2 n (x3_31 + (if ((mIx μ) x4_31.toNatClampNeg) < 0 then 0 else (v_X3_valueOf μ x4_31) : Int32)) (x4_31 + 1) := rfl
def sl_X3_sum_31 (μ : MS) (y1 : Int32) (y2 : Int32) : Nat → Int32 → Int32 → Prop
  | 0, x3_31, x4_31 => False
  | n + 1, x3_31, x4_31 => ((y2 < x4_31 → True) ∧ (¬ y2 < x4_31 → (vp_in x4_31 64 ∧ (((((mIx μ) x4_31.toNatClampNeg) < 0 → True) ∧ (¬ ((mIx μ) x4_31.toNatClampNeg) < 0 → (s_X3_valueOf μ x4_31 ∧ True))) ∧ sl_X3_sum_31 μ y1 y2 n (x3_31 + (if ((mIx μ) x4_31.toNatClampNeg) < 0 then 0 else (v_X3_valueOf μ x4_31) : Int32)) (x4_31 + 1)))))
theorem sl_X3_sum_31_s (μ : MS) (y1 : Int32) (y2 : Int32) (n : Nat) (x3_31 : Int32) (x4_31 : Int32) : sl_X3_sum_31 μ y1 y2 (n + 1) x3_31 x4_31 = ((y2 < x4_31 → True) ∧ (¬ y2 < x4_31 → (vp_in x4_31 64 ∧ (((((mIx μ) x4_31.toNatClampNeg) < 0 → True) ∧ (¬ ((mIx μ) x4_31.toNatClampNeg) < 0 → (s_X3_valueOf μ x4_31 ∧ True))) ∧ sl_X3_sum_31 μ y1 y2 n (x3_31 + (if ((mIx μ) x4_31.toNatClampNeg) < 0 then 0 else (v_X3_valueOf μ x4_31) : Int32)) (x4_31 + 1))))) := rfl
def v_X3_sum (μ : MS) (p1 : Int32) (p2 : Int32) : Int32 × MS := if ((v_X3_goes μ (v_X3_isRange p1 p2) (if (mDn μ) = 0 then 1 else 0 : Int32)).1) = 0 then (0, ((v_X3_goes μ (v_X3_isRange p1 p2) (if (mDn μ) = 0 then 1 else 0 : Int32)).2)) else ((l_X3_sum_31 ((v_X3_goes μ (v_X3_isRange p1 p2) (if (mDn μ) = 0 then 1 else 0 : Int32)).2) p1 p2 100 0 p1).1, ((v_X3_goes μ (v_X3_isRange p1 p2) (if (mDn μ) = 0 then 1 else 0 : Int32)).2))
theorem v_X3_sum_e (μ : MS) (p1 : Int32) (p2 : Int32) : v_X3_sum μ p1 p2 = if ((v_X3_goes μ (v_X3_isRange p1 p2) (if (mDn μ) = 0 then 1 else 0 : Int32)).1) = 0 then (0, ((v_X3_goes μ (v_X3_isRange p1 p2) (if (mDn μ) = 0 then 1 else 0 : Int32)).2)) else ((l_X3_sum_31 ((v_X3_goes μ (v_X3_isRange p1 p2) (if (mDn μ) = 0 then 1 else 0 : Int32)).2) p1 p2 100 0 p1).1, ((v_X3_goes μ (v_X3_isRange p1 p2) (if (mDn μ) = 0 then 1 else 0 : Int32)).2)) := rfl
def s_X3_sum (μ : MS) (p1 : Int32) (p2 : Int32) : Prop := ((((v_X3_goes μ (v_X3_isRange p1 p2) (if (mDn μ) = 0 then 1 else 0 : Int32)).1) = 0 → True) ∧ (¬ ((v_X3_goes μ (v_X3_isRange p1 p2) (if (mDn μ) = 0 then 1 else 0 : Int32)).1) = 0 → (sl_X3_sum_31 ((v_X3_goes μ (v_X3_isRange p1 p2) (if (mDn μ) = 0 then 1 else 0 : Int32)).2) p1 p2 100 0 p1 ∧ True)))
set_option maxHeartbeats 1000000 in
set_option maxRecDepth 100000 in
theorem c_X3_sum (l : Launch) (dC : Nat → ClassId) (dI : Nat → Nat → Nat) (cI : ClassId) (h : Nat → Nat) (sz : Nat) (μ : MS) (p1 : Int32) (p2 : Int32) (hs : s_X3_sum μ p1 p2) : Met l yX3_sum wsX3_sum ({ frames := 1, cells := 0, slots := 0, locals := 22 }) (va_Pc [.ref (h 0), .int p1, .int p2] (pW (dC, dI) [(cI, .int)] (mW cI h μ) sz)) (va_Qi (fun (r : Int32) (u : MS) => r = (v_X3_sum μ p1 p2).1 ∧ u = (v_X3_sum μ p1 p2).2) (qW (dC, dI) (va_A (mW cI h μ) sz) (fun u => mW cI h u)) (va_A (mW cI h μ) sz)) 0 0 (va_A (mW cI h μ) sz) := by
  refine Met.ofW (cc := cX3_sum) (maxL := 5) (ret := (some .int)) (by decide) rfl ?_
  intro p e s m args below meth c s₁ B hml hv
  obtain ⟨rfl, hsz, hP, hK, hD0⟩ := hv
  have hx := B.exec
  have hb := B.bytes
  have hr := B.returns
  have hts := atoms_spec (ws := wsX3_sum) B.pre
  have hown : s.vm.findClass RX3 = some m.cls := findClass_of_methodNamed B.named
  have hlocks := B.notSynchronized
  have hinX3 : ∀ w ∈ wsX30, w ∈ wsX3_sum := by decide +kernel
  have hf16 := hts (.fieldLink RX3 16 "KeysapartModel" "index" "[I") (by decide +kernel)
  have hf46 := hts (.fieldLink RX3 46 "KeysapartModel" "isDown" "Z") (by decide +kernel)
  subst hsz
  have hD := hD0.self (sz := s.heap.size)
  generalize hAe : va_A (mW cI h μ) s.heap.size = A at hD ⊢
  have hA : ∀ q : Nat, s.heap.size ≤ q → A q := fun q h => by rw [← hAe]; exact Or.inr h
  have hl := lv_entry ([.ref (h 0), .int p1, .int p2]) (n := 5) (Nat.le_of_ble_eq_true rfl)
  rw [lg_entry_eq]
  generalize (lg_sl ([.ref (h 0), .int p1, .int p2]) ++ List.replicate (5 - (lg_sl ([.ref (h 0), .int p1, .int p2])).length) Slot.unset).toArray = ls at hl ⊢
  have hl : lv_has ls 5 [(0, .ref (h 0)), (1, .int p1), (2, .int p2)] := hl
  generalize hHe : s.heap = H at hP ⊢
  generalize hLe : ([] : List Loc) = locs
  have hS : va_S A s.heap H locs := by
    rw [← hLe, ← hHe]
    exact va_S.rf
  unfold s_X3_sum at hs
  have hV := v_X3_sum_e μ p1 p2
  refine lv_aload_n hx hb dX3_sum_0 rfl (lv_at hl 0 rfl) ?_
  refine lv_iload_n hx hb dX3_sum_1 rfl (lv_at hl 1 rfl) ?_
  refine lv_iload_n hx hb dX3_sum_2 rfl (lv_at hl 2 rfl) ?_
  have hPc := hP.sub (ws' := eW) [] rfl
  have hDc := hD.sub (ws' := eW) [] (by decide) rfl
  refine rcI (W2 := fun _ => mW cI h μ) (va_runS (As := [.int p1, .int p2]) (rest := [.ref (h 0)]) ⟨hx, hb, hml, hown, hts⟩ (c_X3_isRange l dC dI cI H.size p1 p2) (va_cwS 2 hts gX3_sum_X3_isRange rfl rfl rfl (by decide +kernel) ⟨Nat.le_of_ble_eq_true rfl, Nat.le_of_ble_eq_true rfl⟩) (pW_S hPc hK hDc) rfl rfl hl.1 rfl (lv_room (Nat.le_of_ble_eq_true rfl)) dX3_sum_3 ⟨Nat.le_of_ble_eq_true rfl, Nat.le_of_ble_eq_true rfl⟩) hP hD hS hA [] [0, 1, 2, 3, 4, 5] [0, 1, 2, 3, 4, 5] rfl rfl (by decide) (fun _ => rfl) (fun r_3 u_3 H locs hw hP hD hS => ?_)
  obtain ⟨hw, hz_3⟩ := hw
  try rw [← hw] at hV
  try rw [← hw] at hs
  refine lv_aload_n hx hb dX3_sum_6 rfl (lv_at hl 0 rfl) ?_
  refine va_get (D := (dC, dI)) (ci := 3) (v := .int (mDn μ)) (C := RX3) (T := TX3) (N := 12) hx hb hts hinX3 hown hK hP 0 rfl rfl 10 (by decide) hf46 (fun _ h9 => h9) rfl dX3_sum_7 ?_
  suffices J_10 : W p l e (headSpec wsX3_sum ({ frames := 1, cells := 0, slots := 0, locals := 22 })).room s m [.ref (h 0), .int p1, .int p2].toArray below meth c H locs 0 0 (MQ below (va_Qi (fun (r : Int32) (u : MS) => r = (v_X3_sum μ p1 p2).1 ∧ u = (v_X3_sum μ p1 p2).2) (qW (dC, dI) A (fun u => mW cI h u)) A) [.ref (h 0), .int p1, .int p2].toArray s 0 0 A) (F0 m 18 ls [.int (if (mDn μ) = 0 then 1 else 0 : Int32), .int r_3, .ref (h 0)]) by
    refine lv_if_ne (tgt := 17) hx hb dX3_sum_10 (by decide) (fun c_10 => ?_) (fun c_10 => ?_)
    · skip
      rw [if_neg c_10] at J_10
      refine lv_iconst (v := 0) hx hb dX3_sum_17 (by decide) ?_
      exact J_10
    · skip
      rw [if_pos c_10] at J_10
      refine lv_iconst (v := 1) hx hb dX3_sum_13 (by decide) ?_
      refine lv_goto (tgt := 18) hx hb dX3_sum_14 (by decide) ?_
      exact J_10
  have hPc := hP.sub (ws' := mW cI h μ) [0, 1, 2, 3, 4, 5] rfl
  have hDc := hD.sub (ws' := mW cI h μ) [0, 1, 2, 3, 4, 5] (by decide) rfl
  refine rcI (W2 := fun u => mW cI h u) (va_runV (As := [.int r_3, .int (if (mDn μ) = 0 then 1 else 0 : Int32)]) (rest := []) ⟨hx, hb, hml, hown, hts⟩ (c_X3_goes l dC dI cI h H.size μ r_3 (if (mDn μ) = 0 then 1 else 0 : Int32)) (cwV 2 hts gX3_sum_X3_goes rfl rfl rfl (by decide +kernel) ⟨Nat.le_of_ble_eq_true rfl, Nat.le_of_ble_eq_true rfl⟩) (pW_V hPc hK hDc (ci := 3) (q0 := 0) rfl rfl) rfl rfl hl.1 rfl (lv_room (Nat.le_of_ble_eq_true rfl)) dX3_sum_18 ⟨Nat.le_of_ble_eq_true rfl, Nat.le_of_ble_eq_true rfl⟩) hP hD hS hA [0, 1, 2, 3, 4, 5] [] [0, 1, 2, 3, 4, 5] rfl rfl (by decide) (fun _ => rfl) (fun r_18 u_18 H locs hw hP hD hS => ?_)
  obtain ⟨hw, hw2, hz_18⟩ := hw
  try rw [← hw] at hV
  try rw [← hw] at hs
  try rw [← hw2] at hV
  try rw [← hw2] at hs
  refine lv_if_ne (tgt := 26) hx hb dX3_sum_21 (by decide) (fun c_21 => ?_) (fun c_21 => ?_)
  · skip
    have hs := hs.2 c_21
    rw [if_neg c_21] at hV
    refine lv_iconst (v := 0) hx hb dX3_sum_26 (by decide) ?_
    refine lv_istore_n (lv' := [(3, .int 0), (0, .ref (h 0)), (1, .int p1), (2, .int p2)]) hx hb dX3_sum_27 rfl hl (by decide) rfl (fun ls hl => ?_)
    refine lv_iload_n hx hb dX3_sum_28 rfl (lv_at hl 2 rfl) ?_
    refine lv_istore (lv' := [(4, .int p1), (3, .int 0), (0, .ref (h 0)), (1, .int p1), (2, .int p2)]) hx hb dX3_sum_29 hl (by decide) rfl (fun ls hl => ?_)
    have o_l31 : sl_X3_sum_31 u_18 p1 p2 100 0 p1 := hs.1
    have hs := hs.2
    have loop_31 : ∀ (n : Nat) (x3_31 : Int32) (x4_31 : Int32) (H : Heap) (locs : List Loc) (ls : Array Slot) (hs : sl_X3_sum_31 u_18 p1 p2 n x3_31 x4_31) (K : ∀ (z : Int32 × Int32) (hw : z = l_X3_sum_31 u_18 p1 p2 n x3_31 x4_31) (H : Heap) (locs : List Loc) (ls : Array Slot), va_P (dC, dI) vwCl (mW cI h u_18) H → va_D A (mW cI h u_18) → va_S A s.heap H locs → lv_has ls 5 [(3, .int z.1), (4, .int z.2), (0, .ref (h 0)), (1, .int p1), (2, .int p2)] → W p l e (headSpec wsX3_sum ({ frames := 1, cells := 0, slots := 0, locals := 22 })).room s m [.ref (h 0), .int p1, .int p2].toArray below meth c H locs 0 0 (MQ below (va_Qi (fun (r : Int32) (u : MS) => r = (v_X3_sum μ p1 p2).1 ∧ u = (v_X3_sum μ p1 p2).2) (qW (dC, dI) A (fun u => mW cI h u)) A) [.ref (h 0), .int p1, .int p2].toArray s 0 0 A) (F0 m 66 ls [])) (hP : va_P (dC, dI) vwCl (mW cI h u_18) H) (hD : va_D A (mW cI h u_18)) (hS : va_S A s.heap H locs) (hl : lv_has ls 5 [(3, .int x3_31), (4, .int x4_31), (0, .ref (h 0)), (1, .int p1), (2, .int p2)]), W p l e (headSpec wsX3_sum ({ frames := 1, cells := 0, slots := 0, locals := 22 })).room s m [.ref (h 0), .int p1, .int p2].toArray below meth c H locs 0 0 (MQ below (va_Qi (fun (r : Int32) (u : MS) => r = (v_X3_sum μ p1 p2).1 ∧ u = (v_X3_sum μ p1 p2).2) (qW (dC, dI) A (fun u => mW cI h u)) A) [.ref (h 0), .int p1, .int p2].toArray s 0 0 A) (F0 m 31 ls []) := by
      intro n
      induction n with
      | zero => intro x3_31 x4_31 H locs ls hs; exact False.elim hs
      | succ n ih =>
        intro x3_31 x4_31 H locs ls hs K hP hD hS hl
        rw [sl_X3_sum_31_s] at hs
        rw [l_X3_sum_31_s] at K
        refine lv_iload hx hb dX3_sum_31 (lv_at hl 1 rfl) ?_
        refine lv_iload_n hx hb dX3_sum_33 rfl (lv_at hl 4 rfl) ?_
        refine lv_icmp_gt (tgt := 66) hx hb dX3_sum_34 (by decide) (fun c_34 => ?_) (fun c_34 => ?_)
        · skip
          have hs := hs.1 c_34
          rw [if_pos c_34] at K
          exact K _ rfl H locs ls hP hD hS (lv_sub hl [0, 1, 2, 3, 4] rfl)
        · skip
          have hs := hs.2 c_34
          rw [if_neg c_34] at K
          refine lv_iload_n hx hb dX3_sum_37 rfl (lv_at hl 0 rfl) ?_
          refine lv_aload_n hx hb dX3_sum_38 rfl (lv_at hl 2 rfl) ?_
          refine va_get (D := (dC, dI)) (ci := 3) (v := .ref (h 3)) (C := RX3) (T := TX3) (N := 12) hx hb hts hinX3 hown hK hP 0 rfl rfl 2 (by decide) hf16 (fun _ h9 => h9) rfl dX3_sum_39 ?_
          refine lv_iload hx hb dX3_sum_42 (lv_at hl 1 rfl) ?_
          have o_44 : vp_in x4_31 64 := hs.1
          have hs := hs.2
          refine va_iald hx hb hK hP 3 0 rfl rfl o_44 dX3_sum_44 ?_
          suffices J_45 : ∀ (H : Heap) (locs : List Loc) (ls : Array Slot), va_P (dC, dI) vwCl (mW cI h u_18) H → va_D A (mW cI h u_18) → va_S A s.heap H locs → lv_has ls 5 [(3, .int x3_31), (4, .int x4_31), (0, .ref (h 0)), (1, .int p1), (2, .int p2)] → W p l e (headSpec wsX3_sum ({ frames := 1, cells := 0, slots := 0, locals := 22 })).room s m [.ref (h 0), .int p1, .int p2].toArray below meth c H locs 0 0 (MQ below (va_Qi (fun (r : Int32) (u : MS) => r = (v_X3_sum μ p1 p2).1 ∧ u = (v_X3_sum μ p1 p2).2) (qW (dC, dI) A (fun u => mW cI h u)) A) [.ref (h 0), .int p1, .int p2].toArray s 0 0 A) (F0 m 58 ls [.int (if ((mIx u_18) x4_31.toNatClampNeg) < 0 then 0 else (v_X3_valueOf u_18 x4_31) : Int32), .int x3_31]) by
            have hs := hs.1
            refine lv_if_lt (tgt := 57) hx hb dX3_sum_45 (by decide) (fun c_45 => ?_) (fun c_45 => ?_)
            · skip
              have hs := hs.1 c_45
              rw [if_pos c_45] at J_45
              refine lv_iconst (v := 0) hx hb dX3_sum_57 (by decide) ?_
              exact J_45 H locs ls hP hD hS (lv_sub hl [0, 1, 2, 3, 4] rfl)
            · skip
              have hs := hs.2 c_45
              rw [if_neg c_45] at J_45
              refine lv_aload_n hx hb dX3_sum_48 rfl (lv_at hl 2 rfl) ?_
              refine lv_iload hx hb dX3_sum_49 (lv_at hl 1 rfl) ?_
              have o_51 : s_X3_valueOf u_18 x4_31 := hs.1
              have hs := hs.2
              have hPc := hP.sub (ws' := mW cI h u_18) [0, 1, 2, 3, 4, 5] rfl
              have hDc := hD.sub (ws' := mW cI h u_18) [0, 1, 2, 3, 4, 5] (by decide) rfl
              refine rcI (W2 := fun _ => mW cI h u_18) (va_runV (As := [.int x4_31]) (rest := [.int x3_31]) ⟨hx, hb, hml, hown, hts⟩ (c_X3_valueOf l dC dI cI h H.size u_18 x4_31 o_51) (cwV 1 hts gX3_sum_X3_valueOf rfl rfl rfl (by decide +kernel) ⟨Nat.le_of_ble_eq_true rfl, Nat.le_of_ble_eq_true rfl⟩) (pW_V hPc hK hDc (ci := 3) (q0 := 0) rfl rfl) rfl rfl hl.1 rfl (lv_room (Nat.le_of_ble_eq_true rfl)) dX3_sum_51 ⟨Nat.le_of_ble_eq_true rfl, Nat.le_of_ble_eq_true rfl⟩) hP hD hS hA [0, 1, 2, 3, 4, 5] [] [0, 1, 2, 3, 4, 5] rfl rfl (by decide) (fun _ => rfl) (fun r_51 u_51 H locs hw hP hD hS => ?_)
              try rw [← hw] at J_45
              refine lv_goto (tgt := 58) hx hb dX3_sum_54 (by decide) ?_
              exact J_45 H locs ls hP hD hS (lv_sub hl [0, 1, 2, 3, 4] rfl)
          have hs := hs.2
          intro H locs ls hP hD hS hl
          refine lv_iadd hx hb dX3_sum_58 ?_
          refine lv_istore_n (lv' := [(3, .int (x3_31 + (if ((mIx u_18) x4_31.toNatClampNeg) < 0 then 0 else (v_X3_valueOf u_18 x4_31) : Int32))), (4, .int x4_31), (0, .ref (h 0)), (1, .int p1), (2, .int p2)]) hx hb dX3_sum_59 rfl hl (by decide) rfl (fun ls hl => ?_)
          refine lv_iinc (v := x4_31 + 1) (lv' := [(4, .int (x4_31 + 1)), (3, .int (x3_31 + (if ((mIx u_18) x4_31.toNatClampNeg) < 0 then 0 else (v_X3_valueOf u_18 x4_31) : Int32))), (0, .ref (h 0)), (1, .int p1), (2, .int p2)]) hx hb dX3_sum_60 hl (k := 1) rfl rfl (by decide) rfl (fun ls hl => ?_)
          refine lv_goto (tgt := 31) hx hb dX3_sum_63 (by decide) ?_
          exact ih (x3_31 + (if ((mIx u_18) x4_31.toNatClampNeg) < 0 then 0 else (v_X3_valueOf u_18 x4_31) : Int32)) (x4_31 + 1) H locs ls hs K hP hD hS (lv_sub hl [1, 0, 2, 3, 4] rfl)
    refine loop_31 100 0 p1 H locs ls o_l31 (fun z_31 hw H locs ls hP hD hS hl => ?_) hP hD hS (lv_sub hl [1, 0, 2, 3, 4] rfl)
    try rw [← hw] at hV
    refine lv_iload_n hx hb dX3_sum_66 rfl (lv_at hl 0 rfl) ?_
    exact rI (w := fun u => mW cI h u) (u_18) hx hb hr hlocks hP hD hS (Nat.le_of_ble_eq_true rfl) (Nat.le_of_ble_eq_true rfl) dX3_sum_67 ⟨by rw [hV] <;> rfl, by rw [hV] <;> rfl⟩
  · skip
    have hs := hs.1 c_21
    rw [if_pos c_21] at hV
    refine lv_iconst (v := 0) hx hb dX3_sum_24 (by decide) ?_
    exact rI (w := fun u => mW cI h u) (u_18) hx hb hr hlocks hP hD hS (Nat.le_of_ble_eq_true rfl) (Nat.le_of_ble_eq_true rfl) dX3_sum_25 ⟨by rw [hV] <;> rfl, by rw [hV] <;> rfl⟩
def l_X3_fetches_55 (μ : MS) (y3 : Int32) (y4 : Int32) (y1 : Int32) (y2 : Int32) : Nat → Int32 → Int32 → Int32 × Int32
  | 0, x5_55, x6_55 => (x5_55, x6_55)
  | n + 1, x5_55, x6_55 => if y2 < x6_55 then (x5_55, x6_55) else l_X3_fetches_55 μ y3 y4 y1 y2 n (if x5_55 = 0 then if ((mIx μ) x6_55.toNatClampNeg) < 0 then 0 else if (((mIx μ) x6_55.toNatClampNeg) / 8) = y4 then 1 else 0 else 1 : Int32) (x6_55 + 1)
theorem l_X3_fetches_55_s (μ : MS) (y3 : Int32) (y4 : Int32) (y1 : Int32) (y2 : Int32) (n : Nat) (x5_55 : Int32) (x6_55 : Int32) : l_X3_fetches_55 μ y3 y4 y1 y2 (n + 1) x5_55 x6_55 = if y2 < x6_55 then (x5_55, x6_55) else l_X3_fetches_55 μ y3 y4 y1 y2 n (if x5_55 = 0 then if ((mIx μ) x6_55.toNatClampNeg) < 0 then 0 else if (((mIx μ) x6_55.toNatClampNeg) / 8) = y4 then 1 else 0 else 1 : Int32) (x6_55 + 1) := rfl
def sl_X3_fetches_55 (μ : MS) (y3 : Int32) (y4 : Int32) (y1 : Int32) (y2 : Int32) : Nat → Int32 → Int32 → Prop
  | 0, x5_55, x6_55 => False
  | n + 1, x5_55, x6_55 => ((y2 < x6_55 → True) ∧ (¬ y2 < x6_55 → (((x5_55 = 0 → (vp_in x6_55 64 ∧ ((((mIx μ) x6_55.toNatClampNeg) < 0 → True) ∧ (¬ ((mIx μ) x6_55.toNatClampNeg) < 0 → (vp_in x6_55 64 ∧ True))))) ∧ (¬ x5_55 = 0 → True)) ∧ sl_X3_fetches_55 μ y3 y4 y1 y2 n (if x5_55 = 0 then if ((mIx μ) x6_55.toNatClampNeg) < 0 then 0 else if (((mIx μ) x6_55.toNatClampNeg) / 8) = y4 then 1 else 0 else 1 : Int32) (x6_55 + 1))))
theorem sl_X3_fetches_55_s (μ : MS) (y3 : Int32) (y4 : Int32) (y1 : Int32) (y2 : Int32) (n : Nat) (x5_55 : Int32) (x6_55 : Int32) : sl_X3_fetches_55 μ y3 y4 y1 y2 (n + 1) x5_55 x6_55 = ((y2 < x6_55 → True) ∧ (¬ y2 < x6_55 → (((x5_55 = 0 → (vp_in x6_55 64 ∧ ((((mIx μ) x6_55.toNatClampNeg) < 0 → True) ∧ (¬ ((mIx μ) x6_55.toNatClampNeg) < 0 → (vp_in x6_55 64 ∧ True))))) ∧ (¬ x5_55 = 0 → True)) ∧ sl_X3_fetches_55 μ y3 y4 y1 y2 n (if x5_55 = 0 then if ((mIx μ) x6_55.toNatClampNeg) < 0 then 0 else if (((mIx μ) x6_55.toNatClampNeg) / 8) = y4 then 1 else 0 else 1 : Int32) (x6_55 + 1)))) := rfl
def l_X3_fetches_37 (μ : MS) (y1 : Int32) (y2 : Int32) : Nat → Int32 → Int32 → Int32 × Int32
  | 0, x3_37, x4_37 => (x3_37, x4_37)
  | n + 1, x3_37, x4_37 => if ((mHd μ) / 8) < x4_37 then (x3_37, x4_37) else l_X3_fetches_37 μ y1 y2 n (x3_37 + (if (l_X3_fetches_55 μ x3_37 x4_37 y1 y2 100 0 y1).1 = 0 then 0 else 1 : Int32)) (x4_37 + 1)
theorem l_X3_fetches_37_s (μ : MS) (y1 : Int32) (y2 : Int32) (n : Nat) (x3_37 : Int32) (x4_37 : Int32) : l_X3_fetches_37 μ y1 y2 (n + 1) x3_37 x4_37 = if ((mHd μ) / 8) < x4_37 then (x3_37, x4_37) else l_X3_fetches_37 μ y1 y2 n (x3_37 + (if (l_X3_fetches_55 μ x3_37 x4_37 y1 y2 100 0 y1).1 = 0 then 0 else 1 : Int32)) (x4_37 + 1) := rfl
def sl_X3_fetches_37 (μ : MS) (y1 : Int32) (y2 : Int32) : Nat → Int32 → Int32 → Prop
  | 0, x3_37, x4_37 => False
  | n + 1, x3_37, x4_37 => ((((mHd μ) / 8) < x4_37 → True) ∧ (¬ ((mHd μ) / 8) < x4_37 → (sl_X3_fetches_55 μ x3_37 x4_37 y1 y2 100 0 y1 ∧ sl_X3_fetches_37 μ y1 y2 n (x3_37 + (if (l_X3_fetches_55 μ x3_37 x4_37 y1 y2 100 0 y1).1 = 0 then 0 else 1 : Int32)) (x4_37 + 1))))
theorem sl_X3_fetches_37_s (μ : MS) (y1 : Int32) (y2 : Int32) (n : Nat) (x3_37 : Int32) (x4_37 : Int32) : sl_X3_fetches_37 μ y1 y2 (n + 1) x3_37 x4_37 = ((((mHd μ) / 8) < x4_37 → True) ∧ (¬ ((mHd μ) / 8) < x4_37 → (sl_X3_fetches_55 μ x3_37 x4_37 y1 y2 100 0 y1 ∧ sl_X3_fetches_37 μ y1 y2 n (x3_37 + (if (l_X3_fetches_55 μ x3_37 x4_37 y1 y2 100 0 y1).1 = 0 then 0 else 1 : Int32)) (x4_37 + 1)))) := rfl
def v_X3_fetches (μ : MS) (p1 : Int32) (p2 : Int32) : Int32 × MS := if ((v_X3_goes μ (v_X3_isRange p1 p2) (if (mDn μ) = 0 then 1 else 0 : Int32)).1) = 0 then (0, ((v_X3_goes μ (v_X3_isRange p1 p2) (if (mDn μ) = 0 then 1 else 0 : Int32)).2)) else ((l_X3_fetches_37 ((v_X3_goes μ (v_X3_isRange p1 p2) (if (mDn μ) = 0 then 1 else 0 : Int32)).2) p1 p2 100 0 ((mTl ((v_X3_goes μ (v_X3_isRange p1 p2) (if (mDn μ) = 0 then 1 else 0 : Int32)).2)) / 8)).1, ((v_X3_goes μ (v_X3_isRange p1 p2) (if (mDn μ) = 0 then 1 else 0 : Int32)).2))
theorem v_X3_fetches_e (μ : MS) (p1 : Int32) (p2 : Int32) : v_X3_fetches μ p1 p2 = if ((v_X3_goes μ (v_X3_isRange p1 p2) (if (mDn μ) = 0 then 1 else 0 : Int32)).1) = 0 then (0, ((v_X3_goes μ (v_X3_isRange p1 p2) (if (mDn μ) = 0 then 1 else 0 : Int32)).2)) else ((l_X3_fetches_37 ((v_X3_goes μ (v_X3_isRange p1 p2) (if (mDn μ) = 0 then 1 else 0 : Int32)).2) p1 p2 100 0 ((mTl ((v_X3_goes μ (v_X3_isRange p1 p2) (if (mDn μ) = 0 then 1 else 0 : Int32)).2)) / 8)).1, ((v_X3_goes μ (v_X3_isRange p1 p2) (if (mDn μ) = 0 then 1 else 0 : Int32)).2)) := rfl
def s_X3_fetches (μ : MS) (p1 : Int32) (p2 : Int32) : Prop := ((((v_X3_goes μ (v_X3_isRange p1 p2) (if (mDn μ) = 0 then 1 else 0 : Int32)).1) = 0 → True) ∧ (¬ ((v_X3_goes μ (v_X3_isRange p1 p2) (if (mDn μ) = 0 then 1 else 0 : Int32)).1) = 0 → (sl_X3_fetches_37 ((v_X3_goes μ (v_X3_isRange p1 p2) (if (mDn μ) = 0 then 1 else 0 : Int32)).2) p1 p2 100 0 ((mTl ((v_X3_goes μ (v_X3_isRange p1 p2) (if (mDn μ) = 0 then 1 else 0 : Int32)).2)) / 8) ∧ True)))
set_option maxHeartbeats 1000000 in
set_option maxRecDepth 100000 in
theorem c_X3_fetches (l : Launch) (dC : Nat → ClassId) (dI : Nat → Nat → Nat) (cI : ClassId) (h : Nat → Nat) (sz : Nat) (μ : MS) (p1 : Int32) (p2 : Int32) (hs : s_X3_fetches μ p1 p2) : Met l yX3_fetches wsX3_fetches ({ frames := 1, cells := 0, slots := 0, locals := 22 }) (va_Pc [.ref (h 0), .int p1, .int p2] (pW (dC, dI) [(cI, .int)] (mW cI h μ) sz)) (va_Qi (fun (r : Int32) (u : MS) => r = (v_X3_fetches μ p1 p2).1 ∧ u = (v_X3_fetches μ p1 p2).2) (qW (dC, dI) (va_A (mW cI h μ) sz) (fun u => mW cI h u)) (va_A (mW cI h μ) sz)) 0 0 (va_A (mW cI h μ) sz) := by
  refine Met.ofW (cc := cX3_fetches) (maxL := 7) (ret := (some .int)) (by decide) rfl ?_
  intro p e s m args below meth c s₁ B hml hv
  obtain ⟨rfl, hsz, hP, hK, hD0⟩ := hv
  have hx := B.exec
  have hb := B.bytes
  have hr := B.returns
  have hts := atoms_spec (ws := wsX3_fetches) B.pre
  have hown : s.vm.findClass RX3 = some m.cls := findClass_of_methodNamed B.named
  have hlocks := B.notSynchronized
  have hinX3 : ∀ w ∈ wsX30, w ∈ wsX3_fetches := by decide +kernel
  have hf16 := hts (.fieldLink RX3 16 "KeysapartModel" "index" "[I") (by decide +kernel)
  have hf32 := hts (.fieldLink RX3 32 "KeysapartModel" "tail" "I") (by decide +kernel)
  have hf35 := hts (.fieldLink RX3 35 "KeysapartModel" "head" "I") (by decide +kernel)
  have hf46 := hts (.fieldLink RX3 46 "KeysapartModel" "isDown" "Z") (by decide +kernel)
  subst hsz
  have hD := hD0.self (sz := s.heap.size)
  generalize hAe : va_A (mW cI h μ) s.heap.size = A at hD ⊢
  have hA : ∀ q : Nat, s.heap.size ≤ q → A q := fun q h => by rw [← hAe]; exact Or.inr h
  have hl := lv_entry ([.ref (h 0), .int p1, .int p2]) (n := 7) (Nat.le_of_ble_eq_true rfl)
  rw [lg_entry_eq]
  generalize (lg_sl ([.ref (h 0), .int p1, .int p2]) ++ List.replicate (7 - (lg_sl ([.ref (h 0), .int p1, .int p2])).length) Slot.unset).toArray = ls at hl ⊢
  have hl : lv_has ls 7 [(0, .ref (h 0)), (1, .int p1), (2, .int p2)] := hl
  generalize hHe : s.heap = H at hP ⊢
  generalize hLe : ([] : List Loc) = locs
  have hS : va_S A s.heap H locs := by
    rw [← hLe, ← hHe]
    exact va_S.rf
  unfold s_X3_fetches at hs
  have hV := v_X3_fetches_e μ p1 p2
  refine lv_aload_n hx hb dX3_fetches_0 rfl (lv_at hl 0 rfl) ?_
  refine lv_iload_n hx hb dX3_fetches_1 rfl (lv_at hl 1 rfl) ?_
  refine lv_iload_n hx hb dX3_fetches_2 rfl (lv_at hl 2 rfl) ?_
  have hPc := hP.sub (ws' := eW) [] rfl
  have hDc := hD.sub (ws' := eW) [] (by decide) rfl
  refine rcI (W2 := fun _ => mW cI h μ) (va_runS (As := [.int p1, .int p2]) (rest := [.ref (h 0)]) ⟨hx, hb, hml, hown, hts⟩ (c_X3_isRange l dC dI cI H.size p1 p2) (va_cwS 2 hts gX3_fetches_X3_isRange rfl rfl rfl (by decide +kernel) ⟨Nat.le_of_ble_eq_true rfl, Nat.le_of_ble_eq_true rfl⟩) (pW_S hPc hK hDc) rfl rfl hl.1 rfl (lv_room (Nat.le_of_ble_eq_true rfl)) dX3_fetches_3 ⟨Nat.le_of_ble_eq_true rfl, Nat.le_of_ble_eq_true rfl⟩) hP hD hS hA [] [0, 1, 2, 3, 4, 5] [0, 1, 2, 3, 4, 5] rfl rfl (by decide) (fun _ => rfl) (fun r_3 u_3 H locs hw hP hD hS => ?_)
  obtain ⟨hw, hz_3⟩ := hw
  try rw [← hw] at hV
  try rw [← hw] at hs
  refine lv_aload_n hx hb dX3_fetches_6 rfl (lv_at hl 0 rfl) ?_
  refine va_get (D := (dC, dI)) (ci := 3) (v := .int (mDn μ)) (C := RX3) (T := TX3) (N := 12) hx hb hts hinX3 hown hK hP 0 rfl rfl 10 (by decide) hf46 (fun _ h9 => h9) rfl dX3_fetches_7 ?_
  suffices J_10 : W p l e (headSpec wsX3_fetches ({ frames := 1, cells := 0, slots := 0, locals := 22 })).room s m [.ref (h 0), .int p1, .int p2].toArray below meth c H locs 0 0 (MQ below (va_Qi (fun (r : Int32) (u : MS) => r = (v_X3_fetches μ p1 p2).1 ∧ u = (v_X3_fetches μ p1 p2).2) (qW (dC, dI) A (fun u => mW cI h u)) A) [.ref (h 0), .int p1, .int p2].toArray s 0 0 A) (F0 m 18 ls [.int (if (mDn μ) = 0 then 1 else 0 : Int32), .int r_3, .ref (h 0)]) by
    refine lv_if_ne (tgt := 17) hx hb dX3_fetches_10 (by decide) (fun c_10 => ?_) (fun c_10 => ?_)
    · skip
      rw [if_neg c_10] at J_10
      refine lv_iconst (v := 0) hx hb dX3_fetches_17 (by decide) ?_
      exact J_10
    · skip
      rw [if_pos c_10] at J_10
      refine lv_iconst (v := 1) hx hb dX3_fetches_13 (by decide) ?_
      refine lv_goto (tgt := 18) hx hb dX3_fetches_14 (by decide) ?_
      exact J_10
  have hPc := hP.sub (ws' := mW cI h μ) [0, 1, 2, 3, 4, 5] rfl
  have hDc := hD.sub (ws' := mW cI h μ) [0, 1, 2, 3, 4, 5] (by decide) rfl
  refine rcI (W2 := fun u => mW cI h u) (va_runV (As := [.int r_3, .int (if (mDn μ) = 0 then 1 else 0 : Int32)]) (rest := []) ⟨hx, hb, hml, hown, hts⟩ (c_X3_goes l dC dI cI h H.size μ r_3 (if (mDn μ) = 0 then 1 else 0 : Int32)) (cwV 2 hts gX3_fetches_X3_goes rfl rfl rfl (by decide +kernel) ⟨Nat.le_of_ble_eq_true rfl, Nat.le_of_ble_eq_true rfl⟩) (pW_V hPc hK hDc (ci := 3) (q0 := 0) rfl rfl) rfl rfl hl.1 rfl (lv_room (Nat.le_of_ble_eq_true rfl)) dX3_fetches_18 ⟨Nat.le_of_ble_eq_true rfl, Nat.le_of_ble_eq_true rfl⟩) hP hD hS hA [0, 1, 2, 3, 4, 5] [] [0, 1, 2, 3, 4, 5] rfl rfl (by decide) (fun _ => rfl) (fun r_18 u_18 H locs hw hP hD hS => ?_)
  obtain ⟨hw, hw2, hz_18⟩ := hw
  try rw [← hw] at hV
  try rw [← hw] at hs
  try rw [← hw2] at hV
  try rw [← hw2] at hs
  refine lv_if_ne (tgt := 26) hx hb dX3_fetches_21 (by decide) (fun c_21 => ?_) (fun c_21 => ?_)
  · skip
    have hs := hs.2 c_21
    rw [if_neg c_21] at hV
    refine lv_iconst (v := 0) hx hb dX3_fetches_26 (by decide) ?_
    refine lv_istore_n (lv' := [(3, .int 0), (0, .ref (h 0)), (1, .int p1), (2, .int p2)]) hx hb dX3_fetches_27 rfl hl (by decide) rfl (fun ls hl => ?_)
    refine lv_aload_n hx hb dX3_fetches_28 rfl (lv_at hl 1 rfl) ?_
    refine va_get (D := (dC, dI)) (ci := 3) (v := .int (mTl u_18)) (C := RX3) (T := TX3) (N := 12) hx hb hts hinX3 hown hK hP 0 rfl rfl 6 (by decide) hf32 (fun _ h9 => h9) rfl dX3_fetches_29 ?_
    refine lv_bipush (v := 8) hx hb dX3_fetches_32 (by decide) ?_
    refine lv_idiv hx hb dX3_fetches_34 (by decide) ?_
    refine lv_istore (lv' := [(4, .int ((mTl u_18) / 8)), (3, .int 0), (0, .ref (h 0)), (1, .int p1), (2, .int p2)]) hx hb dX3_fetches_35 hl (by decide) rfl (fun ls hl => ?_)
    have o_l37 : sl_X3_fetches_37 u_18 p1 p2 100 0 ((mTl u_18) / 8) := hs.1
    have hs := hs.2
    have loop_37 : ∀ (n : Nat) (x3_37 : Int32) (x4_37 : Int32) (H : Heap) (locs : List Loc) (ls : Array Slot) (hs : sl_X3_fetches_37 u_18 p1 p2 n x3_37 x4_37) (K : ∀ (z : Int32 × Int32) (hw : z = l_X3_fetches_37 u_18 p1 p2 n x3_37 x4_37) (H : Heap) (locs : List Loc) (ls : Array Slot), va_P (dC, dI) vwCl (mW cI h u_18) H → va_D A (mW cI h u_18) → va_S A s.heap H locs → lv_has ls 7 [(3, .int z.1), (4, .int z.2), (0, .ref (h 0)), (1, .int p1), (2, .int p2)] → W p l e (headSpec wsX3_fetches ({ frames := 1, cells := 0, slots := 0, locals := 22 })).room s m [.ref (h 0), .int p1, .int p2].toArray below meth c H locs 0 0 (MQ below (va_Qi (fun (r : Int32) (u : MS) => r = (v_X3_fetches μ p1 p2).1 ∧ u = (v_X3_fetches μ p1 p2).2) (qW (dC, dI) A (fun u => mW cI h u)) A) [.ref (h 0), .int p1, .int p2].toArray s 0 0 A) (F0 m 123 ls [])) (hP : va_P (dC, dI) vwCl (mW cI h u_18) H) (hD : va_D A (mW cI h u_18)) (hS : va_S A s.heap H locs) (hl : lv_has ls 7 [(3, .int x3_37), (4, .int x4_37), (0, .ref (h 0)), (1, .int p1), (2, .int p2)]), W p l e (headSpec wsX3_fetches ({ frames := 1, cells := 0, slots := 0, locals := 22 })).room s m [.ref (h 0), .int p1, .int p2].toArray below meth c H locs 0 0 (MQ below (va_Qi (fun (r : Int32) (u : MS) => r = (v_X3_fetches μ p1 p2).1 ∧ u = (v_X3_fetches μ p1 p2).2) (qW (dC, dI) A (fun u => mW cI h u)) A) [.ref (h 0), .int p1, .int p2].toArray s 0 0 A) (F0 m 37 ls []) := by
      intro n
      induction n with
      | zero => intro x3_37 x4_37 H locs ls hs; exact False.elim hs
      | succ n ih =>
        intro x3_37 x4_37 H locs ls hs K hP hD hS hl
        rw [sl_X3_fetches_37_s] at hs
        rw [l_X3_fetches_37_s] at K
        refine lv_iload hx hb dX3_fetches_37 (lv_at hl 1 rfl) ?_
        refine lv_aload_n hx hb dX3_fetches_39 rfl (lv_at hl 2 rfl) ?_
        refine va_get (D := (dC, dI)) (ci := 3) (v := .int (mHd u_18)) (C := RX3) (T := TX3) (N := 12) hx hb hts hinX3 hown hK hP 0 rfl rfl 5 (by decide) hf35 (fun _ h9 => h9) rfl dX3_fetches_40 ?_
        refine lv_bipush (v := 8) hx hb dX3_fetches_43 (by decide) ?_
        refine lv_idiv hx hb dX3_fetches_45 (by decide) ?_
        refine lv_icmp_gt (tgt := 123) hx hb dX3_fetches_46 (by decide) (fun c_46 => ?_) (fun c_46 => ?_)
        · skip
          have hs := hs.1 c_46
          rw [if_pos c_46] at K
          exact K _ rfl H locs ls hP hD hS (lv_sub hl [0, 1, 2, 3, 4] rfl)
        · skip
          have hs := hs.2 c_46
          rw [if_neg c_46] at K
          refine lv_iconst (v := 0) hx hb dX3_fetches_49 (by decide) ?_
          refine lv_istore (lv' := [(5, .int 0), (3, .int x3_37), (4, .int x4_37), (0, .ref (h 0)), (1, .int p1), (2, .int p2)]) hx hb dX3_fetches_50 hl (by decide) rfl (fun ls hl => ?_)
          refine lv_iload_n hx hb dX3_fetches_52 rfl (lv_at hl 4 rfl) ?_
          refine lv_istore (lv' := [(6, .int p1), (5, .int 0), (3, .int x3_37), (4, .int x4_37), (0, .ref (h 0)), (1, .int p1), (2, .int p2)]) hx hb dX3_fetches_53 hl (by decide) rfl (fun ls hl => ?_)
          have o_l55 : sl_X3_fetches_55 u_18 x3_37 x4_37 p1 p2 100 0 p1 := hs.1
          have hs := hs.2
          have loop_55 : ∀ (n : Nat) (x5_55 : Int32) (x6_55 : Int32) (H : Heap) (locs : List Loc) (ls : Array Slot) (hs : sl_X3_fetches_55 u_18 x3_37 x4_37 p1 p2 n x5_55 x6_55) (K : ∀ (z : Int32 × Int32) (hw : z = l_X3_fetches_55 u_18 x3_37 x4_37 p1 p2 n x5_55 x6_55) (H : Heap) (locs : List Loc) (ls : Array Slot), va_P (dC, dI) vwCl (mW cI h u_18) H → va_D A (mW cI h u_18) → va_S A s.heap H locs → lv_has ls 7 [(5, .int z.1), (6, .int z.2), (0, .ref (h 0)), (3, .int x3_37), (4, .int x4_37), (1, .int p1), (2, .int p2)] → W p l e (headSpec wsX3_fetches ({ frames := 1, cells := 0, slots := 0, locals := 22 })).room s m [.ref (h 0), .int p1, .int p2].toArray below meth c H locs 0 0 (MQ below (va_Qi (fun (r : Int32) (u : MS) => r = (v_X3_fetches μ p1 p2).1 ∧ u = (v_X3_fetches μ p1 p2).2) (qW (dC, dI) A (fun u => mW cI h u)) A) [.ref (h 0), .int p1, .int p2].toArray s 0 0 A) (F0 m 104 ls [])) (hP : va_P (dC, dI) vwCl (mW cI h u_18) H) (hD : va_D A (mW cI h u_18)) (hS : va_S A s.heap H locs) (hl : lv_has ls 7 [(5, .int x5_55), (6, .int x6_55), (0, .ref (h 0)), (3, .int x3_37), (4, .int x4_37), (1, .int p1), (2, .int p2)]), W p l e (headSpec wsX3_fetches ({ frames := 1, cells := 0, slots := 0, locals := 22 })).room s m [.ref (h 0), .int p1, .int p2].toArray below meth c H locs 0 0 (MQ below (va_Qi (fun (r : Int32) (u : MS) => r = (v_X3_fetches μ p1 p2).1 ∧ u = (v_X3_fetches μ p1 p2).2) (qW (dC, dI) A (fun u => mW cI h u)) A) [.ref (h 0), .int p1, .int p2].toArray s 0 0 A) (F0 m 55 ls []) := by
            intro n
            induction n with
            | zero => intro x5_55 x6_55 H locs ls hs; exact False.elim hs
            | succ n ih =>
              intro x5_55 x6_55 H locs ls hs K hP hD hS hl
              rw [sl_X3_fetches_55_s] at hs
              rw [l_X3_fetches_55_s] at K
              refine lv_iload hx hb dX3_fetches_55 (lv_at hl 1 rfl) ?_
              refine lv_iload_n hx hb dX3_fetches_57 rfl (lv_at hl 6 rfl) ?_
              refine lv_icmp_gt (tgt := 104) hx hb dX3_fetches_58 (by decide) (fun c_58 => ?_) (fun c_58 => ?_)
              · skip
                have hs := hs.1 c_58
                rw [if_pos c_58] at K
                exact K _ rfl H locs ls hP hD hS (lv_sub hl [0, 1, 2, 3, 4, 5, 6] rfl)
              · skip
                have hs := hs.2 c_58
                rw [if_neg c_58] at K
                refine lv_iload hx hb dX3_fetches_61 (lv_at hl 0 rfl) ?_
                suffices J_63 : W p l e (headSpec wsX3_fetches ({ frames := 1, cells := 0, slots := 0, locals := 22 })).room s m [.ref (h 0), .int p1, .int p2].toArray below meth c H locs 0 0 (MQ below (va_Qi (fun (r : Int32) (u : MS) => r = (v_X3_fetches μ p1 p2).1 ∧ u = (v_X3_fetches μ p1 p2).2) (qW (dC, dI) A (fun u => mW cI h u)) A) [.ref (h 0), .int p1, .int p2].toArray s 0 0 A) (F0 m 96 ls [.int (if x5_55 = 0 then if ((mIx u_18) x6_55.toNatClampNeg) < 0 then 0 else if (((mIx u_18) x6_55.toNatClampNeg) / 8) = x4_37 then 1 else 0 else 1 : Int32)]) by
                  have hs := hs.1
                  refine lv_if_ne (tgt := 91) hx hb dX3_fetches_63 (by decide) (fun c_63 => ?_) (fun c_63 => ?_)
                  · skip
                    have hs := hs.2 c_63
                    rw [if_neg c_63] at J_63
                    refine lv_iconst (v := 1) hx hb dX3_fetches_91 (by decide) ?_
                    refine lv_goto (tgt := 96) hx hb dX3_fetches_92 (by decide) ?_
                    exact J_63
                  · skip
                    have hs := hs.1 c_63
                    rw [if_pos c_63] at J_63
                    refine lv_aload_n hx hb dX3_fetches_66 rfl (lv_at hl 2 rfl) ?_
                    refine va_get (D := (dC, dI)) (ci := 3) (v := .ref (h 3)) (C := RX3) (T := TX3) (N := 12) hx hb hts hinX3 hown hK hP 0 rfl rfl 2 (by decide) hf16 (fun _ h9 => h9) rfl dX3_fetches_67 ?_
                    refine lv_iload hx hb dX3_fetches_70 (lv_at hl 1 rfl) ?_
                    have o_72 : vp_in x6_55 64 := hs.1
                    have hs := hs.2
                    refine va_iald hx hb hK hP 3 0 rfl rfl o_72 dX3_fetches_72 ?_
                    refine lv_if_lt (tgt := 95) hx hb dX3_fetches_73 (by decide) (fun c_73 => ?_) (fun c_73 => ?_)
                    · skip
                      have hs := hs.1 c_73
                      rw [if_pos c_73] at J_63
                      refine lv_iconst (v := 0) hx hb dX3_fetches_95 (by decide) ?_
                      exact J_63
                    · skip
                      have hs := hs.2 c_73
                      rw [if_neg c_73] at J_63
                      refine lv_aload_n hx hb dX3_fetches_76 rfl (lv_at hl 2 rfl) ?_
                      refine va_get (D := (dC, dI)) (ci := 3) (v := .ref (h 3)) (C := RX3) (T := TX3) (N := 12) hx hb hts hinX3 hown hK hP 0 rfl rfl 2 (by decide) hf16 (fun _ h9 => h9) rfl dX3_fetches_77 ?_
                      refine lv_iload hx hb dX3_fetches_80 (lv_at hl 1 rfl) ?_
                      have o_82 : vp_in x6_55 64 := hs.1
                      have hs := hs.2
                      refine va_iald hx hb hK hP 3 0 rfl rfl o_82 dX3_fetches_82 ?_
                      refine lv_bipush (v := 8) hx hb dX3_fetches_83 (by decide) ?_
                      refine lv_idiv hx hb dX3_fetches_85 (by decide) ?_
                      refine lv_iload hx hb dX3_fetches_86 (lv_at hl 4 rfl) ?_
                      refine lv_icmp_ne (tgt := 95) hx hb dX3_fetches_88 (by decide) (fun c_88 => ?_) (fun c_88 => ?_)
                      · skip
                        rw [if_neg c_88] at J_63
                        refine lv_iconst (v := 0) hx hb dX3_fetches_95 (by decide) ?_
                        exact J_63
                      · skip
                        rw [if_pos c_88] at J_63
                        refine lv_iconst (v := 1) hx hb dX3_fetches_91 (by decide) ?_
                        refine lv_goto (tgt := 96) hx hb dX3_fetches_92 (by decide) ?_
                        exact J_63
                have hs := hs.2
                refine lv_istore (lv' := [(5, .int (if x5_55 = 0 then if ((mIx u_18) x6_55.toNatClampNeg) < 0 then 0 else if (((mIx u_18) x6_55.toNatClampNeg) / 8) = x4_37 then 1 else 0 else 1 : Int32)), (6, .int x6_55), (0, .ref (h 0)), (3, .int x3_37), (4, .int x4_37), (1, .int p1), (2, .int p2)]) hx hb dX3_fetches_96 hl (by decide) rfl (fun ls hl => ?_)
                refine lv_iinc (v := x6_55 + 1) (lv' := [(6, .int (x6_55 + 1)), (5, .int (if x5_55 = 0 then if ((mIx u_18) x6_55.toNatClampNeg) < 0 then 0 else if (((mIx u_18) x6_55.toNatClampNeg) / 8) = x4_37 then 1 else 0 else 1 : Int32)), (0, .ref (h 0)), (3, .int x3_37), (4, .int x4_37), (1, .int p1), (2, .int p2)]) hx hb dX3_fetches_98 hl (k := 1) rfl rfl (by decide) rfl (fun ls hl => ?_)
                refine lv_goto (tgt := 55) hx hb dX3_fetches_101 (by decide) ?_
                exact ih (if x5_55 = 0 then if ((mIx u_18) x6_55.toNatClampNeg) < 0 then 0 else if (((mIx u_18) x6_55.toNatClampNeg) / 8) = x4_37 then 1 else 0 else 1 : Int32) (x6_55 + 1) H locs ls hs K hP hD hS (lv_sub hl [1, 0, 2, 3, 4, 5, 6] rfl)
          refine loop_55 100 0 p1 H locs ls o_l55 (fun z_55 hw H locs ls hP hD hS hl => ?_) hP hD hS (lv_sub hl [1, 0, 4, 2, 3, 5, 6] rfl)
          try rw [← hw] at K
          try rw [← hw] at hs
          refine lv_iload_n hx hb dX3_fetches_104 rfl (lv_at hl 3 rfl) ?_
          refine lv_iload hx hb dX3_fetches_105 (lv_at hl 0 rfl) ?_
          suffices J_107 : W p l e (headSpec wsX3_fetches ({ frames := 1, cells := 0, slots := 0, locals := 22 })).room s m [.ref (h 0), .int p1, .int p2].toArray below meth c H locs 0 0 (MQ below (va_Qi (fun (r : Int32) (u : MS) => r = (v_X3_fetches μ p1 p2).1 ∧ u = (v_X3_fetches μ p1 p2).2) (qW (dC, dI) A (fun u => mW cI h u)) A) [.ref (h 0), .int p1, .int p2].toArray s 0 0 A) (F0 m 115 ls [.int (if z_55.1 = 0 then 0 else 1 : Int32), .int x3_37]) by
            refine lv_if_eq (tgt := 114) hx hb dX3_fetches_107 (by decide) (fun c_107 => ?_) (fun c_107 => ?_)
            · skip
              rw [if_pos c_107] at J_107
              refine lv_iconst (v := 0) hx hb dX3_fetches_114 (by decide) ?_
              exact J_107
            · skip
              rw [if_neg c_107] at J_107
              refine lv_iconst (v := 1) hx hb dX3_fetches_110 (by decide) ?_
              refine lv_goto (tgt := 115) hx hb dX3_fetches_111 (by decide) ?_
              exact J_107
          refine lv_iadd hx hb dX3_fetches_115 ?_
          refine lv_istore_n (lv' := [(3, .int (x3_37 + (if z_55.1 = 0 then 0 else 1 : Int32))), (5, .int z_55.1), (6, .int z_55.2), (0, .ref (h 0)), (4, .int x4_37), (1, .int p1), (2, .int p2)]) hx hb dX3_fetches_116 rfl hl (by decide) rfl (fun ls hl => ?_)
          refine lv_iinc (v := x4_37 + 1) (lv' := [(4, .int (x4_37 + 1)), (3, .int (x3_37 + (if z_55.1 = 0 then 0 else 1 : Int32))), (5, .int z_55.1), (6, .int z_55.2), (0, .ref (h 0)), (1, .int p1), (2, .int p2)]) hx hb dX3_fetches_117 hl (k := 4) rfl rfl (by decide) rfl (fun ls hl => ?_)
          refine lv_goto (tgt := 37) hx hb dX3_fetches_120 (by decide) ?_
          exact ih (x3_37 + (if z_55.1 = 0 then 0 else 1 : Int32)) (x4_37 + 1) H locs ls hs K hP hD hS (lv_sub hl [1, 0, 4, 5, 6] rfl)
    refine loop_37 100 0 ((mTl u_18) / 8) H locs ls o_l37 (fun z_37 hw H locs ls hP hD hS hl => ?_) hP hD hS (lv_sub hl [1, 0, 2, 3, 4] rfl)
    try rw [← hw] at hV
    refine lv_iload_n hx hb dX3_fetches_123 rfl (lv_at hl 0 rfl) ?_
    exact rI (w := fun u => mW cI h u) (u_18) hx hb hr hlocks hP hD hS (Nat.le_of_ble_eq_true rfl) (Nat.le_of_ble_eq_true rfl) dX3_fetches_124 ⟨by rw [hV] <;> rfl, by rw [hV] <;> rfl⟩
  · skip
    have hs := hs.1 c_21
    rw [if_pos c_21] at hV
    refine lv_iconst (v := 0) hx hb dX3_fetches_24 (by decide) ?_
    exact rI (w := fun u => mW cI h u) (u_18) hx hb hr hlocks hP hD hS (Nat.le_of_ble_eq_true rfl) (Nat.le_of_ble_eq_true rfl) dX3_fetches_25 ⟨by rw [hV] <;> rfl, by rw [hV] <;> rfl⟩
def v_X3_synchronize (μ : MS) : Int32 × MS := if ((v_X3_goes μ (if (mDn μ) = 0 then 1 else 0 : Int32) 1).1) = 0 then (0, ((v_X3_goes μ (if (mDn μ) = 0 then 1 else 0 : Int32) 1).2)) else if ((v_X3_synchronizes ((v_X3_goes μ (if (mDn μ) = 0 then 1 else 0 : Int32) 1).2)).1) = 0 then (0, ((v_X3_synchronizes ((v_X3_goes μ (if (mDn μ) = 0 then 1 else 0 : Int32) 1).2)).2)) else (1, ((v_X3_synchronizes ((v_X3_goes μ (if (mDn μ) = 0 then 1 else 0 : Int32) 1).2)).2))
theorem v_X3_synchronize_e (μ : MS) : v_X3_synchronize μ = if ((v_X3_goes μ (if (mDn μ) = 0 then 1 else 0 : Int32) 1).1) = 0 then (0, ((v_X3_goes μ (if (mDn μ) = 0 then 1 else 0 : Int32) 1).2)) else if ((v_X3_synchronizes ((v_X3_goes μ (if (mDn μ) = 0 then 1 else 0 : Int32) 1).2)).1) = 0 then (0, ((v_X3_synchronizes ((v_X3_goes μ (if (mDn μ) = 0 then 1 else 0 : Int32) 1).2)).2)) else (1, ((v_X3_synchronizes ((v_X3_goes μ (if (mDn μ) = 0 then 1 else 0 : Int32) 1).2)).2)) := rfl
def s_X3_synchronize (μ : MS) : Prop := ((((v_X3_goes μ (if (mDn μ) = 0 then 1 else 0 : Int32) 1).1) = 0 → True) ∧ (¬ ((v_X3_goes μ (if (mDn μ) = 0 then 1 else 0 : Int32) 1).1) = 0 → (s_X3_synchronizes ((v_X3_goes μ (if (mDn μ) = 0 then 1 else 0 : Int32) 1).2) ∧ True)))
set_option maxHeartbeats 1000000 in
set_option maxRecDepth 100000 in
theorem c_X3_synchronize (l : Launch) (dC : Nat → ClassId) (dI : Nat → Nat → Nat) (cI : ClassId) (h : Nat → Nat) (sz : Nat) (μ : MS) (hs : s_X3_synchronize μ) : Met l yX3_synchronize wsX3_synchronize ({ frames := 2, cells := 0, slots := 0, locals := 41 }) (va_Pc [.ref (h 0)] (pW (dC, dI) [(cI, .int)] (mW cI h μ) sz)) (va_Qi (fun (r : Int32) (u : MS) => r = (v_X3_synchronize μ).1 ∧ u = (v_X3_synchronize μ).2 ∧ bz r) (qW (dC, dI) (va_A (mW cI h μ) sz) (fun u => mW cI h u)) (va_A (mW cI h μ) sz)) 0 0 (va_A (mW cI h μ) sz) := by
  refine Met.ofW (cc := cX3_synchronize) (maxL := 1) (ret := (some .boolean)) (by decide) rfl ?_
  intro p e s m args below meth c s₁ B hml hv
  obtain ⟨rfl, hsz, hP, hK, hD0⟩ := hv
  have hx := B.exec
  have hb := B.bytes
  have hr := B.returns
  have hts := atoms_spec (ws := wsX3_synchronize) B.pre
  have hown : s.vm.findClass RX3 = some m.cls := findClass_of_methodNamed B.named
  have hlocks := B.notSynchronized
  have hinX3 : ∀ w ∈ wsX30, w ∈ wsX3_synchronize := by decide +kernel
  have hf46 := hts (.fieldLink RX3 46 "KeysapartModel" "isDown" "Z") (by decide +kernel)
  subst hsz
  have hD := hD0.self (sz := s.heap.size)
  generalize hAe : va_A (mW cI h μ) s.heap.size = A at hD ⊢
  have hA : ∀ q : Nat, s.heap.size ≤ q → A q := fun q h => by rw [← hAe]; exact Or.inr h
  have hl := lv_entry ([.ref (h 0)]) (n := 1) (Nat.le_of_ble_eq_true rfl)
  rw [lg_entry_eq]
  generalize (lg_sl ([.ref (h 0)]) ++ List.replicate (1 - (lg_sl ([.ref (h 0)])).length) Slot.unset).toArray = ls at hl ⊢
  have hl : lv_has ls 1 [(0, .ref (h 0))] := hl
  generalize hHe : s.heap = H at hP ⊢
  generalize hLe : ([] : List Loc) = locs
  have hS : va_S A s.heap H locs := by
    rw [← hLe, ← hHe]
    exact va_S.rf
  unfold s_X3_synchronize at hs
  have hV := v_X3_synchronize_e μ
  refine lv_aload_n hx hb dX3_synchronize_0 rfl (lv_at hl 0 rfl) ?_
  refine lv_aload_n hx hb dX3_synchronize_1 rfl (lv_at hl 0 rfl) ?_
  refine va_get (D := (dC, dI)) (ci := 3) (v := .int (mDn μ)) (C := RX3) (T := TX3) (N := 12) hx hb hts hinX3 hown hK hP 0 rfl rfl 10 (by decide) hf46 (fun _ h9 => h9) rfl dX3_synchronize_2 ?_
  suffices J_5 : W p l e (headSpec wsX3_synchronize ({ frames := 2, cells := 0, slots := 0, locals := 41 })).room s m [.ref (h 0)].toArray below meth c H locs 0 0 (MQ below (va_Qi (fun (r : Int32) (u : MS) => r = (v_X3_synchronize μ).1 ∧ u = (v_X3_synchronize μ).2 ∧ bz r) (qW (dC, dI) A (fun u => mW cI h u)) A) [.ref (h 0)].toArray s 0 0 A) (F0 m 13 ls [.int (if (mDn μ) = 0 then 1 else 0 : Int32), .ref (h 0)]) by
    refine lv_if_ne (tgt := 12) hx hb dX3_synchronize_5 (by decide) (fun c_5 => ?_) (fun c_5 => ?_)
    · skip
      rw [if_neg c_5] at J_5
      refine lv_iconst (v := 0) hx hb dX3_synchronize_12 (by decide) ?_
      exact J_5
    · skip
      rw [if_pos c_5] at J_5
      refine lv_iconst (v := 1) hx hb dX3_synchronize_8 (by decide) ?_
      refine lv_goto (tgt := 13) hx hb dX3_synchronize_9 (by decide) ?_
      exact J_5
  refine lv_iconst (v := 1) hx hb dX3_synchronize_13 (by decide) ?_
  have hPc := hP.sub (ws' := mW cI h μ) [0, 1, 2, 3, 4, 5] rfl
  have hDc := hD.sub (ws' := mW cI h μ) [0, 1, 2, 3, 4, 5] (by decide) rfl
  refine rcI (W2 := fun u => mW cI h u) (va_runV (As := [.int (if (mDn μ) = 0 then 1 else 0 : Int32), .int 1]) (rest := []) ⟨hx, hb, hml, hown, hts⟩ (c_X3_goes l dC dI cI h H.size μ (if (mDn μ) = 0 then 1 else 0 : Int32) 1) (cwV 2 hts gX3_synchronize_X3_goes rfl rfl rfl (by decide +kernel) ⟨Nat.le_of_ble_eq_true rfl, Nat.le_of_ble_eq_true rfl⟩) (pW_V hPc hK hDc (ci := 3) (q0 := 0) rfl rfl) rfl rfl hl.1 rfl (lv_room (Nat.le_of_ble_eq_true rfl)) dX3_synchronize_14 ⟨Nat.le_of_ble_eq_true rfl, Nat.le_of_ble_eq_true rfl⟩) hP hD hS hA [0, 1, 2, 3, 4, 5] [] [0, 1, 2, 3, 4, 5] rfl rfl (by decide) (fun _ => rfl) (fun r_14 u_14 H locs hw hP hD hS => ?_)
  obtain ⟨hw, hw2, hz_14⟩ := hw
  try rw [← hw] at hV
  try rw [← hw] at hs
  try rw [← hw2] at hV
  try rw [← hw2] at hs
  refine lv_if_eq (tgt := 31) hx hb dX3_synchronize_17 (by decide) (fun c_17 => ?_) (fun c_17 => ?_)
  · skip
    have hs := hs.1 c_17
    rw [if_pos c_17] at hV
    refine lv_iconst (v := 0) hx hb dX3_synchronize_31 (by decide) ?_
    have hz9 : bz (0) := by first | assumption | (repeat (first | exact bz0 | exact bz1 | assumption | refine bz_ite ?_ ?_))
    exact rZ (w := fun u => mW cI h u) (u_14) hx hb hr hlocks hP hD hS (Nat.le_of_ble_eq_true rfl) (Nat.le_of_ble_eq_true rfl) dX3_synchronize_32 hz9 ⟨by rw [hV] <;> rfl, by rw [hV] <;> rfl, hz9⟩
  · skip
    have hs := hs.2 c_17
    rw [if_neg c_17] at hV
    refine lv_aload_n hx hb dX3_synchronize_20 rfl (lv_at hl 0 rfl) ?_
    have o_21 : s_X3_synchronizes u_14 := hs.1
    have hs := hs.2
    have hPc := hP.sub (ws' := mW cI h u_14) [0, 1, 2, 3, 4, 5] rfl
    have hDc := hD.sub (ws' := mW cI h u_14) [0, 1, 2, 3, 4, 5] (by decide) rfl
    refine rcI (W2 := fun u => mW cI h u) (va_runV (As := []) (rest := []) ⟨hx, hb, hml, hown, hts⟩ (c_X3_synchronizes l dC dI cI h H.size u_14 o_21) (cwV 0 hts gX3_synchronize_X3_synchronizes rfl rfl rfl (by decide +kernel) ⟨Nat.le_of_ble_eq_true rfl, Nat.le_of_ble_eq_true rfl⟩) (pW_V hPc hK hDc (ci := 3) (q0 := 0) rfl rfl) rfl rfl hl.1 rfl (lv_room (Nat.le_of_ble_eq_true rfl)) dX3_synchronize_21 ⟨Nat.le_of_ble_eq_true rfl, Nat.le_of_ble_eq_true rfl⟩) hP hD hS hA [0, 1, 2, 3, 4, 5] [] [0, 1, 2, 3, 4, 5] rfl rfl (by decide) (fun _ => rfl) (fun r_21 u_21 H locs hw hP hD hS => ?_)
    obtain ⟨hw, hw2, hz_21⟩ := hw
    try rw [← hw] at hV
    try rw [← hw2] at hV
    refine lv_if_eq (tgt := 31) hx hb dX3_synchronize_24 (by decide) (fun c_24 => ?_) (fun c_24 => ?_)
    · skip
      rw [if_pos c_24] at hV
      refine lv_iconst (v := 0) hx hb dX3_synchronize_31 (by decide) ?_
      have hz9 : bz (0) := by first | assumption | (repeat (first | exact bz0 | exact bz1 | assumption | refine bz_ite ?_ ?_))
      exact rZ (w := fun u => mW cI h u) (u_21) hx hb hr hlocks hP hD hS (Nat.le_of_ble_eq_true rfl) (Nat.le_of_ble_eq_true rfl) dX3_synchronize_32 hz9 ⟨by rw [hV] <;> rfl, by rw [hV] <;> rfl, hz9⟩
    · skip
      rw [if_neg c_24] at hV
      refine lv_iconst (v := 1) hx hb dX3_synchronize_27 (by decide) ?_
      refine lv_goto (tgt := 32) hx hb dX3_synchronize_28 (by decide) ?_
      have hz9 : bz (1) := by first | assumption | (repeat (first | exact bz0 | exact bz1 | assumption | refine bz_ite ?_ ?_))
      exact rZ (w := fun u => mW cI h u) (u_21) hx hb hr hlocks hP hD hS (Nat.le_of_ble_eq_true rfl) (Nat.le_of_ble_eq_true rfl) dX3_synchronize_32 hz9 ⟨by rw [hV] <;> rfl, by rw [hV] <;> rfl, hz9⟩
def l_X3_checkpoint_38 : Nat → MS → Int32 → MS × Int32
  | 0, μ38, x1_38 => (μ38, x1_38)
  | n + 1, μ38, x1_38 => if 64 ≤ x1_38 then (μ38, x1_38) else l_X3_checkpoint_38 n (mSKp μ38 (upd (mKp μ38) x1_38.toNatClampNeg ((mIx μ38) x1_38.toNatClampNeg))) (x1_38 + 1)
theorem l_X3_checkpoint_38_s (n : Nat) (μ38 : MS) (x1_38 : Int32) : l_X3_checkpoint_38 (n + 1) μ38 x1_38 = if 64 ≤ x1_38 then (μ38, x1_38) else l_X3_checkpoint_38 n (mSKp μ38 (upd (mKp μ38) x1_38.toNatClampNeg ((mIx μ38) x1_38.toNatClampNeg))) (x1_38 + 1) := rfl
def sl_X3_checkpoint_38 : Nat → MS → Int32 → Prop
  | 0, μ38, x1_38 => False
  | n + 1, μ38, x1_38 => ((64 ≤ x1_38 → True) ∧ (¬ 64 ≤ x1_38 → (vp_in x1_38 64 ∧ (vp_in x1_38 64 ∧ sl_X3_checkpoint_38 n (mSKp μ38 (upd (mKp μ38) x1_38.toNatClampNeg ((mIx μ38) x1_38.toNatClampNeg))) (x1_38 + 1)))))
theorem sl_X3_checkpoint_38_s (n : Nat) (μ38 : MS) (x1_38 : Int32) : sl_X3_checkpoint_38 (n + 1) μ38 x1_38 = ((64 ≤ x1_38 → True) ∧ (¬ 64 ≤ x1_38 → (vp_in x1_38 64 ∧ (vp_in x1_38 64 ∧ sl_X3_checkpoint_38 n (mSKp μ38 (upd (mKp μ38) x1_38.toNatClampNeg ((mIx μ38) x1_38.toNatClampNeg))) (x1_38 + 1))))) := rfl
def v_X3_checkpoint (μ : MS) : Int32 × MS := if ((v_X3_goes μ (if (mDn μ) = 0 then 1 else 0 : Int32) 1).1) = 0 then (0, ((v_X3_goes μ (if (mDn μ) = 0 then 1 else 0 : Int32) 1).2)) else if ((v_X3_synchronizes ((v_X3_goes μ (if (mDn μ) = 0 then 1 else 0 : Int32) 1).2)).1) = 0 then (0, ((v_X3_synchronizes ((v_X3_goes μ (if (mDn μ) = 0 then 1 else 0 : Int32) 1).2)).2)) else if ((v_X3_writes ((v_X3_synchronizes ((v_X3_goes μ (if (mDn μ) = 0 then 1 else 0 : Int32) 1).2)).2)).1) = 0 then (0, ((v_X3_writes ((v_X3_synchronizes ((v_X3_goes μ (if (mDn μ) = 0 then 1 else 0 : Int32) 1).2)).2)).2)) else (1, mSCp (l_X3_checkpoint_38 100 ((v_X3_writes ((v_X3_synchronizes ((v_X3_goes μ (if (mDn μ) = 0 then 1 else 0 : Int32) 1).2)).2)).2) 0).1 (mHd (l_X3_checkpoint_38 100 ((v_X3_writes ((v_X3_synchronizes ((v_X3_goes μ (if (mDn μ) = 0 then 1 else 0 : Int32) 1).2)).2)).2) 0).1))
theorem v_X3_checkpoint_e (μ : MS) : v_X3_checkpoint μ = if ((v_X3_goes μ (if (mDn μ) = 0 then 1 else 0 : Int32) 1).1) = 0 then (0, ((v_X3_goes μ (if (mDn μ) = 0 then 1 else 0 : Int32) 1).2)) else if ((v_X3_synchronizes ((v_X3_goes μ (if (mDn μ) = 0 then 1 else 0 : Int32) 1).2)).1) = 0 then (0, ((v_X3_synchronizes ((v_X3_goes μ (if (mDn μ) = 0 then 1 else 0 : Int32) 1).2)).2)) else if ((v_X3_writes ((v_X3_synchronizes ((v_X3_goes μ (if (mDn μ) = 0 then 1 else 0 : Int32) 1).2)).2)).1) = 0 then (0, ((v_X3_writes ((v_X3_synchronizes ((v_X3_goes μ (if (mDn μ) = 0 then 1 else 0 : Int32) 1).2)).2)).2)) else (1, mSCp (l_X3_checkpoint_38 100 ((v_X3_writes ((v_X3_synchronizes ((v_X3_goes μ (if (mDn μ) = 0 then 1 else 0 : Int32) 1).2)).2)).2) 0).1 (mHd (l_X3_checkpoint_38 100 ((v_X3_writes ((v_X3_synchronizes ((v_X3_goes μ (if (mDn μ) = 0 then 1 else 0 : Int32) 1).2)).2)).2) 0).1)) := rfl
def s_X3_checkpoint (μ : MS) : Prop := ((((v_X3_goes μ (if (mDn μ) = 0 then 1 else 0 : Int32) 1).1) = 0 → True) ∧ (¬ ((v_X3_goes μ (if (mDn μ) = 0 then 1 else 0 : Int32) 1).1) = 0 → (s_X3_synchronizes ((v_X3_goes μ (if (mDn μ) = 0 then 1 else 0 : Int32) 1).2) ∧ ((((v_X3_synchronizes ((v_X3_goes μ (if (mDn μ) = 0 then 1 else 0 : Int32) 1).2)).1) = 0 → True) ∧ (¬ ((v_X3_synchronizes ((v_X3_goes μ (if (mDn μ) = 0 then 1 else 0 : Int32) 1).2)).1) = 0 → ((((v_X3_writes ((v_X3_synchronizes ((v_X3_goes μ (if (mDn μ) = 0 then 1 else 0 : Int32) 1).2)).2)).1) = 0 → True) ∧ (¬ ((v_X3_writes ((v_X3_synchronizes ((v_X3_goes μ (if (mDn μ) = 0 then 1 else 0 : Int32) 1).2)).2)).1) = 0 → (sl_X3_checkpoint_38 100 ((v_X3_writes ((v_X3_synchronizes ((v_X3_goes μ (if (mDn μ) = 0 then 1 else 0 : Int32) 1).2)).2)).2) 0 ∧ True))))))))
set_option maxHeartbeats 1000000 in
set_option maxRecDepth 100000 in
theorem c_X3_checkpoint (l : Launch) (dC : Nat → ClassId) (dI : Nat → Nat → Nat) (cI : ClassId) (h : Nat → Nat) (sz : Nat) (μ : MS) (hs : s_X3_checkpoint μ) : Met l yX3_checkpoint wsX3_checkpoint ({ frames := 2, cells := 0, slots := 0, locals := 41 }) (va_Pc [.ref (h 0)] (pW (dC, dI) [(cI, .int)] (mW cI h μ) sz)) (va_Qi (fun (r : Int32) (u : MS) => r = (v_X3_checkpoint μ).1 ∧ u = (v_X3_checkpoint μ).2 ∧ bz r) (qW (dC, dI) (va_A (mW cI h μ) sz) (fun u => mW cI h u)) (va_A (mW cI h μ) sz)) 0 0 (va_A (mW cI h μ) sz) := by
  refine Met.ofW (cc := cX3_checkpoint) (maxL := 2) (ret := (some .boolean)) (by decide) rfl ?_
  intro p e s m args below meth c s₁ B hml hv
  obtain ⟨rfl, hsz, hP, hK, hD0⟩ := hv
  have hx := B.exec
  have hb := B.bytes
  have hr := B.returns
  have hts := atoms_spec (ws := wsX3_checkpoint) B.pre
  have hown : s.vm.findClass RX3 = some m.cls := findClass_of_methodNamed B.named
  have hlocks := B.notSynchronized
  have hinX3 : ∀ w ∈ wsX30, w ∈ wsX3_checkpoint := by decide +kernel
  have hf16 := hts (.fieldLink RX3 16 "KeysapartModel" "index" "[I") (by decide +kernel)
  have hf19 := hts (.fieldLink RX3 19 "KeysapartModel" "kept" "[I") (by decide +kernel)
  have hf35 := hts (.fieldLink RX3 35 "KeysapartModel" "head" "I") (by decide +kernel)
  have hf46 := hts (.fieldLink RX3 46 "KeysapartModel" "isDown" "Z") (by decide +kernel)
  have hf78 := hts (.fieldLink RX3 78 "KeysapartModel" "checkpoint" "I") (by decide +kernel)
  subst hsz
  have hD := hD0.self (sz := s.heap.size)
  generalize hAe : va_A (mW cI h μ) s.heap.size = A at hD ⊢
  have hA : ∀ q : Nat, s.heap.size ≤ q → A q := fun q h => by rw [← hAe]; exact Or.inr h
  have hl := lv_entry ([.ref (h 0)]) (n := 2) (Nat.le_of_ble_eq_true rfl)
  rw [lg_entry_eq]
  generalize (lg_sl ([.ref (h 0)]) ++ List.replicate (2 - (lg_sl ([.ref (h 0)])).length) Slot.unset).toArray = ls at hl ⊢
  have hl : lv_has ls 2 [(0, .ref (h 0))] := hl
  generalize hHe : s.heap = H at hP ⊢
  generalize hLe : ([] : List Loc) = locs
  have hS : va_S A s.heap H locs := by
    rw [← hLe, ← hHe]
    exact va_S.rf
  unfold s_X3_checkpoint at hs
  have hV := v_X3_checkpoint_e μ
  refine lv_aload_n hx hb dX3_checkpoint_0 rfl (lv_at hl 0 rfl) ?_
  refine lv_aload_n hx hb dX3_checkpoint_1 rfl (lv_at hl 0 rfl) ?_
  refine va_get (D := (dC, dI)) (ci := 3) (v := .int (mDn μ)) (C := RX3) (T := TX3) (N := 12) hx hb hts hinX3 hown hK hP 0 rfl rfl 10 (by decide) hf46 (fun _ h9 => h9) rfl dX3_checkpoint_2 ?_
  suffices J_5 : W p l e (headSpec wsX3_checkpoint ({ frames := 2, cells := 0, slots := 0, locals := 41 })).room s m [.ref (h 0)].toArray below meth c H locs 0 0 (MQ below (va_Qi (fun (r : Int32) (u : MS) => r = (v_X3_checkpoint μ).1 ∧ u = (v_X3_checkpoint μ).2 ∧ bz r) (qW (dC, dI) A (fun u => mW cI h u)) A) [.ref (h 0)].toArray s 0 0 A) (F0 m 13 ls [.int (if (mDn μ) = 0 then 1 else 0 : Int32), .ref (h 0)]) by
    refine lv_if_ne (tgt := 12) hx hb dX3_checkpoint_5 (by decide) (fun c_5 => ?_) (fun c_5 => ?_)
    · skip
      rw [if_neg c_5] at J_5
      refine lv_iconst (v := 0) hx hb dX3_checkpoint_12 (by decide) ?_
      exact J_5
    · skip
      rw [if_pos c_5] at J_5
      refine lv_iconst (v := 1) hx hb dX3_checkpoint_8 (by decide) ?_
      refine lv_goto (tgt := 13) hx hb dX3_checkpoint_9 (by decide) ?_
      exact J_5
  refine lv_iconst (v := 1) hx hb dX3_checkpoint_13 (by decide) ?_
  have hPc := hP.sub (ws' := mW cI h μ) [0, 1, 2, 3, 4, 5] rfl
  have hDc := hD.sub (ws' := mW cI h μ) [0, 1, 2, 3, 4, 5] (by decide) rfl
  refine rcI (W2 := fun u => mW cI h u) (va_runV (As := [.int (if (mDn μ) = 0 then 1 else 0 : Int32), .int 1]) (rest := []) ⟨hx, hb, hml, hown, hts⟩ (c_X3_goes l dC dI cI h H.size μ (if (mDn μ) = 0 then 1 else 0 : Int32) 1) (cwV 2 hts gX3_checkpoint_X3_goes rfl rfl rfl (by decide +kernel) ⟨Nat.le_of_ble_eq_true rfl, Nat.le_of_ble_eq_true rfl⟩) (pW_V hPc hK hDc (ci := 3) (q0 := 0) rfl rfl) rfl rfl hl.1 rfl (lv_room (Nat.le_of_ble_eq_true rfl)) dX3_checkpoint_14 ⟨Nat.le_of_ble_eq_true rfl, Nat.le_of_ble_eq_true rfl⟩) hP hD hS hA [0, 1, 2, 3, 4, 5] [] [0, 1, 2, 3, 4, 5] rfl rfl (by decide) (fun _ => rfl) (fun r_14 u_14 H locs hw hP hD hS => ?_)
  obtain ⟨hw, hw2, hz_14⟩ := hw
  try rw [← hw] at hV
  try rw [← hw] at hs
  try rw [← hw2] at hV
  try rw [← hw2] at hs
  refine lv_if_eq (tgt := 34) hx hb dX3_checkpoint_17 (by decide) (fun c_17 => ?_) (fun c_17 => ?_)
  · skip
    have hs := hs.1 c_17
    rw [if_pos c_17] at hV
    refine lv_iconst (v := 0) hx hb dX3_checkpoint_34 (by decide) ?_
    have hz9 : bz (0) := by first | assumption | (repeat (first | exact bz0 | exact bz1 | assumption | refine bz_ite ?_ ?_))
    exact rZ (w := fun u => mW cI h u) (u_14) hx hb hr hlocks hP hD hS (Nat.le_of_ble_eq_true rfl) (Nat.le_of_ble_eq_true rfl) dX3_checkpoint_35 hz9 ⟨by rw [hV] <;> rfl, by rw [hV] <;> rfl, hz9⟩
  · skip
    have hs := hs.2 c_17
    rw [if_neg c_17] at hV
    refine lv_aload_n hx hb dX3_checkpoint_20 rfl (lv_at hl 0 rfl) ?_
    have o_21 : s_X3_synchronizes u_14 := hs.1
    have hs := hs.2
    have hPc := hP.sub (ws' := mW cI h u_14) [0, 1, 2, 3, 4, 5] rfl
    have hDc := hD.sub (ws' := mW cI h u_14) [0, 1, 2, 3, 4, 5] (by decide) rfl
    refine rcI (W2 := fun u => mW cI h u) (va_runV (As := []) (rest := []) ⟨hx, hb, hml, hown, hts⟩ (c_X3_synchronizes l dC dI cI h H.size u_14 o_21) (cwV 0 hts gX3_checkpoint_X3_synchronizes rfl rfl rfl (by decide +kernel) ⟨Nat.le_of_ble_eq_true rfl, Nat.le_of_ble_eq_true rfl⟩) (pW_V hPc hK hDc (ci := 3) (q0 := 0) rfl rfl) rfl rfl hl.1 rfl (lv_room (Nat.le_of_ble_eq_true rfl)) dX3_checkpoint_21 ⟨Nat.le_of_ble_eq_true rfl, Nat.le_of_ble_eq_true rfl⟩) hP hD hS hA [0, 1, 2, 3, 4, 5] [] [0, 1, 2, 3, 4, 5] rfl rfl (by decide) (fun _ => rfl) (fun r_21 u_21 H locs hw hP hD hS => ?_)
    obtain ⟨hw, hw2, hz_21⟩ := hw
    try rw [← hw] at hV
    try rw [← hw] at hs
    try rw [← hw2] at hV
    try rw [← hw2] at hs
    refine lv_if_eq (tgt := 34) hx hb dX3_checkpoint_24 (by decide) (fun c_24 => ?_) (fun c_24 => ?_)
    · skip
      have hs := hs.1 c_24
      rw [if_pos c_24] at hV
      refine lv_iconst (v := 0) hx hb dX3_checkpoint_34 (by decide) ?_
      have hz9 : bz (0) := by first | assumption | (repeat (first | exact bz0 | exact bz1 | assumption | refine bz_ite ?_ ?_))
      exact rZ (w := fun u => mW cI h u) (u_21) hx hb hr hlocks hP hD hS (Nat.le_of_ble_eq_true rfl) (Nat.le_of_ble_eq_true rfl) dX3_checkpoint_35 hz9 ⟨by rw [hV] <;> rfl, by rw [hV] <;> rfl, hz9⟩
    · skip
      have hs := hs.2 c_24
      rw [if_neg c_24] at hV
      refine lv_aload_n hx hb dX3_checkpoint_27 rfl (lv_at hl 0 rfl) ?_
      have hPc := hP.sub (ws' := mW cI h u_21) [0, 1, 2, 3, 4, 5] rfl
      have hDc := hD.sub (ws' := mW cI h u_21) [0, 1, 2, 3, 4, 5] (by decide) rfl
      refine rcI (W2 := fun u => mW cI h u) (va_runV (As := []) (rest := []) ⟨hx, hb, hml, hown, hts⟩ (c_X3_writes l dC dI cI h H.size u_21) (cwV 0 hts gX3_checkpoint_X3_writes rfl rfl rfl (by decide +kernel) ⟨Nat.le_of_ble_eq_true rfl, Nat.le_of_ble_eq_true rfl⟩) (pW_V hPc hK hDc (ci := 3) (q0 := 0) rfl rfl) rfl rfl hl.1 rfl (lv_room (Nat.le_of_ble_eq_true rfl)) dX3_checkpoint_28 ⟨Nat.le_of_ble_eq_true rfl, Nat.le_of_ble_eq_true rfl⟩) hP hD hS hA [0, 1, 2, 3, 4, 5] [] [0, 1, 2, 3, 4, 5] rfl rfl (by decide) (fun _ => rfl) (fun r_28 u_28 H locs hw hP hD hS => ?_)
      obtain ⟨hw, hw2, hz_28⟩ := hw
      try rw [← hw] at hV
      try rw [← hw] at hs
      try rw [← hw2] at hV
      try rw [← hw2] at hs
      refine lv_if_ne (tgt := 36) hx hb dX3_checkpoint_31 (by decide) (fun c_31 => ?_) (fun c_31 => ?_)
      · skip
        have hs := hs.2 c_31
        rw [if_neg c_31] at hV
        refine lv_iconst (v := 0) hx hb dX3_checkpoint_36 (by decide) ?_
        refine lv_istore_n (lv' := [(1, .int 0), (0, .ref (h 0))]) hx hb dX3_checkpoint_37 rfl hl (by decide) rfl (fun ls hl => ?_)
        have o_l38 : sl_X3_checkpoint_38 100 u_28 0 := hs.1
        have hs := hs.2
        have loop_38 : ∀ (n : Nat) (μ38 : MS) (x1_38 : Int32) (H : Heap) (locs : List Loc) (ls : Array Slot) (hs : sl_X3_checkpoint_38 n μ38 x1_38) (K : ∀ (z : MS × Int32) (hw : z = l_X3_checkpoint_38 n μ38 x1_38) (H : Heap) (locs : List Loc) (ls : Array Slot), va_P (dC, dI) vwCl (mW cI h z.1) H → va_D A (mW cI h z.1) → va_S A s.heap H locs → lv_has ls 2 [(1, .int z.2), (0, .ref (h 0))] → W p l e (headSpec wsX3_checkpoint ({ frames := 2, cells := 0, slots := 0, locals := 41 })).room s m [.ref (h 0)].toArray below meth c H locs 0 0 (MQ below (va_Qi (fun (r : Int32) (u : MS) => r = (v_X3_checkpoint μ).1 ∧ u = (v_X3_checkpoint μ).2 ∧ bz r) (qW (dC, dI) A (fun u => mW cI h u)) A) [.ref (h 0)].toArray s 0 0 A) (F0 m 62 ls [])) (hP : va_P (dC, dI) vwCl (mW cI h μ38) H) (hD : va_D A (mW cI h μ38)) (hS : va_S A s.heap H locs) (hl : lv_has ls 2 [(1, .int x1_38), (0, .ref (h 0))]), W p l e (headSpec wsX3_checkpoint ({ frames := 2, cells := 0, slots := 0, locals := 41 })).room s m [.ref (h 0)].toArray below meth c H locs 0 0 (MQ below (va_Qi (fun (r : Int32) (u : MS) => r = (v_X3_checkpoint μ).1 ∧ u = (v_X3_checkpoint μ).2 ∧ bz r) (qW (dC, dI) A (fun u => mW cI h u)) A) [.ref (h 0)].toArray s 0 0 A) (F0 m 38 ls []) := by
          intro n
          induction n with
          | zero => intro μ38 x1_38 H locs ls hs; exact False.elim hs
          | succ n ih =>
            intro μ38 x1_38 H locs ls hs K hP hD hS hl
            rw [sl_X3_checkpoint_38_s] at hs
            rw [l_X3_checkpoint_38_s] at K
            refine lv_iload_n hx hb dX3_checkpoint_38 rfl (lv_at hl 0 rfl) ?_
            refine lv_bipush (v := 64) hx hb dX3_checkpoint_39 (by decide) ?_
            refine lv_icmp_ge (tgt := 62) hx hb dX3_checkpoint_41 (by decide) (fun c_41 => ?_) (fun c_41 => ?_)
            · skip
              have hs := hs.1 c_41
              rw [if_pos c_41] at K
              exact K _ rfl H locs ls hP hD hS (lv_sub hl [0, 1] rfl)
            · skip
              have hs := hs.2 c_41
              rw [if_neg c_41] at K
              refine lv_aload_n hx hb dX3_checkpoint_44 rfl (lv_at hl 1 rfl) ?_
              refine va_get (D := (dC, dI)) (ci := 3) (v := .ref (h 4)) (C := RX3) (T := TX3) (N := 12) hx hb hts hinX3 hown hK hP 0 rfl rfl 3 (by decide) hf19 (fun _ h9 => h9) rfl dX3_checkpoint_45 ?_
              refine lv_iload_n hx hb dX3_checkpoint_48 rfl (lv_at hl 0 rfl) ?_
              refine lv_aload_n hx hb dX3_checkpoint_49 rfl (lv_at hl 1 rfl) ?_
              refine va_get (D := (dC, dI)) (ci := 3) (v := .ref (h 3)) (C := RX3) (T := TX3) (N := 12) hx hb hts hinX3 hown hK hP 0 rfl rfl 2 (by decide) hf16 (fun _ h9 => h9) rfl dX3_checkpoint_50 ?_
              refine lv_iload_n hx hb dX3_checkpoint_53 rfl (lv_at hl 0 rfl) ?_
              have o_54 : vp_in x1_38 64 := hs.1
              have hs := hs.2
              refine va_iald hx hb hK hP 3 0 rfl rfl o_54 dX3_checkpoint_54 ?_
              have o_55 : vp_in x1_38 64 := hs.1
              have hs := hs.2
              refine va_iast hx hb hK hP hD hS 4 0 rfl rfl o_55 dX3_checkpoint_55 (fun H locs hP hD hS => ?_)
              have hP : va_P (dC, dI) vwCl (mW cI h (mSKp μ38 (upd (mKp μ38) x1_38.toNatClampNeg ((mIx μ38) x1_38.toNatClampNeg)))) H := hP
              have hD : va_D A (mW cI h (mSKp μ38 (upd (mKp μ38) x1_38.toNatClampNeg ((mIx μ38) x1_38.toNatClampNeg)))) := hD
              refine lv_iinc (v := x1_38 + 1) (lv' := [(1, .int (x1_38 + 1)), (0, .ref (h 0))]) hx hb dX3_checkpoint_56 hl (k := 0) rfl rfl (by decide) rfl (fun ls hl => ?_)
              refine lv_goto (tgt := 38) hx hb dX3_checkpoint_59 (by decide) ?_
              exact ih (mSKp μ38 (upd (mKp μ38) x1_38.toNatClampNeg ((mIx μ38) x1_38.toNatClampNeg))) (x1_38 + 1) H locs ls hs K hP hD hS (lv_sub hl [0, 1] rfl)
        refine loop_38 100 u_28 0 H locs ls o_l38 (fun z_38 hw H locs ls hP hD hS hl => ?_) hP hD hS (lv_sub hl [0, 1] rfl)
        try rw [← hw] at hV
        refine lv_aload_n hx hb dX3_checkpoint_62 rfl (lv_at hl 1 rfl) ?_
        refine lv_aload_n hx hb dX3_checkpoint_63 rfl (lv_at hl 1 rfl) ?_
        refine va_get (D := (dC, dI)) (ci := 3) (v := .int (mHd z_38.1)) (C := RX3) (T := TX3) (N := 12) hx hb hts hinX3 hown hK hP 0 rfl rfl 5 (by decide) hf35 (fun _ h9 => h9) rfl dX3_checkpoint_64 ?_
        refine va_put (D := (dC, dI)) (ci := 3) (v := .int (mHd z_38.1)) (ty := .int) (C := RX3) (T := TX3) (N := 12) hx hb hts hinX3 tyX3 tyX3_ok nmX3 hown hK hP hD hS 0 rfl rfl 8 (by decide) hf78 (fun _ h9 => h9) rfl (by decide +kernel) rfl rfl (Nat.le_of_ble_eq_true rfl) dX3_checkpoint_67 (fun H locs hP hD hS => ?_)
        have hP : va_P (dC, dI) vwCl (mW cI h (mSCp z_38.1 (mHd z_38.1))) H := hP
        have hD : va_D A (mW cI h (mSCp z_38.1 (mHd z_38.1))) := hD
        refine lv_iconst (v := 1) hx hb dX3_checkpoint_70 (by decide) ?_
        have hz9 : bz (1) := by first | assumption | (repeat (first | exact bz0 | exact bz1 | assumption | refine bz_ite ?_ ?_))
        exact rZ (w := fun u => mW cI h u) (mSCp z_38.1 (mHd z_38.1)) hx hb hr hlocks hP hD hS (Nat.le_of_ble_eq_true rfl) (Nat.le_of_ble_eq_true rfl) dX3_checkpoint_71 hz9 ⟨by rw [hV] <;> rfl, by rw [hV] <;> rfl, hz9⟩
      · skip
        have hs := hs.1 c_31
        rw [if_pos c_31] at hV
        refine lv_iconst (v := 0) hx hb dX3_checkpoint_34 (by decide) ?_
        have hz9 : bz (0) := by first | assumption | (repeat (first | exact bz0 | exact bz1 | assumption | refine bz_ite ?_ ?_))
        exact rZ (w := fun u => mW cI h u) (u_28) hx hb hr hlocks hP hD hS (Nat.le_of_ble_eq_true rfl) (Nat.le_of_ble_eq_true rfl) dX3_checkpoint_35 hz9 ⟨by rw [hV] <;> rfl, by rw [hV] <;> rfl, hz9⟩
def l_X3_collect_73 (y2 : Int32) (y1 : Int32) : Nat → MS → Int32 → MS × Int32
  | 0, μ73, x3_73 => (μ73, x3_73)
  | n + 1, μ73, x3_73 => if ((mTl μ73) + y1) ≤ x3_73 then (μ73, x3_73) else l_X3_collect_73 y2 y1 n (if ((mIx μ73) ((mKy μ73) (x3_73 - x3_73 / 128 * 128).toNatClampNeg).toNatClampNeg) = x3_73 then mSIx ((v_X3_appends μ73 ((mKy μ73) (x3_73 - x3_73 / 128 * 128).toNatClampNeg) ((mVl μ73) (x3_73 - x3_73 / 128 * 128).toNatClampNeg)).2) (upd (mIx ((v_X3_appends μ73 ((mKy μ73) (x3_73 - x3_73 / 128 * 128).toNatClampNeg) ((mVl μ73) (x3_73 - x3_73 / 128 * 128).toNatClampNeg)).2)) ((mKy μ73) (x3_73 - x3_73 / 128 * 128).toNatClampNeg).toNatClampNeg ((v_X3_appends μ73 ((mKy μ73) (x3_73 - x3_73 / 128 * 128).toNatClampNeg) ((mVl μ73) (x3_73 - x3_73 / 128 * 128).toNatClampNeg)).1)) else μ73) (x3_73 + 1)
theorem l_X3_collect_73_s (y2 : Int32) (y1 : Int32) (n : Nat) (μ73 : MS) (x3_73 : Int32) : l_X3_collect_73 y2 y1 (n + 1) μ73 x3_73 = if ((mTl μ73) + y1) ≤ x3_73 then (μ73, x3_73) else l_X3_collect_73 y2 y1 n (if ((mIx μ73) ((mKy μ73) (x3_73 - x3_73 / 128 * 128).toNatClampNeg).toNatClampNeg) = x3_73 then mSIx ((v_X3_appends μ73 ((mKy μ73) (x3_73 - x3_73 / 128 * 128).toNatClampNeg) ((mVl μ73) (x3_73 - x3_73 / 128 * 128).toNatClampNeg)).2) (upd (mIx ((v_X3_appends μ73 ((mKy μ73) (x3_73 - x3_73 / 128 * 128).toNatClampNeg) ((mVl μ73) (x3_73 - x3_73 / 128 * 128).toNatClampNeg)).2)) ((mKy μ73) (x3_73 - x3_73 / 128 * 128).toNatClampNeg).toNatClampNeg ((v_X3_appends μ73 ((mKy μ73) (x3_73 - x3_73 / 128 * 128).toNatClampNeg) ((mVl μ73) (x3_73 - x3_73 / 128 * 128).toNatClampNeg)).1)) else μ73) (x3_73 + 1) := rfl
def sl_X3_collect_73 (y2 : Int32) (y1 : Int32) : Nat → MS → Int32 → Prop
  | 0, μ73, x3_73 => False
  | n + 1, μ73, x3_73 => ((((mTl μ73) + y1) ≤ x3_73 → True) ∧ (¬ ((mTl μ73) + y1) ≤ x3_73 → (vp_in (x3_73 - x3_73 / 128 * 128) 128 ∧ (vp_in ((mKy μ73) (x3_73 - x3_73 / 128 * 128).toNatClampNeg) 64 ∧ (((((mIx μ73) ((mKy μ73) (x3_73 - x3_73 / 128 * 128).toNatClampNeg).toNatClampNeg) = x3_73 → (vp_in (x3_73 - x3_73 / 128 * 128) 128 ∧ (s_X3_appends μ73 ((mKy μ73) (x3_73 - x3_73 / 128 * 128).toNatClampNeg) ((mVl μ73) (x3_73 - x3_73 / 128 * 128).toNatClampNeg) ∧ (vp_in ((mKy μ73) (x3_73 - x3_73 / 128 * 128).toNatClampNeg) 64 ∧ True)))) ∧ (¬ ((mIx μ73) ((mKy μ73) (x3_73 - x3_73 / 128 * 128).toNatClampNeg).toNatClampNeg) = x3_73 → True)) ∧ sl_X3_collect_73 y2 y1 n (if ((mIx μ73) ((mKy μ73) (x3_73 - x3_73 / 128 * 128).toNatClampNeg).toNatClampNeg) = x3_73 then mSIx ((v_X3_appends μ73 ((mKy μ73) (x3_73 - x3_73 / 128 * 128).toNatClampNeg) ((mVl μ73) (x3_73 - x3_73 / 128 * 128).toNatClampNeg)).2) (upd (mIx ((v_X3_appends μ73 ((mKy μ73) (x3_73 - x3_73 / 128 * 128).toNatClampNeg) ((mVl μ73) (x3_73 - x3_73 / 128 * 128).toNatClampNeg)).2)) ((mKy μ73) (x3_73 - x3_73 / 128 * 128).toNatClampNeg).toNatClampNeg ((v_X3_appends μ73 ((mKy μ73) (x3_73 - x3_73 / 128 * 128).toNatClampNeg) ((mVl μ73) (x3_73 - x3_73 / 128 * 128).toNatClampNeg)).1)) else μ73) (x3_73 + 1))))))
theorem sl_X3_collect_73_s (y2 : Int32) (y1 : Int32) (n : Nat) (μ73 : MS) (x3_73 : Int32) : sl_X3_collect_73 y2 y1 (n + 1) μ73 x3_73 = ((((mTl μ73) + y1) ≤ x3_73 → True) ∧ (¬ ((mTl μ73) + y1) ≤ x3_73 → (vp_in (x3_73 - x3_73 / 128 * 128) 128 ∧ (vp_in ((mKy μ73) (x3_73 - x3_73 / 128 * 128).toNatClampNeg) 64 ∧ (((((mIx μ73) ((mKy μ73) (x3_73 - x3_73 / 128 * 128).toNatClampNeg).toNatClampNeg) = x3_73 → (vp_in (x3_73 - x3_73 / 128 * 128) 128 ∧ (s_X3_appends μ73 ((mKy μ73) (x3_73 - x3_73 / 128 * 128).toNatClampNeg) ((mVl μ73) (x3_73 - x3_73 / 128 * 128).toNatClampNeg) ∧ (vp_in ((mKy μ73) (x3_73 - x3_73 / 128 * 128).toNatClampNeg) 64 ∧ True)))) ∧ (¬ ((mIx μ73) ((mKy μ73) (x3_73 - x3_73 / 128 * 128).toNatClampNeg).toNatClampNeg) = x3_73 → True)) ∧ sl_X3_collect_73 y2 y1 n (if ((mIx μ73) ((mKy μ73) (x3_73 - x3_73 / 128 * 128).toNatClampNeg).toNatClampNeg) = x3_73 then mSIx ((v_X3_appends μ73 ((mKy μ73) (x3_73 - x3_73 / 128 * 128).toNatClampNeg) ((mVl μ73) (x3_73 - x3_73 / 128 * 128).toNatClampNeg)).2) (upd (mIx ((v_X3_appends μ73 ((mKy μ73) (x3_73 - x3_73 / 128 * 128).toNatClampNeg) ((mVl μ73) (x3_73 - x3_73 / 128 * 128).toNatClampNeg)).2)) ((mKy μ73) (x3_73 - x3_73 / 128 * 128).toNatClampNeg).toNatClampNeg ((v_X3_appends μ73 ((mKy μ73) (x3_73 - x3_73 / 128 * 128).toNatClampNeg) ((mVl μ73) (x3_73 - x3_73 / 128 * 128).toNatClampNeg)).1)) else μ73) (x3_73 + 1)))))) := rfl
def v_X3_collect (μ : MS) (p1 : Int32) : Int32 × MS := if ((v_X3_goes μ (if p1 < 1 then 0 else if 96 < p1 then 0 else 1 : Int32) (if (if p1 < 1 then 0 else if 96 < p1 then 0 else 1 : Int32) = 0 then 0 else if (mDn μ) = 0 then if ((mHd μ) - (mTl μ)) < p1 then 0 else if (v_X3_canAppend μ (v_X3_liveIn μ p1)) = 0 then 0 else 1 else 0 : Int32)).1) = 0 then (0, ((v_X3_goes μ (if p1 < 1 then 0 else if 96 < p1 then 0 else 1 : Int32) (if (if p1 < 1 then 0 else if 96 < p1 then 0 else 1 : Int32) = 0 then 0 else if (mDn μ) = 0 then if ((mHd μ) - (mTl μ)) < p1 then 0 else if (v_X3_canAppend μ (v_X3_liveIn μ p1)) = 0 then 0 else 1 else 0 : Int32)).2)) else if ((v_X3_synchronizes (l_X3_collect_73 (if p1 < 1 then 0 else if 96 < p1 then 0 else 1 : Int32) p1 100 ((v_X3_goes μ (if p1 < 1 then 0 else if 96 < p1 then 0 else 1 : Int32) (if (if p1 < 1 then 0 else if 96 < p1 then 0 else 1 : Int32) = 0 then 0 else if (mDn μ) = 0 then if ((mHd μ) - (mTl μ)) < p1 then 0 else if (v_X3_canAppend μ (v_X3_liveIn μ p1)) = 0 then 0 else 1 else 0 : Int32)).2) (mTl ((v_X3_goes μ (if p1 < 1 then 0 else if 96 < p1 then 0 else 1 : Int32) (if (if p1 < 1 then 0 else if 96 < p1 then 0 else 1 : Int32) = 0 then 0 else if (mDn μ) = 0 then if ((mHd μ) - (mTl μ)) < p1 then 0 else if (v_X3_canAppend μ (v_X3_liveIn μ p1)) = 0 then 0 else 1 else 0 : Int32)).2))).1).1) = 0 then (0, ((v_X3_synchronizes (l_X3_collect_73 (if p1 < 1 then 0 else if 96 < p1 then 0 else 1 : Int32) p1 100 ((v_X3_goes μ (if p1 < 1 then 0 else if 96 < p1 then 0 else 1 : Int32) (if (if p1 < 1 then 0 else if 96 < p1 then 0 else 1 : Int32) = 0 then 0 else if (mDn μ) = 0 then if ((mHd μ) - (mTl μ)) < p1 then 0 else if (v_X3_canAppend μ (v_X3_liveIn μ p1)) = 0 then 0 else 1 else 0 : Int32)).2) (mTl ((v_X3_goes μ (if p1 < 1 then 0 else if 96 < p1 then 0 else 1 : Int32) (if (if p1 < 1 then 0 else if 96 < p1 then 0 else 1 : Int32) = 0 then 0 else if (mDn μ) = 0 then if ((mHd μ) - (mTl μ)) < p1 then 0 else if (v_X3_canAppend μ (v_X3_liveIn μ p1)) = 0 then 0 else 1 else 0 : Int32)).2))).1).2)) else if ((v_X3_writes ((v_X3_synchronizes (l_X3_collect_73 (if p1 < 1 then 0 else if 96 < p1 then 0 else 1 : Int32) p1 100 ((v_X3_goes μ (if p1 < 1 then 0 else if 96 < p1 then 0 else 1 : Int32) (if (if p1 < 1 then 0 else if 96 < p1 then 0 else 1 : Int32) = 0 then 0 else if (mDn μ) = 0 then if ((mHd μ) - (mTl μ)) < p1 then 0 else if (v_X3_canAppend μ (v_X3_liveIn μ p1)) = 0 then 0 else 1 else 0 : Int32)).2) (mTl ((v_X3_goes μ (if p1 < 1 then 0 else if 96 < p1 then 0 else 1 : Int32) (if (if p1 < 1 then 0 else if 96 < p1 then 0 else 1 : Int32) = 0 then 0 else if (mDn μ) = 0 then if ((mHd μ) - (mTl μ)) < p1 then 0 else if (v_X3_canAppend μ (v_X3_liveIn μ p1)) = 0 then 0 else 1 else 0 : Int32)).2))).1).2)).1) = 0 then (0, ((v_X3_writes ((v_X3_synchronizes (l_X3_collect_73 (if p1 < 1 then 0 else if 96 < p1 then 0 else 1 : Int32) p1 100 ((v_X3_goes μ (if p1 < 1 then 0 else if 96 < p1 then 0 else 1 : Int32) (if (if p1 < 1 then 0 else if 96 < p1 then 0 else 1 : Int32) = 0 then 0 else if (mDn μ) = 0 then if ((mHd μ) - (mTl μ)) < p1 then 0 else if (v_X3_canAppend μ (v_X3_liveIn μ p1)) = 0 then 0 else 1 else 0 : Int32)).2) (mTl ((v_X3_goes μ (if p1 < 1 then 0 else if 96 < p1 then 0 else 1 : Int32) (if (if p1 < 1 then 0 else if 96 < p1 then 0 else 1 : Int32) = 0 then 0 else if (mDn μ) = 0 then if ((mHd μ) - (mTl μ)) < p1 then 0 else if (v_X3_canAppend μ (v_X3_liveIn μ p1)) = 0 then 0 else 1 else 0 : Int32)).2))).1).2)).2)) else (1, mSTl ((v_X3_writes ((v_X3_synchronizes (l_X3_collect_73 (if p1 < 1 then 0 else if 96 < p1 then 0 else 1 : Int32) p1 100 ((v_X3_goes μ (if p1 < 1 then 0 else if 96 < p1 then 0 else 1 : Int32) (if (if p1 < 1 then 0 else if 96 < p1 then 0 else 1 : Int32) = 0 then 0 else if (mDn μ) = 0 then if ((mHd μ) - (mTl μ)) < p1 then 0 else if (v_X3_canAppend μ (v_X3_liveIn μ p1)) = 0 then 0 else 1 else 0 : Int32)).2) (mTl ((v_X3_goes μ (if p1 < 1 then 0 else if 96 < p1 then 0 else 1 : Int32) (if (if p1 < 1 then 0 else if 96 < p1 then 0 else 1 : Int32) = 0 then 0 else if (mDn μ) = 0 then if ((mHd μ) - (mTl μ)) < p1 then 0 else if (v_X3_canAppend μ (v_X3_liveIn μ p1)) = 0 then 0 else 1 else 0 : Int32)).2))).1).2)).2) ((mTl ((v_X3_writes ((v_X3_synchronizes (l_X3_collect_73 (if p1 < 1 then 0 else if 96 < p1 then 0 else 1 : Int32) p1 100 ((v_X3_goes μ (if p1 < 1 then 0 else if 96 < p1 then 0 else 1 : Int32) (if (if p1 < 1 then 0 else if 96 < p1 then 0 else 1 : Int32) = 0 then 0 else if (mDn μ) = 0 then if ((mHd μ) - (mTl μ)) < p1 then 0 else if (v_X3_canAppend μ (v_X3_liveIn μ p1)) = 0 then 0 else 1 else 0 : Int32)).2) (mTl ((v_X3_goes μ (if p1 < 1 then 0 else if 96 < p1 then 0 else 1 : Int32) (if (if p1 < 1 then 0 else if 96 < p1 then 0 else 1 : Int32) = 0 then 0 else if (mDn μ) = 0 then if ((mHd μ) - (mTl μ)) < p1 then 0 else if (v_X3_canAppend μ (v_X3_liveIn μ p1)) = 0 then 0 else 1 else 0 : Int32)).2))).1).2)).2)) + p1))
theorem v_X3_collect_e (μ : MS) (p1 : Int32) : v_X3_collect μ p1 = if ((v_X3_goes μ (if p1 < 1 then 0 else if 96 < p1 then 0 else 1 : Int32) (if (if p1 < 1 then 0 else if 96 < p1 then 0 else 1 : Int32) = 0 then 0 else if (mDn μ) = 0 then if ((mHd μ) - (mTl μ)) < p1 then 0 else if (v_X3_canAppend μ (v_X3_liveIn μ p1)) = 0 then 0 else 1 else 0 : Int32)).1) = 0 then (0, ((v_X3_goes μ (if p1 < 1 then 0 else if 96 < p1 then 0 else 1 : Int32) (if (if p1 < 1 then 0 else if 96 < p1 then 0 else 1 : Int32) = 0 then 0 else if (mDn μ) = 0 then if ((mHd μ) - (mTl μ)) < p1 then 0 else if (v_X3_canAppend μ (v_X3_liveIn μ p1)) = 0 then 0 else 1 else 0 : Int32)).2)) else if ((v_X3_synchronizes (l_X3_collect_73 (if p1 < 1 then 0 else if 96 < p1 then 0 else 1 : Int32) p1 100 ((v_X3_goes μ (if p1 < 1 then 0 else if 96 < p1 then 0 else 1 : Int32) (if (if p1 < 1 then 0 else if 96 < p1 then 0 else 1 : Int32) = 0 then 0 else if (mDn μ) = 0 then if ((mHd μ) - (mTl μ)) < p1 then 0 else if (v_X3_canAppend μ (v_X3_liveIn μ p1)) = 0 then 0 else 1 else 0 : Int32)).2) (mTl ((v_X3_goes μ (if p1 < 1 then 0 else if 96 < p1 then 0 else 1 : Int32) (if (if p1 < 1 then 0 else if 96 < p1 then 0 else 1 : Int32) = 0 then 0 else if (mDn μ) = 0 then if ((mHd μ) - (mTl μ)) < p1 then 0 else if (v_X3_canAppend μ (v_X3_liveIn μ p1)) = 0 then 0 else 1 else 0 : Int32)).2))).1).1) = 0 then (0, ((v_X3_synchronizes (l_X3_collect_73 (if p1 < 1 then 0 else if 96 < p1 then 0 else 1 : Int32) p1 100 ((v_X3_goes μ (if p1 < 1 then 0 else if 96 < p1 then 0 else 1 : Int32) (if (if p1 < 1 then 0 else if 96 < p1 then 0 else 1 : Int32) = 0 then 0 else if (mDn μ) = 0 then if ((mHd μ) - (mTl μ)) < p1 then 0 else if (v_X3_canAppend μ (v_X3_liveIn μ p1)) = 0 then 0 else 1 else 0 : Int32)).2) (mTl ((v_X3_goes μ (if p1 < 1 then 0 else if 96 < p1 then 0 else 1 : Int32) (if (if p1 < 1 then 0 else if 96 < p1 then 0 else 1 : Int32) = 0 then 0 else if (mDn μ) = 0 then if ((mHd μ) - (mTl μ)) < p1 then 0 else if (v_X3_canAppend μ (v_X3_liveIn μ p1)) = 0 then 0 else 1 else 0 : Int32)).2))).1).2)) else if ((v_X3_writes ((v_X3_synchronizes (l_X3_collect_73 (if p1 < 1 then 0 else if 96 < p1 then 0 else 1 : Int32) p1 100 ((v_X3_goes μ (if p1 < 1 then 0 else if 96 < p1 then 0 else 1 : Int32) (if (if p1 < 1 then 0 else if 96 < p1 then 0 else 1 : Int32) = 0 then 0 else if (mDn μ) = 0 then if ((mHd μ) - (mTl μ)) < p1 then 0 else if (v_X3_canAppend μ (v_X3_liveIn μ p1)) = 0 then 0 else 1 else 0 : Int32)).2) (mTl ((v_X3_goes μ (if p1 < 1 then 0 else if 96 < p1 then 0 else 1 : Int32) (if (if p1 < 1 then 0 else if 96 < p1 then 0 else 1 : Int32) = 0 then 0 else if (mDn μ) = 0 then if ((mHd μ) - (mTl μ)) < p1 then 0 else if (v_X3_canAppend μ (v_X3_liveIn μ p1)) = 0 then 0 else 1 else 0 : Int32)).2))).1).2)).1) = 0 then (0, ((v_X3_writes ((v_X3_synchronizes (l_X3_collect_73 (if p1 < 1 then 0 else if 96 < p1 then 0 else 1 : Int32) p1 100 ((v_X3_goes μ (if p1 < 1 then 0 else if 96 < p1 then 0 else 1 : Int32) (if (if p1 < 1 then 0 else if 96 < p1 then 0 else 1 : Int32) = 0 then 0 else if (mDn μ) = 0 then if ((mHd μ) - (mTl μ)) < p1 then 0 else if (v_X3_canAppend μ (v_X3_liveIn μ p1)) = 0 then 0 else 1 else 0 : Int32)).2) (mTl ((v_X3_goes μ (if p1 < 1 then 0 else if 96 < p1 then 0 else 1 : Int32) (if (if p1 < 1 then 0 else if 96 < p1 then 0 else 1 : Int32) = 0 then 0 else if (mDn μ) = 0 then if ((mHd μ) - (mTl μ)) < p1 then 0 else if (v_X3_canAppend μ (v_X3_liveIn μ p1)) = 0 then 0 else 1 else 0 : Int32)).2))).1).2)).2)) else (1, mSTl ((v_X3_writes ((v_X3_synchronizes (l_X3_collect_73 (if p1 < 1 then 0 else if 96 < p1 then 0 else 1 : Int32) p1 100 ((v_X3_goes μ (if p1 < 1 then 0 else if 96 < p1 then 0 else 1 : Int32) (if (if p1 < 1 then 0 else if 96 < p1 then 0 else 1 : Int32) = 0 then 0 else if (mDn μ) = 0 then if ((mHd μ) - (mTl μ)) < p1 then 0 else if (v_X3_canAppend μ (v_X3_liveIn μ p1)) = 0 then 0 else 1 else 0 : Int32)).2) (mTl ((v_X3_goes μ (if p1 < 1 then 0 else if 96 < p1 then 0 else 1 : Int32) (if (if p1 < 1 then 0 else if 96 < p1 then 0 else 1 : Int32) = 0 then 0 else if (mDn μ) = 0 then if ((mHd μ) - (mTl μ)) < p1 then 0 else if (v_X3_canAppend μ (v_X3_liveIn μ p1)) = 0 then 0 else 1 else 0 : Int32)).2))).1).2)).2) ((mTl ((v_X3_writes ((v_X3_synchronizes (l_X3_collect_73 (if p1 < 1 then 0 else if 96 < p1 then 0 else 1 : Int32) p1 100 ((v_X3_goes μ (if p1 < 1 then 0 else if 96 < p1 then 0 else 1 : Int32) (if (if p1 < 1 then 0 else if 96 < p1 then 0 else 1 : Int32) = 0 then 0 else if (mDn μ) = 0 then if ((mHd μ) - (mTl μ)) < p1 then 0 else if (v_X3_canAppend μ (v_X3_liveIn μ p1)) = 0 then 0 else 1 else 0 : Int32)).2) (mTl ((v_X3_goes μ (if p1 < 1 then 0 else if 96 < p1 then 0 else 1 : Int32) (if (if p1 < 1 then 0 else if 96 < p1 then 0 else 1 : Int32) = 0 then 0 else if (mDn μ) = 0 then if ((mHd μ) - (mTl μ)) < p1 then 0 else if (v_X3_canAppend μ (v_X3_liveIn μ p1)) = 0 then 0 else 1 else 0 : Int32)).2))).1).2)).2)) + p1)) := rfl
def s_X3_collect (μ : MS) (p1 : Int32) : Prop := ((((if p1 < 1 then 0 else if 96 < p1 then 0 else 1 : Int32) = 0 → True) ∧ (¬ (if p1 < 1 then 0 else if 96 < p1 then 0 else 1 : Int32) = 0 → (((mDn μ) = 0 → ((((mHd μ) - (mTl μ)) < p1 → True) ∧ (¬ ((mHd μ) - (mTl μ)) < p1 → (s_X3_liveIn μ p1 ∧ True)))) ∧ (¬ (mDn μ) = 0 → True)))) ∧ ((((v_X3_goes μ (if p1 < 1 then 0 else if 96 < p1 then 0 else 1 : Int32) (if (if p1 < 1 then 0 else if 96 < p1 then 0 else 1 : Int32) = 0 then 0 else if (mDn μ) = 0 then if ((mHd μ) - (mTl μ)) < p1 then 0 else if (v_X3_canAppend μ (v_X3_liveIn μ p1)) = 0 then 0 else 1 else 0 : Int32)).1) = 0 → True) ∧ (¬ ((v_X3_goes μ (if p1 < 1 then 0 else if 96 < p1 then 0 else 1 : Int32) (if (if p1 < 1 then 0 else if 96 < p1 then 0 else 1 : Int32) = 0 then 0 else if (mDn μ) = 0 then if ((mHd μ) - (mTl μ)) < p1 then 0 else if (v_X3_canAppend μ (v_X3_liveIn μ p1)) = 0 then 0 else 1 else 0 : Int32)).1) = 0 → (sl_X3_collect_73 (if p1 < 1 then 0 else if 96 < p1 then 0 else 1 : Int32) p1 100 ((v_X3_goes μ (if p1 < 1 then 0 else if 96 < p1 then 0 else 1 : Int32) (if (if p1 < 1 then 0 else if 96 < p1 then 0 else 1 : Int32) = 0 then 0 else if (mDn μ) = 0 then if ((mHd μ) - (mTl μ)) < p1 then 0 else if (v_X3_canAppend μ (v_X3_liveIn μ p1)) = 0 then 0 else 1 else 0 : Int32)).2) (mTl ((v_X3_goes μ (if p1 < 1 then 0 else if 96 < p1 then 0 else 1 : Int32) (if (if p1 < 1 then 0 else if 96 < p1 then 0 else 1 : Int32) = 0 then 0 else if (mDn μ) = 0 then if ((mHd μ) - (mTl μ)) < p1 then 0 else if (v_X3_canAppend μ (v_X3_liveIn μ p1)) = 0 then 0 else 1 else 0 : Int32)).2)) ∧ (s_X3_synchronizes (l_X3_collect_73 (if p1 < 1 then 0 else if 96 < p1 then 0 else 1 : Int32) p1 100 ((v_X3_goes μ (if p1 < 1 then 0 else if 96 < p1 then 0 else 1 : Int32) (if (if p1 < 1 then 0 else if 96 < p1 then 0 else 1 : Int32) = 0 then 0 else if (mDn μ) = 0 then if ((mHd μ) - (mTl μ)) < p1 then 0 else if (v_X3_canAppend μ (v_X3_liveIn μ p1)) = 0 then 0 else 1 else 0 : Int32)).2) (mTl ((v_X3_goes μ (if p1 < 1 then 0 else if 96 < p1 then 0 else 1 : Int32) (if (if p1 < 1 then 0 else if 96 < p1 then 0 else 1 : Int32) = 0 then 0 else if (mDn μ) = 0 then if ((mHd μ) - (mTl μ)) < p1 then 0 else if (v_X3_canAppend μ (v_X3_liveIn μ p1)) = 0 then 0 else 1 else 0 : Int32)).2))).1 ∧ True)))))
set_option maxHeartbeats 1000000 in
set_option maxRecDepth 100000 in
theorem c_X3_collect (l : Launch) (dC : Nat → ClassId) (dI : Nat → Nat → Nat) (cI : ClassId) (h : Nat → Nat) (sz : Nat) (μ : MS) (p1 : Int32) (hs : s_X3_collect μ p1) : Met l yX3_collect wsX3_collect ({ frames := 2, cells := 0, slots := 0, locals := 42 }) (va_Pc [.ref (h 0), .int p1] (pW (dC, dI) [(cI, .int)] (mW cI h μ) sz)) (va_Qi (fun (r : Int32) (u : MS) => r = (v_X3_collect μ p1).1 ∧ u = (v_X3_collect μ p1).2 ∧ bz r) (qW (dC, dI) (va_A (mW cI h μ) sz) (fun u => mW cI h u)) (va_A (mW cI h μ) sz)) 0 0 (va_A (mW cI h μ) sz) := by
  refine Met.ofW (cc := cX3_collect) (maxL := 5) (ret := (some .boolean)) (by decide) rfl ?_
  intro p e s m args below meth c s₁ B hml hv
  obtain ⟨rfl, hsz, hP, hK, hD0⟩ := hv
  have hx := B.exec
  have hb := B.bytes
  have hr := B.returns
  have hts := atoms_spec (ws := wsX3_collect) B.pre
  have hown : s.vm.findClass RX3 = some m.cls := findClass_of_methodNamed B.named
  have hlocks := B.notSynchronized
  have hinX3 : ∀ w ∈ wsX30, w ∈ wsX3_collect := by decide +kernel
  have hf7 := hts (.fieldLink RX3 7 "KeysapartModel" "key" "[I") (by decide +kernel)
  have hf13 := hts (.fieldLink RX3 13 "KeysapartModel" "value" "[I") (by decide +kernel)
  have hf16 := hts (.fieldLink RX3 16 "KeysapartModel" "index" "[I") (by decide +kernel)
  have hf32 := hts (.fieldLink RX3 32 "KeysapartModel" "tail" "I") (by decide +kernel)
  have hf35 := hts (.fieldLink RX3 35 "KeysapartModel" "head" "I") (by decide +kernel)
  have hf46 := hts (.fieldLink RX3 46 "KeysapartModel" "isDown" "Z") (by decide +kernel)
  subst hsz
  have hD := hD0.self (sz := s.heap.size)
  generalize hAe : va_A (mW cI h μ) s.heap.size = A at hD ⊢
  have hA : ∀ q : Nat, s.heap.size ≤ q → A q := fun q h => by rw [← hAe]; exact Or.inr h
  have hl := lv_entry ([.ref (h 0), .int p1]) (n := 5) (Nat.le_of_ble_eq_true rfl)
  rw [lg_entry_eq]
  generalize (lg_sl ([.ref (h 0), .int p1]) ++ List.replicate (5 - (lg_sl ([.ref (h 0), .int p1])).length) Slot.unset).toArray = ls at hl ⊢
  have hl : lv_has ls 5 [(0, .ref (h 0)), (1, .int p1)] := hl
  generalize hHe : s.heap = H at hP ⊢
  generalize hLe : ([] : List Loc) = locs
  have hS : va_S A s.heap H locs := by
    rw [← hLe, ← hHe]
    exact va_S.rf
  unfold s_X3_collect at hs
  have hV := v_X3_collect_e μ p1
  refine lv_iload_n hx hb dX3_collect_0 rfl (lv_at hl 1 rfl) ?_
  refine lv_iconst (v := 1) hx hb dX3_collect_1 (by decide) ?_
  suffices J_2 : W p l e (headSpec wsX3_collect ({ frames := 2, cells := 0, slots := 0, locals := 42 })).room s m [.ref (h 0), .int p1].toArray below meth c H locs 0 0 (MQ below (va_Qi (fun (r : Int32) (u : MS) => r = (v_X3_collect μ p1).1 ∧ u = (v_X3_collect μ p1).2 ∧ bz r) (qW (dC, dI) A (fun u => mW cI h u)) A) [.ref (h 0), .int p1].toArray s 0 0 A) (F0 m 16 ls [.int (if p1 < 1 then 0 else if 96 < p1 then 0 else 1 : Int32)]) by
    refine lv_icmp_lt (tgt := 15) hx hb dX3_collect_2 (by decide) (fun c_2 => ?_) (fun c_2 => ?_)
    · skip
      rw [if_pos c_2] at J_2
      refine lv_iconst (v := 0) hx hb dX3_collect_15 (by decide) ?_
      exact J_2
    · skip
      rw [if_neg c_2] at J_2
      refine lv_iload_n hx hb dX3_collect_5 rfl (lv_at hl 1 rfl) ?_
      refine lv_bipush (v := 96) hx hb dX3_collect_6 (by decide) ?_
      refine lv_icmp_gt (tgt := 15) hx hb dX3_collect_8 (by decide) (fun c_8 => ?_) (fun c_8 => ?_)
      · skip
        rw [if_pos c_8] at J_2
        refine lv_iconst (v := 0) hx hb dX3_collect_15 (by decide) ?_
        exact J_2
      · skip
        rw [if_neg c_8] at J_2
        refine lv_iconst (v := 1) hx hb dX3_collect_11 (by decide) ?_
        refine lv_goto (tgt := 16) hx hb dX3_collect_12 (by decide) ?_
        exact J_2
  refine lv_istore_n (lv' := [(2, .int (if p1 < 1 then 0 else if 96 < p1 then 0 else 1 : Int32)), (0, .ref (h 0)), (1, .int p1)]) hx hb dX3_collect_16 rfl hl (by decide) rfl (fun ls hl => ?_)
  refine lv_aload_n hx hb dX3_collect_17 rfl (lv_at hl 1 rfl) ?_
  refine lv_iload_n hx hb dX3_collect_18 rfl (lv_at hl 0 rfl) ?_
  refine lv_iload_n hx hb dX3_collect_19 rfl (lv_at hl 0 rfl) ?_
  suffices J_20 : ∀ (H : Heap) (locs : List Loc) (ls : Array Slot), va_P (dC, dI) vwCl (mW cI h μ) H → va_D A (mW cI h μ) → va_S A s.heap H locs → lv_has ls 5 [(2, .int (if p1 < 1 then 0 else if 96 < p1 then 0 else 1 : Int32)), (0, .ref (h 0)), (1, .int p1)] → W p l e (headSpec wsX3_collect ({ frames := 2, cells := 0, slots := 0, locals := 42 })).room s m [.ref (h 0), .int p1].toArray below meth c H locs 0 0 (MQ below (va_Qi (fun (r : Int32) (u : MS) => r = (v_X3_collect μ p1).1 ∧ u = (v_X3_collect μ p1).2 ∧ bz r) (qW (dC, dI) A (fun u => mW cI h u)) A) [.ref (h 0), .int p1].toArray s 0 0 A) (F0 m 60 ls [.int (if (if p1 < 1 then 0 else if 96 < p1 then 0 else 1 : Int32) = 0 then 0 else if (mDn μ) = 0 then if ((mHd μ) - (mTl μ)) < p1 then 0 else if (v_X3_canAppend μ (v_X3_liveIn μ p1)) = 0 then 0 else 1 else 0 : Int32), .int (if p1 < 1 then 0 else if 96 < p1 then 0 else 1 : Int32), .ref (h 0)]) by
    have hs := hs.1
    refine lv_if_eq (tgt := 59) hx hb dX3_collect_20 (by decide) (fun c_20 => ?_) (fun c_20 => ?_)
    · skip
      have hs := hs.1 c_20
      rw [if_pos c_20] at J_20
      refine lv_iconst (v := 0) hx hb dX3_collect_59 (by decide) ?_
      exact J_20 H locs ls hP hD hS (lv_sub hl [0, 1, 2] rfl)
    · skip
      have hs := hs.2 c_20
      rw [if_neg c_20] at J_20
      refine lv_aload_n hx hb dX3_collect_23 rfl (lv_at hl 1 rfl) ?_
      refine va_get (D := (dC, dI)) (ci := 3) (v := .int (mDn μ)) (C := RX3) (T := TX3) (N := 12) hx hb hts hinX3 hown hK hP 0 rfl rfl 10 (by decide) hf46 (fun _ h9 => h9) rfl dX3_collect_24 ?_
      refine lv_if_ne (tgt := 59) hx hb dX3_collect_27 (by decide) (fun c_27 => ?_) (fun c_27 => ?_)
      · skip
        have hs := hs.2 c_27
        rw [if_neg c_27] at J_20
        refine lv_iconst (v := 0) hx hb dX3_collect_59 (by decide) ?_
        exact J_20 H locs ls hP hD hS (lv_sub hl [0, 1, 2] rfl)
      · skip
        have hs := hs.1 c_27
        rw [if_pos c_27] at J_20
        refine lv_aload_n hx hb dX3_collect_30 rfl (lv_at hl 1 rfl) ?_
        refine va_get (D := (dC, dI)) (ci := 3) (v := .int (mHd μ)) (C := RX3) (T := TX3) (N := 12) hx hb hts hinX3 hown hK hP 0 rfl rfl 5 (by decide) hf35 (fun _ h9 => h9) rfl dX3_collect_31 ?_
        refine lv_aload_n hx hb dX3_collect_34 rfl (lv_at hl 1 rfl) ?_
        refine va_get (D := (dC, dI)) (ci := 3) (v := .int (mTl μ)) (C := RX3) (T := TX3) (N := 12) hx hb hts hinX3 hown hK hP 0 rfl rfl 6 (by decide) hf32 (fun _ h9 => h9) rfl dX3_collect_35 ?_
        refine lv_isub hx hb dX3_collect_38 ?_
        refine lv_iload_n hx hb dX3_collect_39 rfl (lv_at hl 2 rfl) ?_
        refine lv_icmp_lt (tgt := 59) hx hb dX3_collect_40 (by decide) (fun c_40 => ?_) (fun c_40 => ?_)
        · skip
          have hs := hs.1 c_40
          rw [if_pos c_40] at J_20
          refine lv_iconst (v := 0) hx hb dX3_collect_59 (by decide) ?_
          exact J_20 H locs ls hP hD hS (lv_sub hl [0, 1, 2] rfl)
        · skip
          have hs := hs.2 c_40
          rw [if_neg c_40] at J_20
          refine lv_aload_n hx hb dX3_collect_43 rfl (lv_at hl 1 rfl) ?_
          refine lv_aload_n hx hb dX3_collect_44 rfl (lv_at hl 1 rfl) ?_
          refine lv_iload_n hx hb dX3_collect_45 rfl (lv_at hl 2 rfl) ?_
          have o_46 : s_X3_liveIn μ p1 := hs.1
          have hs := hs.2
          have hPc := hP.sub (ws' := mW cI h μ) [0, 1, 2, 3, 4, 5] rfl
          have hDc := hD.sub (ws' := mW cI h μ) [0, 1, 2, 3, 4, 5] (by decide) rfl
          refine rcI (W2 := fun _ => mW cI h μ) (va_runV (As := [.int p1]) (rest := [.ref (h 0), .int (if p1 < 1 then 0 else if 96 < p1 then 0 else 1 : Int32), .ref (h 0)]) ⟨hx, hb, hml, hown, hts⟩ (c_X3_liveIn l dC dI cI h H.size μ p1 o_46) (cwV 1 hts gX3_collect_X3_liveIn rfl rfl rfl (by decide +kernel) ⟨Nat.le_of_ble_eq_true rfl, Nat.le_of_ble_eq_true rfl⟩) (pW_V hPc hK hDc (ci := 3) (q0 := 0) rfl rfl) rfl rfl hl.1 rfl (lv_room (Nat.le_of_ble_eq_true rfl)) dX3_collect_46 ⟨Nat.le_of_ble_eq_true rfl, Nat.le_of_ble_eq_true rfl⟩) hP hD hS hA [0, 1, 2, 3, 4, 5] [] [0, 1, 2, 3, 4, 5] rfl rfl (by decide) (fun _ => rfl) (fun r_46 u_46 H locs hw hP hD hS => ?_)
          try rw [← hw] at J_20
          have hPc := hP.sub (ws' := mW cI h μ) [0, 1, 2, 3, 4, 5] rfl
          have hDc := hD.sub (ws' := mW cI h μ) [0, 1, 2, 3, 4, 5] (by decide) rfl
          refine rcI (W2 := fun _ => mW cI h μ) (va_runV (As := [.int r_46]) (rest := [.int (if p1 < 1 then 0 else if 96 < p1 then 0 else 1 : Int32), .ref (h 0)]) ⟨hx, hb, hml, hown, hts⟩ (c_X3_canAppend l dC dI cI h H.size μ r_46) (cwV 1 hts gX3_collect_X3_canAppend rfl rfl rfl (by decide +kernel) ⟨Nat.le_of_ble_eq_true rfl, Nat.le_of_ble_eq_true rfl⟩) (pW_V hPc hK hDc (ci := 3) (q0 := 0) rfl rfl) rfl rfl hl.1 rfl (lv_room (Nat.le_of_ble_eq_true rfl)) dX3_collect_49 ⟨Nat.le_of_ble_eq_true rfl, Nat.le_of_ble_eq_true rfl⟩) hP hD hS hA [0, 1, 2, 3, 4, 5] [] [0, 1, 2, 3, 4, 5] rfl rfl (by decide) (fun _ => rfl) (fun r_49 u_49 H locs hw hP hD hS => ?_)
          obtain ⟨hw, hz_49⟩ := hw
          try rw [← hw] at J_20
          refine lv_if_eq (tgt := 59) hx hb dX3_collect_52 (by decide) (fun c_52 => ?_) (fun c_52 => ?_)
          · skip
            rw [if_pos c_52] at J_20
            refine lv_iconst (v := 0) hx hb dX3_collect_59 (by decide) ?_
            exact J_20 H locs ls hP hD hS (lv_sub hl [0, 1, 2] rfl)
          · skip
            rw [if_neg c_52] at J_20
            refine lv_iconst (v := 1) hx hb dX3_collect_55 (by decide) ?_
            refine lv_goto (tgt := 60) hx hb dX3_collect_56 (by decide) ?_
            exact J_20 H locs ls hP hD hS (lv_sub hl [0, 1, 2] rfl)
  have hs := hs.2
  intro H locs ls hP hD hS hl
  have hPc := hP.sub (ws' := mW cI h μ) [0, 1, 2, 3, 4, 5] rfl
  have hDc := hD.sub (ws' := mW cI h μ) [0, 1, 2, 3, 4, 5] (by decide) rfl
  refine rcI (W2 := fun u => mW cI h u) (va_runV (As := [.int (if p1 < 1 then 0 else if 96 < p1 then 0 else 1 : Int32), .int (if (if p1 < 1 then 0 else if 96 < p1 then 0 else 1 : Int32) = 0 then 0 else if (mDn μ) = 0 then if ((mHd μ) - (mTl μ)) < p1 then 0 else if (v_X3_canAppend μ (v_X3_liveIn μ p1)) = 0 then 0 else 1 else 0 : Int32)]) (rest := []) ⟨hx, hb, hml, hown, hts⟩ (c_X3_goes l dC dI cI h H.size μ (if p1 < 1 then 0 else if 96 < p1 then 0 else 1 : Int32) (if (if p1 < 1 then 0 else if 96 < p1 then 0 else 1 : Int32) = 0 then 0 else if (mDn μ) = 0 then if ((mHd μ) - (mTl μ)) < p1 then 0 else if (v_X3_canAppend μ (v_X3_liveIn μ p1)) = 0 then 0 else 1 else 0 : Int32)) (cwV 2 hts gX3_collect_X3_goes rfl rfl rfl (by decide +kernel) ⟨Nat.le_of_ble_eq_true rfl, Nat.le_of_ble_eq_true rfl⟩) (pW_V hPc hK hDc (ci := 3) (q0 := 0) rfl rfl) rfl rfl hl.1 rfl (lv_room (Nat.le_of_ble_eq_true rfl)) dX3_collect_60 ⟨Nat.le_of_ble_eq_true rfl, Nat.le_of_ble_eq_true rfl⟩) hP hD hS hA [0, 1, 2, 3, 4, 5] [] [0, 1, 2, 3, 4, 5] rfl rfl (by decide) (fun _ => rfl) (fun r_60 u_60 H locs hw hP hD hS => ?_)
  obtain ⟨hw, hw2, hz_60⟩ := hw
  try rw [← hw] at hV
  try rw [← hw] at hs
  try rw [← hw2] at hV
  try rw [← hw2] at hs
  refine lv_if_ne (tgt := 68) hx hb dX3_collect_63 (by decide) (fun c_63 => ?_) (fun c_63 => ?_)
  · skip
    have hs := hs.2 c_63
    rw [if_neg c_63] at hV
    refine lv_aload_n hx hb dX3_collect_68 rfl (lv_at hl 1 rfl) ?_
    refine va_get (D := (dC, dI)) (ci := 3) (v := .int (mTl u_60)) (C := RX3) (T := TX3) (N := 12) hx hb hts hinX3 hown hK hP 0 rfl rfl 6 (by decide) hf32 (fun _ h9 => h9) rfl dX3_collect_69 ?_
    refine lv_istore_n (lv' := [(3, .int (mTl u_60)), (2, .int (if p1 < 1 then 0 else if 96 < p1 then 0 else 1 : Int32)), (0, .ref (h 0)), (1, .int p1)]) hx hb dX3_collect_72 rfl hl (by decide) rfl (fun ls hl => ?_)
    have o_l73 : sl_X3_collect_73 (if p1 < 1 then 0 else if 96 < p1 then 0 else 1 : Int32) p1 100 u_60 (mTl u_60) := hs.1
    have hs := hs.2
    have loop_73 : ∀ (n : Nat) (μ73 : MS) (x3_73 : Int32) (H : Heap) (locs : List Loc) (ls : Array Slot) (hs : sl_X3_collect_73 (if p1 < 1 then 0 else if 96 < p1 then 0 else 1 : Int32) p1 n μ73 x3_73) (K : ∀ (z : MS × Int32) (hw : z = l_X3_collect_73 (if p1 < 1 then 0 else if 96 < p1 then 0 else 1 : Int32) p1 n μ73 x3_73) (H : Heap) (locs : List Loc) (ls : Array Slot), va_P (dC, dI) vwCl (mW cI h z.1) H → va_D A (mW cI h z.1) → va_S A s.heap H locs → lv_has ls 5 [(3, .int z.2), (0, .ref (h 0)), (2, .int (if p1 < 1 then 0 else if 96 < p1 then 0 else 1 : Int32)), (1, .int p1)] → W p l e (headSpec wsX3_collect ({ frames := 2, cells := 0, slots := 0, locals := 42 })).room s m [.ref (h 0), .int p1].toArray below meth c H locs 0 0 (MQ below (va_Qi (fun (r : Int32) (u : MS) => r = (v_X3_collect μ p1).1 ∧ u = (v_X3_collect μ p1).2 ∧ bz r) (qW (dC, dI) A (fun u => mW cI h u)) A) [.ref (h 0), .int p1].toArray s 0 0 A) (F0 m 135 ls [])) (hP : va_P (dC, dI) vwCl (mW cI h μ73) H) (hD : va_D A (mW cI h μ73)) (hS : va_S A s.heap H locs) (hl : lv_has ls 5 [(3, .int x3_73), (0, .ref (h 0)), (2, .int (if p1 < 1 then 0 else if 96 < p1 then 0 else 1 : Int32)), (1, .int p1)]), W p l e (headSpec wsX3_collect ({ frames := 2, cells := 0, slots := 0, locals := 42 })).room s m [.ref (h 0), .int p1].toArray below meth c H locs 0 0 (MQ below (va_Qi (fun (r : Int32) (u : MS) => r = (v_X3_collect μ p1).1 ∧ u = (v_X3_collect μ p1).2 ∧ bz r) (qW (dC, dI) A (fun u => mW cI h u)) A) [.ref (h 0), .int p1].toArray s 0 0 A) (F0 m 73 ls []) := by
      intro n
      induction n with
      | zero => intro μ73 x3_73 H locs ls hs; exact False.elim hs
      | succ n ih =>
        intro μ73 x3_73 H locs ls hs K hP hD hS hl
        rw [sl_X3_collect_73_s] at hs
        rw [l_X3_collect_73_s] at K
        refine lv_iload_n hx hb dX3_collect_73 rfl (lv_at hl 0 rfl) ?_
        refine lv_aload_n hx hb dX3_collect_74 rfl (lv_at hl 1 rfl) ?_
        refine va_get (D := (dC, dI)) (ci := 3) (v := .int (mTl μ73)) (C := RX3) (T := TX3) (N := 12) hx hb hts hinX3 hown hK hP 0 rfl rfl 6 (by decide) hf32 (fun _ h9 => h9) rfl dX3_collect_75 ?_
        refine lv_iload_n hx hb dX3_collect_78 rfl (lv_at hl 3 rfl) ?_
        refine lv_iadd hx hb dX3_collect_79 ?_
        refine lv_icmp_ge (tgt := 135) hx hb dX3_collect_80 (by decide) (fun c_80 => ?_) (fun c_80 => ?_)
        · skip
          have hs := hs.1 c_80
          rw [if_pos c_80] at K
          exact K _ rfl H locs ls hP hD hS (lv_sub hl [0, 1, 2, 3] rfl)
        · skip
          have hs := hs.2 c_80
          rw [if_neg c_80] at K
          refine lv_aload_n hx hb dX3_collect_83 rfl (lv_at hl 1 rfl) ?_
          refine va_get (D := (dC, dI)) (ci := 3) (v := .ref (h 1)) (C := RX3) (T := TX3) (N := 12) hx hb hts hinX3 hown hK hP 0 rfl rfl 0 (by decide) hf7 (fun _ h9 => h9) rfl dX3_collect_84 ?_
          refine lv_iload_n hx hb dX3_collect_87 rfl (lv_at hl 0 rfl) ?_
          refine lv_sipush (v := 128) hx hb dX3_collect_88 (by decide) ?_
          refine lv_irem hx hb dX3_collect_91 (by decide) ?_
          have o_92 : vp_in (x3_73 - x3_73 / 128 * 128) 128 := hs.1
          have hs := hs.2
          refine va_iald hx hb hK hP 1 0 rfl rfl o_92 dX3_collect_92 ?_
          refine lv_istore (lv' := [(4, .int ((mKy μ73) (x3_73 - x3_73 / 128 * 128).toNatClampNeg)), (3, .int x3_73), (0, .ref (h 0)), (2, .int (if p1 < 1 then 0 else if 96 < p1 then 0 else 1 : Int32)), (1, .int p1)]) hx hb dX3_collect_93 hl (by decide) rfl (fun ls hl => ?_)
          refine lv_aload_n hx hb dX3_collect_95 rfl (lv_at hl 2 rfl) ?_
          refine va_get (D := (dC, dI)) (ci := 3) (v := .ref (h 3)) (C := RX3) (T := TX3) (N := 12) hx hb hts hinX3 hown hK hP 0 rfl rfl 2 (by decide) hf16 (fun _ h9 => h9) rfl dX3_collect_96 ?_
          refine lv_iload hx hb dX3_collect_99 (lv_at hl 0 rfl) ?_
          have o_101 : vp_in ((mKy μ73) (x3_73 - x3_73 / 128 * 128).toNatClampNeg) 64 := hs.1
          have hs := hs.2
          refine va_iald hx hb hK hP 3 0 rfl rfl o_101 dX3_collect_101 ?_
          refine lv_iload_n hx hb dX3_collect_102 rfl (lv_at hl 1 rfl) ?_
          suffices J_103 : ∀ (H : Heap) (locs : List Loc) (ls : Array Slot), va_P (dC, dI) vwCl (mW cI h (if ((mIx μ73) ((mKy μ73) (x3_73 - x3_73 / 128 * 128).toNatClampNeg).toNatClampNeg) = x3_73 then mSIx ((v_X3_appends μ73 ((mKy μ73) (x3_73 - x3_73 / 128 * 128).toNatClampNeg) ((mVl μ73) (x3_73 - x3_73 / 128 * 128).toNatClampNeg)).2) (upd (mIx ((v_X3_appends μ73 ((mKy μ73) (x3_73 - x3_73 / 128 * 128).toNatClampNeg) ((mVl μ73) (x3_73 - x3_73 / 128 * 128).toNatClampNeg)).2)) ((mKy μ73) (x3_73 - x3_73 / 128 * 128).toNatClampNeg).toNatClampNeg ((v_X3_appends μ73 ((mKy μ73) (x3_73 - x3_73 / 128 * 128).toNatClampNeg) ((mVl μ73) (x3_73 - x3_73 / 128 * 128).toNatClampNeg)).1)) else μ73)) H → va_D A (mW cI h (if ((mIx μ73) ((mKy μ73) (x3_73 - x3_73 / 128 * 128).toNatClampNeg).toNatClampNeg) = x3_73 then mSIx ((v_X3_appends μ73 ((mKy μ73) (x3_73 - x3_73 / 128 * 128).toNatClampNeg) ((mVl μ73) (x3_73 - x3_73 / 128 * 128).toNatClampNeg)).2) (upd (mIx ((v_X3_appends μ73 ((mKy μ73) (x3_73 - x3_73 / 128 * 128).toNatClampNeg) ((mVl μ73) (x3_73 - x3_73 / 128 * 128).toNatClampNeg)).2)) ((mKy μ73) (x3_73 - x3_73 / 128 * 128).toNatClampNeg).toNatClampNeg ((v_X3_appends μ73 ((mKy μ73) (x3_73 - x3_73 / 128 * 128).toNatClampNeg) ((mVl μ73) (x3_73 - x3_73 / 128 * 128).toNatClampNeg)).1)) else μ73)) → va_S A s.heap H locs → lv_has ls 5 [(4, .int ((mKy μ73) (x3_73 - x3_73 / 128 * 128).toNatClampNeg)), (3, .int x3_73), (0, .ref (h 0)), (2, .int (if p1 < 1 then 0 else if 96 < p1 then 0 else 1 : Int32)), (1, .int p1)] → W p l e (headSpec wsX3_collect ({ frames := 2, cells := 0, slots := 0, locals := 42 })).room s m [.ref (h 0), .int p1].toArray below meth c H locs 0 0 (MQ below (va_Qi (fun (r : Int32) (u : MS) => r = (v_X3_collect μ p1).1 ∧ u = (v_X3_collect μ p1).2 ∧ bz r) (qW (dC, dI) A (fun u => mW cI h u)) A) [.ref (h 0), .int p1].toArray s 0 0 A) (F0 m 129 ls []) by
            have hs := hs.1
            refine lv_icmp_ne (tgt := 129) hx hb dX3_collect_103 (by decide) (fun c_103 => ?_) (fun c_103 => ?_)
            · skip
              have hs := hs.2 c_103
              rw [if_neg c_103] at J_103
              exact J_103 H locs ls hP hD hS (lv_sub hl [0, 1, 2, 3, 4] rfl)
            · skip
              have hs := hs.1 c_103
              rw [if_pos c_103] at J_103
              refine lv_aload_n hx hb dX3_collect_106 rfl (lv_at hl 2 rfl) ?_
              refine va_get (D := (dC, dI)) (ci := 3) (v := .ref (h 3)) (C := RX3) (T := TX3) (N := 12) hx hb hts hinX3 hown hK hP 0 rfl rfl 2 (by decide) hf16 (fun _ h9 => h9) rfl dX3_collect_107 ?_
              refine lv_iload hx hb dX3_collect_110 (lv_at hl 0 rfl) ?_
              refine lv_aload_n hx hb dX3_collect_112 rfl (lv_at hl 2 rfl) ?_
              refine lv_iload hx hb dX3_collect_113 (lv_at hl 0 rfl) ?_
              refine lv_aload_n hx hb dX3_collect_115 rfl (lv_at hl 2 rfl) ?_
              refine va_get (D := (dC, dI)) (ci := 3) (v := .ref (h 2)) (C := RX3) (T := TX3) (N := 12) hx hb hts hinX3 hown hK hP 0 rfl rfl 1 (by decide) hf13 (fun _ h9 => h9) rfl dX3_collect_116 ?_
              refine lv_iload_n hx hb dX3_collect_119 rfl (lv_at hl 1 rfl) ?_
              refine lv_sipush (v := 128) hx hb dX3_collect_120 (by decide) ?_
              refine lv_irem hx hb dX3_collect_123 (by decide) ?_
              have o_124 : vp_in (x3_73 - x3_73 / 128 * 128) 128 := hs.1
              have hs := hs.2
              refine va_iald hx hb hK hP 2 0 rfl rfl o_124 dX3_collect_124 ?_
              have o_125 : s_X3_appends μ73 ((mKy μ73) (x3_73 - x3_73 / 128 * 128).toNatClampNeg) ((mVl μ73) (x3_73 - x3_73 / 128 * 128).toNatClampNeg) := hs.1
              have hs := hs.2
              have hPc := hP.sub (ws' := mW cI h μ73) [0, 1, 2, 3, 4, 5] rfl
              have hDc := hD.sub (ws' := mW cI h μ73) [0, 1, 2, 3, 4, 5] (by decide) rfl
              refine rcI (W2 := fun u => mW cI h u) (va_runV (As := [.int ((mKy μ73) (x3_73 - x3_73 / 128 * 128).toNatClampNeg), .int ((mVl μ73) (x3_73 - x3_73 / 128 * 128).toNatClampNeg)]) (rest := [.int ((mKy μ73) (x3_73 - x3_73 / 128 * 128).toNatClampNeg), .ref (h 3)]) ⟨hx, hb, hml, hown, hts⟩ (c_X3_appends l dC dI cI h H.size μ73 ((mKy μ73) (x3_73 - x3_73 / 128 * 128).toNatClampNeg) ((mVl μ73) (x3_73 - x3_73 / 128 * 128).toNatClampNeg) o_125) (cwV 2 hts gX3_collect_X3_appends rfl rfl rfl (by decide +kernel) ⟨Nat.le_of_ble_eq_true rfl, Nat.le_of_ble_eq_true rfl⟩) (pW_V hPc hK hDc (ci := 3) (q0 := 0) rfl rfl) rfl rfl hl.1 rfl (lv_room (Nat.le_of_ble_eq_true rfl)) dX3_collect_125 ⟨Nat.le_of_ble_eq_true rfl, Nat.le_of_ble_eq_true rfl⟩) hP hD hS hA [0, 1, 2, 3, 4, 5] [] [0, 1, 2, 3, 4, 5] rfl rfl (by decide) (fun _ => rfl) (fun r_125 u_125 H locs hw hP hD hS => ?_)
              obtain ⟨hw, hw2⟩ := hw
              try rw [← hw] at J_103
              try rw [← hw] at hs
              try rw [← hw2] at J_103
              try rw [← hw2] at hs
              have o_128 : vp_in ((mKy μ73) (x3_73 - x3_73 / 128 * 128).toNatClampNeg) 64 := hs.1
              have hs := hs.2
              refine va_iast hx hb hK hP hD hS 3 0 rfl rfl o_128 dX3_collect_128 (fun H locs hP hD hS => ?_)
              have hP : va_P (dC, dI) vwCl (mW cI h (mSIx u_125 (upd (mIx u_125) ((mKy μ73) (x3_73 - x3_73 / 128 * 128).toNatClampNeg).toNatClampNeg r_125))) H := hP
              have hD : va_D A (mW cI h (mSIx u_125 (upd (mIx u_125) ((mKy μ73) (x3_73 - x3_73 / 128 * 128).toNatClampNeg).toNatClampNeg r_125))) := hD
              exact J_103 H locs ls hP hD hS (lv_sub hl [0, 1, 2, 3, 4] rfl)
          have hs := hs.2
          intro H locs ls hP hD hS hl
          refine lv_iinc (v := x3_73 + 1) (lv' := [(3, .int (x3_73 + 1)), (4, .int ((mKy μ73) (x3_73 - x3_73 / 128 * 128).toNatClampNeg)), (0, .ref (h 0)), (2, .int (if p1 < 1 then 0 else if 96 < p1 then 0 else 1 : Int32)), (1, .int p1)]) hx hb dX3_collect_129 hl (k := 1) rfl rfl (by decide) rfl (fun ls hl => ?_)
          refine lv_goto (tgt := 73) hx hb dX3_collect_132 (by decide) ?_
          exact ih (if ((mIx μ73) ((mKy μ73) (x3_73 - x3_73 / 128 * 128).toNatClampNeg).toNatClampNeg) = x3_73 then mSIx ((v_X3_appends μ73 ((mKy μ73) (x3_73 - x3_73 / 128 * 128).toNatClampNeg) ((mVl μ73) (x3_73 - x3_73 / 128 * 128).toNatClampNeg)).2) (upd (mIx ((v_X3_appends μ73 ((mKy μ73) (x3_73 - x3_73 / 128 * 128).toNatClampNeg) ((mVl μ73) (x3_73 - x3_73 / 128 * 128).toNatClampNeg)).2)) ((mKy μ73) (x3_73 - x3_73 / 128 * 128).toNatClampNeg).toNatClampNeg ((v_X3_appends μ73 ((mKy μ73) (x3_73 - x3_73 / 128 * 128).toNatClampNeg) ((mVl μ73) (x3_73 - x3_73 / 128 * 128).toNatClampNeg)).1)) else μ73) (x3_73 + 1) H locs ls hs K hP hD hS (lv_sub hl [0, 2, 3, 4] rfl)
    refine loop_73 100 u_60 (mTl u_60) H locs ls o_l73 (fun z_73 hw H locs ls hP hD hS hl => ?_) hP hD hS (lv_sub hl [0, 2, 1, 3] rfl)
    try rw [← hw] at hV
    try rw [← hw] at hs
    refine lv_aload_n hx hb dX3_collect_135 rfl (lv_at hl 1 rfl) ?_
    have o_136 : s_X3_synchronizes z_73.1 := hs.1
    have hs := hs.2
    have hPc := hP.sub (ws' := mW cI h z_73.1) [0, 1, 2, 3, 4, 5] rfl
    have hDc := hD.sub (ws' := mW cI h z_73.1) [0, 1, 2, 3, 4, 5] (by decide) rfl
    refine rcI (W2 := fun u => mW cI h u) (va_runV (As := []) (rest := []) ⟨hx, hb, hml, hown, hts⟩ (c_X3_synchronizes l dC dI cI h H.size z_73.1 o_136) (cwV 0 hts gX3_collect_X3_synchronizes rfl rfl rfl (by decide +kernel) ⟨Nat.le_of_ble_eq_true rfl, Nat.le_of_ble_eq_true rfl⟩) (pW_V hPc hK hDc (ci := 3) (q0 := 0) rfl rfl) rfl rfl hl.1 rfl (lv_room (Nat.le_of_ble_eq_true rfl)) dX3_collect_136 ⟨Nat.le_of_ble_eq_true rfl, Nat.le_of_ble_eq_true rfl⟩) hP hD hS hA [0, 1, 2, 3, 4, 5] [] [0, 1, 2, 3, 4, 5] rfl rfl (by decide) (fun _ => rfl) (fun r_136 u_136 H locs hw hP hD hS => ?_)
    obtain ⟨hw, hw2, hz_136⟩ := hw
    try rw [← hw] at hV
    try rw [← hw2] at hV
    refine lv_if_eq (tgt := 149) hx hb dX3_collect_139 (by decide) (fun c_139 => ?_) (fun c_139 => ?_)
    · skip
      rw [if_pos c_139] at hV
      refine lv_iconst (v := 0) hx hb dX3_collect_149 (by decide) ?_
      have hz9 : bz (0) := by first | assumption | (repeat (first | exact bz0 | exact bz1 | assumption | refine bz_ite ?_ ?_))
      exact rZ (w := fun u => mW cI h u) (u_136) hx hb hr hlocks hP hD hS (Nat.le_of_ble_eq_true rfl) (Nat.le_of_ble_eq_true rfl) dX3_collect_150 hz9 ⟨by rw [hV] <;> rfl, by rw [hV] <;> rfl, hz9⟩
    · skip
      rw [if_neg c_139] at hV
      refine lv_aload_n hx hb dX3_collect_142 rfl (lv_at hl 1 rfl) ?_
      have hPc := hP.sub (ws' := mW cI h u_136) [0, 1, 2, 3, 4, 5] rfl
      have hDc := hD.sub (ws' := mW cI h u_136) [0, 1, 2, 3, 4, 5] (by decide) rfl
      refine rcI (W2 := fun u => mW cI h u) (va_runV (As := []) (rest := []) ⟨hx, hb, hml, hown, hts⟩ (c_X3_writes l dC dI cI h H.size u_136) (cwV 0 hts gX3_collect_X3_writes rfl rfl rfl (by decide +kernel) ⟨Nat.le_of_ble_eq_true rfl, Nat.le_of_ble_eq_true rfl⟩) (pW_V hPc hK hDc (ci := 3) (q0 := 0) rfl rfl) rfl rfl hl.1 rfl (lv_room (Nat.le_of_ble_eq_true rfl)) dX3_collect_143 ⟨Nat.le_of_ble_eq_true rfl, Nat.le_of_ble_eq_true rfl⟩) hP hD hS hA [0, 1, 2, 3, 4, 5] [] [0, 1, 2, 3, 4, 5] rfl rfl (by decide) (fun _ => rfl) (fun r_143 u_143 H locs hw hP hD hS => ?_)
      obtain ⟨hw, hw2, hz_143⟩ := hw
      try rw [← hw] at hV
      try rw [← hw2] at hV
      refine lv_if_ne (tgt := 151) hx hb dX3_collect_146 (by decide) (fun c_146 => ?_) (fun c_146 => ?_)
      · skip
        rw [if_neg c_146] at hV
        refine lv_aload_n hx hb dX3_collect_151 rfl (lv_at hl 1 rfl) ?_
        refine lv_dup hx hb dX3_collect_152 rfl ?_
        refine va_get (D := (dC, dI)) (ci := 3) (v := .int (mTl u_143)) (C := RX3) (T := TX3) (N := 12) hx hb hts hinX3 hown hK hP 0 rfl rfl 6 (by decide) hf32 (fun _ h9 => h9) rfl dX3_collect_153 ?_
        refine lv_iload_n hx hb dX3_collect_156 rfl (lv_at hl 3 rfl) ?_
        refine lv_iadd hx hb dX3_collect_157 ?_
        refine va_put (D := (dC, dI)) (ci := 3) (v := .int ((mTl u_143) + p1)) (ty := .int) (C := RX3) (T := TX3) (N := 12) hx hb hts hinX3 tyX3 tyX3_ok nmX3 hown hK hP hD hS 0 rfl rfl 6 (by decide) hf32 (fun _ h9 => h9) rfl (by decide +kernel) rfl rfl (Nat.le_of_ble_eq_true rfl) dX3_collect_158 (fun H locs hP hD hS => ?_)
        have hP : va_P (dC, dI) vwCl (mW cI h (mSTl u_143 ((mTl u_143) + p1))) H := hP
        have hD : va_D A (mW cI h (mSTl u_143 ((mTl u_143) + p1))) := hD
        refine lv_iconst (v := 1) hx hb dX3_collect_161 (by decide) ?_
        have hz9 : bz (1) := by first | assumption | (repeat (first | exact bz0 | exact bz1 | assumption | refine bz_ite ?_ ?_))
        exact rZ (w := fun u => mW cI h u) (mSTl u_143 ((mTl u_143) + p1)) hx hb hr hlocks hP hD hS (Nat.le_of_ble_eq_true rfl) (Nat.le_of_ble_eq_true rfl) dX3_collect_162 hz9 ⟨by rw [hV] <;> rfl, by rw [hV] <;> rfl, hz9⟩
      · skip
        rw [if_pos c_146] at hV
        refine lv_iconst (v := 0) hx hb dX3_collect_149 (by decide) ?_
        have hz9 : bz (0) := by first | assumption | (repeat (first | exact bz0 | exact bz1 | assumption | refine bz_ite ?_ ?_))
        exact rZ (w := fun u => mW cI h u) (u_143) hx hb hr hlocks hP hD hS (Nat.le_of_ble_eq_true rfl) (Nat.le_of_ble_eq_true rfl) dX3_collect_150 hz9 ⟨by rw [hV] <;> rfl, by rw [hV] <;> rfl, hz9⟩
  · skip
    have hs := hs.1 c_63
    rw [if_pos c_63] at hV
    refine lv_iconst (v := 0) hx hb dX3_collect_66 (by decide) ?_
    have hz9 : bz (0) := by first | assumption | (repeat (first | exact bz0 | exact bz1 | assumption | refine bz_ite ?_ ?_))
    exact rZ (w := fun u => mW cI h u) (u_60) hx hb hr hlocks hP hD hS (Nat.le_of_ble_eq_true rfl) (Nat.le_of_ble_eq_true rfl) dX3_collect_67 hz9 ⟨by rw [hV] <;> rfl, by rw [hV] <;> rfl, hz9⟩
def v_X3_failAfter (μ : MS) (p1 : Int32) : MS := if ((v_X3_goes μ (if p1 < (-1) then 0 else if 1000 < p1 then 0 else 1 : Int32) 1).1) = 0 then ((v_X3_goes μ (if p1 < (-1) then 0 else if 1000 < p1 then 0 else 1 : Int32) 1).2) else mSCh ((v_X3_goes μ (if p1 < (-1) then 0 else if 1000 < p1 then 0 else 1 : Int32) 1).2) p1
theorem v_X3_failAfter_e (μ : MS) (p1 : Int32) : v_X3_failAfter μ p1 = if ((v_X3_goes μ (if p1 < (-1) then 0 else if 1000 < p1 then 0 else 1 : Int32) 1).1) = 0 then ((v_X3_goes μ (if p1 < (-1) then 0 else if 1000 < p1 then 0 else 1 : Int32) 1).2) else mSCh ((v_X3_goes μ (if p1 < (-1) then 0 else if 1000 < p1 then 0 else 1 : Int32) 1).2) p1 := rfl
set_option maxHeartbeats 1000000 in
set_option maxRecDepth 100000 in
theorem c_X3_failAfter (l : Launch) (dC : Nat → ClassId) (dI : Nat → Nat → Nat) (cI : ClassId) (h : Nat → Nat) (sz : Nat) (μ : MS) (p1 : Int32) : Met l yX3_failAfter wsX3_failAfter ({ frames := 1, cells := 0, slots := 0, locals := 22 }) (va_Pc [.ref (h 0), .int p1] (pW (dC, dI) [(cI, .int)] (mW cI h μ) sz)) (va_Qv (fun (u : MS) => u = v_X3_failAfter μ p1) (qW (dC, dI) (va_A (mW cI h μ) sz) (fun u => mW cI h u)) (va_A (mW cI h μ) sz)) 0 0 (va_A (mW cI h μ) sz) := by
  refine Met.ofW (cc := cX3_failAfter) (maxL := 2) (ret := none) (by decide) rfl ?_
  intro p e s m args below meth c s₁ B hml hv
  obtain ⟨rfl, hsz, hP, hK, hD0⟩ := hv
  have hx := B.exec
  have hb := B.bytes
  have hr := B.returns
  have hts := atoms_spec (ws := wsX3_failAfter) B.pre
  have hown : s.vm.findClass RX3 = some m.cls := findClass_of_methodNamed B.named
  have hlocks := B.notSynchronized
  have hinX3 : ∀ w ∈ wsX30, w ∈ wsX3_failAfter := by decide +kernel
  have hf25 := hts (.fieldLink RX3 25 "KeysapartModel" "chosen" "I") (by decide +kernel)
  subst hsz
  have hD := hD0.self (sz := s.heap.size)
  generalize hAe : va_A (mW cI h μ) s.heap.size = A at hD ⊢
  have hA : ∀ q : Nat, s.heap.size ≤ q → A q := fun q h => by rw [← hAe]; exact Or.inr h
  have hl := lv_entry ([.ref (h 0), .int p1]) (n := 2) (Nat.le_of_ble_eq_true rfl)
  rw [lg_entry_eq]
  generalize (lg_sl ([.ref (h 0), .int p1]) ++ List.replicate (2 - (lg_sl ([.ref (h 0), .int p1])).length) Slot.unset).toArray = ls at hl ⊢
  have hl : lv_has ls 2 [(0, .ref (h 0)), (1, .int p1)] := hl
  generalize hHe : s.heap = H at hP ⊢
  generalize hLe : ([] : List Loc) = locs
  have hS : va_S A s.heap H locs := by
    rw [← hLe, ← hHe]
    exact va_S.rf
  have hV := v_X3_failAfter_e μ p1
  refine lv_aload_n hx hb dX3_failAfter_0 rfl (lv_at hl 0 rfl) ?_
  refine lv_iload_n hx hb dX3_failAfter_1 rfl (lv_at hl 1 rfl) ?_
  refine lv_iconst (v := (-1)) hx hb dX3_failAfter_2 (by decide) ?_
  suffices J_3 : W p l e (headSpec wsX3_failAfter ({ frames := 1, cells := 0, slots := 0, locals := 22 })).room s m [.ref (h 0), .int p1].toArray below meth c H locs 0 0 (MQ below (va_Qv (fun (u : MS) => u = v_X3_failAfter μ p1) (qW (dC, dI) A (fun u => mW cI h u)) A) [.ref (h 0), .int p1].toArray s 0 0 A) (F0 m 18 ls [.int (if p1 < (-1) then 0 else if 1000 < p1 then 0 else 1 : Int32), .ref (h 0)]) by
    refine lv_icmp_lt (tgt := 17) hx hb dX3_failAfter_3 (by decide) (fun c_3 => ?_) (fun c_3 => ?_)
    · skip
      rw [if_pos c_3] at J_3
      refine lv_iconst (v := 0) hx hb dX3_failAfter_17 (by decide) ?_
      exact J_3
    · skip
      rw [if_neg c_3] at J_3
      refine lv_iload_n hx hb dX3_failAfter_6 rfl (lv_at hl 1 rfl) ?_
      refine lv_sipush (v := 1000) hx hb dX3_failAfter_7 (by decide) ?_
      refine lv_icmp_gt (tgt := 17) hx hb dX3_failAfter_10 (by decide) (fun c_10 => ?_) (fun c_10 => ?_)
      · skip
        rw [if_pos c_10] at J_3
        refine lv_iconst (v := 0) hx hb dX3_failAfter_17 (by decide) ?_
        exact J_3
      · skip
        rw [if_neg c_10] at J_3
        refine lv_iconst (v := 1) hx hb dX3_failAfter_13 (by decide) ?_
        refine lv_goto (tgt := 18) hx hb dX3_failAfter_14 (by decide) ?_
        exact J_3
  refine lv_iconst (v := 1) hx hb dX3_failAfter_18 (by decide) ?_
  have hPc := hP.sub (ws' := mW cI h μ) [0, 1, 2, 3, 4, 5] rfl
  have hDc := hD.sub (ws' := mW cI h μ) [0, 1, 2, 3, 4, 5] (by decide) rfl
  refine rcI (W2 := fun u => mW cI h u) (va_runV (As := [.int (if p1 < (-1) then 0 else if 1000 < p1 then 0 else 1 : Int32), .int 1]) (rest := []) ⟨hx, hb, hml, hown, hts⟩ (c_X3_goes l dC dI cI h H.size μ (if p1 < (-1) then 0 else if 1000 < p1 then 0 else 1 : Int32) 1) (cwV 2 hts gX3_failAfter_X3_goes rfl rfl rfl (by decide +kernel) ⟨Nat.le_of_ble_eq_true rfl, Nat.le_of_ble_eq_true rfl⟩) (pW_V hPc hK hDc (ci := 3) (q0 := 0) rfl rfl) rfl rfl hl.1 rfl (lv_room (Nat.le_of_ble_eq_true rfl)) dX3_failAfter_19 ⟨Nat.le_of_ble_eq_true rfl, Nat.le_of_ble_eq_true rfl⟩) hP hD hS hA [0, 1, 2, 3, 4, 5] [] [0, 1, 2, 3, 4, 5] rfl rfl (by decide) (fun _ => rfl) (fun r_19 u_19 H locs hw hP hD hS => ?_)
  obtain ⟨hw, hw2, hz_19⟩ := hw
  try rw [← hw] at hV
  try rw [← hw2] at hV
  refine lv_if_eq (tgt := 30) hx hb dX3_failAfter_22 (by decide) (fun c_22 => ?_) (fun c_22 => ?_)
  · skip
    rw [if_pos c_22] at hV
    exact rV (w := fun u => mW cI h u) (u_19) hx hb hr hlocks hP hD hS (Nat.le_of_ble_eq_true rfl) (Nat.le_of_ble_eq_true rfl) dX3_failAfter_30 (by rw [hV] <;> rfl)
  · skip
    rw [if_neg c_22] at hV
    refine lv_aload_n hx hb dX3_failAfter_25 rfl (lv_at hl 0 rfl) ?_
    refine lv_iload_n hx hb dX3_failAfter_26 rfl (lv_at hl 1 rfl) ?_
    refine va_put (D := (dC, dI)) (ci := 3) (v := .int p1) (ty := .int) (C := RX3) (T := TX3) (N := 12) hx hb hts hinX3 tyX3 tyX3_ok nmX3 hown hK hP hD hS 0 rfl rfl 9 (by decide) hf25 (fun _ h9 => h9) rfl (by decide +kernel) rfl rfl (Nat.le_of_ble_eq_true rfl) dX3_failAfter_27 (fun H locs hP hD hS => ?_)
    have hP : va_P (dC, dI) vwCl (mW cI h (mSCh u_19 p1)) H := hP
    have hD : va_D A (mW cI h (mSCh u_19 p1)) := hD
    exact rV (w := fun u => mW cI h u) (mSCh u_19 p1) hx hb hr hlocks hP hD hS (Nat.le_of_ble_eq_true rfl) (Nat.le_of_ble_eq_true rfl) dX3_failAfter_30 (by rw [hV] <;> rfl)
def v_X3_crash (μ : MS) : Int32 × MS := if ((v_X3_goes μ (if (mDn μ) = 0 then 1 else 0 : Int32) 1).1) = 0 then (0, ((v_X3_goes μ (if (mDn μ) = 0 then 1 else 0 : Int32) 1).2)) else (((mHd ((v_X3_goes μ (if (mDn μ) = 0 then 1 else 0 : Int32) 1).2)) - (mWr ((v_X3_goes μ (if (mDn μ) = 0 then 1 else 0 : Int32) 1).2))), mSDn ((v_X3_goes μ (if (mDn μ) = 0 then 1 else 0 : Int32) 1).2) 1)
theorem v_X3_crash_e (μ : MS) : v_X3_crash μ = if ((v_X3_goes μ (if (mDn μ) = 0 then 1 else 0 : Int32) 1).1) = 0 then (0, ((v_X3_goes μ (if (mDn μ) = 0 then 1 else 0 : Int32) 1).2)) else (((mHd ((v_X3_goes μ (if (mDn μ) = 0 then 1 else 0 : Int32) 1).2)) - (mWr ((v_X3_goes μ (if (mDn μ) = 0 then 1 else 0 : Int32) 1).2))), mSDn ((v_X3_goes μ (if (mDn μ) = 0 then 1 else 0 : Int32) 1).2) 1) := rfl
set_option maxHeartbeats 1000000 in
set_option maxRecDepth 100000 in
theorem c_X3_crash (l : Launch) (dC : Nat → ClassId) (dI : Nat → Nat → Nat) (cI : ClassId) (h : Nat → Nat) (sz : Nat) (μ : MS) : Met l yX3_crash wsX3_crash ({ frames := 1, cells := 0, slots := 0, locals := 22 }) (va_Pc [.ref (h 0)] (pW (dC, dI) [(cI, .int)] (mW cI h μ) sz)) (va_Qi (fun (r : Int32) (u : MS) => r = (v_X3_crash μ).1 ∧ u = (v_X3_crash μ).2) (qW (dC, dI) (va_A (mW cI h μ) sz) (fun u => mW cI h u)) (va_A (mW cI h μ) sz)) 0 0 (va_A (mW cI h μ) sz) := by
  refine Met.ofW (cc := cX3_crash) (maxL := 1) (ret := (some .int)) (by decide) rfl ?_
  intro p e s m args below meth c s₁ B hml hv
  obtain ⟨rfl, hsz, hP, hK, hD0⟩ := hv
  have hx := B.exec
  have hb := B.bytes
  have hr := B.returns
  have hts := atoms_spec (ws := wsX3_crash) B.pre
  have hown : s.vm.findClass RX3 = some m.cls := findClass_of_methodNamed B.named
  have hlocks := B.notSynchronized
  have hinX3 : ∀ w ∈ wsX30, w ∈ wsX3_crash := by decide +kernel
  have hf35 := hts (.fieldLink RX3 35 "KeysapartModel" "head" "I") (by decide +kernel)
  have hf46 := hts (.fieldLink RX3 46 "KeysapartModel" "isDown" "Z") (by decide +kernel)
  have hf68 := hts (.fieldLink RX3 68 "KeysapartModel" "written" "I") (by decide +kernel)
  subst hsz
  have hD := hD0.self (sz := s.heap.size)
  generalize hAe : va_A (mW cI h μ) s.heap.size = A at hD ⊢
  have hA : ∀ q : Nat, s.heap.size ≤ q → A q := fun q h => by rw [← hAe]; exact Or.inr h
  have hl := lv_entry ([.ref (h 0)]) (n := 1) (Nat.le_of_ble_eq_true rfl)
  rw [lg_entry_eq]
  generalize (lg_sl ([.ref (h 0)]) ++ List.replicate (1 - (lg_sl ([.ref (h 0)])).length) Slot.unset).toArray = ls at hl ⊢
  have hl : lv_has ls 1 [(0, .ref (h 0))] := hl
  generalize hHe : s.heap = H at hP ⊢
  generalize hLe : ([] : List Loc) = locs
  have hS : va_S A s.heap H locs := by
    rw [← hLe, ← hHe]
    exact va_S.rf
  have hV := v_X3_crash_e μ
  refine lv_aload_n hx hb dX3_crash_0 rfl (lv_at hl 0 rfl) ?_
  refine lv_aload_n hx hb dX3_crash_1 rfl (lv_at hl 0 rfl) ?_
  refine va_get (D := (dC, dI)) (ci := 3) (v := .int (mDn μ)) (C := RX3) (T := TX3) (N := 12) hx hb hts hinX3 hown hK hP 0 rfl rfl 10 (by decide) hf46 (fun _ h9 => h9) rfl dX3_crash_2 ?_
  suffices J_5 : W p l e (headSpec wsX3_crash ({ frames := 1, cells := 0, slots := 0, locals := 22 })).room s m [.ref (h 0)].toArray below meth c H locs 0 0 (MQ below (va_Qi (fun (r : Int32) (u : MS) => r = (v_X3_crash μ).1 ∧ u = (v_X3_crash μ).2) (qW (dC, dI) A (fun u => mW cI h u)) A) [.ref (h 0)].toArray s 0 0 A) (F0 m 13 ls [.int (if (mDn μ) = 0 then 1 else 0 : Int32), .ref (h 0)]) by
    refine lv_if_ne (tgt := 12) hx hb dX3_crash_5 (by decide) (fun c_5 => ?_) (fun c_5 => ?_)
    · skip
      rw [if_neg c_5] at J_5
      refine lv_iconst (v := 0) hx hb dX3_crash_12 (by decide) ?_
      exact J_5
    · skip
      rw [if_pos c_5] at J_5
      refine lv_iconst (v := 1) hx hb dX3_crash_8 (by decide) ?_
      refine lv_goto (tgt := 13) hx hb dX3_crash_9 (by decide) ?_
      exact J_5
  refine lv_iconst (v := 1) hx hb dX3_crash_13 (by decide) ?_
  have hPc := hP.sub (ws' := mW cI h μ) [0, 1, 2, 3, 4, 5] rfl
  have hDc := hD.sub (ws' := mW cI h μ) [0, 1, 2, 3, 4, 5] (by decide) rfl
  refine rcI (W2 := fun u => mW cI h u) (va_runV (As := [.int (if (mDn μ) = 0 then 1 else 0 : Int32), .int 1]) (rest := []) ⟨hx, hb, hml, hown, hts⟩ (c_X3_goes l dC dI cI h H.size μ (if (mDn μ) = 0 then 1 else 0 : Int32) 1) (cwV 2 hts gX3_crash_X3_goes rfl rfl rfl (by decide +kernel) ⟨Nat.le_of_ble_eq_true rfl, Nat.le_of_ble_eq_true rfl⟩) (pW_V hPc hK hDc (ci := 3) (q0 := 0) rfl rfl) rfl rfl hl.1 rfl (lv_room (Nat.le_of_ble_eq_true rfl)) dX3_crash_14 ⟨Nat.le_of_ble_eq_true rfl, Nat.le_of_ble_eq_true rfl⟩) hP hD hS hA [0, 1, 2, 3, 4, 5] [] [0, 1, 2, 3, 4, 5] rfl rfl (by decide) (fun _ => rfl) (fun r_14 u_14 H locs hw hP hD hS => ?_)
  obtain ⟨hw, hw2, hz_14⟩ := hw
  try rw [← hw] at hV
  try rw [← hw2] at hV
  refine lv_if_ne (tgt := 22) hx hb dX3_crash_17 (by decide) (fun c_17 => ?_) (fun c_17 => ?_)
  · skip
    rw [if_neg c_17] at hV
    refine lv_aload_n hx hb dX3_crash_22 rfl (lv_at hl 0 rfl) ?_
    refine lv_iconst (v := 1) hx hb dX3_crash_23 (by decide) ?_
    refine va_put (D := (dC, dI)) (ci := 3) (v := .int 1) (ty := .boolean) (C := RX3) (T := TX3) (N := 12) hx hb hts hinX3 tyX3 tyX3_ok nmX3 hown hK hP hD hS 0 rfl rfl 10 (by decide) hf46 (fun _ h9 => h9) rfl (by decide +kernel) rfl rfl (Nat.le_of_ble_eq_true rfl) dX3_crash_24 (fun H locs hP hD hS => ?_)
    have hP : va_P (dC, dI) vwCl (mW cI h (mSDn u_14 1)) H := hP
    have hD : va_D A (mW cI h (mSDn u_14 1)) := hD
    refine lv_aload_n hx hb dX3_crash_27 rfl (lv_at hl 0 rfl) ?_
    refine va_get (D := (dC, dI)) (ci := 3) (v := .int (mHd u_14)) (C := RX3) (T := TX3) (N := 12) hx hb hts hinX3 hown hK hP 0 rfl rfl 5 (by decide) hf35 (fun _ h9 => h9) rfl dX3_crash_28 ?_
    refine lv_aload_n hx hb dX3_crash_31 rfl (lv_at hl 0 rfl) ?_
    refine va_get (D := (dC, dI)) (ci := 3) (v := .int (mWr u_14)) (C := RX3) (T := TX3) (N := 12) hx hb hts hinX3 hown hK hP 0 rfl rfl 7 (by decide) hf68 (fun _ h9 => h9) rfl dX3_crash_32 ?_
    refine lv_isub hx hb dX3_crash_35 ?_
    exact rI (w := fun u => mW cI h u) (mSDn u_14 1) hx hb hr hlocks hP hD hS (Nat.le_of_ble_eq_true rfl) (Nat.le_of_ble_eq_true rfl) dX3_crash_36 ⟨by rw [hV] <;> rfl, by rw [hV] <;> rfl⟩
  · skip
    rw [if_pos c_17] at hV
    refine lv_iconst (v := 0) hx hb dX3_crash_20 (by decide) ?_
    exact rI (w := fun u => mW cI h u) (u_14) hx hb hr hlocks hP hD hS (Nat.le_of_ble_eq_true rfl) (Nat.le_of_ble_eq_true rfl) dX3_crash_21 ⟨by rw [hV] <;> rfl, by rw [hV] <;> rfl⟩
def l_X3_start_21 (y1 : Int32) : Nat → MS → Int32 → MS × Int32
  | 0, μ21, x2_21 => (μ21, x2_21)
  | n + 1, μ21, x2_21 => if 64 ≤ x2_21 then (μ21, x2_21) else l_X3_start_21 y1 n (mSIx μ21 (upd (mIx μ21) x2_21.toNatClampNeg ((mTr μ21) x2_21.toNatClampNeg))) (x2_21 + 1)
theorem l_X3_start_21_s (y1 : Int32) (n : Nat) (μ21 : MS) (x2_21 : Int32) : l_X3_start_21 y1 (n + 1) μ21 x2_21 = if 64 ≤ x2_21 then (μ21, x2_21) else l_X3_start_21 y1 n (mSIx μ21 (upd (mIx μ21) x2_21.toNatClampNeg ((mTr μ21) x2_21.toNatClampNeg))) (x2_21 + 1) := rfl
def sl_X3_start_21 (y1 : Int32) : Nat → MS → Int32 → Prop
  | 0, μ21, x2_21 => False
  | n + 1, μ21, x2_21 => ((64 ≤ x2_21 → True) ∧ (¬ 64 ≤ x2_21 → (vp_in x2_21 64 ∧ (vp_in x2_21 64 ∧ sl_X3_start_21 y1 n (mSIx μ21 (upd (mIx μ21) x2_21.toNatClampNeg ((mTr μ21) x2_21.toNatClampNeg))) (x2_21 + 1)))))
theorem sl_X3_start_21_s (y1 : Int32) (n : Nat) (μ21 : MS) (x2_21 : Int32) : sl_X3_start_21 y1 (n + 1) μ21 x2_21 = ((64 ≤ x2_21 → True) ∧ (¬ 64 ≤ x2_21 → (vp_in x2_21 64 ∧ (vp_in x2_21 64 ∧ sl_X3_start_21 y1 n (mSIx μ21 (upd (mIx μ21) x2_21.toNatClampNeg ((mTr μ21) x2_21.toNatClampNeg))) (x2_21 + 1))))) := rfl
def v_X3_start (μ : MS) : Int32 × MS := if ((v_X3_goes μ (mDn μ) 1).1) = 0 then (0, ((v_X3_goes μ (mDn μ) 1).2)) else (((v_X3_recovers ((v_X3_goes μ (mDn μ) 1).2)).1), mSDn (mSHd (l_X3_start_21 ((v_X3_recovers ((v_X3_goes μ (mDn μ) 1).2)).1) 100 ((v_X3_recovers ((v_X3_goes μ (mDn μ) 1).2)).2) 0).1 (mWr (l_X3_start_21 ((v_X3_recovers ((v_X3_goes μ (mDn μ) 1).2)).1) 100 ((v_X3_recovers ((v_X3_goes μ (mDn μ) 1).2)).2) 0).1)) 0)
theorem v_X3_start_e (μ : MS) : v_X3_start μ = if ((v_X3_goes μ (mDn μ) 1).1) = 0 then (0, ((v_X3_goes μ (mDn μ) 1).2)) else (((v_X3_recovers ((v_X3_goes μ (mDn μ) 1).2)).1), mSDn (mSHd (l_X3_start_21 ((v_X3_recovers ((v_X3_goes μ (mDn μ) 1).2)).1) 100 ((v_X3_recovers ((v_X3_goes μ (mDn μ) 1).2)).2) 0).1 (mWr (l_X3_start_21 ((v_X3_recovers ((v_X3_goes μ (mDn μ) 1).2)).1) 100 ((v_X3_recovers ((v_X3_goes μ (mDn μ) 1).2)).2) 0).1)) 0) := rfl
def s_X3_start (μ : MS) : Prop := ((((v_X3_goes μ (mDn μ) 1).1) = 0 → True) ∧ (¬ ((v_X3_goes μ (mDn μ) 1).1) = 0 → (s_X3_recovers ((v_X3_goes μ (mDn μ) 1).2) ∧ (sl_X3_start_21 ((v_X3_recovers ((v_X3_goes μ (mDn μ) 1).2)).1) 100 ((v_X3_recovers ((v_X3_goes μ (mDn μ) 1).2)).2) 0 ∧ True))))
set_option maxHeartbeats 1000000 in
set_option maxRecDepth 100000 in
theorem c_X3_start (l : Launch) (dC : Nat → ClassId) (dI : Nat → Nat → Nat) (cI : ClassId) (h : Nat → Nat) (sz : Nat) (μ : MS) (hs : s_X3_start μ) : Met l yX3_start wsX3_start ({ frames := 1, cells := 0, slots := 0, locals := 22 }) (va_Pc [.ref (h 0)] (pW (dC, dI) [(cI, .int)] (mW cI h μ) sz)) (va_Qi (fun (r : Int32) (u : MS) => r = (v_X3_start μ).1 ∧ u = (v_X3_start μ).2) (qW (dC, dI) (va_A (mW cI h μ) sz) (fun u => mW cI h u)) (va_A (mW cI h μ) sz)) 0 0 (va_A (mW cI h μ) sz) := by
  refine Met.ofW (cc := cX3_start) (maxL := 3) (ret := (some .int)) (by decide) rfl ?_
  intro p e s m args below meth c s₁ B hml hv
  obtain ⟨rfl, hsz, hP, hK, hD0⟩ := hv
  have hx := B.exec
  have hb := B.bytes
  have hr := B.returns
  have hts := atoms_spec (ws := wsX3_start) B.pre
  have hown : s.vm.findClass RX3 = some m.cls := findClass_of_methodNamed B.named
  have hlocks := B.notSynchronized
  have hinX3 : ∀ w ∈ wsX30, w ∈ wsX3_start := by decide +kernel
  have hf16 := hts (.fieldLink RX3 16 "KeysapartModel" "index" "[I") (by decide +kernel)
  have hf22 := hts (.fieldLink RX3 22 "KeysapartModel" "trial" "[I") (by decide +kernel)
  have hf35 := hts (.fieldLink RX3 35 "KeysapartModel" "head" "I") (by decide +kernel)
  have hf46 := hts (.fieldLink RX3 46 "KeysapartModel" "isDown" "Z") (by decide +kernel)
  have hf68 := hts (.fieldLink RX3 68 "KeysapartModel" "written" "I") (by decide +kernel)
  subst hsz
  have hD := hD0.self (sz := s.heap.size)
  generalize hAe : va_A (mW cI h μ) s.heap.size = A at hD ⊢
  have hA : ∀ q : Nat, s.heap.size ≤ q → A q := fun q h => by rw [← hAe]; exact Or.inr h
  have hl := lv_entry ([.ref (h 0)]) (n := 3) (Nat.le_of_ble_eq_true rfl)
  rw [lg_entry_eq]
  generalize (lg_sl ([.ref (h 0)]) ++ List.replicate (3 - (lg_sl ([.ref (h 0)])).length) Slot.unset).toArray = ls at hl ⊢
  have hl : lv_has ls 3 [(0, .ref (h 0))] := hl
  generalize hHe : s.heap = H at hP ⊢
  generalize hLe : ([] : List Loc) = locs
  have hS : va_S A s.heap H locs := by
    rw [← hLe, ← hHe]
    exact va_S.rf
  unfold s_X3_start at hs
  have hV := v_X3_start_e μ
  refine lv_aload_n hx hb dX3_start_0 rfl (lv_at hl 0 rfl) ?_
  refine lv_aload_n hx hb dX3_start_1 rfl (lv_at hl 0 rfl) ?_
  refine va_get (D := (dC, dI)) (ci := 3) (v := .int (mDn μ)) (C := RX3) (T := TX3) (N := 12) hx hb hts hinX3 hown hK hP 0 rfl rfl 10 (by decide) hf46 (fun _ h9 => h9) rfl dX3_start_2 ?_
  refine lv_iconst (v := 1) hx hb dX3_start_5 (by decide) ?_
  have hPc := hP.sub (ws' := mW cI h μ) [0, 1, 2, 3, 4, 5] rfl
  have hDc := hD.sub (ws' := mW cI h μ) [0, 1, 2, 3, 4, 5] (by decide) rfl
  refine rcI (W2 := fun u => mW cI h u) (va_runV (As := [.int (mDn μ), .int 1]) (rest := []) ⟨hx, hb, hml, hown, hts⟩ (c_X3_goes l dC dI cI h H.size μ (mDn μ) 1) (cwV 2 hts gX3_start_X3_goes rfl rfl rfl (by decide +kernel) ⟨Nat.le_of_ble_eq_true rfl, Nat.le_of_ble_eq_true rfl⟩) (pW_V hPc hK hDc (ci := 3) (q0 := 0) rfl rfl) rfl rfl hl.1 rfl (lv_room (Nat.le_of_ble_eq_true rfl)) dX3_start_6 ⟨Nat.le_of_ble_eq_true rfl, Nat.le_of_ble_eq_true rfl⟩) hP hD hS hA [0, 1, 2, 3, 4, 5] [] [0, 1, 2, 3, 4, 5] rfl rfl (by decide) (fun _ => rfl) (fun r_6 u_6 H locs hw hP hD hS => ?_)
  obtain ⟨hw, hw2, hz_6⟩ := hw
  try rw [← hw] at hV
  try rw [← hw] at hs
  try rw [← hw2] at hV
  try rw [← hw2] at hs
  refine lv_if_ne (tgt := 14) hx hb dX3_start_9 (by decide) (fun c_9 => ?_) (fun c_9 => ?_)
  · skip
    have hs := hs.2 c_9
    rw [if_neg c_9] at hV
    refine lv_aload_n hx hb dX3_start_14 rfl (lv_at hl 0 rfl) ?_
    have o_15 : s_X3_recovers u_6 := hs.1
    have hs := hs.2
    have hPc := hP.sub (ws' := mW cI h u_6) [0, 1, 2, 3, 4, 5] rfl
    have hDc := hD.sub (ws' := mW cI h u_6) [0, 1, 2, 3, 4, 5] (by decide) rfl
    refine rcI (W2 := fun u => mW cI h u) (va_runV (As := []) (rest := []) ⟨hx, hb, hml, hown, hts⟩ (c_X3_recovers l dC dI cI h H.size u_6 o_15) (cwV 0 hts gX3_start_X3_recovers rfl rfl rfl (by decide +kernel) ⟨Nat.le_of_ble_eq_true rfl, Nat.le_of_ble_eq_true rfl⟩) (pW_V hPc hK hDc (ci := 3) (q0 := 0) rfl rfl) rfl rfl hl.1 rfl (lv_room (Nat.le_of_ble_eq_true rfl)) dX3_start_15 ⟨Nat.le_of_ble_eq_true rfl, Nat.le_of_ble_eq_true rfl⟩) hP hD hS hA [0, 1, 2, 3, 4, 5] [] [0, 1, 2, 3, 4, 5] rfl rfl (by decide) (fun _ => rfl) (fun r_15 u_15 H locs hw hP hD hS => ?_)
    obtain ⟨hw, hw2⟩ := hw
    try rw [← hw] at hV
    try rw [← hw] at hs
    try rw [← hw2] at hV
    try rw [← hw2] at hs
    refine lv_istore_n (lv' := [(1, .int r_15), (0, .ref (h 0))]) hx hb dX3_start_18 rfl hl (by decide) rfl (fun ls hl => ?_)
    refine lv_iconst (v := 0) hx hb dX3_start_19 (by decide) ?_
    refine lv_istore_n (lv' := [(2, .int 0), (1, .int r_15), (0, .ref (h 0))]) hx hb dX3_start_20 rfl hl (by decide) rfl (fun ls hl => ?_)
    have o_l21 : sl_X3_start_21 r_15 100 u_15 0 := hs.1
    have hs := hs.2
    have loop_21 : ∀ (n : Nat) (μ21 : MS) (x2_21 : Int32) (H : Heap) (locs : List Loc) (ls : Array Slot) (hs : sl_X3_start_21 r_15 n μ21 x2_21) (K : ∀ (z : MS × Int32) (hw : z = l_X3_start_21 r_15 n μ21 x2_21) (H : Heap) (locs : List Loc) (ls : Array Slot), va_P (dC, dI) vwCl (mW cI h z.1) H → va_D A (mW cI h z.1) → va_S A s.heap H locs → lv_has ls 3 [(2, .int z.2), (0, .ref (h 0)), (1, .int r_15)] → W p l e (headSpec wsX3_start ({ frames := 1, cells := 0, slots := 0, locals := 22 })).room s m [.ref (h 0)].toArray below meth c H locs 0 0 (MQ below (va_Qi (fun (r : Int32) (u : MS) => r = (v_X3_start μ).1 ∧ u = (v_X3_start μ).2) (qW (dC, dI) A (fun u => mW cI h u)) A) [.ref (h 0)].toArray s 0 0 A) (F0 m 45 ls [])) (hP : va_P (dC, dI) vwCl (mW cI h μ21) H) (hD : va_D A (mW cI h μ21)) (hS : va_S A s.heap H locs) (hl : lv_has ls 3 [(2, .int x2_21), (0, .ref (h 0)), (1, .int r_15)]), W p l e (headSpec wsX3_start ({ frames := 1, cells := 0, slots := 0, locals := 22 })).room s m [.ref (h 0)].toArray below meth c H locs 0 0 (MQ below (va_Qi (fun (r : Int32) (u : MS) => r = (v_X3_start μ).1 ∧ u = (v_X3_start μ).2) (qW (dC, dI) A (fun u => mW cI h u)) A) [.ref (h 0)].toArray s 0 0 A) (F0 m 21 ls []) := by
      intro n
      induction n with
      | zero => intro μ21 x2_21 H locs ls hs; exact False.elim hs
      | succ n ih =>
        intro μ21 x2_21 H locs ls hs K hP hD hS hl
        rw [sl_X3_start_21_s] at hs
        rw [l_X3_start_21_s] at K
        refine lv_iload_n hx hb dX3_start_21 rfl (lv_at hl 0 rfl) ?_
        refine lv_bipush (v := 64) hx hb dX3_start_22 (by decide) ?_
        refine lv_icmp_ge (tgt := 45) hx hb dX3_start_24 (by decide) (fun c_24 => ?_) (fun c_24 => ?_)
        · skip
          have hs := hs.1 c_24
          rw [if_pos c_24] at K
          exact K _ rfl H locs ls hP hD hS (lv_sub hl [0, 1, 2] rfl)
        · skip
          have hs := hs.2 c_24
          rw [if_neg c_24] at K
          refine lv_aload_n hx hb dX3_start_27 rfl (lv_at hl 1 rfl) ?_
          refine va_get (D := (dC, dI)) (ci := 3) (v := .ref (h 3)) (C := RX3) (T := TX3) (N := 12) hx hb hts hinX3 hown hK hP 0 rfl rfl 2 (by decide) hf16 (fun _ h9 => h9) rfl dX3_start_28 ?_
          refine lv_iload_n hx hb dX3_start_31 rfl (lv_at hl 0 rfl) ?_
          refine lv_aload_n hx hb dX3_start_32 rfl (lv_at hl 1 rfl) ?_
          refine va_get (D := (dC, dI)) (ci := 3) (v := .ref (h 5)) (C := RX3) (T := TX3) (N := 12) hx hb hts hinX3 hown hK hP 0 rfl rfl 4 (by decide) hf22 (fun _ h9 => h9) rfl dX3_start_33 ?_
          refine lv_iload_n hx hb dX3_start_36 rfl (lv_at hl 0 rfl) ?_
          have o_37 : vp_in x2_21 64 := hs.1
          have hs := hs.2
          refine va_iald hx hb hK hP 5 0 rfl rfl o_37 dX3_start_37 ?_
          have o_38 : vp_in x2_21 64 := hs.1
          have hs := hs.2
          refine va_iast hx hb hK hP hD hS 3 0 rfl rfl o_38 dX3_start_38 (fun H locs hP hD hS => ?_)
          have hP : va_P (dC, dI) vwCl (mW cI h (mSIx μ21 (upd (mIx μ21) x2_21.toNatClampNeg ((mTr μ21) x2_21.toNatClampNeg)))) H := hP
          have hD : va_D A (mW cI h (mSIx μ21 (upd (mIx μ21) x2_21.toNatClampNeg ((mTr μ21) x2_21.toNatClampNeg)))) := hD
          refine lv_iinc (v := x2_21 + 1) (lv' := [(2, .int (x2_21 + 1)), (0, .ref (h 0)), (1, .int r_15)]) hx hb dX3_start_39 hl (k := 0) rfl rfl (by decide) rfl (fun ls hl => ?_)
          refine lv_goto (tgt := 21) hx hb dX3_start_42 (by decide) ?_
          exact ih (mSIx μ21 (upd (mIx μ21) x2_21.toNatClampNeg ((mTr μ21) x2_21.toNatClampNeg))) (x2_21 + 1) H locs ls hs K hP hD hS (lv_sub hl [0, 1, 2] rfl)
    refine loop_21 100 u_15 0 H locs ls o_l21 (fun z_21 hw H locs ls hP hD hS hl => ?_) hP hD hS (lv_sub hl [0, 2, 1] rfl)
    try rw [← hw] at hV
    refine lv_aload_n hx hb dX3_start_45 rfl (lv_at hl 1 rfl) ?_
    refine lv_aload_n hx hb dX3_start_46 rfl (lv_at hl 1 rfl) ?_
    refine va_get (D := (dC, dI)) (ci := 3) (v := .int (mWr z_21.1)) (C := RX3) (T := TX3) (N := 12) hx hb hts hinX3 hown hK hP 0 rfl rfl 7 (by decide) hf68 (fun _ h9 => h9) rfl dX3_start_47 ?_
    refine va_put (D := (dC, dI)) (ci := 3) (v := .int (mWr z_21.1)) (ty := .int) (C := RX3) (T := TX3) (N := 12) hx hb hts hinX3 tyX3 tyX3_ok nmX3 hown hK hP hD hS 0 rfl rfl 5 (by decide) hf35 (fun _ h9 => h9) rfl (by decide +kernel) rfl rfl (Nat.le_of_ble_eq_true rfl) dX3_start_50 (fun H locs hP hD hS => ?_)
    have hP : va_P (dC, dI) vwCl (mW cI h (mSHd z_21.1 (mWr z_21.1))) H := hP
    have hD : va_D A (mW cI h (mSHd z_21.1 (mWr z_21.1))) := hD
    refine lv_aload_n hx hb dX3_start_53 rfl (lv_at hl 1 rfl) ?_
    refine lv_iconst (v := 0) hx hb dX3_start_54 (by decide) ?_
    refine va_put (D := (dC, dI)) (ci := 3) (v := .int 0) (ty := .boolean) (C := RX3) (T := TX3) (N := 12) hx hb hts hinX3 tyX3 tyX3_ok nmX3 hown hK hP hD hS 0 rfl rfl 10 (by decide) hf46 (fun _ h9 => h9) rfl (by decide +kernel) rfl rfl (Nat.le_of_ble_eq_true rfl) dX3_start_55 (fun H locs hP hD hS => ?_)
    have hP : va_P (dC, dI) vwCl (mW cI h (mSDn (mSHd z_21.1 (mWr z_21.1)) 0)) H := hP
    have hD : va_D A (mW cI h (mSDn (mSHd z_21.1 (mWr z_21.1)) 0)) := hD
    refine lv_iload_n hx hb dX3_start_58 rfl (lv_at hl 2 rfl) ?_
    exact rI (w := fun u => mW cI h u) (mSDn (mSHd z_21.1 (mWr z_21.1)) 0) hx hb hr hlocks hP hD hS (Nat.le_of_ble_eq_true rfl) (Nat.le_of_ble_eq_true rfl) dX3_start_59 ⟨by rw [hV] <;> rfl, by rw [hV] <;> rfl⟩
  · skip
    have hs := hs.1 c_9
    rw [if_pos c_9] at hV
    refine lv_iconst (v := 0) hx hb dX3_start_12 (by decide) ?_
    exact rI (w := fun u => mW cI h u) (u_6) hx hb hr hlocks hP hD hS (Nat.le_of_ble_eq_true rfl) (Nat.le_of_ble_eq_true rfl) dX3_start_13 ⟨by rw [hV] <;> rfl, by rw [hV] <;> rfl⟩
def v_X3_isUp (μ : MS) : Int32 × MS := if (mDn μ) = 0 then (1, mSTh μ 0) else (0, mSTh μ 0)
theorem v_X3_isUp_e (μ : MS) : v_X3_isUp μ = if (mDn μ) = 0 then (1, mSTh μ 0) else (0, mSTh μ 0) := rfl
set_option maxHeartbeats 1000000 in
set_option maxRecDepth 100000 in
theorem c_X3_isUp (l : Launch) (dC : Nat → ClassId) (dI : Nat → Nat → Nat) (cI : ClassId) (h : Nat → Nat) (sz : Nat) (μ : MS) : Met l yX3_isUp wsX3_isUp ({ frames := 0, cells := 0, slots := 0, locals := 0 }) (va_Pc [.ref (h 0)] (pW (dC, dI) [(cI, .int)] (mW cI h μ) sz)) (va_Qi (fun (r : Int32) (u : MS) => r = (v_X3_isUp μ).1 ∧ u = (v_X3_isUp μ).2 ∧ bz r) (qW (dC, dI) (va_A (mW cI h μ) sz) (fun u => mW cI h u)) (va_A (mW cI h μ) sz)) 0 0 (va_A (mW cI h μ) sz) := by
  refine Met.ofW (cc := cX3_isUp) (maxL := 1) (ret := (some .boolean)) (by decide) rfl ?_
  intro p e s m args below meth c s₁ B hml hv
  obtain ⟨rfl, hsz, hP, hK, hD0⟩ := hv
  have hx := B.exec
  have hb := B.bytes
  have hr := B.returns
  have hts := atoms_spec (ws := wsX3_isUp) B.pre
  have hown : s.vm.findClass RX3 = some m.cls := findClass_of_methodNamed B.named
  have hlocks := B.notSynchronized
  have hinX3 : ∀ w ∈ wsX30, w ∈ wsX3_isUp := by decide +kernel
  have hf29 := hts (.fieldLink RX3 29 "KeysapartModel" "thrown" "I") (by decide +kernel)
  have hf46 := hts (.fieldLink RX3 46 "KeysapartModel" "isDown" "Z") (by decide +kernel)
  subst hsz
  have hD := hD0.self (sz := s.heap.size)
  generalize hAe : va_A (mW cI h μ) s.heap.size = A at hD ⊢
  have hA : ∀ q : Nat, s.heap.size ≤ q → A q := fun q h => by rw [← hAe]; exact Or.inr h
  have hl := lv_entry ([.ref (h 0)]) (n := 1) (Nat.le_of_ble_eq_true rfl)
  rw [lg_entry_eq]
  generalize (lg_sl ([.ref (h 0)]) ++ List.replicate (1 - (lg_sl ([.ref (h 0)])).length) Slot.unset).toArray = ls at hl ⊢
  have hl : lv_has ls 1 [(0, .ref (h 0))] := hl
  generalize hHe : s.heap = H at hP ⊢
  generalize hLe : ([] : List Loc) = locs
  have hS : va_S A s.heap H locs := by
    rw [← hLe, ← hHe]
    exact va_S.rf
  have hV := v_X3_isUp_e μ
  refine lv_aload_n hx hb dX3_isUp_0 rfl (lv_at hl 0 rfl) ?_
  refine lv_iconst (v := 0) hx hb dX3_isUp_1 (by decide) ?_
  refine va_put (D := (dC, dI)) (ci := 3) (v := .int 0) (ty := .int) (C := RX3) (T := TX3) (N := 12) hx hb hts hinX3 tyX3 tyX3_ok nmX3 hown hK hP hD hS 0 rfl rfl 11 (by decide) hf29 (fun _ h9 => h9) rfl (by decide +kernel) rfl rfl (Nat.le_of_ble_eq_true rfl) dX3_isUp_2 (fun H locs hP hD hS => ?_)
  have hP : va_P (dC, dI) vwCl (mW cI h (mSTh μ 0)) H := hP
  have hD : va_D A (mW cI h (mSTh μ 0)) := hD
  refine lv_aload_n hx hb dX3_isUp_5 rfl (lv_at hl 0 rfl) ?_
  refine va_get (D := (dC, dI)) (ci := 3) (v := .int (mDn μ)) (C := RX3) (T := TX3) (N := 12) hx hb hts hinX3 hown hK hP 0 rfl rfl 10 (by decide) hf46 (fun _ h9 => h9) rfl dX3_isUp_6 ?_
  refine lv_if_ne (tgt := 16) hx hb dX3_isUp_9 (by decide) (fun c_9 => ?_) (fun c_9 => ?_)
  · skip
    rw [if_neg c_9] at hV
    refine lv_iconst (v := 0) hx hb dX3_isUp_16 (by decide) ?_
    have hz9 : bz (0) := by first | assumption | (repeat (first | exact bz0 | exact bz1 | assumption | refine bz_ite ?_ ?_))
    exact rZ (w := fun u => mW cI h u) (mSTh μ 0) hx hb hr hlocks hP hD hS (Nat.le_of_ble_eq_true rfl) (Nat.le_of_ble_eq_true rfl) dX3_isUp_17 hz9 ⟨by rw [hV] <;> rfl, by rw [hV] <;> rfl, hz9⟩
  · skip
    rw [if_pos c_9] at hV
    refine lv_iconst (v := 1) hx hb dX3_isUp_12 (by decide) ?_
    refine lv_goto (tgt := 17) hx hb dX3_isUp_13 (by decide) ?_
    have hz9 : bz (1) := by first | assumption | (repeat (first | exact bz0 | exact bz1 | assumption | refine bz_ite ?_ ?_))
    exact rZ (w := fun u => mW cI h u) (mSTh μ 0) hx hb hr hlocks hP hD hS (Nat.le_of_ble_eq_true rfl) (Nat.le_of_ble_eq_true rfl) dX3_isUp_17 hz9 ⟨by rw [hV] <;> rfl, by rw [hV] <;> rfl, hz9⟩
def v_X3_head (μ : MS) : Int32 × MS := ((v_X3_headOf (mSTh μ 0)), mSTh μ 0)
theorem v_X3_head_e (μ : MS) : v_X3_head μ = ((v_X3_headOf (mSTh μ 0)), mSTh μ 0) := rfl
set_option maxHeartbeats 1000000 in
set_option maxRecDepth 100000 in
theorem c_X3_head (l : Launch) (dC : Nat → ClassId) (dI : Nat → Nat → Nat) (cI : ClassId) (h : Nat → Nat) (sz : Nat) (μ : MS) : Met l yX3_head wsX3_head ({ frames := 1, cells := 0, slots := 0, locals := 20 }) (va_Pc [.ref (h 0)] (pW (dC, dI) [(cI, .int)] (mW cI h μ) sz)) (va_Qi (fun (r : Int32) (u : MS) => r = (v_X3_head μ).1 ∧ u = (v_X3_head μ).2) (qW (dC, dI) (va_A (mW cI h μ) sz) (fun u => mW cI h u)) (va_A (mW cI h μ) sz)) 0 0 (va_A (mW cI h μ) sz) := by
  refine Met.ofW (cc := cX3_head) (maxL := 1) (ret := (some .int)) (by decide) rfl ?_
  intro p e s m args below meth c s₁ B hml hv
  obtain ⟨rfl, hsz, hP, hK, hD0⟩ := hv
  have hx := B.exec
  have hb := B.bytes
  have hr := B.returns
  have hts := atoms_spec (ws := wsX3_head) B.pre
  have hown : s.vm.findClass RX3 = some m.cls := findClass_of_methodNamed B.named
  have hlocks := B.notSynchronized
  have hinX3 : ∀ w ∈ wsX30, w ∈ wsX3_head := by decide +kernel
  have hf29 := hts (.fieldLink RX3 29 "KeysapartModel" "thrown" "I") (by decide +kernel)
  subst hsz
  have hD := hD0.self (sz := s.heap.size)
  generalize hAe : va_A (mW cI h μ) s.heap.size = A at hD ⊢
  have hA : ∀ q : Nat, s.heap.size ≤ q → A q := fun q h => by rw [← hAe]; exact Or.inr h
  have hl := lv_entry ([.ref (h 0)]) (n := 1) (Nat.le_of_ble_eq_true rfl)
  rw [lg_entry_eq]
  generalize (lg_sl ([.ref (h 0)]) ++ List.replicate (1 - (lg_sl ([.ref (h 0)])).length) Slot.unset).toArray = ls at hl ⊢
  have hl : lv_has ls 1 [(0, .ref (h 0))] := hl
  generalize hHe : s.heap = H at hP ⊢
  generalize hLe : ([] : List Loc) = locs
  have hS : va_S A s.heap H locs := by
    rw [← hLe, ← hHe]
    exact va_S.rf
  have hV := v_X3_head_e μ
  refine lv_aload_n hx hb dX3_head_0 rfl (lv_at hl 0 rfl) ?_
  refine lv_iconst (v := 0) hx hb dX3_head_1 (by decide) ?_
  refine va_put (D := (dC, dI)) (ci := 3) (v := .int 0) (ty := .int) (C := RX3) (T := TX3) (N := 12) hx hb hts hinX3 tyX3 tyX3_ok nmX3 hown hK hP hD hS 0 rfl rfl 11 (by decide) hf29 (fun _ h9 => h9) rfl (by decide +kernel) rfl rfl (Nat.le_of_ble_eq_true rfl) dX3_head_2 (fun H locs hP hD hS => ?_)
  have hP : va_P (dC, dI) vwCl (mW cI h (mSTh μ 0)) H := hP
  have hD : va_D A (mW cI h (mSTh μ 0)) := hD
  refine lv_aload_n hx hb dX3_head_5 rfl (lv_at hl 0 rfl) ?_
  have hPc := hP.sub (ws' := mW cI h (mSTh μ 0)) [0, 1, 2, 3, 4, 5] rfl
  have hDc := hD.sub (ws' := mW cI h (mSTh μ 0)) [0, 1, 2, 3, 4, 5] (by decide) rfl
  refine rcI (W2 := fun _ => mW cI h (mSTh μ 0)) (va_runV (As := []) (rest := []) ⟨hx, hb, hml, hown, hts⟩ (c_X3_headOf l dC dI cI h H.size (mSTh μ 0)) (cwV 0 hts gX3_head_X3_headOf rfl rfl rfl (by decide +kernel) ⟨Nat.le_of_ble_eq_true rfl, Nat.le_of_ble_eq_true rfl⟩) (pW_V hPc hK hDc (ci := 3) (q0 := 0) rfl rfl) rfl rfl hl.1 rfl (lv_room (Nat.le_of_ble_eq_true rfl)) dX3_head_6 ⟨Nat.le_of_ble_eq_true rfl, Nat.le_of_ble_eq_true rfl⟩) hP hD hS hA [0, 1, 2, 3, 4, 5] [] [0, 1, 2, 3, 4, 5] rfl rfl (by decide) (fun _ => rfl) (fun r_6 u_6 H locs hw hP hD hS => ?_)
  try rw [← hw] at hV
  exact rI (w := fun u => mW cI h u) (mSTh μ 0) hx hb hr hlocks hP hD hS (Nat.le_of_ble_eq_true rfl) (Nat.le_of_ble_eq_true rfl) dX3_head_9 ⟨by rw [hV] <;> rfl, by rw [hV] <;> rfl⟩
def v_X3_tail (μ : MS) : Int32 × MS := ((mTl μ), mSTh μ 0)
theorem v_X3_tail_e (μ : MS) : v_X3_tail μ = ((mTl μ), mSTh μ 0) := rfl
set_option maxHeartbeats 1000000 in
set_option maxRecDepth 100000 in
theorem c_X3_tail (l : Launch) (dC : Nat → ClassId) (dI : Nat → Nat → Nat) (cI : ClassId) (h : Nat → Nat) (sz : Nat) (μ : MS) : Met l yX3_tail wsX3_tail ({ frames := 0, cells := 0, slots := 0, locals := 0 }) (va_Pc [.ref (h 0)] (pW (dC, dI) [(cI, .int)] (mW cI h μ) sz)) (va_Qi (fun (r : Int32) (u : MS) => r = (v_X3_tail μ).1 ∧ u = (v_X3_tail μ).2) (qW (dC, dI) (va_A (mW cI h μ) sz) (fun u => mW cI h u)) (va_A (mW cI h μ) sz)) 0 0 (va_A (mW cI h μ) sz) := by
  refine Met.ofW (cc := cX3_tail) (maxL := 1) (ret := (some .int)) (by decide) rfl ?_
  intro p e s m args below meth c s₁ B hml hv
  obtain ⟨rfl, hsz, hP, hK, hD0⟩ := hv
  have hx := B.exec
  have hb := B.bytes
  have hr := B.returns
  have hts := atoms_spec (ws := wsX3_tail) B.pre
  have hown : s.vm.findClass RX3 = some m.cls := findClass_of_methodNamed B.named
  have hlocks := B.notSynchronized
  have hinX3 : ∀ w ∈ wsX30, w ∈ wsX3_tail := by decide +kernel
  have hf29 := hts (.fieldLink RX3 29 "KeysapartModel" "thrown" "I") (by decide +kernel)
  have hf32 := hts (.fieldLink RX3 32 "KeysapartModel" "tail" "I") (by decide +kernel)
  subst hsz
  have hD := hD0.self (sz := s.heap.size)
  generalize hAe : va_A (mW cI h μ) s.heap.size = A at hD ⊢
  have hA : ∀ q : Nat, s.heap.size ≤ q → A q := fun q h => by rw [← hAe]; exact Or.inr h
  have hl := lv_entry ([.ref (h 0)]) (n := 1) (Nat.le_of_ble_eq_true rfl)
  rw [lg_entry_eq]
  generalize (lg_sl ([.ref (h 0)]) ++ List.replicate (1 - (lg_sl ([.ref (h 0)])).length) Slot.unset).toArray = ls at hl ⊢
  have hl : lv_has ls 1 [(0, .ref (h 0))] := hl
  generalize hHe : s.heap = H at hP ⊢
  generalize hLe : ([] : List Loc) = locs
  have hS : va_S A s.heap H locs := by
    rw [← hLe, ← hHe]
    exact va_S.rf
  have hV := v_X3_tail_e μ
  refine lv_aload_n hx hb dX3_tail_0 rfl (lv_at hl 0 rfl) ?_
  refine lv_iconst (v := 0) hx hb dX3_tail_1 (by decide) ?_
  refine va_put (D := (dC, dI)) (ci := 3) (v := .int 0) (ty := .int) (C := RX3) (T := TX3) (N := 12) hx hb hts hinX3 tyX3 tyX3_ok nmX3 hown hK hP hD hS 0 rfl rfl 11 (by decide) hf29 (fun _ h9 => h9) rfl (by decide +kernel) rfl rfl (Nat.le_of_ble_eq_true rfl) dX3_tail_2 (fun H locs hP hD hS => ?_)
  have hP : va_P (dC, dI) vwCl (mW cI h (mSTh μ 0)) H := hP
  have hD : va_D A (mW cI h (mSTh μ 0)) := hD
  refine lv_aload_n hx hb dX3_tail_5 rfl (lv_at hl 0 rfl) ?_
  refine va_get (D := (dC, dI)) (ci := 3) (v := .int (mTl μ)) (C := RX3) (T := TX3) (N := 12) hx hb hts hinX3 hown hK hP 0 rfl rfl 6 (by decide) hf32 (fun _ h9 => h9) rfl dX3_tail_6 ?_
  exact rI (w := fun u => mW cI h u) (mSTh μ 0) hx hb hr hlocks hP hD hS (Nat.le_of_ble_eq_true rfl) (Nat.le_of_ble_eq_true rfl) dX3_tail_9 ⟨by rw [hV] <;> rfl, by rw [hV] <;> rfl⟩
def v_X3_written (μ : MS) : Int32 × MS := ((mWr μ), mSTh μ 0)
theorem v_X3_written_e (μ : MS) : v_X3_written μ = ((mWr μ), mSTh μ 0) := rfl
set_option maxHeartbeats 1000000 in
set_option maxRecDepth 100000 in
theorem c_X3_written (l : Launch) (dC : Nat → ClassId) (dI : Nat → Nat → Nat) (cI : ClassId) (h : Nat → Nat) (sz : Nat) (μ : MS) : Met l yX3_written wsX3_written ({ frames := 0, cells := 0, slots := 0, locals := 0 }) (va_Pc [.ref (h 0)] (pW (dC, dI) [(cI, .int)] (mW cI h μ) sz)) (va_Qi (fun (r : Int32) (u : MS) => r = (v_X3_written μ).1 ∧ u = (v_X3_written μ).2) (qW (dC, dI) (va_A (mW cI h μ) sz) (fun u => mW cI h u)) (va_A (mW cI h μ) sz)) 0 0 (va_A (mW cI h μ) sz) := by
  refine Met.ofW (cc := cX3_written) (maxL := 1) (ret := (some .int)) (by decide) rfl ?_
  intro p e s m args below meth c s₁ B hml hv
  obtain ⟨rfl, hsz, hP, hK, hD0⟩ := hv
  have hx := B.exec
  have hb := B.bytes
  have hr := B.returns
  have hts := atoms_spec (ws := wsX3_written) B.pre
  have hown : s.vm.findClass RX3 = some m.cls := findClass_of_methodNamed B.named
  have hlocks := B.notSynchronized
  have hinX3 : ∀ w ∈ wsX30, w ∈ wsX3_written := by decide +kernel
  have hf29 := hts (.fieldLink RX3 29 "KeysapartModel" "thrown" "I") (by decide +kernel)
  have hf68 := hts (.fieldLink RX3 68 "KeysapartModel" "written" "I") (by decide +kernel)
  subst hsz
  have hD := hD0.self (sz := s.heap.size)
  generalize hAe : va_A (mW cI h μ) s.heap.size = A at hD ⊢
  have hA : ∀ q : Nat, s.heap.size ≤ q → A q := fun q h => by rw [← hAe]; exact Or.inr h
  have hl := lv_entry ([.ref (h 0)]) (n := 1) (Nat.le_of_ble_eq_true rfl)
  rw [lg_entry_eq]
  generalize (lg_sl ([.ref (h 0)]) ++ List.replicate (1 - (lg_sl ([.ref (h 0)])).length) Slot.unset).toArray = ls at hl ⊢
  have hl : lv_has ls 1 [(0, .ref (h 0))] := hl
  generalize hHe : s.heap = H at hP ⊢
  generalize hLe : ([] : List Loc) = locs
  have hS : va_S A s.heap H locs := by
    rw [← hLe, ← hHe]
    exact va_S.rf
  have hV := v_X3_written_e μ
  refine lv_aload_n hx hb dX3_written_0 rfl (lv_at hl 0 rfl) ?_
  refine lv_iconst (v := 0) hx hb dX3_written_1 (by decide) ?_
  refine va_put (D := (dC, dI)) (ci := 3) (v := .int 0) (ty := .int) (C := RX3) (T := TX3) (N := 12) hx hb hts hinX3 tyX3 tyX3_ok nmX3 hown hK hP hD hS 0 rfl rfl 11 (by decide) hf29 (fun _ h9 => h9) rfl (by decide +kernel) rfl rfl (Nat.le_of_ble_eq_true rfl) dX3_written_2 (fun H locs hP hD hS => ?_)
  have hP : va_P (dC, dI) vwCl (mW cI h (mSTh μ 0)) H := hP
  have hD : va_D A (mW cI h (mSTh μ 0)) := hD
  refine lv_aload_n hx hb dX3_written_5 rfl (lv_at hl 0 rfl) ?_
  refine va_get (D := (dC, dI)) (ci := 3) (v := .int (mWr μ)) (C := RX3) (T := TX3) (N := 12) hx hb hts hinX3 hown hK hP 0 rfl rfl 7 (by decide) hf68 (fun _ h9 => h9) rfl dX3_written_6 ?_
  exact rI (w := fun u => mW cI h u) (mSTh μ 0) hx hb hr hlocks hP hD hS (Nat.le_of_ble_eq_true rfl) (Nat.le_of_ble_eq_true rfl) dX3_written_9 ⟨by rw [hV] <;> rfl, by rw [hV] <;> rfl⟩
def v_X3_checkpointAt (μ : MS) : Int32 × MS := ((mCp μ), mSTh μ 0)
theorem v_X3_checkpointAt_e (μ : MS) : v_X3_checkpointAt μ = ((mCp μ), mSTh μ 0) := rfl
set_option maxHeartbeats 1000000 in
set_option maxRecDepth 100000 in
theorem c_X3_checkpointAt (l : Launch) (dC : Nat → ClassId) (dI : Nat → Nat → Nat) (cI : ClassId) (h : Nat → Nat) (sz : Nat) (μ : MS) : Met l yX3_checkpointAt wsX3_checkpointAt ({ frames := 0, cells := 0, slots := 0, locals := 0 }) (va_Pc [.ref (h 0)] (pW (dC, dI) [(cI, .int)] (mW cI h μ) sz)) (va_Qi (fun (r : Int32) (u : MS) => r = (v_X3_checkpointAt μ).1 ∧ u = (v_X3_checkpointAt μ).2) (qW (dC, dI) (va_A (mW cI h μ) sz) (fun u => mW cI h u)) (va_A (mW cI h μ) sz)) 0 0 (va_A (mW cI h μ) sz) := by
  refine Met.ofW (cc := cX3_checkpointAt) (maxL := 1) (ret := (some .int)) (by decide) rfl ?_
  intro p e s m args below meth c s₁ B hml hv
  obtain ⟨rfl, hsz, hP, hK, hD0⟩ := hv
  have hx := B.exec
  have hb := B.bytes
  have hr := B.returns
  have hts := atoms_spec (ws := wsX3_checkpointAt) B.pre
  have hown : s.vm.findClass RX3 = some m.cls := findClass_of_methodNamed B.named
  have hlocks := B.notSynchronized
  have hinX3 : ∀ w ∈ wsX30, w ∈ wsX3_checkpointAt := by decide +kernel
  have hf29 := hts (.fieldLink RX3 29 "KeysapartModel" "thrown" "I") (by decide +kernel)
  have hf78 := hts (.fieldLink RX3 78 "KeysapartModel" "checkpoint" "I") (by decide +kernel)
  subst hsz
  have hD := hD0.self (sz := s.heap.size)
  generalize hAe : va_A (mW cI h μ) s.heap.size = A at hD ⊢
  have hA : ∀ q : Nat, s.heap.size ≤ q → A q := fun q h => by rw [← hAe]; exact Or.inr h
  have hl := lv_entry ([.ref (h 0)]) (n := 1) (Nat.le_of_ble_eq_true rfl)
  rw [lg_entry_eq]
  generalize (lg_sl ([.ref (h 0)]) ++ List.replicate (1 - (lg_sl ([.ref (h 0)])).length) Slot.unset).toArray = ls at hl ⊢
  have hl : lv_has ls 1 [(0, .ref (h 0))] := hl
  generalize hHe : s.heap = H at hP ⊢
  generalize hLe : ([] : List Loc) = locs
  have hS : va_S A s.heap H locs := by
    rw [← hLe, ← hHe]
    exact va_S.rf
  have hV := v_X3_checkpointAt_e μ
  refine lv_aload_n hx hb dX3_checkpointAt_0 rfl (lv_at hl 0 rfl) ?_
  refine lv_iconst (v := 0) hx hb dX3_checkpointAt_1 (by decide) ?_
  refine va_put (D := (dC, dI)) (ci := 3) (v := .int 0) (ty := .int) (C := RX3) (T := TX3) (N := 12) hx hb hts hinX3 tyX3 tyX3_ok nmX3 hown hK hP hD hS 0 rfl rfl 11 (by decide) hf29 (fun _ h9 => h9) rfl (by decide +kernel) rfl rfl (Nat.le_of_ble_eq_true rfl) dX3_checkpointAt_2 (fun H locs hP hD hS => ?_)
  have hP : va_P (dC, dI) vwCl (mW cI h (mSTh μ 0)) H := hP
  have hD : va_D A (mW cI h (mSTh μ 0)) := hD
  refine lv_aload_n hx hb dX3_checkpointAt_5 rfl (lv_at hl 0 rfl) ?_
  refine va_get (D := (dC, dI)) (ci := 3) (v := .int (mCp μ)) (C := RX3) (T := TX3) (N := 12) hx hb hts hinX3 hown hK hP 0 rfl rfl 8 (by decide) hf78 (fun _ h9 => h9) rfl dX3_checkpointAt_6 ?_
  exact rI (w := fun u => mW cI h u) (mSTh μ 0) hx hb hr hlocks hP hD hS (Nat.le_of_ble_eq_true rfl) (Nat.le_of_ble_eq_true rfl) dX3_checkpointAt_9 ⟨by rw [hV] <;> rfl, by rw [hV] <;> rfl⟩
def v_X3_positionOf (μ : MS) (p1 : Int32) : Int32 × MS := if ((v_X3_goes μ (v_X3_isKey p1) (if (mDn μ) = 0 then 1 else 0 : Int32)).1) = 0 then (0, ((v_X3_goes μ (v_X3_isKey p1) (if (mDn μ) = 0 then 1 else 0 : Int32)).2)) else (((mIx ((v_X3_goes μ (v_X3_isKey p1) (if (mDn μ) = 0 then 1 else 0 : Int32)).2)) p1.toNatClampNeg), ((v_X3_goes μ (v_X3_isKey p1) (if (mDn μ) = 0 then 1 else 0 : Int32)).2))
theorem v_X3_positionOf_e (μ : MS) (p1 : Int32) : v_X3_positionOf μ p1 = if ((v_X3_goes μ (v_X3_isKey p1) (if (mDn μ) = 0 then 1 else 0 : Int32)).1) = 0 then (0, ((v_X3_goes μ (v_X3_isKey p1) (if (mDn μ) = 0 then 1 else 0 : Int32)).2)) else (((mIx ((v_X3_goes μ (v_X3_isKey p1) (if (mDn μ) = 0 then 1 else 0 : Int32)).2)) p1.toNatClampNeg), ((v_X3_goes μ (v_X3_isKey p1) (if (mDn μ) = 0 then 1 else 0 : Int32)).2)) := rfl
def s_X3_positionOf (μ : MS) (p1 : Int32) : Prop := ((((v_X3_goes μ (v_X3_isKey p1) (if (mDn μ) = 0 then 1 else 0 : Int32)).1) = 0 → True) ∧ (¬ ((v_X3_goes μ (v_X3_isKey p1) (if (mDn μ) = 0 then 1 else 0 : Int32)).1) = 0 → (vp_in p1 64 ∧ True)))
set_option maxHeartbeats 1000000 in
set_option maxRecDepth 100000 in
theorem c_X3_positionOf (l : Launch) (dC : Nat → ClassId) (dI : Nat → Nat → Nat) (cI : ClassId) (h : Nat → Nat) (sz : Nat) (μ : MS) (p1 : Int32) (hs : s_X3_positionOf μ p1) : Met l yX3_positionOf wsX3_positionOf ({ frames := 1, cells := 0, slots := 0, locals := 22 }) (va_Pc [.ref (h 0), .int p1] (pW (dC, dI) [(cI, .int)] (mW cI h μ) sz)) (va_Qi (fun (r : Int32) (u : MS) => r = (v_X3_positionOf μ p1).1 ∧ u = (v_X3_positionOf μ p1).2) (qW (dC, dI) (va_A (mW cI h μ) sz) (fun u => mW cI h u)) (va_A (mW cI h μ) sz)) 0 0 (va_A (mW cI h μ) sz) := by
  refine Met.ofW (cc := cX3_positionOf) (maxL := 2) (ret := (some .int)) (by decide) rfl ?_
  intro p e s m args below meth c s₁ B hml hv
  obtain ⟨rfl, hsz, hP, hK, hD0⟩ := hv
  have hx := B.exec
  have hb := B.bytes
  have hr := B.returns
  have hts := atoms_spec (ws := wsX3_positionOf) B.pre
  have hown : s.vm.findClass RX3 = some m.cls := findClass_of_methodNamed B.named
  have hlocks := B.notSynchronized
  have hinX3 : ∀ w ∈ wsX30, w ∈ wsX3_positionOf := by decide +kernel
  have hf16 := hts (.fieldLink RX3 16 "KeysapartModel" "index" "[I") (by decide +kernel)
  have hf46 := hts (.fieldLink RX3 46 "KeysapartModel" "isDown" "Z") (by decide +kernel)
  subst hsz
  have hD := hD0.self (sz := s.heap.size)
  generalize hAe : va_A (mW cI h μ) s.heap.size = A at hD ⊢
  have hA : ∀ q : Nat, s.heap.size ≤ q → A q := fun q h => by rw [← hAe]; exact Or.inr h
  have hl := lv_entry ([.ref (h 0), .int p1]) (n := 2) (Nat.le_of_ble_eq_true rfl)
  rw [lg_entry_eq]
  generalize (lg_sl ([.ref (h 0), .int p1]) ++ List.replicate (2 - (lg_sl ([.ref (h 0), .int p1])).length) Slot.unset).toArray = ls at hl ⊢
  have hl : lv_has ls 2 [(0, .ref (h 0)), (1, .int p1)] := hl
  generalize hHe : s.heap = H at hP ⊢
  generalize hLe : ([] : List Loc) = locs
  have hS : va_S A s.heap H locs := by
    rw [← hLe, ← hHe]
    exact va_S.rf
  unfold s_X3_positionOf at hs
  have hV := v_X3_positionOf_e μ p1
  refine lv_aload_n hx hb dX3_positionOf_0 rfl (lv_at hl 0 rfl) ?_
  refine lv_iload_n hx hb dX3_positionOf_1 rfl (lv_at hl 1 rfl) ?_
  have hPc := hP.sub (ws' := eW) [] rfl
  have hDc := hD.sub (ws' := eW) [] (by decide) rfl
  refine rcI (W2 := fun _ => mW cI h μ) (va_runS (As := [.int p1]) (rest := [.ref (h 0)]) ⟨hx, hb, hml, hown, hts⟩ (c_X3_isKey l dC dI cI H.size p1) (va_cwS 1 hts gX3_positionOf_X3_isKey rfl rfl rfl (by decide +kernel) ⟨Nat.le_of_ble_eq_true rfl, Nat.le_of_ble_eq_true rfl⟩) (pW_S hPc hK hDc) rfl rfl hl.1 rfl (lv_room (Nat.le_of_ble_eq_true rfl)) dX3_positionOf_2 ⟨Nat.le_of_ble_eq_true rfl, Nat.le_of_ble_eq_true rfl⟩) hP hD hS hA [] [0, 1, 2, 3, 4, 5] [0, 1, 2, 3, 4, 5] rfl rfl (by decide) (fun _ => rfl) (fun r_2 u_2 H locs hw hP hD hS => ?_)
  obtain ⟨hw, hz_2⟩ := hw
  try rw [← hw] at hV
  try rw [← hw] at hs
  refine lv_aload_n hx hb dX3_positionOf_5 rfl (lv_at hl 0 rfl) ?_
  refine va_get (D := (dC, dI)) (ci := 3) (v := .int (mDn μ)) (C := RX3) (T := TX3) (N := 12) hx hb hts hinX3 hown hK hP 0 rfl rfl 10 (by decide) hf46 (fun _ h9 => h9) rfl dX3_positionOf_6 ?_
  suffices J_9 : W p l e (headSpec wsX3_positionOf ({ frames := 1, cells := 0, slots := 0, locals := 22 })).room s m [.ref (h 0), .int p1].toArray below meth c H locs 0 0 (MQ below (va_Qi (fun (r : Int32) (u : MS) => r = (v_X3_positionOf μ p1).1 ∧ u = (v_X3_positionOf μ p1).2) (qW (dC, dI) A (fun u => mW cI h u)) A) [.ref (h 0), .int p1].toArray s 0 0 A) (F0 m 17 ls [.int (if (mDn μ) = 0 then 1 else 0 : Int32), .int r_2, .ref (h 0)]) by
    refine lv_if_ne (tgt := 16) hx hb dX3_positionOf_9 (by decide) (fun c_9 => ?_) (fun c_9 => ?_)
    · skip
      rw [if_neg c_9] at J_9
      refine lv_iconst (v := 0) hx hb dX3_positionOf_16 (by decide) ?_
      exact J_9
    · skip
      rw [if_pos c_9] at J_9
      refine lv_iconst (v := 1) hx hb dX3_positionOf_12 (by decide) ?_
      refine lv_goto (tgt := 17) hx hb dX3_positionOf_13 (by decide) ?_
      exact J_9
  have hPc := hP.sub (ws' := mW cI h μ) [0, 1, 2, 3, 4, 5] rfl
  have hDc := hD.sub (ws' := mW cI h μ) [0, 1, 2, 3, 4, 5] (by decide) rfl
  refine rcI (W2 := fun u => mW cI h u) (va_runV (As := [.int r_2, .int (if (mDn μ) = 0 then 1 else 0 : Int32)]) (rest := []) ⟨hx, hb, hml, hown, hts⟩ (c_X3_goes l dC dI cI h H.size μ r_2 (if (mDn μ) = 0 then 1 else 0 : Int32)) (cwV 2 hts gX3_positionOf_X3_goes rfl rfl rfl (by decide +kernel) ⟨Nat.le_of_ble_eq_true rfl, Nat.le_of_ble_eq_true rfl⟩) (pW_V hPc hK hDc (ci := 3) (q0 := 0) rfl rfl) rfl rfl hl.1 rfl (lv_room (Nat.le_of_ble_eq_true rfl)) dX3_positionOf_17 ⟨Nat.le_of_ble_eq_true rfl, Nat.le_of_ble_eq_true rfl⟩) hP hD hS hA [0, 1, 2, 3, 4, 5] [] [0, 1, 2, 3, 4, 5] rfl rfl (by decide) (fun _ => rfl) (fun r_17 u_17 H locs hw hP hD hS => ?_)
  obtain ⟨hw, hw2, hz_17⟩ := hw
  try rw [← hw] at hV
  try rw [← hw] at hs
  try rw [← hw2] at hV
  try rw [← hw2] at hs
  refine lv_if_eq (tgt := 32) hx hb dX3_positionOf_20 (by decide) (fun c_20 => ?_) (fun c_20 => ?_)
  · skip
    have hs := hs.1 c_20
    rw [if_pos c_20] at hV
    refine lv_iconst (v := 0) hx hb dX3_positionOf_32 (by decide) ?_
    exact rI (w := fun u => mW cI h u) (u_17) hx hb hr hlocks hP hD hS (Nat.le_of_ble_eq_true rfl) (Nat.le_of_ble_eq_true rfl) dX3_positionOf_33 ⟨by rw [hV] <;> rfl, by rw [hV] <;> rfl⟩
  · skip
    have hs := hs.2 c_20
    rw [if_neg c_20] at hV
    refine lv_aload_n hx hb dX3_positionOf_23 rfl (lv_at hl 0 rfl) ?_
    refine va_get (D := (dC, dI)) (ci := 3) (v := .ref (h 3)) (C := RX3) (T := TX3) (N := 12) hx hb hts hinX3 hown hK hP 0 rfl rfl 2 (by decide) hf16 (fun _ h9 => h9) rfl dX3_positionOf_24 ?_
    refine lv_iload_n hx hb dX3_positionOf_27 rfl (lv_at hl 1 rfl) ?_
    have o_28 : vp_in p1 64 := hs.1
    have hs := hs.2
    refine va_iald hx hb hK hP 3 0 rfl rfl o_28 dX3_positionOf_28 ?_
    refine lv_goto (tgt := 33) hx hb dX3_positionOf_29 (by decide) ?_
    exact rI (w := fun u => mW cI h u) (u_17) hx hb hr hlocks hP hD hS (Nat.le_of_ble_eq_true rfl) (Nat.le_of_ble_eq_true rfl) dX3_positionOf_33 ⟨by rw [hV] <;> rfl, by rw [hV] <;> rfl⟩
def v_X3_segments (μ : MS) : Int32 × MS := ((v_X3_segmentsOf (mTl μ) (v_X3_headOf (mSTh μ 0))), mSTh μ 0)
theorem v_X3_segments_e (μ : MS) : v_X3_segments μ = ((v_X3_segmentsOf (mTl μ) (v_X3_headOf (mSTh μ 0))), mSTh μ 0) := rfl
set_option maxHeartbeats 1000000 in
set_option maxRecDepth 100000 in
theorem c_X3_segments (l : Launch) (dC : Nat → ClassId) (dI : Nat → Nat → Nat) (cI : ClassId) (h : Nat → Nat) (sz : Nat) (μ : MS) : Met l yX3_segments wsX3_segments ({ frames := 1, cells := 0, slots := 0, locals := 21 }) (va_Pc [.ref (h 0)] (pW (dC, dI) [(cI, .int)] (mW cI h μ) sz)) (va_Qi (fun (r : Int32) (u : MS) => r = (v_X3_segments μ).1 ∧ u = (v_X3_segments μ).2) (qW (dC, dI) (va_A (mW cI h μ) sz) (fun u => mW cI h u)) (va_A (mW cI h μ) sz)) 0 0 (va_A (mW cI h μ) sz) := by
  refine Met.ofW (cc := cX3_segments) (maxL := 1) (ret := (some .int)) (by decide) rfl ?_
  intro p e s m args below meth c s₁ B hml hv
  obtain ⟨rfl, hsz, hP, hK, hD0⟩ := hv
  have hx := B.exec
  have hb := B.bytes
  have hr := B.returns
  have hts := atoms_spec (ws := wsX3_segments) B.pre
  have hown : s.vm.findClass RX3 = some m.cls := findClass_of_methodNamed B.named
  have hlocks := B.notSynchronized
  have hinX3 : ∀ w ∈ wsX30, w ∈ wsX3_segments := by decide +kernel
  have hf29 := hts (.fieldLink RX3 29 "KeysapartModel" "thrown" "I") (by decide +kernel)
  have hf32 := hts (.fieldLink RX3 32 "KeysapartModel" "tail" "I") (by decide +kernel)
  subst hsz
  have hD := hD0.self (sz := s.heap.size)
  generalize hAe : va_A (mW cI h μ) s.heap.size = A at hD ⊢
  have hA : ∀ q : Nat, s.heap.size ≤ q → A q := fun q h => by rw [← hAe]; exact Or.inr h
  have hl := lv_entry ([.ref (h 0)]) (n := 1) (Nat.le_of_ble_eq_true rfl)
  rw [lg_entry_eq]
  generalize (lg_sl ([.ref (h 0)]) ++ List.replicate (1 - (lg_sl ([.ref (h 0)])).length) Slot.unset).toArray = ls at hl ⊢
  have hl : lv_has ls 1 [(0, .ref (h 0))] := hl
  generalize hHe : s.heap = H at hP ⊢
  generalize hLe : ([] : List Loc) = locs
  have hS : va_S A s.heap H locs := by
    rw [← hLe, ← hHe]
    exact va_S.rf
  have hV := v_X3_segments_e μ
  refine lv_aload_n hx hb dX3_segments_0 rfl (lv_at hl 0 rfl) ?_
  refine lv_iconst (v := 0) hx hb dX3_segments_1 (by decide) ?_
  refine va_put (D := (dC, dI)) (ci := 3) (v := .int 0) (ty := .int) (C := RX3) (T := TX3) (N := 12) hx hb hts hinX3 tyX3 tyX3_ok nmX3 hown hK hP hD hS 0 rfl rfl 11 (by decide) hf29 (fun _ h9 => h9) rfl (by decide +kernel) rfl rfl (Nat.le_of_ble_eq_true rfl) dX3_segments_2 (fun H locs hP hD hS => ?_)
  have hP : va_P (dC, dI) vwCl (mW cI h (mSTh μ 0)) H := hP
  have hD : va_D A (mW cI h (mSTh μ 0)) := hD
  refine lv_aload_n hx hb dX3_segments_5 rfl (lv_at hl 0 rfl) ?_
  refine va_get (D := (dC, dI)) (ci := 3) (v := .int (mTl μ)) (C := RX3) (T := TX3) (N := 12) hx hb hts hinX3 hown hK hP 0 rfl rfl 6 (by decide) hf32 (fun _ h9 => h9) rfl dX3_segments_6 ?_
  refine lv_aload_n hx hb dX3_segments_9 rfl (lv_at hl 0 rfl) ?_
  have hPc := hP.sub (ws' := mW cI h (mSTh μ 0)) [0, 1, 2, 3, 4, 5] rfl
  have hDc := hD.sub (ws' := mW cI h (mSTh μ 0)) [0, 1, 2, 3, 4, 5] (by decide) rfl
  refine rcI (W2 := fun _ => mW cI h (mSTh μ 0)) (va_runV (As := []) (rest := [.int (mTl μ)]) ⟨hx, hb, hml, hown, hts⟩ (c_X3_headOf l dC dI cI h H.size (mSTh μ 0)) (cwV 0 hts gX3_segments_X3_headOf rfl rfl rfl (by decide +kernel) ⟨Nat.le_of_ble_eq_true rfl, Nat.le_of_ble_eq_true rfl⟩) (pW_V hPc hK hDc (ci := 3) (q0 := 0) rfl rfl) rfl rfl hl.1 rfl (lv_room (Nat.le_of_ble_eq_true rfl)) dX3_segments_10 ⟨Nat.le_of_ble_eq_true rfl, Nat.le_of_ble_eq_true rfl⟩) hP hD hS hA [0, 1, 2, 3, 4, 5] [] [0, 1, 2, 3, 4, 5] rfl rfl (by decide) (fun _ => rfl) (fun r_10 u_10 H locs hw hP hD hS => ?_)
  try rw [← hw] at hV
  have hPc := hP.sub (ws' := eW) [] rfl
  have hDc := hD.sub (ws' := eW) [] (by decide) rfl
  refine rcI (W2 := fun _ => mW cI h (mSTh μ 0)) (va_runS (As := [.int (mTl μ), .int r_10]) (rest := []) ⟨hx, hb, hml, hown, hts⟩ (c_X3_segmentsOf l dC dI cI H.size (mTl μ) r_10) (va_cwS 2 hts gX3_segments_X3_segmentsOf rfl rfl rfl (by decide +kernel) ⟨Nat.le_of_ble_eq_true rfl, Nat.le_of_ble_eq_true rfl⟩) (pW_S hPc hK hDc) rfl rfl hl.1 rfl (lv_room (Nat.le_of_ble_eq_true rfl)) dX3_segments_13 ⟨Nat.le_of_ble_eq_true rfl, Nat.le_of_ble_eq_true rfl⟩) hP hD hS hA [] [0, 1, 2, 3, 4, 5] [0, 1, 2, 3, 4, 5] rfl rfl (by decide) (fun _ => rfl) (fun r_13 u_13 H locs hw hP hD hS => ?_)
  try rw [← hw] at hV
  exact rI (w := fun u => mW cI h u) (mSTh μ 0) hx hb hr hlocks hP hD hS (Nat.le_of_ble_eq_true rfl) (Nat.le_of_ble_eq_true rfl) dX3_segments_16 ⟨by rw [hV] <;> rfl, by rw [hV] <;> rfl⟩
def l_X3_live_26 (μ : MS) : Nat → Int32 → Int32 → Int32 × Int32
  | 0, x1_26, x2_26 => (x1_26, x2_26)
  | n + 1, x1_26, x2_26 => if 64 ≤ x2_26 then (x1_26, x2_26) else l_X3_live_26 μ n (x1_26 + (if ((mIx μ) x2_26.toNatClampNeg) < 0 then 0 else 1 : Int32)) (x2_26 + 1)
theorem l_X3_live_26_s (μ : MS) (n : Nat) (x1_26 : Int32) (x2_26 : Int32) : l_X3_live_26 μ (n + 1) x1_26 x2_26 = if 64 ≤ x2_26 then (x1_26, x2_26) else l_X3_live_26 μ n (x1_26 + (if ((mIx μ) x2_26.toNatClampNeg) < 0 then 0 else 1 : Int32)) (x2_26 + 1) := rfl
def sl_X3_live_26 (μ : MS) : Nat → Int32 → Int32 → Prop
  | 0, x1_26, x2_26 => False
  | n + 1, x1_26, x2_26 => ((64 ≤ x2_26 → True) ∧ (¬ 64 ≤ x2_26 → (vp_in x2_26 64 ∧ sl_X3_live_26 μ n (x1_26 + (if ((mIx μ) x2_26.toNatClampNeg) < 0 then 0 else 1 : Int32)) (x2_26 + 1))))
theorem sl_X3_live_26_s (μ : MS) (n : Nat) (x1_26 : Int32) (x2_26 : Int32) : sl_X3_live_26 μ (n + 1) x1_26 x2_26 = ((64 ≤ x2_26 → True) ∧ (¬ 64 ≤ x2_26 → (vp_in x2_26 64 ∧ sl_X3_live_26 μ n (x1_26 + (if ((mIx μ) x2_26.toNatClampNeg) < 0 then 0 else 1 : Int32)) (x2_26 + 1)))) := rfl
def v_X3_live (μ : MS) : Int32 × MS := if ((v_X3_goes μ (if (mDn μ) = 0 then 1 else 0 : Int32) 1).1) = 0 then (0, ((v_X3_goes μ (if (mDn μ) = 0 then 1 else 0 : Int32) 1).2)) else ((l_X3_live_26 ((v_X3_goes μ (if (mDn μ) = 0 then 1 else 0 : Int32) 1).2) 100 0 0).1, ((v_X3_goes μ (if (mDn μ) = 0 then 1 else 0 : Int32) 1).2))
theorem v_X3_live_e (μ : MS) : v_X3_live μ = if ((v_X3_goes μ (if (mDn μ) = 0 then 1 else 0 : Int32) 1).1) = 0 then (0, ((v_X3_goes μ (if (mDn μ) = 0 then 1 else 0 : Int32) 1).2)) else ((l_X3_live_26 ((v_X3_goes μ (if (mDn μ) = 0 then 1 else 0 : Int32) 1).2) 100 0 0).1, ((v_X3_goes μ (if (mDn μ) = 0 then 1 else 0 : Int32) 1).2)) := rfl
def s_X3_live (μ : MS) : Prop := ((((v_X3_goes μ (if (mDn μ) = 0 then 1 else 0 : Int32) 1).1) = 0 → True) ∧ (¬ ((v_X3_goes μ (if (mDn μ) = 0 then 1 else 0 : Int32) 1).1) = 0 → (sl_X3_live_26 ((v_X3_goes μ (if (mDn μ) = 0 then 1 else 0 : Int32) 1).2) 100 0 0 ∧ True)))
set_option maxHeartbeats 1000000 in
set_option maxRecDepth 100000 in
theorem c_X3_live (l : Launch) (dC : Nat → ClassId) (dI : Nat → Nat → Nat) (cI : ClassId) (h : Nat → Nat) (sz : Nat) (μ : MS) (hs : s_X3_live μ) : Met l yX3_live wsX3_live ({ frames := 1, cells := 0, slots := 0, locals := 22 }) (va_Pc [.ref (h 0)] (pW (dC, dI) [(cI, .int)] (mW cI h μ) sz)) (va_Qi (fun (r : Int32) (u : MS) => r = (v_X3_live μ).1 ∧ u = (v_X3_live μ).2) (qW (dC, dI) (va_A (mW cI h μ) sz) (fun u => mW cI h u)) (va_A (mW cI h μ) sz)) 0 0 (va_A (mW cI h μ) sz) := by
  refine Met.ofW (cc := cX3_live) (maxL := 3) (ret := (some .int)) (by decide) rfl ?_
  intro p e s m args below meth c s₁ B hml hv
  obtain ⟨rfl, hsz, hP, hK, hD0⟩ := hv
  have hx := B.exec
  have hb := B.bytes
  have hr := B.returns
  have hts := atoms_spec (ws := wsX3_live) B.pre
  have hown : s.vm.findClass RX3 = some m.cls := findClass_of_methodNamed B.named
  have hlocks := B.notSynchronized
  have hinX3 : ∀ w ∈ wsX30, w ∈ wsX3_live := by decide +kernel
  have hf16 := hts (.fieldLink RX3 16 "KeysapartModel" "index" "[I") (by decide +kernel)
  have hf46 := hts (.fieldLink RX3 46 "KeysapartModel" "isDown" "Z") (by decide +kernel)
  subst hsz
  have hD := hD0.self (sz := s.heap.size)
  generalize hAe : va_A (mW cI h μ) s.heap.size = A at hD ⊢
  have hA : ∀ q : Nat, s.heap.size ≤ q → A q := fun q h => by rw [← hAe]; exact Or.inr h
  have hl := lv_entry ([.ref (h 0)]) (n := 3) (Nat.le_of_ble_eq_true rfl)
  rw [lg_entry_eq]
  generalize (lg_sl ([.ref (h 0)]) ++ List.replicate (3 - (lg_sl ([.ref (h 0)])).length) Slot.unset).toArray = ls at hl ⊢
  have hl : lv_has ls 3 [(0, .ref (h 0))] := hl
  generalize hHe : s.heap = H at hP ⊢
  generalize hLe : ([] : List Loc) = locs
  have hS : va_S A s.heap H locs := by
    rw [← hLe, ← hHe]
    exact va_S.rf
  unfold s_X3_live at hs
  have hV := v_X3_live_e μ
  refine lv_aload_n hx hb dX3_live_0 rfl (lv_at hl 0 rfl) ?_
  refine lv_aload_n hx hb dX3_live_1 rfl (lv_at hl 0 rfl) ?_
  refine va_get (D := (dC, dI)) (ci := 3) (v := .int (mDn μ)) (C := RX3) (T := TX3) (N := 12) hx hb hts hinX3 hown hK hP 0 rfl rfl 10 (by decide) hf46 (fun _ h9 => h9) rfl dX3_live_2 ?_
  suffices J_5 : W p l e (headSpec wsX3_live ({ frames := 1, cells := 0, slots := 0, locals := 22 })).room s m [.ref (h 0)].toArray below meth c H locs 0 0 (MQ below (va_Qi (fun (r : Int32) (u : MS) => r = (v_X3_live μ).1 ∧ u = (v_X3_live μ).2) (qW (dC, dI) A (fun u => mW cI h u)) A) [.ref (h 0)].toArray s 0 0 A) (F0 m 13 ls [.int (if (mDn μ) = 0 then 1 else 0 : Int32), .ref (h 0)]) by
    refine lv_if_ne (tgt := 12) hx hb dX3_live_5 (by decide) (fun c_5 => ?_) (fun c_5 => ?_)
    · skip
      rw [if_neg c_5] at J_5
      refine lv_iconst (v := 0) hx hb dX3_live_12 (by decide) ?_
      exact J_5
    · skip
      rw [if_pos c_5] at J_5
      refine lv_iconst (v := 1) hx hb dX3_live_8 (by decide) ?_
      refine lv_goto (tgt := 13) hx hb dX3_live_9 (by decide) ?_
      exact J_5
  refine lv_iconst (v := 1) hx hb dX3_live_13 (by decide) ?_
  have hPc := hP.sub (ws' := mW cI h μ) [0, 1, 2, 3, 4, 5] rfl
  have hDc := hD.sub (ws' := mW cI h μ) [0, 1, 2, 3, 4, 5] (by decide) rfl
  refine rcI (W2 := fun u => mW cI h u) (va_runV (As := [.int (if (mDn μ) = 0 then 1 else 0 : Int32), .int 1]) (rest := []) ⟨hx, hb, hml, hown, hts⟩ (c_X3_goes l dC dI cI h H.size μ (if (mDn μ) = 0 then 1 else 0 : Int32) 1) (cwV 2 hts gX3_live_X3_goes rfl rfl rfl (by decide +kernel) ⟨Nat.le_of_ble_eq_true rfl, Nat.le_of_ble_eq_true rfl⟩) (pW_V hPc hK hDc (ci := 3) (q0 := 0) rfl rfl) rfl rfl hl.1 rfl (lv_room (Nat.le_of_ble_eq_true rfl)) dX3_live_14 ⟨Nat.le_of_ble_eq_true rfl, Nat.le_of_ble_eq_true rfl⟩) hP hD hS hA [0, 1, 2, 3, 4, 5] [] [0, 1, 2, 3, 4, 5] rfl rfl (by decide) (fun _ => rfl) (fun r_14 u_14 H locs hw hP hD hS => ?_)
  obtain ⟨hw, hw2, hz_14⟩ := hw
  try rw [← hw] at hV
  try rw [← hw] at hs
  try rw [← hw2] at hV
  try rw [← hw2] at hs
  refine lv_if_ne (tgt := 22) hx hb dX3_live_17 (by decide) (fun c_17 => ?_) (fun c_17 => ?_)
  · skip
    have hs := hs.2 c_17
    rw [if_neg c_17] at hV
    refine lv_iconst (v := 0) hx hb dX3_live_22 (by decide) ?_
    refine lv_istore_n (lv' := [(1, .int 0), (0, .ref (h 0))]) hx hb dX3_live_23 rfl hl (by decide) rfl (fun ls hl => ?_)
    refine lv_iconst (v := 0) hx hb dX3_live_24 (by decide) ?_
    refine lv_istore_n (lv' := [(2, .int 0), (1, .int 0), (0, .ref (h 0))]) hx hb dX3_live_25 rfl hl (by decide) rfl (fun ls hl => ?_)
    have o_l26 : sl_X3_live_26 u_14 100 0 0 := hs.1
    have hs := hs.2
    have loop_26 : ∀ (n : Nat) (x1_26 : Int32) (x2_26 : Int32) (H : Heap) (locs : List Loc) (ls : Array Slot) (hs : sl_X3_live_26 u_14 n x1_26 x2_26) (K : ∀ (z : Int32 × Int32) (hw : z = l_X3_live_26 u_14 n x1_26 x2_26) (H : Heap) (locs : List Loc) (ls : Array Slot), va_P (dC, dI) vwCl (mW cI h u_14) H → va_D A (mW cI h u_14) → va_S A s.heap H locs → lv_has ls 3 [(1, .int z.1), (2, .int z.2), (0, .ref (h 0))] → W p l e (headSpec wsX3_live ({ frames := 1, cells := 0, slots := 0, locals := 22 })).room s m [.ref (h 0)].toArray below meth c H locs 0 0 (MQ below (va_Qi (fun (r : Int32) (u : MS) => r = (v_X3_live μ).1 ∧ u = (v_X3_live μ).2) (qW (dC, dI) A (fun u => mW cI h u)) A) [.ref (h 0)].toArray s 0 0 A) (F0 m 55 ls [])) (hP : va_P (dC, dI) vwCl (mW cI h u_14) H) (hD : va_D A (mW cI h u_14)) (hS : va_S A s.heap H locs) (hl : lv_has ls 3 [(1, .int x1_26), (2, .int x2_26), (0, .ref (h 0))]), W p l e (headSpec wsX3_live ({ frames := 1, cells := 0, slots := 0, locals := 22 })).room s m [.ref (h 0)].toArray below meth c H locs 0 0 (MQ below (va_Qi (fun (r : Int32) (u : MS) => r = (v_X3_live μ).1 ∧ u = (v_X3_live μ).2) (qW (dC, dI) A (fun u => mW cI h u)) A) [.ref (h 0)].toArray s 0 0 A) (F0 m 26 ls []) := by
      intro n
      induction n with
      | zero => intro x1_26 x2_26 H locs ls hs; exact False.elim hs
      | succ n ih =>
        intro x1_26 x2_26 H locs ls hs K hP hD hS hl
        rw [sl_X3_live_26_s] at hs
        rw [l_X3_live_26_s] at K
        refine lv_iload_n hx hb dX3_live_26 rfl (lv_at hl 1 rfl) ?_
        refine lv_bipush (v := 64) hx hb dX3_live_27 (by decide) ?_
        refine lv_icmp_ge (tgt := 55) hx hb dX3_live_29 (by decide) (fun c_29 => ?_) (fun c_29 => ?_)
        · skip
          have hs := hs.1 c_29
          rw [if_pos c_29] at K
          exact K _ rfl H locs ls hP hD hS (lv_sub hl [0, 1, 2] rfl)
        · skip
          have hs := hs.2 c_29
          rw [if_neg c_29] at K
          refine lv_iload_n hx hb dX3_live_32 rfl (lv_at hl 0 rfl) ?_
          refine lv_aload_n hx hb dX3_live_33 rfl (lv_at hl 2 rfl) ?_
          refine va_get (D := (dC, dI)) (ci := 3) (v := .ref (h 3)) (C := RX3) (T := TX3) (N := 12) hx hb hts hinX3 hown hK hP 0 rfl rfl 2 (by decide) hf16 (fun _ h9 => h9) rfl dX3_live_34 ?_
          refine lv_iload_n hx hb dX3_live_37 rfl (lv_at hl 1 rfl) ?_
          have o_38 : vp_in x2_26 64 := hs.1
          have hs := hs.2
          refine va_iald hx hb hK hP 3 0 rfl rfl o_38 dX3_live_38 ?_
          suffices J_39 : W p l e (headSpec wsX3_live ({ frames := 1, cells := 0, slots := 0, locals := 22 })).room s m [.ref (h 0)].toArray below meth c H locs 0 0 (MQ below (va_Qi (fun (r : Int32) (u : MS) => r = (v_X3_live μ).1 ∧ u = (v_X3_live μ).2) (qW (dC, dI) A (fun u => mW cI h u)) A) [.ref (h 0)].toArray s 0 0 A) (F0 m 47 ls [.int (if ((mIx u_14) x2_26.toNatClampNeg) < 0 then 0 else 1 : Int32), .int x1_26]) by
            refine lv_if_lt (tgt := 46) hx hb dX3_live_39 (by decide) (fun c_39 => ?_) (fun c_39 => ?_)
            · skip
              rw [if_pos c_39] at J_39
              refine lv_iconst (v := 0) hx hb dX3_live_46 (by decide) ?_
              exact J_39
            · skip
              rw [if_neg c_39] at J_39
              refine lv_iconst (v := 1) hx hb dX3_live_42 (by decide) ?_
              refine lv_goto (tgt := 47) hx hb dX3_live_43 (by decide) ?_
              exact J_39
          refine lv_iadd hx hb dX3_live_47 ?_
          refine lv_istore_n (lv' := [(1, .int (x1_26 + (if ((mIx u_14) x2_26.toNatClampNeg) < 0 then 0 else 1 : Int32))), (2, .int x2_26), (0, .ref (h 0))]) hx hb dX3_live_48 rfl hl (by decide) rfl (fun ls hl => ?_)
          refine lv_iinc (v := x2_26 + 1) (lv' := [(2, .int (x2_26 + 1)), (1, .int (x1_26 + (if ((mIx u_14) x2_26.toNatClampNeg) < 0 then 0 else 1 : Int32))), (0, .ref (h 0))]) hx hb dX3_live_49 hl (k := 1) rfl rfl (by decide) rfl (fun ls hl => ?_)
          refine lv_goto (tgt := 26) hx hb dX3_live_52 (by decide) ?_
          exact ih (x1_26 + (if ((mIx u_14) x2_26.toNatClampNeg) < 0 then 0 else 1 : Int32)) (x2_26 + 1) H locs ls hs K hP hD hS (lv_sub hl [1, 0, 2] rfl)
    refine loop_26 100 0 0 H locs ls o_l26 (fun z_26 hw H locs ls hP hD hS hl => ?_) hP hD hS (lv_sub hl [1, 0, 2] rfl)
    try rw [← hw] at hV
    refine lv_iload_n hx hb dX3_live_55 rfl (lv_at hl 0 rfl) ?_
    exact rI (w := fun u => mW cI h u) (u_14) hx hb hr hlocks hP hD hS (Nat.le_of_ble_eq_true rfl) (Nat.le_of_ble_eq_true rfl) dX3_live_56 ⟨by rw [hV] <;> rfl, by rw [hV] <;> rfl⟩
  · skip
    have hs := hs.1 c_17
    rw [if_pos c_17] at hV
    refine lv_iconst (v := 0) hx hb dX3_live_20 (by decide) ?_
    exact rI (w := fun u => mW cI h u) (u_14) hx hb hr hlocks hP hD hS (Nat.le_of_ble_eq_true rfl) (Nat.le_of_ble_eq_true rfl) dX3_live_21 ⟨by rw [hV] <;> rfl, by rw [hV] <;> rfl⟩
def v_X3_toFree (μ : MS) : Int32 × MS := if (8 - ((mTl μ) - (mTl μ) / 8 * 8)) ≤ ((v_X3_headOf (mSTh μ 0)) - (mTl μ)) then ((8 - ((mTl μ) - (mTl μ) / 8 * 8)), mSTh μ 0) else ((-1), mSTh μ 0)
theorem v_X3_toFree_e (μ : MS) : v_X3_toFree μ = if (8 - ((mTl μ) - (mTl μ) / 8 * 8)) ≤ ((v_X3_headOf (mSTh μ 0)) - (mTl μ)) then ((8 - ((mTl μ) - (mTl μ) / 8 * 8)), mSTh μ 0) else ((-1), mSTh μ 0) := rfl
set_option maxHeartbeats 1000000 in
set_option maxRecDepth 100000 in
theorem c_X3_toFree (l : Launch) (dC : Nat → ClassId) (dI : Nat → Nat → Nat) (cI : ClassId) (h : Nat → Nat) (sz : Nat) (μ : MS) : Met l yX3_toFree wsX3_toFree ({ frames := 1, cells := 0, slots := 0, locals := 20 }) (va_Pc [.ref (h 0)] (pW (dC, dI) [(cI, .int)] (mW cI h μ) sz)) (va_Qi (fun (r : Int32) (u : MS) => r = (v_X3_toFree μ).1 ∧ u = (v_X3_toFree μ).2) (qW (dC, dI) (va_A (mW cI h μ) sz) (fun u => mW cI h u)) (va_A (mW cI h μ) sz)) 0 0 (va_A (mW cI h μ) sz) := by
  refine Met.ofW (cc := cX3_toFree) (maxL := 2) (ret := (some .int)) (by decide) rfl ?_
  intro p e s m args below meth c s₁ B hml hv
  obtain ⟨rfl, hsz, hP, hK, hD0⟩ := hv
  have hx := B.exec
  have hb := B.bytes
  have hr := B.returns
  have hts := atoms_spec (ws := wsX3_toFree) B.pre
  have hown : s.vm.findClass RX3 = some m.cls := findClass_of_methodNamed B.named
  have hlocks := B.notSynchronized
  have hinX3 : ∀ w ∈ wsX30, w ∈ wsX3_toFree := by decide +kernel
  have hf29 := hts (.fieldLink RX3 29 "KeysapartModel" "thrown" "I") (by decide +kernel)
  have hf32 := hts (.fieldLink RX3 32 "KeysapartModel" "tail" "I") (by decide +kernel)
  subst hsz
  have hD := hD0.self (sz := s.heap.size)
  generalize hAe : va_A (mW cI h μ) s.heap.size = A at hD ⊢
  have hA : ∀ q : Nat, s.heap.size ≤ q → A q := fun q h => by rw [← hAe]; exact Or.inr h
  have hl := lv_entry ([.ref (h 0)]) (n := 2) (Nat.le_of_ble_eq_true rfl)
  rw [lg_entry_eq]
  generalize (lg_sl ([.ref (h 0)]) ++ List.replicate (2 - (lg_sl ([.ref (h 0)])).length) Slot.unset).toArray = ls at hl ⊢
  have hl : lv_has ls 2 [(0, .ref (h 0))] := hl
  generalize hHe : s.heap = H at hP ⊢
  generalize hLe : ([] : List Loc) = locs
  have hS : va_S A s.heap H locs := by
    rw [← hLe, ← hHe]
    exact va_S.rf
  have hV := v_X3_toFree_e μ
  refine lv_aload_n hx hb dX3_toFree_0 rfl (lv_at hl 0 rfl) ?_
  refine lv_iconst (v := 0) hx hb dX3_toFree_1 (by decide) ?_
  refine va_put (D := (dC, dI)) (ci := 3) (v := .int 0) (ty := .int) (C := RX3) (T := TX3) (N := 12) hx hb hts hinX3 tyX3 tyX3_ok nmX3 hown hK hP hD hS 0 rfl rfl 11 (by decide) hf29 (fun _ h9 => h9) rfl (by decide +kernel) rfl rfl (Nat.le_of_ble_eq_true rfl) dX3_toFree_2 (fun H locs hP hD hS => ?_)
  have hP : va_P (dC, dI) vwCl (mW cI h (mSTh μ 0)) H := hP
  have hD : va_D A (mW cI h (mSTh μ 0)) := hD
  refine lv_bipush (v := 8) hx hb dX3_toFree_5 (by decide) ?_
  refine lv_aload_n hx hb dX3_toFree_7 rfl (lv_at hl 0 rfl) ?_
  refine va_get (D := (dC, dI)) (ci := 3) (v := .int (mTl μ)) (C := RX3) (T := TX3) (N := 12) hx hb hts hinX3 hown hK hP 0 rfl rfl 6 (by decide) hf32 (fun _ h9 => h9) rfl dX3_toFree_8 ?_
  refine lv_bipush (v := 8) hx hb dX3_toFree_11 (by decide) ?_
  refine lv_irem hx hb dX3_toFree_13 (by decide) ?_
  refine lv_isub hx hb dX3_toFree_14 ?_
  refine lv_istore_n (lv' := [(1, .int (8 - ((mTl μ) - (mTl μ) / 8 * 8))), (0, .ref (h 0))]) hx hb dX3_toFree_15 rfl hl (by decide) rfl (fun ls hl => ?_)
  refine lv_aload_n hx hb dX3_toFree_16 rfl (lv_at hl 1 rfl) ?_
  have hPc := hP.sub (ws' := mW cI h (mSTh μ 0)) [0, 1, 2, 3, 4, 5] rfl
  have hDc := hD.sub (ws' := mW cI h (mSTh μ 0)) [0, 1, 2, 3, 4, 5] (by decide) rfl
  refine rcI (W2 := fun _ => mW cI h (mSTh μ 0)) (va_runV (As := []) (rest := []) ⟨hx, hb, hml, hown, hts⟩ (c_X3_headOf l dC dI cI h H.size (mSTh μ 0)) (cwV 0 hts gX3_toFree_X3_headOf rfl rfl rfl (by decide +kernel) ⟨Nat.le_of_ble_eq_true rfl, Nat.le_of_ble_eq_true rfl⟩) (pW_V hPc hK hDc (ci := 3) (q0 := 0) rfl rfl) rfl rfl hl.1 rfl (lv_room (Nat.le_of_ble_eq_true rfl)) dX3_toFree_17 ⟨Nat.le_of_ble_eq_true rfl, Nat.le_of_ble_eq_true rfl⟩) hP hD hS hA [0, 1, 2, 3, 4, 5] [] [0, 1, 2, 3, 4, 5] rfl rfl (by decide) (fun _ => rfl) (fun r_17 u_17 H locs hw hP hD hS => ?_)
  try rw [← hw] at hV
  refine lv_aload_n hx hb dX3_toFree_20 rfl (lv_at hl 1 rfl) ?_
  refine va_get (D := (dC, dI)) (ci := 3) (v := .int (mTl μ)) (C := RX3) (T := TX3) (N := 12) hx hb hts hinX3 hown hK hP 0 rfl rfl 6 (by decide) hf32 (fun _ h9 => h9) rfl dX3_toFree_21 ?_
  refine lv_isub hx hb dX3_toFree_24 ?_
  refine lv_iload_n hx hb dX3_toFree_25 rfl (lv_at hl 0 rfl) ?_
  refine lv_icmp_ge (tgt := 33) hx hb dX3_toFree_26 (by decide) (fun c_26 => ?_) (fun c_26 => ?_)
  · skip
    rw [if_pos c_26] at hV
    refine lv_iload_n hx hb dX3_toFree_33 rfl (lv_at hl 0 rfl) ?_
    exact rI (w := fun u => mW cI h u) (mSTh μ 0) hx hb hr hlocks hP hD hS (Nat.le_of_ble_eq_true rfl) (Nat.le_of_ble_eq_true rfl) dX3_toFree_34 ⟨by rw [hV] <;> rfl, by rw [hV] <;> rfl⟩
  · skip
    rw [if_neg c_26] at hV
    refine lv_iconst (v := (-1)) hx hb dX3_toFree_29 (by decide) ?_
    refine lv_goto (tgt := 34) hx hb dX3_toFree_30 (by decide) ?_
    exact rI (w := fun u => mW cI h u) (mSTh μ 0) hx hb hr hlocks hP hD hS (Nat.le_of_ble_eq_true rfl) (Nat.le_of_ble_eq_true rfl) dX3_toFree_34 ⟨by rw [hV] <;> rfl, by rw [hV] <;> rfl⟩
def v_X3_wouldHave (μ : MS) : Int32 × MS := (((v_X3_recovers (mSTh μ 0)).1), ((v_X3_recovers (mSTh μ 0)).2))
theorem v_X3_wouldHave_e (μ : MS) : v_X3_wouldHave μ = (((v_X3_recovers (mSTh μ 0)).1), ((v_X3_recovers (mSTh μ 0)).2)) := rfl
def s_X3_wouldHave (μ : MS) : Prop := (s_X3_recovers (mSTh μ 0) ∧ True)
set_option maxHeartbeats 1000000 in
set_option maxRecDepth 100000 in
theorem c_X3_wouldHave (l : Launch) (dC : Nat → ClassId) (dI : Nat → Nat → Nat) (cI : ClassId) (h : Nat → Nat) (sz : Nat) (μ : MS) (hs : s_X3_wouldHave μ) : Met l yX3_wouldHave wsX3_wouldHave ({ frames := 1, cells := 0, slots := 0, locals := 22 }) (va_Pc [.ref (h 0)] (pW (dC, dI) [(cI, .int)] (mW cI h μ) sz)) (va_Qi (fun (r : Int32) (u : MS) => r = (v_X3_wouldHave μ).1 ∧ u = (v_X3_wouldHave μ).2) (qW (dC, dI) (va_A (mW cI h μ) sz) (fun u => mW cI h u)) (va_A (mW cI h μ) sz)) 0 0 (va_A (mW cI h μ) sz) := by
  refine Met.ofW (cc := cX3_wouldHave) (maxL := 1) (ret := (some .int)) (by decide) rfl ?_
  intro p e s m args below meth c s₁ B hml hv
  obtain ⟨rfl, hsz, hP, hK, hD0⟩ := hv
  have hx := B.exec
  have hb := B.bytes
  have hr := B.returns
  have hts := atoms_spec (ws := wsX3_wouldHave) B.pre
  have hown : s.vm.findClass RX3 = some m.cls := findClass_of_methodNamed B.named
  have hlocks := B.notSynchronized
  have hinX3 : ∀ w ∈ wsX30, w ∈ wsX3_wouldHave := by decide +kernel
  have hf29 := hts (.fieldLink RX3 29 "KeysapartModel" "thrown" "I") (by decide +kernel)
  subst hsz
  have hD := hD0.self (sz := s.heap.size)
  generalize hAe : va_A (mW cI h μ) s.heap.size = A at hD ⊢
  have hA : ∀ q : Nat, s.heap.size ≤ q → A q := fun q h => by rw [← hAe]; exact Or.inr h
  have hl := lv_entry ([.ref (h 0)]) (n := 1) (Nat.le_of_ble_eq_true rfl)
  rw [lg_entry_eq]
  generalize (lg_sl ([.ref (h 0)]) ++ List.replicate (1 - (lg_sl ([.ref (h 0)])).length) Slot.unset).toArray = ls at hl ⊢
  have hl : lv_has ls 1 [(0, .ref (h 0))] := hl
  generalize hHe : s.heap = H at hP ⊢
  generalize hLe : ([] : List Loc) = locs
  have hS : va_S A s.heap H locs := by
    rw [← hLe, ← hHe]
    exact va_S.rf
  unfold s_X3_wouldHave at hs
  have hV := v_X3_wouldHave_e μ
  refine lv_aload_n hx hb dX3_wouldHave_0 rfl (lv_at hl 0 rfl) ?_
  refine lv_iconst (v := 0) hx hb dX3_wouldHave_1 (by decide) ?_
  refine va_put (D := (dC, dI)) (ci := 3) (v := .int 0) (ty := .int) (C := RX3) (T := TX3) (N := 12) hx hb hts hinX3 tyX3 tyX3_ok nmX3 hown hK hP hD hS 0 rfl rfl 11 (by decide) hf29 (fun _ h9 => h9) rfl (by decide +kernel) rfl rfl (Nat.le_of_ble_eq_true rfl) dX3_wouldHave_2 (fun H locs hP hD hS => ?_)
  have hP : va_P (dC, dI) vwCl (mW cI h (mSTh μ 0)) H := hP
  have hD : va_D A (mW cI h (mSTh μ 0)) := hD
  refine lv_aload_n hx hb dX3_wouldHave_5 rfl (lv_at hl 0 rfl) ?_
  have o_6 : s_X3_recovers (mSTh μ 0) := hs.1
  have hs := hs.2
  have hPc := hP.sub (ws' := mW cI h (mSTh μ 0)) [0, 1, 2, 3, 4, 5] rfl
  have hDc := hD.sub (ws' := mW cI h (mSTh μ 0)) [0, 1, 2, 3, 4, 5] (by decide) rfl
  refine rcI (W2 := fun u => mW cI h u) (va_runV (As := []) (rest := []) ⟨hx, hb, hml, hown, hts⟩ (c_X3_recovers l dC dI cI h H.size (mSTh μ 0) o_6) (cwV 0 hts gX3_wouldHave_X3_recovers rfl rfl rfl (by decide +kernel) ⟨Nat.le_of_ble_eq_true rfl, Nat.le_of_ble_eq_true rfl⟩) (pW_V hPc hK hDc (ci := 3) (q0 := 0) rfl rfl) rfl rfl hl.1 rfl (lv_room (Nat.le_of_ble_eq_true rfl)) dX3_wouldHave_6 ⟨Nat.le_of_ble_eq_true rfl, Nat.le_of_ble_eq_true rfl⟩) hP hD hS hA [0, 1, 2, 3, 4, 5] [] [0, 1, 2, 3, 4, 5] rfl rfl (by decide) (fun _ => rfl) (fun r_6 u_6 H locs hw hP hD hS => ?_)
  obtain ⟨hw, hw2⟩ := hw
  try rw [← hw] at hV
  try rw [← hw2] at hV
  exact rI (w := fun u => mW cI h u) (u_6) hx hb hr hlocks hP hD hS (Nat.le_of_ble_eq_true rfl) (Nat.le_of_ble_eq_true rfl) dX3_wouldHave_9 ⟨by rw [hV] <;> rfl, by rw [hV] <;> rfl⟩
