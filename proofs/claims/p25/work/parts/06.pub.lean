def v_X2_put (κ : KS) (p1 : Int32) (p2 : Int32) : Int32 × KS := if p2 < 0 then (0, κ) else if p2 ≤ 9999 then (((v_X2_append κ p1 p2).1), ((v_X2_append κ p1 p2).2)) else (0, κ)
theorem v_X2_put_e (κ : KS) (p1 : Int32) (p2 : Int32) : v_X2_put κ p1 p2 = if p2 < 0 then (0, κ) else if p2 ≤ 9999 then (((v_X2_append κ p1 p2).1), ((v_X2_append κ p1 p2).2)) else (0, κ) := rfl
def x_X2_put (κ : KS) (p1 : Int32) (p2 : Int32) : Nat := if x_X2_needKey p1 = 0 then if p2 < 0 then 1 else if p2 ≤ 9999 then if x_X2_needUp κ = 0 then if x_X2_needRoom κ 1 = 0 then 0 else x_X2_needRoom κ 1 else x_X2_needUp κ else 1 else x_X2_needKey p1
theorem x_X2_put_e (κ : KS) (p1 : Int32) (p2 : Int32) : x_X2_put κ p1 p2 = if x_X2_needKey p1 = 0 then if p2 < 0 then 1 else if p2 ≤ 9999 then if x_X2_needUp κ = 0 then if x_X2_needRoom κ 1 = 0 then 0 else x_X2_needRoom κ 1 else x_X2_needUp κ else 1 else x_X2_needKey p1 := rfl
def s_X2_put (κ : KS) (p1 : Int32) (p2 : Int32) : Prop := (x_X2_needKey p1 = 0 → ((p2 < 0 → True) ∧ (¬ p2 < 0 → ((p2 ≤ 9999 → (x_X2_needUp κ = 0 → (x_X2_needRoom κ 1 = 0 → (s_X2_append κ p1 p2 ∧ True)))) ∧ (¬ p2 ≤ 9999 → True)))))
set_option maxHeartbeats 1000000 in
set_option maxRecDepth 100000 in
theorem c_X2_put (l : Launch) (dC : Nat → ClassId) (dI : Nat → Nat → Nat) (cI : ClassId) (h : Nat → Nat) (sz : Nat) (κ : KS) (p1 : Int32) (p2 : Int32) (hX : x_X2_put κ p1 p2 = 0) (hs : s_X2_put κ p1 p2) : Met l yX2_put wsX2_put ({ frames := 7, cells := 0, slots := 0, locals := 104 }) (va_Pc [.ref (h 0), .int p1, .int p2] (pW (dC, dI) [(cI, .int)] (kW cI h κ) sz)) (va_Qi (fun (r : Int32) (u : KS) => r = (v_X2_put κ p1 p2).1 ∧ u = (v_X2_put κ p1 p2).2) (qW (dC, dI) (va_A (kW cI h κ) sz) (fun u => kW cI h u)) (va_A (kW cI h κ) sz)) 0 0 (va_A (kW cI h κ) sz) := by
  refine Met.ofW (cc := cX2_put) (maxL := 3) (ret := (some .int)) (by decide) rfl ?_
  intro p e s m args below meth c s₁ B hml hv
  obtain ⟨rfl, hsz, hP, hK, hD0⟩ := hv
  have hx := B.exec
  have hb := B.bytes
  have hr := B.returns
  have hts := atoms_spec (ws := wsX2_put) B.pre
  have hown : s.vm.findClass RX2 = some m.cls := findClass_of_methodNamed B.named
  have hlocks := B.notSynchronized
  have hinX2 : ∀ w ∈ wsX20, w ∈ wsX2_put := by decide +kernel
  subst hsz
  have hD := hD0.self (sz := s.heap.size)
  generalize hAe : va_A (kW cI h κ) s.heap.size = A at hD ⊢
  have hA : ∀ q : Nat, s.heap.size ≤ q → A q := fun q h => by rw [← hAe]; exact Or.inr h
  have hl := lv_entry ([.ref (h 0), .int p1, .int p2]) (n := 3) (Nat.le_of_ble_eq_true rfl)
  rw [lg_entry_eq]
  generalize (lg_sl ([.ref (h 0), .int p1, .int p2]) ++ List.replicate (3 - (lg_sl ([.ref (h 0), .int p1, .int p2])).length) Slot.unset).toArray = ls at hl ⊢
  have hl : lv_has ls 3 [(0, .ref (h 0)), (1, .int p1), (2, .int p2)] := hl
  generalize hHe : s.heap = H at hP ⊢
  generalize hLe : ([] : List Loc) = locs
  have hS : va_S A s.heap H locs := by
    rw [← hLe, ← hHe]
    exact va_S.rf
  unfold s_X2_put at hs
  rw [x_X2_put_e] at hX
  have hV := v_X2_put_e κ p1 p2
  refine lv_iload_n hx hb dX2_put_0 rfl (lv_at hl 1 rfl) ?_
  have hx_1 : x_X2_needKey p1 = 0 := (x_of hX).1
  have hX := (x_of hX).2
  have hs := hs hx_1
  have hPc := hP.sub (ws' := eW) [] rfl
  have hDc := hD.sub (ws' := eW) [] (by decide) rfl
  refine rcV (W2 := fun _ => kW cI h κ) (va_runS (As := [.int p1]) (rest := []) ⟨hx, hb, hml, hown, hts⟩ (c_X2_needKey l dC dI cI H.size p1 hx_1) (va_cwS 1 hts gX2_put_X2_needKey rfl rfl rfl (by decide +kernel) ⟨Nat.le_of_ble_eq_true rfl, Nat.le_of_ble_eq_true rfl⟩) (pW_S hPc hK hDc) rfl rfl hl.1 rfl (lv_room (Nat.le_of_ble_eq_true rfl)) dX2_put_1 ⟨Nat.le_of_ble_eq_true rfl, Nat.le_of_ble_eq_true rfl⟩) hP hD hS hA [] [0, 1, 2, 3, 4, 5, 6, 7, 8, 9] [0, 1, 2, 3, 4, 5, 6, 7, 8, 9] rfl rfl (by decide) (fun _ => rfl) (fun u_1 H locs hw hP hD hS => ?_)
  refine lv_iload_n hx hb dX2_put_4 rfl (lv_at hl 2 rfl) ?_
  refine lv_if_lt (tgt := 15) hx hb dX2_put_5 (by decide) (fun c_5 => ?_) (fun c_5 => ?_)
  · skip
    have hs := hs.1 c_5
    rw [if_pos c_5] at hV
    rw [if_pos c_5] at hX
    exact absurd hX (by decide)
  · skip
    have hs := hs.2 c_5
    rw [if_neg c_5] at hV
    rw [if_neg c_5] at hX
    refine lv_iload_n hx hb dX2_put_8 rfl (lv_at hl 2 rfl) ?_
    refine lv_sipush (v := 9999) hx hb dX2_put_9 (by decide) ?_
    refine lv_icmp_le (tgt := 25) hx hb dX2_put_12 (by decide) (fun c_12 => ?_) (fun c_12 => ?_)
    · skip
      have hs := hs.1 c_12
      rw [if_pos c_12] at hV
      rw [if_pos c_12] at hX
      refine lv_aload_n hx hb dX2_put_25 rfl (lv_at hl 0 rfl) ?_
      have hx_26 : x_X2_needUp κ = 0 := (x_of hX).1
      have hX := (x_of hX).2
      have hs := hs hx_26
      have hPc := hP.sub (ws' := kW cI h κ) [0, 1, 2, 3, 4, 5, 6, 7, 8, 9] rfl
      have hDc := hD.sub (ws' := kW cI h κ) [0, 1, 2, 3, 4, 5, 6, 7, 8, 9] (by decide) rfl
      refine rcV (W2 := fun _ => kW cI h κ) (va_runV (As := []) (rest := []) ⟨hx, hb, hml, hown, hts⟩ (c_X2_needUp l dC dI cI h H.size κ hx_26) (cwV 0 hts gX2_put_X2_needUp rfl rfl rfl (by decide +kernel) ⟨Nat.le_of_ble_eq_true rfl, Nat.le_of_ble_eq_true rfl⟩) (pW_V hPc hK hDc (ci := 2) (q0 := 0) rfl rfl) rfl rfl hl.1 rfl (lv_room (Nat.le_of_ble_eq_true rfl)) dX2_put_26 ⟨Nat.le_of_ble_eq_true rfl, Nat.le_of_ble_eq_true rfl⟩) hP hD hS hA [0, 1, 2, 3, 4, 5, 6, 7, 8, 9] [] [0, 1, 2, 3, 4, 5, 6, 7, 8, 9] rfl rfl (by decide) (fun _ => rfl) (fun u_26 H locs hw hP hD hS => ?_)
      refine lv_aload_n hx hb dX2_put_29 rfl (lv_at hl 0 rfl) ?_
      refine lv_iconst (v := 1) hx hb dX2_put_30 (by decide) ?_
      have hx_31 : x_X2_needRoom κ 1 = 0 := (x_of hX).1
      have hX := (x_of hX).2
      have hs := hs hx_31
      have hPc := hP.sub (ws' := kW cI h κ) [0, 1, 2, 3, 4, 5, 6, 7, 8, 9] rfl
      have hDc := hD.sub (ws' := kW cI h κ) [0, 1, 2, 3, 4, 5, 6, 7, 8, 9] (by decide) rfl
      refine rcV (W2 := fun _ => kW cI h κ) (va_runV (As := [.int 1]) (rest := []) ⟨hx, hb, hml, hown, hts⟩ (c_X2_needRoom l dC dI cI h H.size κ 1 hx_31) (cwV 1 hts gX2_put_X2_needRoom rfl rfl rfl (by decide +kernel) ⟨Nat.le_of_ble_eq_true rfl, Nat.le_of_ble_eq_true rfl⟩) (pW_V hPc hK hDc (ci := 2) (q0 := 0) rfl rfl) rfl rfl hl.1 rfl (lv_room (Nat.le_of_ble_eq_true rfl)) dX2_put_31 ⟨Nat.le_of_ble_eq_true rfl, Nat.le_of_ble_eq_true rfl⟩) hP hD hS hA [0, 1, 2, 3, 4, 5, 6, 7, 8, 9] [] [0, 1, 2, 3, 4, 5, 6, 7, 8, 9] rfl rfl (by decide) (fun _ => rfl) (fun u_31 H locs hw hP hD hS => ?_)
      refine lv_aload_n hx hb dX2_put_34 rfl (lv_at hl 0 rfl) ?_
      refine lv_iload_n hx hb dX2_put_35 rfl (lv_at hl 1 rfl) ?_
      refine lv_iload_n hx hb dX2_put_36 rfl (lv_at hl 2 rfl) ?_
      have o_37 : s_X2_append κ p1 p2 := hs.1
      have hs := hs.2
      have hPc := hP.sub (ws' := kW cI h κ) [0, 1, 2, 3, 4, 5, 6, 7, 8, 9] rfl
      have hDc := hD.sub (ws' := kW cI h κ) [0, 1, 2, 3, 4, 5, 6, 7, 8, 9] (by decide) rfl
      refine rcI (W2 := fun u => kW cI h u) (va_runV (As := [.int p1, .int p2]) (rest := []) ⟨hx, hb, hml, hown, hts⟩ (c_X2_append l dC dI cI h H.size κ p1 p2 o_37) (cwV 2 hts gX2_put_X2_append rfl rfl rfl (by decide +kernel) ⟨Nat.le_of_ble_eq_true rfl, Nat.le_of_ble_eq_true rfl⟩) (pW_V hPc hK hDc (ci := 2) (q0 := 0) rfl rfl) rfl rfl hl.1 rfl (lv_room (Nat.le_of_ble_eq_true rfl)) dX2_put_37 ⟨Nat.le_of_ble_eq_true rfl, Nat.le_of_ble_eq_true rfl⟩) hP hD hS hA [0, 1, 2, 3, 4, 5, 6, 7, 8, 9] [] [0, 1, 2, 3, 4, 5, 6, 7, 8, 9] rfl rfl (by decide) (fun _ => rfl) (fun r_37 u_37 H locs hw hP hD hS => ?_)
      obtain ⟨hw, hw2⟩ := hw
      try rw [← hw] at hV
      try rw [← hw2] at hV
      exact rI (w := fun u => kW cI h u) (u_37) hx hb hr hlocks hP hD hS (Nat.le_of_ble_eq_true rfl) (Nat.le_of_ble_eq_true rfl) dX2_put_40 ⟨by rw [hV] <;> rfl, by rw [hV] <;> rfl⟩
    · skip
      have hs := hs.2 c_12
      rw [if_neg c_12] at hV
      rw [if_neg c_12] at hX
      exact absurd hX (by decide)
set_option maxHeartbeats 1000000 in
set_option maxRecDepth 100000 in
theorem b_X2_put (l : Launch) (hlt : l.stackTraces = false) (dC : Nat → ClassId) (dI : Nat → Nat → Nat) (cI : ClassId) (h : Nat → Nat) (sz : Nat) (κ : KS) (p1 : Int32) (p2 : Int32) (hX : ¬ x_X2_put κ p1 p2 = 0) (hs : s_X2_put κ p1 p2) : vx_Met l yX2_put wsX2_put ({ frames := 7, cells := 1, slots := 6, locals := 104 }) (va_Pc [.ref (h 0), .int p1, .int p2] (pX (dC, dI) [(cI, .int)] (kW cI h κ) sz)) bQ (xC (dC, dI) (va_A (kW cI h κ) sz) (kW cI h κ) (x_X2_put κ p1 p2)) 1 6 (va_A (kW cI h κ) sz) := by
  refine vx_ofW (cc := cX2_put) (maxL := 3) (ret := (some .int)) (by decide) rfl ?_
  intro p e s m args below meth c s₁ B hml ht hv
  obtain ⟨rfl, ⟨hsz, hP, hK, hD0⟩, hZ⟩ := hv
  have hx := B.exec
  have hb := B.bytes
  have hr := B.returns
  have hts := atoms_spec (ws := wsX2_put) B.pre
  have hown : s.vm.findClass RX2 = some m.cls := findClass_of_methodNamed B.named
  have hlocks := B.notSynchronized
  have hinX2 : ∀ w ∈ wsX20, w ∈ wsX2_put := by decide +kernel
  subst hsz
  have hD := hD0.self (sz := s.heap.size)
  generalize hAe : va_A (kW cI h κ) s.heap.size = A at hD hZ ⊢
  have hA : ∀ q : Nat, s.heap.size ≤ q → A q := fun q h => by rw [← hAe]; exact Or.inr h
  have hl := lv_entry ([.ref (h 0), .int p1, .int p2]) (n := 3) (Nat.le_of_ble_eq_true rfl)
  rw [lg_entry_eq]
  generalize (lg_sl ([.ref (h 0), .int p1, .int p2]) ++ List.replicate (3 - (lg_sl ([.ref (h 0), .int p1, .int p2])).length) Slot.unset).toArray = ls at hl ⊢
  have hl : lv_has ls 3 [(0, .ref (h 0)), (1, .int p1), (2, .int p2)] := hl
  generalize hHe : s.heap = H at hP ⊢
  generalize hLe : ([] : List Loc) = locs
  have hS : va_S A s.heap H locs := by
    rw [← hLe, ← hHe]
    exact va_S.rf
  unfold s_X2_put at hs
  have hE := x_X2_put_e κ p1 p2
  refine lv_iload_n hx hb dX2_put_0 rfl (lv_at hl 1 rfl) ?_
  have hPc := hP.sub (ws' := eW) [] rfl
  have hDc := hD.sub (ws' := eW) [] (by decide) rfl
  by_cases hx_1 : x_X2_needKey p1 = 0
  · have hs := hs hx_1
    rw [if_pos hx_1] at hE
    refine rcV (W2 := fun _ => kW cI h κ) (va_runS (As := [.int p1]) (rest := []) ⟨hx, hb, hml, hown, hts⟩ (c_X2_needKey l dC dI cI H.size p1 hx_1) (va_cwS 1 hts gX2_put_X2_needKey rfl rfl rfl (by decide +kernel) ⟨Nat.le_of_ble_eq_true rfl, Nat.le_of_ble_eq_true rfl⟩) (pW_S hPc hK hDc) rfl rfl hl.1 rfl (lv_room (Nat.le_of_ble_eq_true rfl)) dX2_put_1 ⟨Nat.le_of_ble_eq_true rfl, Nat.le_of_ble_eq_true rfl⟩) hP hD hS hA [] [0, 1, 2, 3, 4, 5, 6, 7, 8, 9] [0, 1, 2, 3, 4, 5, 6, 7, 8, 9] rfl rfl (by decide) (fun _ => rfl) (fun u_1 H locs hw hP hD hS => ?_)
    refine lv_iload_n hx hb dX2_put_4 rfl (lv_at hl 2 rfl) ?_
    refine lv_if_lt (tgt := 15) hx hb dX2_put_5 (by decide) (fun c_5 => ?_) (fun c_5 => ?_)
    · skip
      have hs := hs.1 c_5
      rw [if_pos c_5] at hE
      exact rT (cls := "java/lang/IllegalArgumentException") (text := "a value is 0 to 9999") (ik := 53) (is := 55) (ic := 57) hx hb hlt hown hts (by decide +kernel) (by decide +kernel) (by decide +kernel) (by decide +kernel) ats_b57 ats_g57 hZ (by decide +kernel) hS hD hP (by rw [hml]; exact hl.1) dX2_put_15 dX2_put_18 dX2_put_19 dX2_put_21 dX2_put_24 ht (Nat.le_of_ble_eq_true rfl) (Nat.le_of_ble_eq_true rfl) (Nat.le_of_ble_eq_true rfl) (Nat.le_of_ble_eq_true rfl) hlocks (by rw [hE]; exact Or.inl ⟨rfl, rfl⟩) (Nat.le_of_ble_eq_true rfl) (Nat.le_of_ble_eq_true rfl)
    · skip
      have hs := hs.2 c_5
      rw [if_neg c_5] at hE
      refine lv_iload_n hx hb dX2_put_8 rfl (lv_at hl 2 rfl) ?_
      refine lv_sipush (v := 9999) hx hb dX2_put_9 (by decide) ?_
      refine lv_icmp_le (tgt := 25) hx hb dX2_put_12 (by decide) (fun c_12 => ?_) (fun c_12 => ?_)
      · skip
        have hs := hs.1 c_12
        rw [if_pos c_12] at hE
        refine lv_aload_n hx hb dX2_put_25 rfl (lv_at hl 0 rfl) ?_
        have hPc := hP.sub (ws' := kW cI h κ) [0, 1, 2, 3, 4, 5, 6, 7, 8, 9] rfl
        have hDc := hD.sub (ws' := kW cI h κ) [0, 1, 2, 3, 4, 5, 6, 7, 8, 9] (by decide) rfl
        by_cases hx_26 : x_X2_needUp κ = 0
        · have hs := hs hx_26
          rw [if_pos hx_26] at hE
          refine rcV (W2 := fun _ => kW cI h κ) (va_runV (As := []) (rest := []) ⟨hx, hb, hml, hown, hts⟩ (c_X2_needUp l dC dI cI h H.size κ hx_26) (cwV 0 hts gX2_put_X2_needUp rfl rfl rfl (by decide +kernel) ⟨Nat.le_of_ble_eq_true rfl, Nat.le_of_ble_eq_true rfl⟩) (pW_V hPc hK hDc (ci := 2) (q0 := 0) rfl rfl) rfl rfl hl.1 rfl (lv_room (Nat.le_of_ble_eq_true rfl)) dX2_put_26 ⟨Nat.le_of_ble_eq_true rfl, Nat.le_of_ble_eq_true rfl⟩) hP hD hS hA [0, 1, 2, 3, 4, 5, 6, 7, 8, 9] [] [0, 1, 2, 3, 4, 5, 6, 7, 8, 9] rfl rfl (by decide) (fun _ => rfl) (fun u_26 H locs hw hP hD hS => ?_)
          refine lv_aload_n hx hb dX2_put_29 rfl (lv_at hl 0 rfl) ?_
          refine lv_iconst (v := 1) hx hb dX2_put_30 (by decide) ?_
          have hPc := hP.sub (ws' := kW cI h κ) [0, 1, 2, 3, 4, 5, 6, 7, 8, 9] rfl
          have hDc := hD.sub (ws' := kW cI h κ) [0, 1, 2, 3, 4, 5, 6, 7, 8, 9] (by decide) rfl
          by_cases hx_31 : x_X2_needRoom κ 1 = 0
          · have hs := hs hx_31
            rw [if_pos hx_31] at hE
            refine rcV (W2 := fun _ => kW cI h κ) (va_runV (As := [.int 1]) (rest := []) ⟨hx, hb, hml, hown, hts⟩ (c_X2_needRoom l dC dI cI h H.size κ 1 hx_31) (cwV 1 hts gX2_put_X2_needRoom rfl rfl rfl (by decide +kernel) ⟨Nat.le_of_ble_eq_true rfl, Nat.le_of_ble_eq_true rfl⟩) (pW_V hPc hK hDc (ci := 2) (q0 := 0) rfl rfl) rfl rfl hl.1 rfl (lv_room (Nat.le_of_ble_eq_true rfl)) dX2_put_31 ⟨Nat.le_of_ble_eq_true rfl, Nat.le_of_ble_eq_true rfl⟩) hP hD hS hA [0, 1, 2, 3, 4, 5, 6, 7, 8, 9] [] [0, 1, 2, 3, 4, 5, 6, 7, 8, 9] rfl rfl (by decide) (fun _ => rfl) (fun u_31 H locs hw hP hD hS => ?_)
            exact absurd hE hX
          · have hFc := va_free (wc := kW cI h κ) hD hS hA [0, 1, 2, 3, 4, 5, 6, 7, 8, 9] rfl
            exact rxO (vx_runV (As := [.int 1]) (rest := []) ⟨hx, hb, hml, hown, hts⟩ (b_X2_needRoom l hlt dC dI cI h H.size κ 1 hx_31) (cwV 1 hts gX2_put_X2_needRoom rfl rfl rfl (by decide +kernel) ⟨Nat.le_of_ble_eq_true rfl, Nat.le_of_ble_eq_true rfl⟩) (pX_V hPc hK hDc hZ hS hFc (ci := 2) (q0 := 0) rfl rfl) rfl rfl hl.1 rfl (lv_room (Nat.le_of_ble_eq_true rfl)) dX2_put_31 ⟨Nat.le_of_ble_eq_true rfl, Nat.le_of_ble_eq_true rfl⟩) hP hD hS hA [0, 1, 2, 3, 4, 5, 6, 7, 8, 9] [] [0, 1, 2, 3, 4, 5, 6, 7, 8, 9] rfl rfl (by decide) rfl ht hlocks (Nat.le_of_ble_eq_true rfl) (Nat.le_of_ble_eq_true rfl) (by rw [hE, if_neg hx_31])
        · have hFc := va_free (wc := kW cI h κ) hD hS hA [0, 1, 2, 3, 4, 5, 6, 7, 8, 9] rfl
          exact rxO (vx_runV (As := []) (rest := []) ⟨hx, hb, hml, hown, hts⟩ (b_X2_needUp l hlt dC dI cI h H.size κ hx_26) (cwV 0 hts gX2_put_X2_needUp rfl rfl rfl (by decide +kernel) ⟨Nat.le_of_ble_eq_true rfl, Nat.le_of_ble_eq_true rfl⟩) (pX_V hPc hK hDc hZ hS hFc (ci := 2) (q0 := 0) rfl rfl) rfl rfl hl.1 rfl (lv_room (Nat.le_of_ble_eq_true rfl)) dX2_put_26 ⟨Nat.le_of_ble_eq_true rfl, Nat.le_of_ble_eq_true rfl⟩) hP hD hS hA [0, 1, 2, 3, 4, 5, 6, 7, 8, 9] [] [0, 1, 2, 3, 4, 5, 6, 7, 8, 9] rfl rfl (by decide) rfl ht hlocks (Nat.le_of_ble_eq_true rfl) (Nat.le_of_ble_eq_true rfl) (by rw [hE, if_neg hx_26])
      · skip
        have hs := hs.2 c_12
        rw [if_neg c_12] at hE
        exact rT (cls := "java/lang/IllegalArgumentException") (text := "a value is 0 to 9999") (ik := 53) (is := 55) (ic := 57) hx hb hlt hown hts (by decide +kernel) (by decide +kernel) (by decide +kernel) (by decide +kernel) ats_b57 ats_g57 hZ (by decide +kernel) hS hD hP (by rw [hml]; exact hl.1) dX2_put_15 dX2_put_18 dX2_put_19 dX2_put_21 dX2_put_24 ht (Nat.le_of_ble_eq_true rfl) (Nat.le_of_ble_eq_true rfl) (Nat.le_of_ble_eq_true rfl) (Nat.le_of_ble_eq_true rfl) hlocks (by rw [hE]; exact Or.inl ⟨rfl, rfl⟩) (Nat.le_of_ble_eq_true rfl) (Nat.le_of_ble_eq_true rfl)
  · have hFc := va_free (wc := eW) hD hS hA [] rfl
    exact rxO (vx_runS (As := [.int p1]) (rest := []) ⟨hx, hb, hml, hown, hts⟩ (b_X2_needKey l hlt dC dI cI H.size p1 hx_1) (va_cwS 1 hts gX2_put_X2_needKey rfl rfl rfl (by decide +kernel) ⟨Nat.le_of_ble_eq_true rfl, Nat.le_of_ble_eq_true rfl⟩) (pX_S hPc hK hDc hZ hS hFc) rfl rfl hl.1 rfl (lv_room (Nat.le_of_ble_eq_true rfl)) dX2_put_1 ⟨Nat.le_of_ble_eq_true rfl, Nat.le_of_ble_eq_true rfl⟩) hP hD hS hA [] [0, 1, 2, 3, 4, 5, 6, 7, 8, 9] [0, 1, 2, 3, 4, 5, 6, 7, 8, 9] rfl rfl (by decide) rfl ht hlocks (Nat.le_of_ble_eq_true rfl) (Nat.le_of_ble_eq_true rfl) (by rw [hE, if_neg hx_1])
def v_X2_delete (κ : KS) (p1 : Int32) : Int32 × KS := if (v_X0_has (kIx κ) p1) = 0 then (0, κ) else ((v_X2_valueOf κ p1), ((v_X2_append κ p1 (-1)).2))
theorem v_X2_delete_e (κ : KS) (p1 : Int32) : v_X2_delete κ p1 = if (v_X0_has (kIx κ) p1) = 0 then (0, κ) else ((v_X2_valueOf κ p1), ((v_X2_append κ p1 (-1)).2)) := rfl
def x_X2_delete (κ : KS) (p1 : Int32) : Nat := if x_X2_needKey p1 = 0 then if x_X2_needUp κ = 0 then if (v_X0_has (kIx κ) p1) = 0 then 2 else if x_X2_needRoom κ 1 = 0 then 0 else x_X2_needRoom κ 1 else x_X2_needUp κ else x_X2_needKey p1
theorem x_X2_delete_e (κ : KS) (p1 : Int32) : x_X2_delete κ p1 = if x_X2_needKey p1 = 0 then if x_X2_needUp κ = 0 then if (v_X0_has (kIx κ) p1) = 0 then 2 else if x_X2_needRoom κ 1 = 0 then 0 else x_X2_needRoom κ 1 else x_X2_needUp κ else x_X2_needKey p1 := rfl
def s_X2_delete (κ : KS) (p1 : Int32) : Prop := (x_X2_needKey p1 = 0 → (x_X2_needUp κ = 0 → (((v_X0_has (kIx κ) p1) = 0 → True) ∧ (¬ (v_X0_has (kIx κ) p1) = 0 → (x_X2_needRoom κ 1 = 0 → (s_X2_valueOf κ p1 ∧ (s_X2_append κ p1 (-1) ∧ True)))))))
set_option maxHeartbeats 1000000 in
set_option maxRecDepth 100000 in
theorem c_X2_delete (l : Launch) (dC : Nat → ClassId) (dI : Nat → Nat → Nat) (cI : ClassId) (h : Nat → Nat) (sz : Nat) (κ : KS) (p1 : Int32) (hX : x_X2_delete κ p1 = 0) (hs : s_X2_delete κ p1) : Met l yX2_delete wsX2_delete ({ frames := 7, cells := 0, slots := 0, locals := 104 }) (va_Pc [.ref (h 0), .int p1] (pW (dC, dI) [(cI, .int)] (kW cI h κ) sz)) (va_Qi (fun (r : Int32) (u : KS) => r = (v_X2_delete κ p1).1 ∧ u = (v_X2_delete κ p1).2) (qW (dC, dI) (va_A (kW cI h κ) sz) (fun u => kW cI h u)) (va_A (kW cI h κ) sz)) 0 0 (va_A (kW cI h κ) sz) := by
  refine Met.ofW (cc := cX2_delete) (maxL := 3) (ret := (some .int)) (by decide) rfl ?_
  intro p e s m args below meth c s₁ B hml hv
  obtain ⟨rfl, hsz, hP, hK, hD0⟩ := hv
  have hx := B.exec
  have hb := B.bytes
  have hr := B.returns
  have hts := atoms_spec (ws := wsX2_delete) B.pre
  have hown : s.vm.findClass RX2 = some m.cls := findClass_of_methodNamed B.named
  have hlocks := B.notSynchronized
  have hinX2 : ∀ w ∈ wsX20, w ∈ wsX2_delete := by decide +kernel
  have hf19 := hts (.fieldLink RX2 19 "Keysapart" "index" "LKeysapart$Index;") (by decide +kernel)
  subst hsz
  have hD := hD0.self (sz := s.heap.size)
  generalize hAe : va_A (kW cI h κ) s.heap.size = A at hD ⊢
  have hA : ∀ q : Nat, s.heap.size ≤ q → A q := fun q h => by rw [← hAe]; exact Or.inr h
  have hl := lv_entry ([.ref (h 0), .int p1]) (n := 3) (Nat.le_of_ble_eq_true rfl)
  rw [lg_entry_eq]
  generalize (lg_sl ([.ref (h 0), .int p1]) ++ List.replicate (3 - (lg_sl ([.ref (h 0), .int p1])).length) Slot.unset).toArray = ls at hl ⊢
  have hl : lv_has ls 3 [(0, .ref (h 0)), (1, .int p1)] := hl
  generalize hHe : s.heap = H at hP ⊢
  generalize hLe : ([] : List Loc) = locs
  have hS : va_S A s.heap H locs := by
    rw [← hLe, ← hHe]
    exact va_S.rf
  unfold s_X2_delete at hs
  rw [x_X2_delete_e] at hX
  have hV := v_X2_delete_e κ p1
  refine lv_iload_n hx hb dX2_delete_0 rfl (lv_at hl 1 rfl) ?_
  have hx_1 : x_X2_needKey p1 = 0 := (x_of hX).1
  have hX := (x_of hX).2
  have hs := hs hx_1
  have hPc := hP.sub (ws' := eW) [] rfl
  have hDc := hD.sub (ws' := eW) [] (by decide) rfl
  refine rcV (W2 := fun _ => kW cI h κ) (va_runS (As := [.int p1]) (rest := []) ⟨hx, hb, hml, hown, hts⟩ (c_X2_needKey l dC dI cI H.size p1 hx_1) (va_cwS 1 hts gX2_delete_X2_needKey rfl rfl rfl (by decide +kernel) ⟨Nat.le_of_ble_eq_true rfl, Nat.le_of_ble_eq_true rfl⟩) (pW_S hPc hK hDc) rfl rfl hl.1 rfl (lv_room (Nat.le_of_ble_eq_true rfl)) dX2_delete_1 ⟨Nat.le_of_ble_eq_true rfl, Nat.le_of_ble_eq_true rfl⟩) hP hD hS hA [] [0, 1, 2, 3, 4, 5, 6, 7, 8, 9] [0, 1, 2, 3, 4, 5, 6, 7, 8, 9] rfl rfl (by decide) (fun _ => rfl) (fun u_1 H locs hw hP hD hS => ?_)
  refine lv_aload_n hx hb dX2_delete_4 rfl (lv_at hl 0 rfl) ?_
  have hx_5 : x_X2_needUp κ = 0 := (x_of hX).1
  have hX := (x_of hX).2
  have hs := hs hx_5
  have hPc := hP.sub (ws' := kW cI h κ) [0, 1, 2, 3, 4, 5, 6, 7, 8, 9] rfl
  have hDc := hD.sub (ws' := kW cI h κ) [0, 1, 2, 3, 4, 5, 6, 7, 8, 9] (by decide) rfl
  refine rcV (W2 := fun _ => kW cI h κ) (va_runV (As := []) (rest := []) ⟨hx, hb, hml, hown, hts⟩ (c_X2_needUp l dC dI cI h H.size κ hx_5) (cwV 0 hts gX2_delete_X2_needUp rfl rfl rfl (by decide +kernel) ⟨Nat.le_of_ble_eq_true rfl, Nat.le_of_ble_eq_true rfl⟩) (pW_V hPc hK hDc (ci := 2) (q0 := 0) rfl rfl) rfl rfl hl.1 rfl (lv_room (Nat.le_of_ble_eq_true rfl)) dX2_delete_5 ⟨Nat.le_of_ble_eq_true rfl, Nat.le_of_ble_eq_true rfl⟩) hP hD hS hA [0, 1, 2, 3, 4, 5, 6, 7, 8, 9] [] [0, 1, 2, 3, 4, 5, 6, 7, 8, 9] rfl rfl (by decide) (fun _ => rfl) (fun u_5 H locs hw hP hD hS => ?_)
  refine lv_aload_n hx hb dX2_delete_8 rfl (lv_at hl 0 rfl) ?_
  refine va_get (D := (dC, dI)) (ci := 2) (v := .ref (h 2)) (C := RX2) (T := TX2) (N := 10) hx hb hts hinX2 hown hK hP 0 rfl rfl 1 (by decide) hf19 (fun _ h9 => h9) rfl dX2_delete_9 ?_
  refine lv_iload_n hx hb dX2_delete_12 rfl (lv_at hl 1 rfl) ?_
  have hPc := hP.sub (ws' := iW cI (h 2) (h 7) (kIx κ)) [2, 7] rfl
  have hDc := hD.sub (ws' := iW cI (h 2) (h 7) (kIx κ)) [2, 7] (by decide) rfl
  refine rcI (W2 := fun _ => kW cI h κ) (va_runV (As := [.int p1]) (rest := []) ⟨hx, hb, hml, hown, hts⟩ (c_X0_has l dC dI cI (h 2) (h 7) H.size (kIx κ) p1) (cwV 1 hts gX2_delete_X0_has rfl rfl rfl (by decide +kernel) ⟨Nat.le_of_ble_eq_true rfl, Nat.le_of_ble_eq_true rfl⟩) (pW_V hPc hK hDc (ci := 0) (q0 := 0) rfl rfl) rfl rfl hl.1 rfl (lv_room (Nat.le_of_ble_eq_true rfl)) dX2_delete_13 ⟨Nat.le_of_ble_eq_true rfl, Nat.le_of_ble_eq_true rfl⟩) hP hD hS hA [2, 7] [0, 1, 3, 4, 5, 6, 8, 9] [0, 1, 8, 2, 3, 4, 5, 9, 6, 7] rfl rfl (by decide) (fun _ => rfl) (fun r_13 u_13 H locs hw hP hD hS => ?_)
  obtain ⟨hw, hz_13⟩ := hw
  try rw [← hw] at hV
  try rw [← hw] at hs
  try rw [← hw] at hX
  refine lv_if_ne (tgt := 29) hx hb dX2_delete_16 (by decide) (fun c_16 => ?_) (fun c_16 => ?_)
  · skip
    have hs := hs.2 c_16
    rw [if_neg c_16] at hV
    rw [if_neg c_16] at hX
    refine lv_aload_n hx hb dX2_delete_29 rfl (lv_at hl 0 rfl) ?_
    refine lv_iconst (v := 1) hx hb dX2_delete_30 (by decide) ?_
    have hx_31 : x_X2_needRoom κ 1 = 0 := (x_of hX).1
    have hX := (x_of hX).2
    have hs := hs hx_31
    have hPc := hP.sub (ws' := kW cI h κ) [0, 1, 2, 3, 4, 5, 6, 7, 8, 9] rfl
    have hDc := hD.sub (ws' := kW cI h κ) [0, 1, 2, 3, 4, 5, 6, 7, 8, 9] (by decide) rfl
    refine rcV (W2 := fun _ => kW cI h κ) (va_runV (As := [.int 1]) (rest := []) ⟨hx, hb, hml, hown, hts⟩ (c_X2_needRoom l dC dI cI h H.size κ 1 hx_31) (cwV 1 hts gX2_delete_X2_needRoom rfl rfl rfl (by decide +kernel) ⟨Nat.le_of_ble_eq_true rfl, Nat.le_of_ble_eq_true rfl⟩) (pW_V hPc hK hDc (ci := 2) (q0 := 0) rfl rfl) rfl rfl hl.1 rfl (lv_room (Nat.le_of_ble_eq_true rfl)) dX2_delete_31 ⟨Nat.le_of_ble_eq_true rfl, Nat.le_of_ble_eq_true rfl⟩) hP hD hS hA [0, 1, 2, 3, 4, 5, 6, 7, 8, 9] [] [0, 1, 2, 3, 4, 5, 6, 7, 8, 9] rfl rfl (by decide) (fun _ => rfl) (fun u_31 H locs hw hP hD hS => ?_)
    refine lv_aload_n hx hb dX2_delete_34 rfl (lv_at hl 0 rfl) ?_
    refine lv_iload_n hx hb dX2_delete_35 rfl (lv_at hl 1 rfl) ?_
    have o_36 : s_X2_valueOf κ p1 := hs.1
    have hs := hs.2
    have hPc := hP.sub (ws' := kW cI h κ) [0, 1, 2, 3, 4, 5, 6, 7, 8, 9] rfl
    have hDc := hD.sub (ws' := kW cI h κ) [0, 1, 2, 3, 4, 5, 6, 7, 8, 9] (by decide) rfl
    refine rcI (W2 := fun _ => kW cI h κ) (va_runV (As := [.int p1]) (rest := []) ⟨hx, hb, hml, hown, hts⟩ (c_X2_valueOf l dC dI cI h H.size κ p1 o_36) (cwV 1 hts gX2_delete_X2_valueOf rfl rfl rfl (by decide +kernel) ⟨Nat.le_of_ble_eq_true rfl, Nat.le_of_ble_eq_true rfl⟩) (pW_V hPc hK hDc (ci := 2) (q0 := 0) rfl rfl) rfl rfl hl.1 rfl (lv_room (Nat.le_of_ble_eq_true rfl)) dX2_delete_36 ⟨Nat.le_of_ble_eq_true rfl, Nat.le_of_ble_eq_true rfl⟩) hP hD hS hA [0, 1, 2, 3, 4, 5, 6, 7, 8, 9] [] [0, 1, 2, 3, 4, 5, 6, 7, 8, 9] rfl rfl (by decide) (fun _ => rfl) (fun r_36 u_36 H locs hw hP hD hS => ?_)
    try rw [← hw] at hV
    try rw [← hw] at hs
    refine lv_istore_n (lv' := [(2, .int r_36), (0, .ref (h 0)), (1, .int p1)]) hx hb dX2_delete_39 rfl hl (by decide) rfl (fun ls hl => ?_)
    refine lv_aload_n hx hb dX2_delete_40 rfl (lv_at hl 1 rfl) ?_
    refine lv_iload_n hx hb dX2_delete_41 rfl (lv_at hl 2 rfl) ?_
    refine lv_iconst (v := (-1)) hx hb dX2_delete_42 (by decide) ?_
    have o_43 : s_X2_append κ p1 (-1) := hs.1
    have hs := hs.2
    have hPc := hP.sub (ws' := kW cI h κ) [0, 1, 2, 3, 4, 5, 6, 7, 8, 9] rfl
    have hDc := hD.sub (ws' := kW cI h κ) [0, 1, 2, 3, 4, 5, 6, 7, 8, 9] (by decide) rfl
    refine rcI (W2 := fun u => kW cI h u) (va_runV (As := [.int p1, .int (-1)]) (rest := []) ⟨hx, hb, hml, hown, hts⟩ (c_X2_append l dC dI cI h H.size κ p1 (-1) o_43) (cwV 2 hts gX2_delete_X2_append rfl rfl rfl (by decide +kernel) ⟨Nat.le_of_ble_eq_true rfl, Nat.le_of_ble_eq_true rfl⟩) (pW_V hPc hK hDc (ci := 2) (q0 := 0) rfl rfl) rfl rfl hl.1 rfl (lv_room (Nat.le_of_ble_eq_true rfl)) dX2_delete_43 ⟨Nat.le_of_ble_eq_true rfl, Nat.le_of_ble_eq_true rfl⟩) hP hD hS hA [0, 1, 2, 3, 4, 5, 6, 7, 8, 9] [] [0, 1, 2, 3, 4, 5, 6, 7, 8, 9] rfl rfl (by decide) (fun _ => rfl) (fun r_43 u_43 H locs hw hP hD hS => ?_)
    obtain ⟨hw, hw2⟩ := hw
    try rw [← hw] at hV
    try rw [← hw2] at hV
    refine lv_pop hx hb dX2_delete_46 rfl ?_
    refine lv_iload_n hx hb dX2_delete_47 rfl (lv_at hl 0 rfl) ?_
    exact rI (w := fun u => kW cI h u) (u_43) hx hb hr hlocks hP hD hS (Nat.le_of_ble_eq_true rfl) (Nat.le_of_ble_eq_true rfl) dX2_delete_48 ⟨by rw [hV] <;> rfl, by rw [hV] <;> rfl⟩
  · skip
    have hs := hs.1 c_16
    rw [if_pos c_16] at hV
    rw [if_pos c_16] at hX
    exact absurd hX (by decide)
set_option maxHeartbeats 1000000 in
set_option maxRecDepth 100000 in
theorem b_X2_delete (l : Launch) (hlt : l.stackTraces = false) (dC : Nat → ClassId) (dI : Nat → Nat → Nat) (cI : ClassId) (h : Nat → Nat) (sz : Nat) (κ : KS) (p1 : Int32) (hX : ¬ x_X2_delete κ p1 = 0) (hs : s_X2_delete κ p1) : vx_Met l yX2_delete wsX2_delete ({ frames := 7, cells := 1, slots := 6, locals := 104 }) (va_Pc [.ref (h 0), .int p1] (pX (dC, dI) [(cI, .int)] (kW cI h κ) sz)) bQ (xC (dC, dI) (va_A (kW cI h κ) sz) (kW cI h κ) (x_X2_delete κ p1)) 1 6 (va_A (kW cI h κ) sz) := by
  refine vx_ofW (cc := cX2_delete) (maxL := 3) (ret := (some .int)) (by decide) rfl ?_
  intro p e s m args below meth c s₁ B hml ht hv
  obtain ⟨rfl, ⟨hsz, hP, hK, hD0⟩, hZ⟩ := hv
  have hx := B.exec
  have hb := B.bytes
  have hr := B.returns
  have hts := atoms_spec (ws := wsX2_delete) B.pre
  have hown : s.vm.findClass RX2 = some m.cls := findClass_of_methodNamed B.named
  have hlocks := B.notSynchronized
  have hinX2 : ∀ w ∈ wsX20, w ∈ wsX2_delete := by decide +kernel
  have hf19 := hts (.fieldLink RX2 19 "Keysapart" "index" "LKeysapart$Index;") (by decide +kernel)
  subst hsz
  have hD := hD0.self (sz := s.heap.size)
  generalize hAe : va_A (kW cI h κ) s.heap.size = A at hD hZ ⊢
  have hA : ∀ q : Nat, s.heap.size ≤ q → A q := fun q h => by rw [← hAe]; exact Or.inr h
  have hl := lv_entry ([.ref (h 0), .int p1]) (n := 3) (Nat.le_of_ble_eq_true rfl)
  rw [lg_entry_eq]
  generalize (lg_sl ([.ref (h 0), .int p1]) ++ List.replicate (3 - (lg_sl ([.ref (h 0), .int p1])).length) Slot.unset).toArray = ls at hl ⊢
  have hl : lv_has ls 3 [(0, .ref (h 0)), (1, .int p1)] := hl
  generalize hHe : s.heap = H at hP ⊢
  generalize hLe : ([] : List Loc) = locs
  have hS : va_S A s.heap H locs := by
    rw [← hLe, ← hHe]
    exact va_S.rf
  unfold s_X2_delete at hs
  have hE := x_X2_delete_e κ p1
  refine lv_iload_n hx hb dX2_delete_0 rfl (lv_at hl 1 rfl) ?_
  have hPc := hP.sub (ws' := eW) [] rfl
  have hDc := hD.sub (ws' := eW) [] (by decide) rfl
  by_cases hx_1 : x_X2_needKey p1 = 0
  · have hs := hs hx_1
    rw [if_pos hx_1] at hE
    refine rcV (W2 := fun _ => kW cI h κ) (va_runS (As := [.int p1]) (rest := []) ⟨hx, hb, hml, hown, hts⟩ (c_X2_needKey l dC dI cI H.size p1 hx_1) (va_cwS 1 hts gX2_delete_X2_needKey rfl rfl rfl (by decide +kernel) ⟨Nat.le_of_ble_eq_true rfl, Nat.le_of_ble_eq_true rfl⟩) (pW_S hPc hK hDc) rfl rfl hl.1 rfl (lv_room (Nat.le_of_ble_eq_true rfl)) dX2_delete_1 ⟨Nat.le_of_ble_eq_true rfl, Nat.le_of_ble_eq_true rfl⟩) hP hD hS hA [] [0, 1, 2, 3, 4, 5, 6, 7, 8, 9] [0, 1, 2, 3, 4, 5, 6, 7, 8, 9] rfl rfl (by decide) (fun _ => rfl) (fun u_1 H locs hw hP hD hS => ?_)
    refine lv_aload_n hx hb dX2_delete_4 rfl (lv_at hl 0 rfl) ?_
    have hPc := hP.sub (ws' := kW cI h κ) [0, 1, 2, 3, 4, 5, 6, 7, 8, 9] rfl
    have hDc := hD.sub (ws' := kW cI h κ) [0, 1, 2, 3, 4, 5, 6, 7, 8, 9] (by decide) rfl
    by_cases hx_5 : x_X2_needUp κ = 0
    · have hs := hs hx_5
      rw [if_pos hx_5] at hE
      refine rcV (W2 := fun _ => kW cI h κ) (va_runV (As := []) (rest := []) ⟨hx, hb, hml, hown, hts⟩ (c_X2_needUp l dC dI cI h H.size κ hx_5) (cwV 0 hts gX2_delete_X2_needUp rfl rfl rfl (by decide +kernel) ⟨Nat.le_of_ble_eq_true rfl, Nat.le_of_ble_eq_true rfl⟩) (pW_V hPc hK hDc (ci := 2) (q0 := 0) rfl rfl) rfl rfl hl.1 rfl (lv_room (Nat.le_of_ble_eq_true rfl)) dX2_delete_5 ⟨Nat.le_of_ble_eq_true rfl, Nat.le_of_ble_eq_true rfl⟩) hP hD hS hA [0, 1, 2, 3, 4, 5, 6, 7, 8, 9] [] [0, 1, 2, 3, 4, 5, 6, 7, 8, 9] rfl rfl (by decide) (fun _ => rfl) (fun u_5 H locs hw hP hD hS => ?_)
      refine lv_aload_n hx hb dX2_delete_8 rfl (lv_at hl 0 rfl) ?_
      refine va_get (D := (dC, dI)) (ci := 2) (v := .ref (h 2)) (C := RX2) (T := TX2) (N := 10) hx hb hts hinX2 hown hK hP 0 rfl rfl 1 (by decide) hf19 (fun _ h9 => h9) rfl dX2_delete_9 ?_
      refine lv_iload_n hx hb dX2_delete_12 rfl (lv_at hl 1 rfl) ?_
      have hPc := hP.sub (ws' := iW cI (h 2) (h 7) (kIx κ)) [2, 7] rfl
      have hDc := hD.sub (ws' := iW cI (h 2) (h 7) (kIx κ)) [2, 7] (by decide) rfl
      refine rcI (W2 := fun _ => kW cI h κ) (va_runV (As := [.int p1]) (rest := []) ⟨hx, hb, hml, hown, hts⟩ (c_X0_has l dC dI cI (h 2) (h 7) H.size (kIx κ) p1) (cwV 1 hts gX2_delete_X0_has rfl rfl rfl (by decide +kernel) ⟨Nat.le_of_ble_eq_true rfl, Nat.le_of_ble_eq_true rfl⟩) (pW_V hPc hK hDc (ci := 0) (q0 := 0) rfl rfl) rfl rfl hl.1 rfl (lv_room (Nat.le_of_ble_eq_true rfl)) dX2_delete_13 ⟨Nat.le_of_ble_eq_true rfl, Nat.le_of_ble_eq_true rfl⟩) hP hD hS hA [2, 7] [0, 1, 3, 4, 5, 6, 8, 9] [0, 1, 8, 2, 3, 4, 5, 9, 6, 7] rfl rfl (by decide) (fun _ => rfl) (fun r_13 u_13 H locs hw hP hD hS => ?_)
      obtain ⟨hw, hz_13⟩ := hw
      try rw [← hw] at hs
      try rw [← hw] at hE
      refine lv_if_ne (tgt := 29) hx hb dX2_delete_16 (by decide) (fun c_16 => ?_) (fun c_16 => ?_)
      · skip
        have hs := hs.2 c_16
        rw [if_neg c_16] at hE
        refine lv_aload_n hx hb dX2_delete_29 rfl (lv_at hl 0 rfl) ?_
        refine lv_iconst (v := 1) hx hb dX2_delete_30 (by decide) ?_
        have hPc := hP.sub (ws' := kW cI h κ) [0, 1, 2, 3, 4, 5, 6, 7, 8, 9] rfl
        have hDc := hD.sub (ws' := kW cI h κ) [0, 1, 2, 3, 4, 5, 6, 7, 8, 9] (by decide) rfl
        by_cases hx_31 : x_X2_needRoom κ 1 = 0
        · have hs := hs hx_31
          rw [if_pos hx_31] at hE
          refine rcV (W2 := fun _ => kW cI h κ) (va_runV (As := [.int 1]) (rest := []) ⟨hx, hb, hml, hown, hts⟩ (c_X2_needRoom l dC dI cI h H.size κ 1 hx_31) (cwV 1 hts gX2_delete_X2_needRoom rfl rfl rfl (by decide +kernel) ⟨Nat.le_of_ble_eq_true rfl, Nat.le_of_ble_eq_true rfl⟩) (pW_V hPc hK hDc (ci := 2) (q0 := 0) rfl rfl) rfl rfl hl.1 rfl (lv_room (Nat.le_of_ble_eq_true rfl)) dX2_delete_31 ⟨Nat.le_of_ble_eq_true rfl, Nat.le_of_ble_eq_true rfl⟩) hP hD hS hA [0, 1, 2, 3, 4, 5, 6, 7, 8, 9] [] [0, 1, 2, 3, 4, 5, 6, 7, 8, 9] rfl rfl (by decide) (fun _ => rfl) (fun u_31 H locs hw hP hD hS => ?_)
          exact absurd hE hX
        · have hFc := va_free (wc := kW cI h κ) hD hS hA [0, 1, 2, 3, 4, 5, 6, 7, 8, 9] rfl
          exact rxO (vx_runV (As := [.int 1]) (rest := []) ⟨hx, hb, hml, hown, hts⟩ (b_X2_needRoom l hlt dC dI cI h H.size κ 1 hx_31) (cwV 1 hts gX2_delete_X2_needRoom rfl rfl rfl (by decide +kernel) ⟨Nat.le_of_ble_eq_true rfl, Nat.le_of_ble_eq_true rfl⟩) (pX_V hPc hK hDc hZ hS hFc (ci := 2) (q0 := 0) rfl rfl) rfl rfl hl.1 rfl (lv_room (Nat.le_of_ble_eq_true rfl)) dX2_delete_31 ⟨Nat.le_of_ble_eq_true rfl, Nat.le_of_ble_eq_true rfl⟩) hP hD hS hA [0, 1, 2, 3, 4, 5, 6, 7, 8, 9] [] [0, 1, 2, 3, 4, 5, 6, 7, 8, 9] rfl rfl (by decide) rfl ht hlocks (Nat.le_of_ble_eq_true rfl) (Nat.le_of_ble_eq_true rfl) (by rw [hE, if_neg hx_31])
      · skip
        have hs := hs.1 c_16
        rw [if_pos c_16] at hE
        exact rT (cls := "java/lang/IllegalStateException") (text := "the key is not there") (ik := 74) (is := 76) (ic := 78) hx hb hlt hown hts (by decide +kernel) (by decide +kernel) (by decide +kernel) (by decide +kernel) ats_b78 ats_g78 hZ (by decide +kernel) hS hD hP (by rw [hml]; exact hl.1) dX2_delete_19 dX2_delete_22 dX2_delete_23 dX2_delete_25 dX2_delete_28 ht (Nat.le_of_ble_eq_true rfl) (Nat.le_of_ble_eq_true rfl) (Nat.le_of_ble_eq_true rfl) (Nat.le_of_ble_eq_true rfl) hlocks (by rw [hE]; exact Or.inr ⟨rfl, rfl⟩) (Nat.le_of_ble_eq_true rfl) (Nat.le_of_ble_eq_true rfl)
    · have hFc := va_free (wc := kW cI h κ) hD hS hA [0, 1, 2, 3, 4, 5, 6, 7, 8, 9] rfl
      exact rxO (vx_runV (As := []) (rest := []) ⟨hx, hb, hml, hown, hts⟩ (b_X2_needUp l hlt dC dI cI h H.size κ hx_5) (cwV 0 hts gX2_delete_X2_needUp rfl rfl rfl (by decide +kernel) ⟨Nat.le_of_ble_eq_true rfl, Nat.le_of_ble_eq_true rfl⟩) (pX_V hPc hK hDc hZ hS hFc (ci := 2) (q0 := 0) rfl rfl) rfl rfl hl.1 rfl (lv_room (Nat.le_of_ble_eq_true rfl)) dX2_delete_5 ⟨Nat.le_of_ble_eq_true rfl, Nat.le_of_ble_eq_true rfl⟩) hP hD hS hA [0, 1, 2, 3, 4, 5, 6, 7, 8, 9] [] [0, 1, 2, 3, 4, 5, 6, 7, 8, 9] rfl rfl (by decide) rfl ht hlocks (Nat.le_of_ble_eq_true rfl) (Nat.le_of_ble_eq_true rfl) (by rw [hE, if_neg hx_5])
  · have hFc := va_free (wc := eW) hD hS hA [] rfl
    exact rxO (vx_runS (As := [.int p1]) (rest := []) ⟨hx, hb, hml, hown, hts⟩ (b_X2_needKey l hlt dC dI cI H.size p1 hx_1) (va_cwS 1 hts gX2_delete_X2_needKey rfl rfl rfl (by decide +kernel) ⟨Nat.le_of_ble_eq_true rfl, Nat.le_of_ble_eq_true rfl⟩) (pX_S hPc hK hDc hZ hS hFc) rfl rfl hl.1 rfl (lv_room (Nat.le_of_ble_eq_true rfl)) dX2_delete_1 ⟨Nat.le_of_ble_eq_true rfl, Nat.le_of_ble_eq_true rfl⟩) hP hD hS hA [] [0, 1, 2, 3, 4, 5, 6, 7, 8, 9] [0, 1, 2, 3, 4, 5, 6, 7, 8, 9] rfl rfl (by decide) rfl ht hlocks (Nat.le_of_ble_eq_true rfl) (Nat.le_of_ble_eq_true rfl) (by rw [hE, if_neg hx_1])
def v_X2_get (κ : KS) (p1 : Int32) : Int32 := if (v_X0_has (kIx κ) p1) = 0 then (-1) else (v_X2_valueOf κ p1)
theorem v_X2_get_e (κ : KS) (p1 : Int32) : v_X2_get κ p1 = if (v_X0_has (kIx κ) p1) = 0 then (-1) else (v_X2_valueOf κ p1) := rfl
def x_X2_get (κ : KS) (p1 : Int32) : Nat := if x_X2_needKey p1 = 0 then if x_X2_needUp κ = 0 then 0 else x_X2_needUp κ else x_X2_needKey p1
theorem x_X2_get_e (κ : KS) (p1 : Int32) : x_X2_get κ p1 = if x_X2_needKey p1 = 0 then if x_X2_needUp κ = 0 then 0 else x_X2_needUp κ else x_X2_needKey p1 := rfl
def s_X2_get (κ : KS) (p1 : Int32) : Prop := (x_X2_needKey p1 = 0 → (x_X2_needUp κ = 0 → (((v_X0_has (kIx κ) p1) = 0 → True) ∧ (¬ (v_X0_has (kIx κ) p1) = 0 → (s_X2_valueOf κ p1 ∧ True)))))
set_option maxHeartbeats 1000000 in
set_option maxRecDepth 100000 in
theorem c_X2_get (l : Launch) (dC : Nat → ClassId) (dI : Nat → Nat → Nat) (cI : ClassId) (h : Nat → Nat) (sz : Nat) (κ : KS) (p1 : Int32) (hX : x_X2_get κ p1 = 0) (hs : s_X2_get κ p1) : Met l yX2_get wsX2_get ({ frames := 7, cells := 0, slots := 0, locals := 102 }) (va_Pc [.ref (h 0), .int p1] (pW (dC, dI) [(cI, .int)] (kW cI h κ) sz)) (va_Qi (fun (r : Int32) (u : Unit) => r = v_X2_get κ p1) (qW (dC, dI) (va_A (kW cI h κ) sz) (fun _ => kW cI h κ)) (va_A (kW cI h κ) sz)) 0 0 (va_A (kW cI h κ) sz) := by
  refine Met.ofW (cc := cX2_get) (maxL := 2) (ret := (some .int)) (by decide) rfl ?_
  intro p e s m args below meth c s₁ B hml hv
  obtain ⟨rfl, hsz, hP, hK, hD0⟩ := hv
  have hx := B.exec
  have hb := B.bytes
  have hr := B.returns
  have hts := atoms_spec (ws := wsX2_get) B.pre
  have hown : s.vm.findClass RX2 = some m.cls := findClass_of_methodNamed B.named
  have hlocks := B.notSynchronized
  have hinX2 : ∀ w ∈ wsX20, w ∈ wsX2_get := by decide +kernel
  have hf19 := hts (.fieldLink RX2 19 "Keysapart" "index" "LKeysapart$Index;") (by decide +kernel)
  subst hsz
  have hD := hD0.self (sz := s.heap.size)
  generalize hAe : va_A (kW cI h κ) s.heap.size = A at hD ⊢
  have hA : ∀ q : Nat, s.heap.size ≤ q → A q := fun q h => by rw [← hAe]; exact Or.inr h
  have hl := lv_entry ([.ref (h 0), .int p1]) (n := 2) (Nat.le_of_ble_eq_true rfl)
  rw [lg_entry_eq]
  generalize (lg_sl ([.ref (h 0), .int p1]) ++ List.replicate (2 - (lg_sl ([.ref (h 0), .int p1])).length) Slot.unset).toArray = ls at hl ⊢
  have hl : lv_has ls 2 [(0, .ref (h 0)), (1, .int p1)] := hl
  generalize hHe : s.heap = H at hP ⊢
  generalize hLe : ([] : List Loc) = locs
  have hS : va_S A s.heap H locs := by
    rw [← hLe, ← hHe]
    exact va_S.rf
  unfold s_X2_get at hs
  rw [x_X2_get_e] at hX
  have hV := v_X2_get_e κ p1
  refine lv_iload_n hx hb dX2_get_0 rfl (lv_at hl 1 rfl) ?_
  have hx_1 : x_X2_needKey p1 = 0 := (x_of hX).1
  have hX := (x_of hX).2
  have hs := hs hx_1
  have hPc := hP.sub (ws' := eW) [] rfl
  have hDc := hD.sub (ws' := eW) [] (by decide) rfl
  refine rcV (W2 := fun _ => kW cI h κ) (va_runS (As := [.int p1]) (rest := []) ⟨hx, hb, hml, hown, hts⟩ (c_X2_needKey l dC dI cI H.size p1 hx_1) (va_cwS 1 hts gX2_get_X2_needKey rfl rfl rfl (by decide +kernel) ⟨Nat.le_of_ble_eq_true rfl, Nat.le_of_ble_eq_true rfl⟩) (pW_S hPc hK hDc) rfl rfl hl.1 rfl (lv_room (Nat.le_of_ble_eq_true rfl)) dX2_get_1 ⟨Nat.le_of_ble_eq_true rfl, Nat.le_of_ble_eq_true rfl⟩) hP hD hS hA [] [0, 1, 2, 3, 4, 5, 6, 7, 8, 9] [0, 1, 2, 3, 4, 5, 6, 7, 8, 9] rfl rfl (by decide) (fun _ => rfl) (fun u_1 H locs hw hP hD hS => ?_)
  refine lv_aload_n hx hb dX2_get_4 rfl (lv_at hl 0 rfl) ?_
  have hx_5 : x_X2_needUp κ = 0 := (x_of hX).1
  have hX := (x_of hX).2
  have hs := hs hx_5
  have hPc := hP.sub (ws' := kW cI h κ) [0, 1, 2, 3, 4, 5, 6, 7, 8, 9] rfl
  have hDc := hD.sub (ws' := kW cI h κ) [0, 1, 2, 3, 4, 5, 6, 7, 8, 9] (by decide) rfl
  refine rcV (W2 := fun _ => kW cI h κ) (va_runV (As := []) (rest := []) ⟨hx, hb, hml, hown, hts⟩ (c_X2_needUp l dC dI cI h H.size κ hx_5) (cwV 0 hts gX2_get_X2_needUp rfl rfl rfl (by decide +kernel) ⟨Nat.le_of_ble_eq_true rfl, Nat.le_of_ble_eq_true rfl⟩) (pW_V hPc hK hDc (ci := 2) (q0 := 0) rfl rfl) rfl rfl hl.1 rfl (lv_room (Nat.le_of_ble_eq_true rfl)) dX2_get_5 ⟨Nat.le_of_ble_eq_true rfl, Nat.le_of_ble_eq_true rfl⟩) hP hD hS hA [0, 1, 2, 3, 4, 5, 6, 7, 8, 9] [] [0, 1, 2, 3, 4, 5, 6, 7, 8, 9] rfl rfl (by decide) (fun _ => rfl) (fun u_5 H locs hw hP hD hS => ?_)
  refine lv_aload_n hx hb dX2_get_8 rfl (lv_at hl 0 rfl) ?_
  refine va_get (D := (dC, dI)) (ci := 2) (v := .ref (h 2)) (C := RX2) (T := TX2) (N := 10) hx hb hts hinX2 hown hK hP 0 rfl rfl 1 (by decide) hf19 (fun _ h9 => h9) rfl dX2_get_9 ?_
  refine lv_iload_n hx hb dX2_get_12 rfl (lv_at hl 1 rfl) ?_
  have hPc := hP.sub (ws' := iW cI (h 2) (h 7) (kIx κ)) [2, 7] rfl
  have hDc := hD.sub (ws' := iW cI (h 2) (h 7) (kIx κ)) [2, 7] (by decide) rfl
  refine rcI (W2 := fun _ => kW cI h κ) (va_runV (As := [.int p1]) (rest := []) ⟨hx, hb, hml, hown, hts⟩ (c_X0_has l dC dI cI (h 2) (h 7) H.size (kIx κ) p1) (cwV 1 hts gX2_get_X0_has rfl rfl rfl (by decide +kernel) ⟨Nat.le_of_ble_eq_true rfl, Nat.le_of_ble_eq_true rfl⟩) (pW_V hPc hK hDc (ci := 0) (q0 := 0) rfl rfl) rfl rfl hl.1 rfl (lv_room (Nat.le_of_ble_eq_true rfl)) dX2_get_13 ⟨Nat.le_of_ble_eq_true rfl, Nat.le_of_ble_eq_true rfl⟩) hP hD hS hA [2, 7] [0, 1, 3, 4, 5, 6, 8, 9] [0, 1, 8, 2, 3, 4, 5, 9, 6, 7] rfl rfl (by decide) (fun _ => rfl) (fun r_13 u_13 H locs hw hP hD hS => ?_)
  obtain ⟨hw, hz_13⟩ := hw
  try rw [← hw] at hV
  try rw [← hw] at hs
  refine lv_if_eq (tgt := 27) hx hb dX2_get_16 (by decide) (fun c_16 => ?_) (fun c_16 => ?_)
  · skip
    have hs := hs.1 c_16
    rw [if_pos c_16] at hV
    refine lv_iconst (v := (-1)) hx hb dX2_get_27 (by decide) ?_
    exact rI (w := fun _ => kW cI h κ) (()) hx hb hr hlocks hP hD hS (Nat.le_of_ble_eq_true rfl) (Nat.le_of_ble_eq_true rfl) dX2_get_28 (by rw [hV] <;> rfl)
  · skip
    have hs := hs.2 c_16
    rw [if_neg c_16] at hV
    refine lv_aload_n hx hb dX2_get_19 rfl (lv_at hl 0 rfl) ?_
    refine lv_iload_n hx hb dX2_get_20 rfl (lv_at hl 1 rfl) ?_
    have o_21 : s_X2_valueOf κ p1 := hs.1
    have hs := hs.2
    have hPc := hP.sub (ws' := kW cI h κ) [0, 1, 2, 3, 4, 5, 6, 7, 8, 9] rfl
    have hDc := hD.sub (ws' := kW cI h κ) [0, 1, 2, 3, 4, 5, 6, 7, 8, 9] (by decide) rfl
    refine rcI (W2 := fun _ => kW cI h κ) (va_runV (As := [.int p1]) (rest := []) ⟨hx, hb, hml, hown, hts⟩ (c_X2_valueOf l dC dI cI h H.size κ p1 o_21) (cwV 1 hts gX2_get_X2_valueOf rfl rfl rfl (by decide +kernel) ⟨Nat.le_of_ble_eq_true rfl, Nat.le_of_ble_eq_true rfl⟩) (pW_V hPc hK hDc (ci := 2) (q0 := 0) rfl rfl) rfl rfl hl.1 rfl (lv_room (Nat.le_of_ble_eq_true rfl)) dX2_get_21 ⟨Nat.le_of_ble_eq_true rfl, Nat.le_of_ble_eq_true rfl⟩) hP hD hS hA [0, 1, 2, 3, 4, 5, 6, 7, 8, 9] [] [0, 1, 2, 3, 4, 5, 6, 7, 8, 9] rfl rfl (by decide) (fun _ => rfl) (fun r_21 u_21 H locs hw hP hD hS => ?_)
    try rw [← hw] at hV
    refine lv_goto (tgt := 28) hx hb dX2_get_24 (by decide) ?_
    exact rI (w := fun _ => kW cI h κ) (()) hx hb hr hlocks hP hD hS (Nat.le_of_ble_eq_true rfl) (Nat.le_of_ble_eq_true rfl) dX2_get_28 (by rw [hV] <;> rfl)
set_option maxHeartbeats 1000000 in
set_option maxRecDepth 100000 in
theorem b_X2_get (l : Launch) (hlt : l.stackTraces = false) (dC : Nat → ClassId) (dI : Nat → Nat → Nat) (cI : ClassId) (h : Nat → Nat) (sz : Nat) (κ : KS) (p1 : Int32) (hX : ¬ x_X2_get κ p1 = 0) (hs : s_X2_get κ p1) : vx_Met l yX2_get wsX2_get ({ frames := 7, cells := 1, slots := 6, locals := 102 }) (va_Pc [.ref (h 0), .int p1] (pX (dC, dI) [(cI, .int)] (kW cI h κ) sz)) bQ (xC (dC, dI) (va_A (kW cI h κ) sz) (kW cI h κ) (x_X2_get κ p1)) 1 6 (va_A (kW cI h κ) sz) := by
  refine vx_ofW (cc := cX2_get) (maxL := 2) (ret := (some .int)) (by decide) rfl ?_
  intro p e s m args below meth c s₁ B hml ht hv
  obtain ⟨rfl, ⟨hsz, hP, hK, hD0⟩, hZ⟩ := hv
  have hx := B.exec
  have hb := B.bytes
  have hr := B.returns
  have hts := atoms_spec (ws := wsX2_get) B.pre
  have hown : s.vm.findClass RX2 = some m.cls := findClass_of_methodNamed B.named
  have hlocks := B.notSynchronized
  have hinX2 : ∀ w ∈ wsX20, w ∈ wsX2_get := by decide +kernel
  have hf19 := hts (.fieldLink RX2 19 "Keysapart" "index" "LKeysapart$Index;") (by decide +kernel)
  subst hsz
  have hD := hD0.self (sz := s.heap.size)
  generalize hAe : va_A (kW cI h κ) s.heap.size = A at hD hZ ⊢
  have hA : ∀ q : Nat, s.heap.size ≤ q → A q := fun q h => by rw [← hAe]; exact Or.inr h
  have hl := lv_entry ([.ref (h 0), .int p1]) (n := 2) (Nat.le_of_ble_eq_true rfl)
  rw [lg_entry_eq]
  generalize (lg_sl ([.ref (h 0), .int p1]) ++ List.replicate (2 - (lg_sl ([.ref (h 0), .int p1])).length) Slot.unset).toArray = ls at hl ⊢
  have hl : lv_has ls 2 [(0, .ref (h 0)), (1, .int p1)] := hl
  generalize hHe : s.heap = H at hP ⊢
  generalize hLe : ([] : List Loc) = locs
  have hS : va_S A s.heap H locs := by
    rw [← hLe, ← hHe]
    exact va_S.rf
  unfold s_X2_get at hs
  have hE := x_X2_get_e κ p1
  refine lv_iload_n hx hb dX2_get_0 rfl (lv_at hl 1 rfl) ?_
  have hPc := hP.sub (ws' := eW) [] rfl
  have hDc := hD.sub (ws' := eW) [] (by decide) rfl
  by_cases hx_1 : x_X2_needKey p1 = 0
  · have hs := hs hx_1
    rw [if_pos hx_1] at hE
    refine rcV (W2 := fun _ => kW cI h κ) (va_runS (As := [.int p1]) (rest := []) ⟨hx, hb, hml, hown, hts⟩ (c_X2_needKey l dC dI cI H.size p1 hx_1) (va_cwS 1 hts gX2_get_X2_needKey rfl rfl rfl (by decide +kernel) ⟨Nat.le_of_ble_eq_true rfl, Nat.le_of_ble_eq_true rfl⟩) (pW_S hPc hK hDc) rfl rfl hl.1 rfl (lv_room (Nat.le_of_ble_eq_true rfl)) dX2_get_1 ⟨Nat.le_of_ble_eq_true rfl, Nat.le_of_ble_eq_true rfl⟩) hP hD hS hA [] [0, 1, 2, 3, 4, 5, 6, 7, 8, 9] [0, 1, 2, 3, 4, 5, 6, 7, 8, 9] rfl rfl (by decide) (fun _ => rfl) (fun u_1 H locs hw hP hD hS => ?_)
    refine lv_aload_n hx hb dX2_get_4 rfl (lv_at hl 0 rfl) ?_
    have hPc := hP.sub (ws' := kW cI h κ) [0, 1, 2, 3, 4, 5, 6, 7, 8, 9] rfl
    have hDc := hD.sub (ws' := kW cI h κ) [0, 1, 2, 3, 4, 5, 6, 7, 8, 9] (by decide) rfl
    by_cases hx_5 : x_X2_needUp κ = 0
    · have hs := hs hx_5
      rw [if_pos hx_5] at hE
      refine rcV (W2 := fun _ => kW cI h κ) (va_runV (As := []) (rest := []) ⟨hx, hb, hml, hown, hts⟩ (c_X2_needUp l dC dI cI h H.size κ hx_5) (cwV 0 hts gX2_get_X2_needUp rfl rfl rfl (by decide +kernel) ⟨Nat.le_of_ble_eq_true rfl, Nat.le_of_ble_eq_true rfl⟩) (pW_V hPc hK hDc (ci := 2) (q0 := 0) rfl rfl) rfl rfl hl.1 rfl (lv_room (Nat.le_of_ble_eq_true rfl)) dX2_get_5 ⟨Nat.le_of_ble_eq_true rfl, Nat.le_of_ble_eq_true rfl⟩) hP hD hS hA [0, 1, 2, 3, 4, 5, 6, 7, 8, 9] [] [0, 1, 2, 3, 4, 5, 6, 7, 8, 9] rfl rfl (by decide) (fun _ => rfl) (fun u_5 H locs hw hP hD hS => ?_)
      exact absurd hE hX
    · have hFc := va_free (wc := kW cI h κ) hD hS hA [0, 1, 2, 3, 4, 5, 6, 7, 8, 9] rfl
      exact rxO (vx_runV (As := []) (rest := []) ⟨hx, hb, hml, hown, hts⟩ (b_X2_needUp l hlt dC dI cI h H.size κ hx_5) (cwV 0 hts gX2_get_X2_needUp rfl rfl rfl (by decide +kernel) ⟨Nat.le_of_ble_eq_true rfl, Nat.le_of_ble_eq_true rfl⟩) (pX_V hPc hK hDc hZ hS hFc (ci := 2) (q0 := 0) rfl rfl) rfl rfl hl.1 rfl (lv_room (Nat.le_of_ble_eq_true rfl)) dX2_get_5 ⟨Nat.le_of_ble_eq_true rfl, Nat.le_of_ble_eq_true rfl⟩) hP hD hS hA [0, 1, 2, 3, 4, 5, 6, 7, 8, 9] [] [0, 1, 2, 3, 4, 5, 6, 7, 8, 9] rfl rfl (by decide) rfl ht hlocks (Nat.le_of_ble_eq_true rfl) (Nat.le_of_ble_eq_true rfl) (by rw [hE, if_neg hx_5])
  · have hFc := va_free (wc := eW) hD hS hA [] rfl
    exact rxO (vx_runS (As := [.int p1]) (rest := []) ⟨hx, hb, hml, hown, hts⟩ (b_X2_needKey l hlt dC dI cI H.size p1 hx_1) (va_cwS 1 hts gX2_get_X2_needKey rfl rfl rfl (by decide +kernel) ⟨Nat.le_of_ble_eq_true rfl, Nat.le_of_ble_eq_true rfl⟩) (pX_S hPc hK hDc hZ hS hFc) rfl rfl hl.1 rfl (lv_room (Nat.le_of_ble_eq_true rfl)) dX2_get_1 ⟨Nat.le_of_ble_eq_true rfl, Nat.le_of_ble_eq_true rfl⟩) hP hD hS hA [] [0, 1, 2, 3, 4, 5, 6, 7, 8, 9] [0, 1, 2, 3, 4, 5, 6, 7, 8, 9] rfl rfl (by decide) rfl ht hlocks (Nat.le_of_ble_eq_true rfl) (Nat.le_of_ble_eq_true rfl) (by rw [hE, if_neg hx_1])
def l_X2_next_10 (κ : KS) (y1 : Int32) : Nat → Int32 → Int32
  | 0, x2_10 => 0
  | n + 1, x2_10 => if 64 ≤ x2_10 then (-1) else if (v_X0_has (kIx κ) x2_10) = 0 then l_X2_next_10 κ y1 n (x2_10 + 1) else x2_10
theorem l_X2_next_10_s (κ : KS) (y1 : Int32) (n : Nat) (x2_10 : Int32) : l_X2_next_10 κ y1 (n + 1) x2_10 = if 64 ≤ x2_10 then (-1) else if (v_X0_has (kIx κ) x2_10) = 0 then l_X2_next_10 κ y1 n (x2_10 + 1) else x2_10 := rfl
def sl_X2_next_10 (κ : KS) (y1 : Int32) : Nat → Int32 → Prop
  | 0, x2_10 => False
  | n + 1, x2_10 => ((64 ≤ x2_10 → True) ∧ (¬ 64 ≤ x2_10 → (((v_X0_has (kIx κ) x2_10) = 0 → sl_X2_next_10 κ y1 n (x2_10 + 1)) ∧ (¬ (v_X0_has (kIx κ) x2_10) = 0 → True))))
theorem sl_X2_next_10_s (κ : KS) (y1 : Int32) (n : Nat) (x2_10 : Int32) : sl_X2_next_10 κ y1 (n + 1) x2_10 = ((64 ≤ x2_10 → True) ∧ (¬ 64 ≤ x2_10 → (((v_X0_has (kIx κ) x2_10) = 0 → sl_X2_next_10 κ y1 n (x2_10 + 1)) ∧ (¬ (v_X0_has (kIx κ) x2_10) = 0 → True)))) := rfl
def v_X2_next (κ : KS) (p1 : Int32) : Int32 := l_X2_next_10 κ p1 100 p1
theorem v_X2_next_e (κ : KS) (p1 : Int32) : v_X2_next κ p1 = l_X2_next_10 κ p1 100 p1 := rfl
def x_X2_next (κ : KS) (p1 : Int32) : Nat := if x_X2_needKey p1 = 0 then if x_X2_needUp κ = 0 then 0 else x_X2_needUp κ else x_X2_needKey p1
theorem x_X2_next_e (κ : KS) (p1 : Int32) : x_X2_next κ p1 = if x_X2_needKey p1 = 0 then if x_X2_needUp κ = 0 then 0 else x_X2_needUp κ else x_X2_needKey p1 := rfl
def s_X2_next (κ : KS) (p1 : Int32) : Prop := (x_X2_needKey p1 = 0 → (x_X2_needUp κ = 0 → (sl_X2_next_10 κ p1 100 p1 ∧ True)))
set_option maxHeartbeats 1000000 in
set_option maxRecDepth 100000 in
theorem c_X2_next (l : Launch) (dC : Nat → ClassId) (dI : Nat → Nat → Nat) (cI : ClassId) (h : Nat → Nat) (sz : Nat) (κ : KS) (p1 : Int32) (hX : x_X2_next κ p1 = 0) (hs : s_X2_next κ p1) : Met l yX2_next wsX2_next ({ frames := 7, cells := 0, slots := 0, locals := 102 }) (va_Pc [.ref (h 0), .int p1] (pW (dC, dI) [(cI, .int)] (kW cI h κ) sz)) (va_Qi (fun (r : Int32) (u : Unit) => r = v_X2_next κ p1) (qW (dC, dI) (va_A (kW cI h κ) sz) (fun _ => kW cI h κ)) (va_A (kW cI h κ) sz)) 0 0 (va_A (kW cI h κ) sz) := by
  refine Met.ofW (cc := cX2_next) (maxL := 3) (ret := (some .int)) (by decide) rfl ?_
  intro p e s m args below meth c s₁ B hml hv
  obtain ⟨rfl, hsz, hP, hK, hD0⟩ := hv
  have hx := B.exec
  have hb := B.bytes
  have hr := B.returns
  have hts := atoms_spec (ws := wsX2_next) B.pre
  have hown : s.vm.findClass RX2 = some m.cls := findClass_of_methodNamed B.named
  have hlocks := B.notSynchronized
  have hinX2 : ∀ w ∈ wsX20, w ∈ wsX2_next := by decide +kernel
  have hf19 := hts (.fieldLink RX2 19 "Keysapart" "index" "LKeysapart$Index;") (by decide +kernel)
  subst hsz
  have hD := hD0.self (sz := s.heap.size)
  generalize hAe : va_A (kW cI h κ) s.heap.size = A at hD ⊢
  have hA : ∀ q : Nat, s.heap.size ≤ q → A q := fun q h => by rw [← hAe]; exact Or.inr h
  have hl := lv_entry ([.ref (h 0), .int p1]) (n := 3) (Nat.le_of_ble_eq_true rfl)
  rw [lg_entry_eq]
  generalize (lg_sl ([.ref (h 0), .int p1]) ++ List.replicate (3 - (lg_sl ([.ref (h 0), .int p1])).length) Slot.unset).toArray = ls at hl ⊢
  have hl : lv_has ls 3 [(0, .ref (h 0)), (1, .int p1)] := hl
  generalize hHe : s.heap = H at hP ⊢
  generalize hLe : ([] : List Loc) = locs
  have hS : va_S A s.heap H locs := by
    rw [← hLe, ← hHe]
    exact va_S.rf
  unfold s_X2_next at hs
  rw [x_X2_next_e] at hX
  have hV := v_X2_next_e κ p1
  refine lv_iload_n hx hb dX2_next_0 rfl (lv_at hl 1 rfl) ?_
  have hx_1 : x_X2_needKey p1 = 0 := (x_of hX).1
  have hX := (x_of hX).2
  have hs := hs hx_1
  have hPc := hP.sub (ws' := eW) [] rfl
  have hDc := hD.sub (ws' := eW) [] (by decide) rfl
  refine rcV (W2 := fun _ => kW cI h κ) (va_runS (As := [.int p1]) (rest := []) ⟨hx, hb, hml, hown, hts⟩ (c_X2_needKey l dC dI cI H.size p1 hx_1) (va_cwS 1 hts gX2_next_X2_needKey rfl rfl rfl (by decide +kernel) ⟨Nat.le_of_ble_eq_true rfl, Nat.le_of_ble_eq_true rfl⟩) (pW_S hPc hK hDc) rfl rfl hl.1 rfl (lv_room (Nat.le_of_ble_eq_true rfl)) dX2_next_1 ⟨Nat.le_of_ble_eq_true rfl, Nat.le_of_ble_eq_true rfl⟩) hP hD hS hA [] [0, 1, 2, 3, 4, 5, 6, 7, 8, 9] [0, 1, 2, 3, 4, 5, 6, 7, 8, 9] rfl rfl (by decide) (fun _ => rfl) (fun u_1 H locs hw hP hD hS => ?_)
  refine lv_aload_n hx hb dX2_next_4 rfl (lv_at hl 0 rfl) ?_
  have hx_5 : x_X2_needUp κ = 0 := (x_of hX).1
  have hX := (x_of hX).2
  have hs := hs hx_5
  have hPc := hP.sub (ws' := kW cI h κ) [0, 1, 2, 3, 4, 5, 6, 7, 8, 9] rfl
  have hDc := hD.sub (ws' := kW cI h κ) [0, 1, 2, 3, 4, 5, 6, 7, 8, 9] (by decide) rfl
  refine rcV (W2 := fun _ => kW cI h κ) (va_runV (As := []) (rest := []) ⟨hx, hb, hml, hown, hts⟩ (c_X2_needUp l dC dI cI h H.size κ hx_5) (cwV 0 hts gX2_next_X2_needUp rfl rfl rfl (by decide +kernel) ⟨Nat.le_of_ble_eq_true rfl, Nat.le_of_ble_eq_true rfl⟩) (pW_V hPc hK hDc (ci := 2) (q0 := 0) rfl rfl) rfl rfl hl.1 rfl (lv_room (Nat.le_of_ble_eq_true rfl)) dX2_next_5 ⟨Nat.le_of_ble_eq_true rfl, Nat.le_of_ble_eq_true rfl⟩) hP hD hS hA [0, 1, 2, 3, 4, 5, 6, 7, 8, 9] [] [0, 1, 2, 3, 4, 5, 6, 7, 8, 9] rfl rfl (by decide) (fun _ => rfl) (fun u_5 H locs hw hP hD hS => ?_)
  refine lv_iload_n hx hb dX2_next_8 rfl (lv_at hl 1 rfl) ?_
  refine lv_istore_n (lv' := [(2, .int p1), (0, .ref (h 0)), (1, .int p1)]) hx hb dX2_next_9 rfl hl (by decide) rfl (fun ls hl => ?_)
  have o_l10 : sl_X2_next_10 κ p1 100 p1 := hs.1
  have hs := hs.2
  have loop_10 : ∀ (n : Nat) (x2_10 : Int32) (H : Heap) (locs : List Loc) (ls : Array Slot) (hs : sl_X2_next_10 κ p1 n x2_10) (hV : v_X2_next κ p1 = l_X2_next_10 κ p1 n x2_10) (hP : va_P (dC, dI) vwCl (kW cI h κ) H) (hD : va_D A (kW cI h κ)) (hS : va_S A s.heap H locs) (hl : lv_has ls 3 [(2, .int x2_10), (0, .ref (h 0)), (1, .int p1)]), W p l e (headSpec wsX2_next ({ frames := 7, cells := 0, slots := 0, locals := 102 })).room s m [.ref (h 0), .int p1].toArray below meth c H locs 0 0 (MQ below (va_Qi (fun (r : Int32) (u : Unit) => r = v_X2_next κ p1) (qW (dC, dI) A (fun _ => kW cI h κ)) A) [.ref (h 0), .int p1].toArray s 0 0 A) (F0 m 10 ls []) := by
    intro n
    induction n with
    | zero => intro x2_10 H locs ls hs; exact False.elim hs
    | succ n ih =>
      intro x2_10 H locs ls hs hV hP hD hS hl
      rw [sl_X2_next_10_s] at hs
      rw [l_X2_next_10_s] at hV
      refine lv_iload_n hx hb dX2_next_10 rfl (lv_at hl 0 rfl) ?_
      refine lv_bipush (v := 64) hx hb dX2_next_11 (by decide) ?_
      refine lv_icmp_ge (tgt := 35) hx hb dX2_next_13 (by decide) (fun c_13 => ?_) (fun c_13 => ?_)
      · skip
        have hs := hs.1 c_13
        rw [if_pos c_13] at hV
        refine lv_iconst (v := (-1)) hx hb dX2_next_35 (by decide) ?_
        exact rI (w := fun _ => kW cI h κ) (()) hx hb hr hlocks hP hD hS (Nat.le_of_ble_eq_true rfl) (Nat.le_of_ble_eq_true rfl) dX2_next_36 (by rw [hV] <;> rfl)
      · skip
        have hs := hs.2 c_13
        rw [if_neg c_13] at hV
        refine lv_aload_n hx hb dX2_next_16 rfl (lv_at hl 1 rfl) ?_
        refine va_get (D := (dC, dI)) (ci := 2) (v := .ref (h 2)) (C := RX2) (T := TX2) (N := 10) hx hb hts hinX2 hown hK hP 0 rfl rfl 1 (by decide) hf19 (fun _ h9 => h9) rfl dX2_next_17 ?_
        refine lv_iload_n hx hb dX2_next_20 rfl (lv_at hl 0 rfl) ?_
        have hPc := hP.sub (ws' := iW cI (h 2) (h 7) (kIx κ)) [2, 7] rfl
        have hDc := hD.sub (ws' := iW cI (h 2) (h 7) (kIx κ)) [2, 7] (by decide) rfl
        refine rcI (W2 := fun _ => kW cI h κ) (va_runV (As := [.int x2_10]) (rest := []) ⟨hx, hb, hml, hown, hts⟩ (c_X0_has l dC dI cI (h 2) (h 7) H.size (kIx κ) x2_10) (cwV 1 hts gX2_next_X0_has rfl rfl rfl (by decide +kernel) ⟨Nat.le_of_ble_eq_true rfl, Nat.le_of_ble_eq_true rfl⟩) (pW_V hPc hK hDc (ci := 0) (q0 := 0) rfl rfl) rfl rfl hl.1 rfl (lv_room (Nat.le_of_ble_eq_true rfl)) dX2_next_21 ⟨Nat.le_of_ble_eq_true rfl, Nat.le_of_ble_eq_true rfl⟩) hP hD hS hA [2, 7] [0, 1, 3, 4, 5, 6, 8, 9] [0, 1, 8, 2, 3, 4, 5, 9, 6, 7] rfl rfl (by decide) (fun _ => rfl) (fun r_21 u_21 H locs hw hP hD hS => ?_)
        obtain ⟨hw, hz_21⟩ := hw
        try rw [← hw] at hV
        try rw [← hw] at hs
        refine lv_if_eq (tgt := 29) hx hb dX2_next_24 (by decide) (fun c_24 => ?_) (fun c_24 => ?_)
        · skip
          have hs := hs.1 c_24
          rw [if_pos c_24] at hV
          refine lv_iinc (v := x2_10 + 1) (lv' := [(2, .int (x2_10 + 1)), (0, .ref (h 0)), (1, .int p1)]) hx hb dX2_next_29 hl (k := 0) rfl rfl (by decide) rfl (fun ls hl => ?_)
          refine lv_goto (tgt := 10) hx hb dX2_next_32 (by decide) ?_
          exact ih (x2_10 + 1) H locs ls hs hV hP hD hS (lv_sub hl [0, 1, 2] rfl)
        · skip
          have hs := hs.2 c_24
          rw [if_neg c_24] at hV
          refine lv_iload_n hx hb dX2_next_27 rfl (lv_at hl 0 rfl) ?_
          exact rI (w := fun _ => kW cI h κ) (()) hx hb hr hlocks hP hD hS (Nat.le_of_ble_eq_true rfl) (Nat.le_of_ble_eq_true rfl) dX2_next_28 (by rw [hV] <;> rfl)
  exact loop_10 100 p1 H locs ls o_l10 hV hP hD hS (lv_sub hl [0, 1, 2] rfl)
set_option maxHeartbeats 1000000 in
set_option maxRecDepth 100000 in
theorem b_X2_next (l : Launch) (hlt : l.stackTraces = false) (dC : Nat → ClassId) (dI : Nat → Nat → Nat) (cI : ClassId) (h : Nat → Nat) (sz : Nat) (κ : KS) (p1 : Int32) (hX : ¬ x_X2_next κ p1 = 0) (hs : s_X2_next κ p1) : vx_Met l yX2_next wsX2_next ({ frames := 7, cells := 1, slots := 6, locals := 102 }) (va_Pc [.ref (h 0), .int p1] (pX (dC, dI) [(cI, .int)] (kW cI h κ) sz)) bQ (xC (dC, dI) (va_A (kW cI h κ) sz) (kW cI h κ) (x_X2_next κ p1)) 1 6 (va_A (kW cI h κ) sz) := by
  refine vx_ofW (cc := cX2_next) (maxL := 3) (ret := (some .int)) (by decide) rfl ?_
  intro p e s m args below meth c s₁ B hml ht hv
  obtain ⟨rfl, ⟨hsz, hP, hK, hD0⟩, hZ⟩ := hv
  have hx := B.exec
  have hb := B.bytes
  have hr := B.returns
  have hts := atoms_spec (ws := wsX2_next) B.pre
  have hown : s.vm.findClass RX2 = some m.cls := findClass_of_methodNamed B.named
  have hlocks := B.notSynchronized
  have hinX2 : ∀ w ∈ wsX20, w ∈ wsX2_next := by decide +kernel
  have hf19 := hts (.fieldLink RX2 19 "Keysapart" "index" "LKeysapart$Index;") (by decide +kernel)
  subst hsz
  have hD := hD0.self (sz := s.heap.size)
  generalize hAe : va_A (kW cI h κ) s.heap.size = A at hD hZ ⊢
  have hA : ∀ q : Nat, s.heap.size ≤ q → A q := fun q h => by rw [← hAe]; exact Or.inr h
  have hl := lv_entry ([.ref (h 0), .int p1]) (n := 3) (Nat.le_of_ble_eq_true rfl)
  rw [lg_entry_eq]
  generalize (lg_sl ([.ref (h 0), .int p1]) ++ List.replicate (3 - (lg_sl ([.ref (h 0), .int p1])).length) Slot.unset).toArray = ls at hl ⊢
  have hl : lv_has ls 3 [(0, .ref (h 0)), (1, .int p1)] := hl
  generalize hHe : s.heap = H at hP ⊢
  generalize hLe : ([] : List Loc) = locs
  have hS : va_S A s.heap H locs := by
    rw [← hLe, ← hHe]
    exact va_S.rf
  unfold s_X2_next at hs
  have hE := x_X2_next_e κ p1
  refine lv_iload_n hx hb dX2_next_0 rfl (lv_at hl 1 rfl) ?_
  have hPc := hP.sub (ws' := eW) [] rfl
  have hDc := hD.sub (ws' := eW) [] (by decide) rfl
  by_cases hx_1 : x_X2_needKey p1 = 0
  · have hs := hs hx_1
    rw [if_pos hx_1] at hE
    refine rcV (W2 := fun _ => kW cI h κ) (va_runS (As := [.int p1]) (rest := []) ⟨hx, hb, hml, hown, hts⟩ (c_X2_needKey l dC dI cI H.size p1 hx_1) (va_cwS 1 hts gX2_next_X2_needKey rfl rfl rfl (by decide +kernel) ⟨Nat.le_of_ble_eq_true rfl, Nat.le_of_ble_eq_true rfl⟩) (pW_S hPc hK hDc) rfl rfl hl.1 rfl (lv_room (Nat.le_of_ble_eq_true rfl)) dX2_next_1 ⟨Nat.le_of_ble_eq_true rfl, Nat.le_of_ble_eq_true rfl⟩) hP hD hS hA [] [0, 1, 2, 3, 4, 5, 6, 7, 8, 9] [0, 1, 2, 3, 4, 5, 6, 7, 8, 9] rfl rfl (by decide) (fun _ => rfl) (fun u_1 H locs hw hP hD hS => ?_)
    refine lv_aload_n hx hb dX2_next_4 rfl (lv_at hl 0 rfl) ?_
    have hPc := hP.sub (ws' := kW cI h κ) [0, 1, 2, 3, 4, 5, 6, 7, 8, 9] rfl
    have hDc := hD.sub (ws' := kW cI h κ) [0, 1, 2, 3, 4, 5, 6, 7, 8, 9] (by decide) rfl
    by_cases hx_5 : x_X2_needUp κ = 0
    · have hs := hs hx_5
      rw [if_pos hx_5] at hE
      refine rcV (W2 := fun _ => kW cI h κ) (va_runV (As := []) (rest := []) ⟨hx, hb, hml, hown, hts⟩ (c_X2_needUp l dC dI cI h H.size κ hx_5) (cwV 0 hts gX2_next_X2_needUp rfl rfl rfl (by decide +kernel) ⟨Nat.le_of_ble_eq_true rfl, Nat.le_of_ble_eq_true rfl⟩) (pW_V hPc hK hDc (ci := 2) (q0 := 0) rfl rfl) rfl rfl hl.1 rfl (lv_room (Nat.le_of_ble_eq_true rfl)) dX2_next_5 ⟨Nat.le_of_ble_eq_true rfl, Nat.le_of_ble_eq_true rfl⟩) hP hD hS hA [0, 1, 2, 3, 4, 5, 6, 7, 8, 9] [] [0, 1, 2, 3, 4, 5, 6, 7, 8, 9] rfl rfl (by decide) (fun _ => rfl) (fun u_5 H locs hw hP hD hS => ?_)
      exact absurd hE hX
    · have hFc := va_free (wc := kW cI h κ) hD hS hA [0, 1, 2, 3, 4, 5, 6, 7, 8, 9] rfl
      exact rxO (vx_runV (As := []) (rest := []) ⟨hx, hb, hml, hown, hts⟩ (b_X2_needUp l hlt dC dI cI h H.size κ hx_5) (cwV 0 hts gX2_next_X2_needUp rfl rfl rfl (by decide +kernel) ⟨Nat.le_of_ble_eq_true rfl, Nat.le_of_ble_eq_true rfl⟩) (pX_V hPc hK hDc hZ hS hFc (ci := 2) (q0 := 0) rfl rfl) rfl rfl hl.1 rfl (lv_room (Nat.le_of_ble_eq_true rfl)) dX2_next_5 ⟨Nat.le_of_ble_eq_true rfl, Nat.le_of_ble_eq_true rfl⟩) hP hD hS hA [0, 1, 2, 3, 4, 5, 6, 7, 8, 9] [] [0, 1, 2, 3, 4, 5, 6, 7, 8, 9] rfl rfl (by decide) rfl ht hlocks (Nat.le_of_ble_eq_true rfl) (Nat.le_of_ble_eq_true rfl) (by rw [hE, if_neg hx_5])
  · have hFc := va_free (wc := eW) hD hS hA [] rfl
    exact rxO (vx_runS (As := [.int p1]) (rest := []) ⟨hx, hb, hml, hown, hts⟩ (b_X2_needKey l hlt dC dI cI H.size p1 hx_1) (va_cwS 1 hts gX2_next_X2_needKey rfl rfl rfl (by decide +kernel) ⟨Nat.le_of_ble_eq_true rfl, Nat.le_of_ble_eq_true rfl⟩) (pX_S hPc hK hDc hZ hS hFc) rfl rfl hl.1 rfl (lv_room (Nat.le_of_ble_eq_true rfl)) dX2_next_1 ⟨Nat.le_of_ble_eq_true rfl, Nat.le_of_ble_eq_true rfl⟩) hP hD hS hA [] [0, 1, 2, 3, 4, 5, 6, 7, 8, 9] [0, 1, 2, 3, 4, 5, 6, 7, 8, 9] rfl rfl (by decide) rfl ht hlocks (Nat.le_of_ble_eq_true rfl) (Nat.le_of_ble_eq_true rfl) (by rw [hE, if_neg hx_1])
def l_X2_sum_14 (κ : KS) (y1 : Int32) (y2 : Int32) : Nat → Int32 → Int32 → Int32 × Int32
  | 0, x3_14, x4_14 => (x3_14, x4_14)
  | n + 1, x3_14, x4_14 => if y2 < x4_14 then (x3_14, x4_14) else l_X2_sum_14 κ y1 y2 n (if (v_X0_has (kIx κ) x4_14) = 0 then x3_14 else (x3_14 + (v_X2_valueOf κ x4_14)) : Int32) (x4_14 + 1)
theorem l_X2_sum_14_s (κ : KS) (y1 : Int32) (y2 : Int32) (n : Nat) (x3_14 : Int32) (x4_14 : Int32) : l_X2_sum_14 κ y1 y2 (n + 1) x3_14 x4_14 = if y2 < x4_14 then (x3_14, x4_14) else l_X2_sum_14 κ y1 y2 n (if (v_X0_has (kIx κ) x4_14) = 0 then x3_14 else (x3_14 + (v_X2_valueOf κ x4_14)) : Int32) (x4_14 + 1) := rfl
def sl_X2_sum_14 (κ : KS) (y1 : Int32) (y2 : Int32) : Nat → Int32 → Int32 → Prop
  | 0, x3_14, x4_14 => False
  | n + 1, x3_14, x4_14 => ((y2 < x4_14 → True) ∧ (¬ y2 < x4_14 → ((((v_X0_has (kIx κ) x4_14) = 0 → True) ∧ (¬ (v_X0_has (kIx κ) x4_14) = 0 → (s_X2_valueOf κ x4_14 ∧ True))) ∧ sl_X2_sum_14 κ y1 y2 n (if (v_X0_has (kIx κ) x4_14) = 0 then x3_14 else (x3_14 + (v_X2_valueOf κ x4_14)) : Int32) (x4_14 + 1))))
theorem sl_X2_sum_14_s (κ : KS) (y1 : Int32) (y2 : Int32) (n : Nat) (x3_14 : Int32) (x4_14 : Int32) : sl_X2_sum_14 κ y1 y2 (n + 1) x3_14 x4_14 = ((y2 < x4_14 → True) ∧ (¬ y2 < x4_14 → ((((v_X0_has (kIx κ) x4_14) = 0 → True) ∧ (¬ (v_X0_has (kIx κ) x4_14) = 0 → (s_X2_valueOf κ x4_14 ∧ True))) ∧ sl_X2_sum_14 κ y1 y2 n (if (v_X0_has (kIx κ) x4_14) = 0 then x3_14 else (x3_14 + (v_X2_valueOf κ x4_14)) : Int32) (x4_14 + 1)))) := rfl
def v_X2_sum (κ : KS) (p1 : Int32) (p2 : Int32) : Int32 := (l_X2_sum_14 κ p1 p2 100 0 p1).1
theorem v_X2_sum_e (κ : KS) (p1 : Int32) (p2 : Int32) : v_X2_sum κ p1 p2 = (l_X2_sum_14 κ p1 p2 100 0 p1).1 := rfl
def x_X2_sum (κ : KS) (p1 : Int32) (p2 : Int32) : Nat := if x_X2_needRange p1 p2 = 0 then if x_X2_needUp κ = 0 then 0 else x_X2_needUp κ else x_X2_needRange p1 p2
theorem x_X2_sum_e (κ : KS) (p1 : Int32) (p2 : Int32) : x_X2_sum κ p1 p2 = if x_X2_needRange p1 p2 = 0 then if x_X2_needUp κ = 0 then 0 else x_X2_needUp κ else x_X2_needRange p1 p2 := rfl
def s_X2_sum (κ : KS) (p1 : Int32) (p2 : Int32) : Prop := (x_X2_needRange p1 p2 = 0 → (x_X2_needUp κ = 0 → (sl_X2_sum_14 κ p1 p2 100 0 p1 ∧ True)))
set_option maxHeartbeats 1000000 in
set_option maxRecDepth 100000 in
theorem c_X2_sum (l : Launch) (dC : Nat → ClassId) (dI : Nat → Nat → Nat) (cI : ClassId) (h : Nat → Nat) (sz : Nat) (κ : KS) (p1 : Int32) (p2 : Int32) (hX : x_X2_sum κ p1 p2 = 0) (hs : s_X2_sum κ p1 p2) : Met l yX2_sum wsX2_sum ({ frames := 8, cells := 0, slots := 0, locals := 123 }) (va_Pc [.ref (h 0), .int p1, .int p2] (pW (dC, dI) [(cI, .int)] (kW cI h κ) sz)) (va_Qi (fun (r : Int32) (u : Unit) => r = v_X2_sum κ p1 p2) (qW (dC, dI) (va_A (kW cI h κ) sz) (fun _ => kW cI h κ)) (va_A (kW cI h κ) sz)) 0 0 (va_A (kW cI h κ) sz) := by
  refine Met.ofW (cc := cX2_sum) (maxL := 5) (ret := (some .int)) (by decide) rfl ?_
  intro p e s m args below meth c s₁ B hml hv
  obtain ⟨rfl, hsz, hP, hK, hD0⟩ := hv
  have hx := B.exec
  have hb := B.bytes
  have hr := B.returns
  have hts := atoms_spec (ws := wsX2_sum) B.pre
  have hown : s.vm.findClass RX2 = some m.cls := findClass_of_methodNamed B.named
  have hlocks := B.notSynchronized
  have hinX2 : ∀ w ∈ wsX20, w ∈ wsX2_sum := by decide +kernel
  have hf19 := hts (.fieldLink RX2 19 "Keysapart" "index" "LKeysapart$Index;") (by decide +kernel)
  subst hsz
  have hD := hD0.self (sz := s.heap.size)
  generalize hAe : va_A (kW cI h κ) s.heap.size = A at hD ⊢
  have hA : ∀ q : Nat, s.heap.size ≤ q → A q := fun q h => by rw [← hAe]; exact Or.inr h
  have hl := lv_entry ([.ref (h 0), .int p1, .int p2]) (n := 5) (Nat.le_of_ble_eq_true rfl)
  rw [lg_entry_eq]
  generalize (lg_sl ([.ref (h 0), .int p1, .int p2]) ++ List.replicate (5 - (lg_sl ([.ref (h 0), .int p1, .int p2])).length) Slot.unset).toArray = ls at hl ⊢
  have hl : lv_has ls 5 [(0, .ref (h 0)), (1, .int p1), (2, .int p2)] := hl
  generalize hHe : s.heap = H at hP ⊢
  generalize hLe : ([] : List Loc) = locs
  have hS : va_S A s.heap H locs := by
    rw [← hLe, ← hHe]
    exact va_S.rf
  unfold s_X2_sum at hs
  rw [x_X2_sum_e] at hX
  have hV := v_X2_sum_e κ p1 p2
  refine lv_iload_n hx hb dX2_sum_0 rfl (lv_at hl 1 rfl) ?_
  refine lv_iload_n hx hb dX2_sum_1 rfl (lv_at hl 2 rfl) ?_
  have hx_2 : x_X2_needRange p1 p2 = 0 := (x_of hX).1
  have hX := (x_of hX).2
  have hs := hs hx_2
  have hPc := hP.sub (ws' := eW) [] rfl
  have hDc := hD.sub (ws' := eW) [] (by decide) rfl
  refine rcV (W2 := fun _ => kW cI h κ) (va_runS (As := [.int p1, .int p2]) (rest := []) ⟨hx, hb, hml, hown, hts⟩ (c_X2_needRange l dC dI cI H.size p1 p2 hx_2) (va_cwS 2 hts gX2_sum_X2_needRange rfl rfl rfl (by decide +kernel) ⟨Nat.le_of_ble_eq_true rfl, Nat.le_of_ble_eq_true rfl⟩) (pW_S hPc hK hDc) rfl rfl hl.1 rfl (lv_room (Nat.le_of_ble_eq_true rfl)) dX2_sum_2 ⟨Nat.le_of_ble_eq_true rfl, Nat.le_of_ble_eq_true rfl⟩) hP hD hS hA [] [0, 1, 2, 3, 4, 5, 6, 7, 8, 9] [0, 1, 2, 3, 4, 5, 6, 7, 8, 9] rfl rfl (by decide) (fun _ => rfl) (fun u_2 H locs hw hP hD hS => ?_)
  refine lv_aload_n hx hb dX2_sum_5 rfl (lv_at hl 0 rfl) ?_
  have hx_6 : x_X2_needUp κ = 0 := (x_of hX).1
  have hX := (x_of hX).2
  have hs := hs hx_6
  have hPc := hP.sub (ws' := kW cI h κ) [0, 1, 2, 3, 4, 5, 6, 7, 8, 9] rfl
  have hDc := hD.sub (ws' := kW cI h κ) [0, 1, 2, 3, 4, 5, 6, 7, 8, 9] (by decide) rfl
  refine rcV (W2 := fun _ => kW cI h κ) (va_runV (As := []) (rest := []) ⟨hx, hb, hml, hown, hts⟩ (c_X2_needUp l dC dI cI h H.size κ hx_6) (cwV 0 hts gX2_sum_X2_needUp rfl rfl rfl (by decide +kernel) ⟨Nat.le_of_ble_eq_true rfl, Nat.le_of_ble_eq_true rfl⟩) (pW_V hPc hK hDc (ci := 2) (q0 := 0) rfl rfl) rfl rfl hl.1 rfl (lv_room (Nat.le_of_ble_eq_true rfl)) dX2_sum_6 ⟨Nat.le_of_ble_eq_true rfl, Nat.le_of_ble_eq_true rfl⟩) hP hD hS hA [0, 1, 2, 3, 4, 5, 6, 7, 8, 9] [] [0, 1, 2, 3, 4, 5, 6, 7, 8, 9] rfl rfl (by decide) (fun _ => rfl) (fun u_6 H locs hw hP hD hS => ?_)
  refine lv_iconst (v := 0) hx hb dX2_sum_9 (by decide) ?_
  refine lv_istore_n (lv' := [(3, .int 0), (0, .ref (h 0)), (1, .int p1), (2, .int p2)]) hx hb dX2_sum_10 rfl hl (by decide) rfl (fun ls hl => ?_)
  refine lv_iload_n hx hb dX2_sum_11 rfl (lv_at hl 2 rfl) ?_
  refine lv_istore (lv' := [(4, .int p1), (3, .int 0), (0, .ref (h 0)), (1, .int p1), (2, .int p2)]) hx hb dX2_sum_12 hl (by decide) rfl (fun ls hl => ?_)
  have o_l14 : sl_X2_sum_14 κ p1 p2 100 0 p1 := hs.1
  have hs := hs.2
  have loop_14 : ∀ (n : Nat) (x3_14 : Int32) (x4_14 : Int32) (H : Heap) (locs : List Loc) (ls : Array Slot) (hs : sl_X2_sum_14 κ p1 p2 n x3_14 x4_14) (K : ∀ (z : Int32 × Int32) (hw : z = l_X2_sum_14 κ p1 p2 n x3_14 x4_14) (H : Heap) (locs : List Loc) (ls : Array Slot), va_P (dC, dI) vwCl (kW cI h κ) H → va_D A (kW cI h κ) → va_S A s.heap H locs → lv_has ls 5 [(3, .int z.1), (4, .int z.2), (0, .ref (h 0)), (1, .int p1), (2, .int p2)] → W p l e (headSpec wsX2_sum ({ frames := 8, cells := 0, slots := 0, locals := 123 })).room s m [.ref (h 0), .int p1, .int p2].toArray below meth c H locs 0 0 (MQ below (va_Qi (fun (r : Int32) (u : Unit) => r = v_X2_sum κ p1 p2) (qW (dC, dI) A (fun _ => kW cI h κ)) A) [.ref (h 0), .int p1, .int p2].toArray s 0 0 A) (F0 m 47 ls [])) (hP : va_P (dC, dI) vwCl (kW cI h κ) H) (hD : va_D A (kW cI h κ)) (hS : va_S A s.heap H locs) (hl : lv_has ls 5 [(3, .int x3_14), (4, .int x4_14), (0, .ref (h 0)), (1, .int p1), (2, .int p2)]), W p l e (headSpec wsX2_sum ({ frames := 8, cells := 0, slots := 0, locals := 123 })).room s m [.ref (h 0), .int p1, .int p2].toArray below meth c H locs 0 0 (MQ below (va_Qi (fun (r : Int32) (u : Unit) => r = v_X2_sum κ p1 p2) (qW (dC, dI) A (fun _ => kW cI h κ)) A) [.ref (h 0), .int p1, .int p2].toArray s 0 0 A) (F0 m 14 ls []) := by
    intro n
    induction n with
    | zero => intro x3_14 x4_14 H locs ls hs; exact False.elim hs
    | succ n ih =>
      intro x3_14 x4_14 H locs ls hs K hP hD hS hl
      rw [sl_X2_sum_14_s] at hs
      rw [l_X2_sum_14_s] at K
      refine lv_iload hx hb dX2_sum_14 (lv_at hl 1 rfl) ?_
      refine lv_iload_n hx hb dX2_sum_16 rfl (lv_at hl 4 rfl) ?_
      refine lv_icmp_gt (tgt := 47) hx hb dX2_sum_17 (by decide) (fun c_17 => ?_) (fun c_17 => ?_)
      · skip
        have hs := hs.1 c_17
        rw [if_pos c_17] at K
        exact K _ rfl H locs ls hP hD hS (lv_sub hl [0, 1, 2, 3, 4] rfl)
      · skip
        have hs := hs.2 c_17
        rw [if_neg c_17] at K
        refine lv_aload_n hx hb dX2_sum_20 rfl (lv_at hl 2 rfl) ?_
        refine va_get (D := (dC, dI)) (ci := 2) (v := .ref (h 2)) (C := RX2) (T := TX2) (N := 10) hx hb hts hinX2 hown hK hP 0 rfl rfl 1 (by decide) hf19 (fun _ h9 => h9) rfl dX2_sum_21 ?_
        refine lv_iload hx hb dX2_sum_24 (lv_at hl 1 rfl) ?_
        have hPc := hP.sub (ws' := iW cI (h 2) (h 7) (kIx κ)) [2, 7] rfl
        have hDc := hD.sub (ws' := iW cI (h 2) (h 7) (kIx κ)) [2, 7] (by decide) rfl
        refine rcI (W2 := fun _ => kW cI h κ) (va_runV (As := [.int x4_14]) (rest := []) ⟨hx, hb, hml, hown, hts⟩ (c_X0_has l dC dI cI (h 2) (h 7) H.size (kIx κ) x4_14) (cwV 1 hts gX2_sum_X0_has rfl rfl rfl (by decide +kernel) ⟨Nat.le_of_ble_eq_true rfl, Nat.le_of_ble_eq_true rfl⟩) (pW_V hPc hK hDc (ci := 0) (q0 := 0) rfl rfl) rfl rfl hl.1 rfl (lv_room (Nat.le_of_ble_eq_true rfl)) dX2_sum_26 ⟨Nat.le_of_ble_eq_true rfl, Nat.le_of_ble_eq_true rfl⟩) hP hD hS hA [2, 7] [0, 1, 3, 4, 5, 6, 8, 9] [0, 1, 8, 2, 3, 4, 5, 9, 6, 7] rfl rfl (by decide) (fun _ => rfl) (fun r_26 u_26 H locs hw hP hD hS => ?_)
        obtain ⟨hw, hz_26⟩ := hw
        try rw [← hw] at K
        try rw [← hw] at hs
        suffices J_29 : ∀ (H : Heap) (locs : List Loc) (ls : Array Slot), va_P (dC, dI) vwCl (kW cI h κ) H → va_D A (kW cI h κ) → va_S A s.heap H locs → lv_has ls 5 [(3, .int (if r_26 = 0 then x3_14 else (x3_14 + (v_X2_valueOf κ x4_14)) : Int32)), (4, .int x4_14), (0, .ref (h 0)), (1, .int p1), (2, .int p2)] → W p l e (headSpec wsX2_sum ({ frames := 8, cells := 0, slots := 0, locals := 123 })).room s m [.ref (h 0), .int p1, .int p2].toArray below meth c H locs 0 0 (MQ below (va_Qi (fun (r : Int32) (u : Unit) => r = v_X2_sum κ p1 p2) (qW (dC, dI) A (fun _ => kW cI h κ)) A) [.ref (h 0), .int p1, .int p2].toArray s 0 0 A) (F0 m 41 ls []) by
          have hs := hs.1
          refine lv_if_eq (tgt := 41) hx hb dX2_sum_29 (by decide) (fun c_29 => ?_) (fun c_29 => ?_)
          · skip
            have hs := hs.1 c_29
            rw [if_pos c_29] at J_29
            exact J_29 H locs ls hP hD hS (lv_sub hl [0, 1, 2, 3, 4] rfl)
          · skip
            have hs := hs.2 c_29
            rw [if_neg c_29] at J_29
            refine lv_iload_n hx hb dX2_sum_32 rfl (lv_at hl 0 rfl) ?_
            refine lv_aload_n hx hb dX2_sum_33 rfl (lv_at hl 2 rfl) ?_
            refine lv_iload hx hb dX2_sum_34 (lv_at hl 1 rfl) ?_
            have o_36 : s_X2_valueOf κ x4_14 := hs.1
            have hs := hs.2
            have hPc := hP.sub (ws' := kW cI h κ) [0, 1, 2, 3, 4, 5, 6, 7, 8, 9] rfl
            have hDc := hD.sub (ws' := kW cI h κ) [0, 1, 2, 3, 4, 5, 6, 7, 8, 9] (by decide) rfl
            refine rcI (W2 := fun _ => kW cI h κ) (va_runV (As := [.int x4_14]) (rest := [.int x3_14]) ⟨hx, hb, hml, hown, hts⟩ (c_X2_valueOf l dC dI cI h H.size κ x4_14 o_36) (cwV 1 hts gX2_sum_X2_valueOf rfl rfl rfl (by decide +kernel) ⟨Nat.le_of_ble_eq_true rfl, Nat.le_of_ble_eq_true rfl⟩) (pW_V hPc hK hDc (ci := 2) (q0 := 0) rfl rfl) rfl rfl hl.1 rfl (lv_room (Nat.le_of_ble_eq_true rfl)) dX2_sum_36 ⟨Nat.le_of_ble_eq_true rfl, Nat.le_of_ble_eq_true rfl⟩) hP hD hS hA [0, 1, 2, 3, 4, 5, 6, 7, 8, 9] [] [0, 1, 2, 3, 4, 5, 6, 7, 8, 9] rfl rfl (by decide) (fun _ => rfl) (fun r_36 u_36 H locs hw hP hD hS => ?_)
            try rw [← hw] at J_29
            refine lv_iadd hx hb dX2_sum_39 ?_
            refine lv_istore_n (lv' := [(3, .int (x3_14 + r_36)), (4, .int x4_14), (0, .ref (h 0)), (1, .int p1), (2, .int p2)]) hx hb dX2_sum_40 rfl hl (by decide) rfl (fun ls hl => ?_)
            exact J_29 H locs ls hP hD hS (lv_sub hl [0, 1, 2, 3, 4] rfl)
        have hs := hs.2
        intro H locs ls hP hD hS hl
        refine lv_iinc (v := x4_14 + 1) (lv' := [(4, .int (x4_14 + 1)), (3, .int (if r_26 = 0 then x3_14 else (x3_14 + (v_X2_valueOf κ x4_14)) : Int32)), (0, .ref (h 0)), (1, .int p1), (2, .int p2)]) hx hb dX2_sum_41 hl (k := 1) rfl rfl (by decide) rfl (fun ls hl => ?_)
        refine lv_goto (tgt := 14) hx hb dX2_sum_44 (by decide) ?_
        exact ih (if r_26 = 0 then x3_14 else (x3_14 + (v_X2_valueOf κ x4_14)) : Int32) (x4_14 + 1) H locs ls hs K hP hD hS (lv_sub hl [1, 0, 2, 3, 4] rfl)
  refine loop_14 100 0 p1 H locs ls o_l14 (fun z_14 hw H locs ls hP hD hS hl => ?_) hP hD hS (lv_sub hl [1, 0, 2, 3, 4] rfl)
  try rw [← hw] at hV
  refine lv_iload_n hx hb dX2_sum_47 rfl (lv_at hl 0 rfl) ?_
  exact rI (w := fun _ => kW cI h κ) (()) hx hb hr hlocks hP hD hS (Nat.le_of_ble_eq_true rfl) (Nat.le_of_ble_eq_true rfl) dX2_sum_48 (by rw [hV] <;> rfl)
set_option maxHeartbeats 1000000 in
set_option maxRecDepth 100000 in
theorem b_X2_sum (l : Launch) (hlt : l.stackTraces = false) (dC : Nat → ClassId) (dI : Nat → Nat → Nat) (cI : ClassId) (h : Nat → Nat) (sz : Nat) (κ : KS) (p1 : Int32) (p2 : Int32) (hX : ¬ x_X2_sum κ p1 p2 = 0) (hs : s_X2_sum κ p1 p2) : vx_Met l yX2_sum wsX2_sum ({ frames := 8, cells := 1, slots := 6, locals := 123 }) (va_Pc [.ref (h 0), .int p1, .int p2] (pX (dC, dI) [(cI, .int)] (kW cI h κ) sz)) bQ (xC (dC, dI) (va_A (kW cI h κ) sz) (kW cI h κ) (x_X2_sum κ p1 p2)) 1 6 (va_A (kW cI h κ) sz) := by
  refine vx_ofW (cc := cX2_sum) (maxL := 5) (ret := (some .int)) (by decide) rfl ?_
  intro p e s m args below meth c s₁ B hml ht hv
  obtain ⟨rfl, ⟨hsz, hP, hK, hD0⟩, hZ⟩ := hv
  have hx := B.exec
  have hb := B.bytes
  have hr := B.returns
  have hts := atoms_spec (ws := wsX2_sum) B.pre
  have hown : s.vm.findClass RX2 = some m.cls := findClass_of_methodNamed B.named
  have hlocks := B.notSynchronized
  have hinX2 : ∀ w ∈ wsX20, w ∈ wsX2_sum := by decide +kernel
  have hf19 := hts (.fieldLink RX2 19 "Keysapart" "index" "LKeysapart$Index;") (by decide +kernel)
  subst hsz
  have hD := hD0.self (sz := s.heap.size)
  generalize hAe : va_A (kW cI h κ) s.heap.size = A at hD hZ ⊢
  have hA : ∀ q : Nat, s.heap.size ≤ q → A q := fun q h => by rw [← hAe]; exact Or.inr h
  have hl := lv_entry ([.ref (h 0), .int p1, .int p2]) (n := 5) (Nat.le_of_ble_eq_true rfl)
  rw [lg_entry_eq]
  generalize (lg_sl ([.ref (h 0), .int p1, .int p2]) ++ List.replicate (5 - (lg_sl ([.ref (h 0), .int p1, .int p2])).length) Slot.unset).toArray = ls at hl ⊢
  have hl : lv_has ls 5 [(0, .ref (h 0)), (1, .int p1), (2, .int p2)] := hl
  generalize hHe : s.heap = H at hP ⊢
  generalize hLe : ([] : List Loc) = locs
  have hS : va_S A s.heap H locs := by
    rw [← hLe, ← hHe]
    exact va_S.rf
  unfold s_X2_sum at hs
  have hE := x_X2_sum_e κ p1 p2
  refine lv_iload_n hx hb dX2_sum_0 rfl (lv_at hl 1 rfl) ?_
  refine lv_iload_n hx hb dX2_sum_1 rfl (lv_at hl 2 rfl) ?_
  have hPc := hP.sub (ws' := eW) [] rfl
  have hDc := hD.sub (ws' := eW) [] (by decide) rfl
  by_cases hx_2 : x_X2_needRange p1 p2 = 0
  · have hs := hs hx_2
    rw [if_pos hx_2] at hE
    refine rcV (W2 := fun _ => kW cI h κ) (va_runS (As := [.int p1, .int p2]) (rest := []) ⟨hx, hb, hml, hown, hts⟩ (c_X2_needRange l dC dI cI H.size p1 p2 hx_2) (va_cwS 2 hts gX2_sum_X2_needRange rfl rfl rfl (by decide +kernel) ⟨Nat.le_of_ble_eq_true rfl, Nat.le_of_ble_eq_true rfl⟩) (pW_S hPc hK hDc) rfl rfl hl.1 rfl (lv_room (Nat.le_of_ble_eq_true rfl)) dX2_sum_2 ⟨Nat.le_of_ble_eq_true rfl, Nat.le_of_ble_eq_true rfl⟩) hP hD hS hA [] [0, 1, 2, 3, 4, 5, 6, 7, 8, 9] [0, 1, 2, 3, 4, 5, 6, 7, 8, 9] rfl rfl (by decide) (fun _ => rfl) (fun u_2 H locs hw hP hD hS => ?_)
    refine lv_aload_n hx hb dX2_sum_5 rfl (lv_at hl 0 rfl) ?_
    have hPc := hP.sub (ws' := kW cI h κ) [0, 1, 2, 3, 4, 5, 6, 7, 8, 9] rfl
    have hDc := hD.sub (ws' := kW cI h κ) [0, 1, 2, 3, 4, 5, 6, 7, 8, 9] (by decide) rfl
    by_cases hx_6 : x_X2_needUp κ = 0
    · have hs := hs hx_6
      rw [if_pos hx_6] at hE
      refine rcV (W2 := fun _ => kW cI h κ) (va_runV (As := []) (rest := []) ⟨hx, hb, hml, hown, hts⟩ (c_X2_needUp l dC dI cI h H.size κ hx_6) (cwV 0 hts gX2_sum_X2_needUp rfl rfl rfl (by decide +kernel) ⟨Nat.le_of_ble_eq_true rfl, Nat.le_of_ble_eq_true rfl⟩) (pW_V hPc hK hDc (ci := 2) (q0 := 0) rfl rfl) rfl rfl hl.1 rfl (lv_room (Nat.le_of_ble_eq_true rfl)) dX2_sum_6 ⟨Nat.le_of_ble_eq_true rfl, Nat.le_of_ble_eq_true rfl⟩) hP hD hS hA [0, 1, 2, 3, 4, 5, 6, 7, 8, 9] [] [0, 1, 2, 3, 4, 5, 6, 7, 8, 9] rfl rfl (by decide) (fun _ => rfl) (fun u_6 H locs hw hP hD hS => ?_)
      exact absurd hE hX
    · have hFc := va_free (wc := kW cI h κ) hD hS hA [0, 1, 2, 3, 4, 5, 6, 7, 8, 9] rfl
      exact rxO (vx_runV (As := []) (rest := []) ⟨hx, hb, hml, hown, hts⟩ (b_X2_needUp l hlt dC dI cI h H.size κ hx_6) (cwV 0 hts gX2_sum_X2_needUp rfl rfl rfl (by decide +kernel) ⟨Nat.le_of_ble_eq_true rfl, Nat.le_of_ble_eq_true rfl⟩) (pX_V hPc hK hDc hZ hS hFc (ci := 2) (q0 := 0) rfl rfl) rfl rfl hl.1 rfl (lv_room (Nat.le_of_ble_eq_true rfl)) dX2_sum_6 ⟨Nat.le_of_ble_eq_true rfl, Nat.le_of_ble_eq_true rfl⟩) hP hD hS hA [0, 1, 2, 3, 4, 5, 6, 7, 8, 9] [] [0, 1, 2, 3, 4, 5, 6, 7, 8, 9] rfl rfl (by decide) rfl ht hlocks (Nat.le_of_ble_eq_true rfl) (Nat.le_of_ble_eq_true rfl) (by rw [hE, if_neg hx_6])
  · have hFc := va_free (wc := eW) hD hS hA [] rfl
    exact rxO (vx_runS (As := [.int p1, .int p2]) (rest := []) ⟨hx, hb, hml, hown, hts⟩ (b_X2_needRange l hlt dC dI cI H.size p1 p2 hx_2) (va_cwS 2 hts gX2_sum_X2_needRange rfl rfl rfl (by decide +kernel) ⟨Nat.le_of_ble_eq_true rfl, Nat.le_of_ble_eq_true rfl⟩) (pX_S hPc hK hDc hZ hS hFc) rfl rfl hl.1 rfl (lv_room (Nat.le_of_ble_eq_true rfl)) dX2_sum_2 ⟨Nat.le_of_ble_eq_true rfl, Nat.le_of_ble_eq_true rfl⟩) hP hD hS hA [] [0, 1, 2, 3, 4, 5, 6, 7, 8, 9] [0, 1, 2, 3, 4, 5, 6, 7, 8, 9] rfl rfl (by decide) rfl ht hlocks (Nat.le_of_ble_eq_true rfl) (Nat.le_of_ble_eq_true rfl) (by rw [hE, if_neg hx_2])
def l_X2_fetches_23 (κ : KS) (y3 : Int32) (y1 : Int32) (y2 : Int32) : Nat → Int32 → Int32 → Int32 × Int32
  | 0, x4_23, x5_23 => (x4_23, x5_23)
  | n + 1, x4_23, x5_23 => if y2 < x5_23 then (x4_23, x5_23) else l_X2_fetches_23 κ y3 y1 y2 n (if (v_X0_has (kIx κ) x5_23) = 0 then x4_23 else (x4_23 ||| (1 <<< (((v_X2_segmentOf (v_X0_find (kIx κ) x5_23)) - y3) &&& 31))) : Int32) (x5_23 + 1)
theorem l_X2_fetches_23_s (κ : KS) (y3 : Int32) (y1 : Int32) (y2 : Int32) (n : Nat) (x4_23 : Int32) (x5_23 : Int32) : l_X2_fetches_23 κ y3 y1 y2 (n + 1) x4_23 x5_23 = if y2 < x5_23 then (x4_23, x5_23) else l_X2_fetches_23 κ y3 y1 y2 n (if (v_X0_has (kIx κ) x5_23) = 0 then x4_23 else (x4_23 ||| (1 <<< (((v_X2_segmentOf (v_X0_find (kIx κ) x5_23)) - y3) &&& 31))) : Int32) (x5_23 + 1) := rfl
def sl_X2_fetches_23 (κ : KS) (y3 : Int32) (y1 : Int32) (y2 : Int32) : Nat → Int32 → Int32 → Prop
  | 0, x4_23, x5_23 => False
  | n + 1, x4_23, x5_23 => ((y2 < x5_23 → True) ∧ (¬ y2 < x5_23 → sl_X2_fetches_23 κ y3 y1 y2 n (if (v_X0_has (kIx κ) x5_23) = 0 then x4_23 else (x4_23 ||| (1 <<< (((v_X2_segmentOf (v_X0_find (kIx κ) x5_23)) - y3) &&& 31))) : Int32) (x5_23 + 1)))
theorem sl_X2_fetches_23_s (κ : KS) (y3 : Int32) (y1 : Int32) (y2 : Int32) (n : Nat) (x4_23 : Int32) (x5_23 : Int32) : sl_X2_fetches_23 κ y3 y1 y2 (n + 1) x4_23 x5_23 = ((y2 < x5_23 → True) ∧ (¬ y2 < x5_23 → sl_X2_fetches_23 κ y3 y1 y2 n (if (v_X0_has (kIx κ) x5_23) = 0 then x4_23 else (x4_23 ||| (1 <<< (((v_X2_segmentOf (v_X0_find (kIx κ) x5_23)) - y3) &&& 31))) : Int32) (x5_23 + 1))) := rfl
def v_X2_fetches (κ : KS) (p1 : Int32) (p2 : Int32) : Int32 := (v_J6_bitCount_0f7a4 (l_X2_fetches_23 κ (v_X2_segmentOf (kTl κ)) p1 p2 100 0 p1).1)
theorem v_X2_fetches_e (κ : KS) (p1 : Int32) (p2 : Int32) : v_X2_fetches κ p1 p2 = (v_J6_bitCount_0f7a4 (l_X2_fetches_23 κ (v_X2_segmentOf (kTl κ)) p1 p2 100 0 p1).1) := rfl
def x_X2_fetches (κ : KS) (p1 : Int32) (p2 : Int32) : Nat := if x_X2_needRange p1 p2 = 0 then if x_X2_needUp κ = 0 then 0 else x_X2_needUp κ else x_X2_needRange p1 p2
theorem x_X2_fetches_e (κ : KS) (p1 : Int32) (p2 : Int32) : x_X2_fetches κ p1 p2 = if x_X2_needRange p1 p2 = 0 then if x_X2_needUp κ = 0 then 0 else x_X2_needUp κ else x_X2_needRange p1 p2 := rfl
def s_X2_fetches (κ : KS) (p1 : Int32) (p2 : Int32) : Prop := (x_X2_needRange p1 p2 = 0 → (x_X2_needUp κ = 0 → (sl_X2_fetches_23 κ (v_X2_segmentOf (kTl κ)) p1 p2 100 0 p1 ∧ True)))
set_option maxHeartbeats 1000000 in
set_option maxRecDepth 100000 in
theorem c_X2_fetches (l : Launch) (dC : Nat → ClassId) (dI : Nat → Nat → Nat) (cI : ClassId) (h : Nat → Nat) (sz : Nat) (κ : KS) (p1 : Int32) (p2 : Int32) (hX : x_X2_fetches κ p1 p2 = 0) (hs : s_X2_fetches κ p1 p2) : Met l yX2_fetches wsX2_fetches ({ frames := 8, cells := 0, slots := 0, locals := 123 }) (va_Pc [.ref (h 0), .int p1, .int p2] (pW (dC, dI) [(cI, .int)] (kW cI h κ) sz)) (va_Qi (fun (r : Int32) (u : Unit) => r = v_X2_fetches κ p1 p2) (qW (dC, dI) (va_A (kW cI h κ) sz) (fun _ => kW cI h κ)) (va_A (kW cI h κ) sz)) 0 0 (va_A (kW cI h κ) sz) := by
  refine Met.ofW (cc := cX2_fetches) (maxL := 6) (ret := (some .int)) (by decide) rfl ?_
  intro p e s m args below meth c s₁ B hml hv
  obtain ⟨rfl, hsz, hP, hK, hD0⟩ := hv
  have hx := B.exec
  have hb := B.bytes
  have hr := B.returns
  have hts := atoms_spec (ws := wsX2_fetches) B.pre
  have hown : s.vm.findClass RX2 = some m.cls := findClass_of_methodNamed B.named
  have hlocks := B.notSynchronized
  have hinX2 : ∀ w ∈ wsX20, w ∈ wsX2_fetches := by decide +kernel
  have hf19 := hts (.fieldLink RX2 19 "Keysapart" "index" "LKeysapart$Index;") (by decide +kernel)
  have hf37 := hts (.fieldLink RX2 37 "Keysapart" "tailAt" "I") (by decide +kernel)
  subst hsz
  have hD := hD0.self (sz := s.heap.size)
  generalize hAe : va_A (kW cI h κ) s.heap.size = A at hD ⊢
  have hA : ∀ q : Nat, s.heap.size ≤ q → A q := fun q h => by rw [← hAe]; exact Or.inr h
  have hl := lv_entry ([.ref (h 0), .int p1, .int p2]) (n := 6) (Nat.le_of_ble_eq_true rfl)
  rw [lg_entry_eq]
  generalize (lg_sl ([.ref (h 0), .int p1, .int p2]) ++ List.replicate (6 - (lg_sl ([.ref (h 0), .int p1, .int p2])).length) Slot.unset).toArray = ls at hl ⊢
  have hl : lv_has ls 6 [(0, .ref (h 0)), (1, .int p1), (2, .int p2)] := hl
  generalize hHe : s.heap = H at hP ⊢
  generalize hLe : ([] : List Loc) = locs
  have hS : va_S A s.heap H locs := by
    rw [← hLe, ← hHe]
    exact va_S.rf
  unfold s_X2_fetches at hs
  rw [x_X2_fetches_e] at hX
  have hV := v_X2_fetches_e κ p1 p2
  refine lv_iload_n hx hb dX2_fetches_0 rfl (lv_at hl 1 rfl) ?_
  refine lv_iload_n hx hb dX2_fetches_1 rfl (lv_at hl 2 rfl) ?_
  have hx_2 : x_X2_needRange p1 p2 = 0 := (x_of hX).1
  have hX := (x_of hX).2
  have hs := hs hx_2
  have hPc := hP.sub (ws' := eW) [] rfl
  have hDc := hD.sub (ws' := eW) [] (by decide) rfl
  refine rcV (W2 := fun _ => kW cI h κ) (va_runS (As := [.int p1, .int p2]) (rest := []) ⟨hx, hb, hml, hown, hts⟩ (c_X2_needRange l dC dI cI H.size p1 p2 hx_2) (va_cwS 2 hts gX2_fetches_X2_needRange rfl rfl rfl (by decide +kernel) ⟨Nat.le_of_ble_eq_true rfl, Nat.le_of_ble_eq_true rfl⟩) (pW_S hPc hK hDc) rfl rfl hl.1 rfl (lv_room (Nat.le_of_ble_eq_true rfl)) dX2_fetches_2 ⟨Nat.le_of_ble_eq_true rfl, Nat.le_of_ble_eq_true rfl⟩) hP hD hS hA [] [0, 1, 2, 3, 4, 5, 6, 7, 8, 9] [0, 1, 2, 3, 4, 5, 6, 7, 8, 9] rfl rfl (by decide) (fun _ => rfl) (fun u_2 H locs hw hP hD hS => ?_)
  refine lv_aload_n hx hb dX2_fetches_5 rfl (lv_at hl 0 rfl) ?_
  have hx_6 : x_X2_needUp κ = 0 := (x_of hX).1
  have hX := (x_of hX).2
  have hs := hs hx_6
  have hPc := hP.sub (ws' := kW cI h κ) [0, 1, 2, 3, 4, 5, 6, 7, 8, 9] rfl
  have hDc := hD.sub (ws' := kW cI h κ) [0, 1, 2, 3, 4, 5, 6, 7, 8, 9] (by decide) rfl
  refine rcV (W2 := fun _ => kW cI h κ) (va_runV (As := []) (rest := []) ⟨hx, hb, hml, hown, hts⟩ (c_X2_needUp l dC dI cI h H.size κ hx_6) (cwV 0 hts gX2_fetches_X2_needUp rfl rfl rfl (by decide +kernel) ⟨Nat.le_of_ble_eq_true rfl, Nat.le_of_ble_eq_true rfl⟩) (pW_V hPc hK hDc (ci := 2) (q0 := 0) rfl rfl) rfl rfl hl.1 rfl (lv_room (Nat.le_of_ble_eq_true rfl)) dX2_fetches_6 ⟨Nat.le_of_ble_eq_true rfl, Nat.le_of_ble_eq_true rfl⟩) hP hD hS hA [0, 1, 2, 3, 4, 5, 6, 7, 8, 9] [] [0, 1, 2, 3, 4, 5, 6, 7, 8, 9] rfl rfl (by decide) (fun _ => rfl) (fun u_6 H locs hw hP hD hS => ?_)
  refine lv_aload_n hx hb dX2_fetches_9 rfl (lv_at hl 0 rfl) ?_
  refine va_get (D := (dC, dI)) (ci := 2) (v := .int (kTl κ)) (C := RX2) (T := TX2) (N := 10) hx hb hts hinX2 hown hK hP 0 rfl rfl 6 (by decide) hf37 (fun _ h9 => h9) rfl dX2_fetches_10 ?_
  have hPc := hP.sub (ws' := eW) [] rfl
  have hDc := hD.sub (ws' := eW) [] (by decide) rfl
  refine rcI (W2 := fun _ => kW cI h κ) (va_runS (As := [.int (kTl κ)]) (rest := []) ⟨hx, hb, hml, hown, hts⟩ (c_X2_segmentOf l dC dI cI H.size (kTl κ)) (va_cwS 1 hts gX2_fetches_X2_segmentOf rfl rfl rfl (by decide +kernel) ⟨Nat.le_of_ble_eq_true rfl, Nat.le_of_ble_eq_true rfl⟩) (pW_S hPc hK hDc) rfl rfl hl.1 rfl (lv_room (Nat.le_of_ble_eq_true rfl)) dX2_fetches_13 ⟨Nat.le_of_ble_eq_true rfl, Nat.le_of_ble_eq_true rfl⟩) hP hD hS hA [] [0, 1, 2, 3, 4, 5, 6, 7, 8, 9] [0, 1, 2, 3, 4, 5, 6, 7, 8, 9] rfl rfl (by decide) (fun _ => rfl) (fun r_13 u_13 H locs hw hP hD hS => ?_)
  try rw [← hw] at hV
  try rw [← hw] at hs
  refine lv_istore_n (lv' := [(3, .int r_13), (0, .ref (h 0)), (1, .int p1), (2, .int p2)]) hx hb dX2_fetches_16 rfl hl (by decide) rfl (fun ls hl => ?_)
  refine lv_iconst (v := 0) hx hb dX2_fetches_17 (by decide) ?_
  refine lv_istore (lv' := [(4, .int 0), (3, .int r_13), (0, .ref (h 0)), (1, .int p1), (2, .int p2)]) hx hb dX2_fetches_18 hl (by decide) rfl (fun ls hl => ?_)
  refine lv_iload_n hx hb dX2_fetches_20 rfl (lv_at hl 3 rfl) ?_
  refine lv_istore (lv' := [(5, .int p1), (4, .int 0), (3, .int r_13), (0, .ref (h 0)), (1, .int p1), (2, .int p2)]) hx hb dX2_fetches_21 hl (by decide) rfl (fun ls hl => ?_)
  have o_l23 : sl_X2_fetches_23 κ r_13 p1 p2 100 0 p1 := hs.1
  have hs := hs.2
  have loop_23 : ∀ (n : Nat) (x4_23 : Int32) (x5_23 : Int32) (H : Heap) (locs : List Loc) (ls : Array Slot) (hs : sl_X2_fetches_23 κ r_13 p1 p2 n x4_23 x5_23) (K : ∀ (z : Int32 × Int32) (hw : z = l_X2_fetches_23 κ r_13 p1 p2 n x4_23 x5_23) (H : Heap) (locs : List Loc) (ls : Array Slot), va_P (dC, dI) vwCl (kW cI h κ) H → va_D A (kW cI h κ) → va_S A s.heap H locs → lv_has ls 6 [(4, .int z.1), (5, .int z.2), (0, .ref (h 0)), (3, .int r_13), (1, .int p1), (2, .int p2)] → W p l e (headSpec wsX2_fetches ({ frames := 8, cells := 0, slots := 0, locals := 123 })).room s m [.ref (h 0), .int p1, .int p2].toArray below meth c H locs 0 0 (MQ below (va_Qi (fun (r : Int32) (u : Unit) => r = v_X2_fetches κ p1 p2) (qW (dC, dI) A (fun _ => kW cI h κ)) A) [.ref (h 0), .int p1, .int p2].toArray s 0 0 A) (F0 m 68 ls [])) (hP : va_P (dC, dI) vwCl (kW cI h κ) H) (hD : va_D A (kW cI h κ)) (hS : va_S A s.heap H locs) (hl : lv_has ls 6 [(4, .int x4_23), (5, .int x5_23), (0, .ref (h 0)), (3, .int r_13), (1, .int p1), (2, .int p2)]), W p l e (headSpec wsX2_fetches ({ frames := 8, cells := 0, slots := 0, locals := 123 })).room s m [.ref (h 0), .int p1, .int p2].toArray below meth c H locs 0 0 (MQ below (va_Qi (fun (r : Int32) (u : Unit) => r = v_X2_fetches κ p1 p2) (qW (dC, dI) A (fun _ => kW cI h κ)) A) [.ref (h 0), .int p1, .int p2].toArray s 0 0 A) (F0 m 23 ls []) := by
    intro n
    induction n with
    | zero => intro x4_23 x5_23 H locs ls hs; exact False.elim hs
    | succ n ih =>
      intro x4_23 x5_23 H locs ls hs K hP hD hS hl
      rw [sl_X2_fetches_23_s] at hs
      rw [l_X2_fetches_23_s] at K
      refine lv_iload hx hb dX2_fetches_23 (lv_at hl 1 rfl) ?_
      refine lv_iload_n hx hb dX2_fetches_25 rfl (lv_at hl 5 rfl) ?_
      refine lv_icmp_gt (tgt := 68) hx hb dX2_fetches_26 (by decide) (fun c_26 => ?_) (fun c_26 => ?_)
      · skip
        have hs := hs.1 c_26
        rw [if_pos c_26] at K
        exact K _ rfl H locs ls hP hD hS (lv_sub hl [0, 1, 2, 3, 4, 5] rfl)
      · skip
        have hs := hs.2 c_26
        rw [if_neg c_26] at K
        refine lv_aload_n hx hb dX2_fetches_29 rfl (lv_at hl 2 rfl) ?_
        refine va_get (D := (dC, dI)) (ci := 2) (v := .ref (h 2)) (C := RX2) (T := TX2) (N := 10) hx hb hts hinX2 hown hK hP 0 rfl rfl 1 (by decide) hf19 (fun _ h9 => h9) rfl dX2_fetches_30 ?_
        refine lv_iload hx hb dX2_fetches_33 (lv_at hl 1 rfl) ?_
        have hPc := hP.sub (ws' := iW cI (h 2) (h 7) (kIx κ)) [2, 7] rfl
        have hDc := hD.sub (ws' := iW cI (h 2) (h 7) (kIx κ)) [2, 7] (by decide) rfl
        refine rcI (W2 := fun _ => kW cI h κ) (va_runV (As := [.int x5_23]) (rest := []) ⟨hx, hb, hml, hown, hts⟩ (c_X0_has l dC dI cI (h 2) (h 7) H.size (kIx κ) x5_23) (cwV 1 hts gX2_fetches_X0_has rfl rfl rfl (by decide +kernel) ⟨Nat.le_of_ble_eq_true rfl, Nat.le_of_ble_eq_true rfl⟩) (pW_V hPc hK hDc (ci := 0) (q0 := 0) rfl rfl) rfl rfl hl.1 rfl (lv_room (Nat.le_of_ble_eq_true rfl)) dX2_fetches_35 ⟨Nat.le_of_ble_eq_true rfl, Nat.le_of_ble_eq_true rfl⟩) hP hD hS hA [2, 7] [0, 1, 3, 4, 5, 6, 8, 9] [0, 1, 8, 2, 3, 4, 5, 9, 6, 7] rfl rfl (by decide) (fun _ => rfl) (fun r_35 u_35 H locs hw hP hD hS => ?_)
        obtain ⟨hw, hz_35⟩ := hw
        try rw [← hw] at K
        try rw [← hw] at hs
        suffices J_38 : ∀ (H : Heap) (locs : List Loc) (ls : Array Slot), va_P (dC, dI) vwCl (kW cI h κ) H → va_D A (kW cI h κ) → va_S A s.heap H locs → lv_has ls 6 [(4, .int (if r_35 = 0 then x4_23 else (x4_23 ||| (1 <<< (((v_X2_segmentOf (v_X0_find (kIx κ) x5_23)) - r_13) &&& 31))) : Int32)), (5, .int x5_23), (0, .ref (h 0)), (3, .int r_13), (1, .int p1), (2, .int p2)] → W p l e (headSpec wsX2_fetches ({ frames := 8, cells := 0, slots := 0, locals := 123 })).room s m [.ref (h 0), .int p1, .int p2].toArray below meth c H locs 0 0 (MQ below (va_Qi (fun (r : Int32) (u : Unit) => r = v_X2_fetches κ p1 p2) (qW (dC, dI) A (fun _ => kW cI h κ)) A) [.ref (h 0), .int p1, .int p2].toArray s 0 0 A) (F0 m 62 ls []) by
          refine lv_if_eq (tgt := 62) hx hb dX2_fetches_38 (by decide) (fun c_38 => ?_) (fun c_38 => ?_)
          · skip
            rw [if_pos c_38] at J_38
            exact J_38 H locs ls hP hD hS (lv_sub hl [0, 1, 2, 3, 4, 5] rfl)
          · skip
            rw [if_neg c_38] at J_38
            refine lv_iload hx hb dX2_fetches_41 (lv_at hl 0 rfl) ?_
            refine lv_iconst (v := 1) hx hb dX2_fetches_43 (by decide) ?_
            refine lv_aload_n hx hb dX2_fetches_44 rfl (lv_at hl 2 rfl) ?_
            refine va_get (D := (dC, dI)) (ci := 2) (v := .ref (h 2)) (C := RX2) (T := TX2) (N := 10) hx hb hts hinX2 hown hK hP 0 rfl rfl 1 (by decide) hf19 (fun _ h9 => h9) rfl dX2_fetches_45 ?_
            refine lv_iload hx hb dX2_fetches_48 (lv_at hl 1 rfl) ?_
            have hPc := hP.sub (ws' := iW cI (h 2) (h 7) (kIx κ)) [2, 7] rfl
            have hDc := hD.sub (ws' := iW cI (h 2) (h 7) (kIx κ)) [2, 7] (by decide) rfl
            refine rcI (W2 := fun _ => kW cI h κ) (va_runV (As := [.int x5_23]) (rest := [.int 1, .int x4_23]) ⟨hx, hb, hml, hown, hts⟩ (c_X0_find l dC dI cI (h 2) (h 7) H.size (kIx κ) x5_23) (cwV 1 hts gX2_fetches_X0_find rfl rfl rfl (by decide +kernel) ⟨Nat.le_of_ble_eq_true rfl, Nat.le_of_ble_eq_true rfl⟩) (pW_V hPc hK hDc (ci := 0) (q0 := 0) rfl rfl) rfl rfl hl.1 rfl (lv_room (Nat.le_of_ble_eq_true rfl)) dX2_fetches_50 ⟨Nat.le_of_ble_eq_true rfl, Nat.le_of_ble_eq_true rfl⟩) hP hD hS hA [2, 7] [0, 1, 3, 4, 5, 6, 8, 9] [0, 1, 8, 2, 3, 4, 5, 9, 6, 7] rfl rfl (by decide) (fun _ => rfl) (fun r_50 u_50 H locs hw hP hD hS => ?_)
            try rw [← hw] at J_38
            have hPc := hP.sub (ws' := eW) [] rfl
            have hDc := hD.sub (ws' := eW) [] (by decide) rfl
            refine rcI (W2 := fun _ => kW cI h κ) (va_runS (As := [.int r_50]) (rest := [.int 1, .int x4_23]) ⟨hx, hb, hml, hown, hts⟩ (c_X2_segmentOf l dC dI cI H.size r_50) (va_cwS 1 hts gX2_fetches_X2_segmentOf rfl rfl rfl (by decide +kernel) ⟨Nat.le_of_ble_eq_true rfl, Nat.le_of_ble_eq_true rfl⟩) (pW_S hPc hK hDc) rfl rfl hl.1 rfl (lv_room (Nat.le_of_ble_eq_true rfl)) dX2_fetches_53 ⟨Nat.le_of_ble_eq_true rfl, Nat.le_of_ble_eq_true rfl⟩) hP hD hS hA [] [0, 1, 2, 3, 4, 5, 6, 7, 8, 9] [0, 1, 2, 3, 4, 5, 6, 7, 8, 9] rfl rfl (by decide) (fun _ => rfl) (fun r_53 u_53 H locs hw hP hD hS => ?_)
            try rw [← hw] at J_38
            refine lv_iload_n hx hb dX2_fetches_56 rfl (lv_at hl 3 rfl) ?_
            refine lv_isub hx hb dX2_fetches_57 ?_
            refine lv_ishl hx hb dX2_fetches_58 ?_
            refine lv_ior hx hb dX2_fetches_59 ?_
            refine lv_istore (lv' := [(4, .int (x4_23 ||| (1 <<< ((r_53 - r_13) &&& 31)))), (5, .int x5_23), (0, .ref (h 0)), (3, .int r_13), (1, .int p1), (2, .int p2)]) hx hb dX2_fetches_60 hl (by decide) rfl (fun ls hl => ?_)
            exact J_38 H locs ls hP hD hS (lv_sub hl [0, 1, 2, 3, 4, 5] rfl)
        intro H locs ls hP hD hS hl
        refine lv_iinc (v := x5_23 + 1) (lv' := [(5, .int (x5_23 + 1)), (4, .int (if r_35 = 0 then x4_23 else (x4_23 ||| (1 <<< (((v_X2_segmentOf (v_X0_find (kIx κ) x5_23)) - r_13) &&& 31))) : Int32)), (0, .ref (h 0)), (3, .int r_13), (1, .int p1), (2, .int p2)]) hx hb dX2_fetches_62 hl (k := 1) rfl rfl (by decide) rfl (fun ls hl => ?_)
        refine lv_goto (tgt := 23) hx hb dX2_fetches_65 (by decide) ?_
        exact ih (if r_35 = 0 then x4_23 else (x4_23 ||| (1 <<< (((v_X2_segmentOf (v_X0_find (kIx κ) x5_23)) - r_13) &&& 31))) : Int32) (x5_23 + 1) H locs ls hs K hP hD hS (lv_sub hl [1, 0, 2, 3, 4, 5] rfl)
  refine loop_23 100 0 p1 H locs ls o_l23 (fun z_23 hw H locs ls hP hD hS hl => ?_) hP hD hS (lv_sub hl [1, 0, 3, 2, 4, 5] rfl)
  try rw [← hw] at hV
  refine lv_iload hx hb dX2_fetches_68 (lv_at hl 0 rfl) ?_
  have hPc := hP.sub (ws' := eW) [] rfl
  have hDc := hD.sub (ws' := eW) [] (by decide) rfl
  refine rcI (W2 := fun _ => kW cI h κ) (va_runS (As := [.int z_23.1]) (rest := []) ⟨hx, hb, hml, hown, hts⟩ (c_J6_bitCount_0f7a4 l dC dI cI H.size z_23.1) (va_cwS 1 hts gX2_fetches_J6_bitCount_0f7a4 rfl rfl rfl (by decide +kernel) ⟨Nat.le_of_ble_eq_true rfl, Nat.le_of_ble_eq_true rfl⟩) (pW_S hPc hK hDc) rfl rfl hl.1 rfl (lv_room (Nat.le_of_ble_eq_true rfl)) dX2_fetches_70 ⟨Nat.le_of_ble_eq_true rfl, Nat.le_of_ble_eq_true rfl⟩) hP hD hS hA [] [0, 1, 2, 3, 4, 5, 6, 7, 8, 9] [0, 1, 2, 3, 4, 5, 6, 7, 8, 9] rfl rfl (by decide) (fun _ => rfl) (fun r_70 u_70 H locs hw hP hD hS => ?_)
  try rw [← hw] at hV
  exact rI (w := fun _ => kW cI h κ) (()) hx hb hr hlocks hP hD hS (Nat.le_of_ble_eq_true rfl) (Nat.le_of_ble_eq_true rfl) dX2_fetches_73 (by rw [hV] <;> rfl)
set_option maxHeartbeats 1000000 in
set_option maxRecDepth 100000 in
theorem b_X2_fetches (l : Launch) (hlt : l.stackTraces = false) (dC : Nat → ClassId) (dI : Nat → Nat → Nat) (cI : ClassId) (h : Nat → Nat) (sz : Nat) (κ : KS) (p1 : Int32) (p2 : Int32) (hX : ¬ x_X2_fetches κ p1 p2 = 0) (hs : s_X2_fetches κ p1 p2) : vx_Met l yX2_fetches wsX2_fetches ({ frames := 8, cells := 1, slots := 6, locals := 123 }) (va_Pc [.ref (h 0), .int p1, .int p2] (pX (dC, dI) [(cI, .int)] (kW cI h κ) sz)) bQ (xC (dC, dI) (va_A (kW cI h κ) sz) (kW cI h κ) (x_X2_fetches κ p1 p2)) 1 6 (va_A (kW cI h κ) sz) := by
  refine vx_ofW (cc := cX2_fetches) (maxL := 6) (ret := (some .int)) (by decide) rfl ?_
  intro p e s m args below meth c s₁ B hml ht hv
  obtain ⟨rfl, ⟨hsz, hP, hK, hD0⟩, hZ⟩ := hv
  have hx := B.exec
  have hb := B.bytes
  have hr := B.returns
  have hts := atoms_spec (ws := wsX2_fetches) B.pre
  have hown : s.vm.findClass RX2 = some m.cls := findClass_of_methodNamed B.named
  have hlocks := B.notSynchronized
  have hinX2 : ∀ w ∈ wsX20, w ∈ wsX2_fetches := by decide +kernel
  have hf19 := hts (.fieldLink RX2 19 "Keysapart" "index" "LKeysapart$Index;") (by decide +kernel)
  have hf37 := hts (.fieldLink RX2 37 "Keysapart" "tailAt" "I") (by decide +kernel)
  subst hsz
  have hD := hD0.self (sz := s.heap.size)
  generalize hAe : va_A (kW cI h κ) s.heap.size = A at hD hZ ⊢
  have hA : ∀ q : Nat, s.heap.size ≤ q → A q := fun q h => by rw [← hAe]; exact Or.inr h
  have hl := lv_entry ([.ref (h 0), .int p1, .int p2]) (n := 6) (Nat.le_of_ble_eq_true rfl)
  rw [lg_entry_eq]
  generalize (lg_sl ([.ref (h 0), .int p1, .int p2]) ++ List.replicate (6 - (lg_sl ([.ref (h 0), .int p1, .int p2])).length) Slot.unset).toArray = ls at hl ⊢
  have hl : lv_has ls 6 [(0, .ref (h 0)), (1, .int p1), (2, .int p2)] := hl
  generalize hHe : s.heap = H at hP ⊢
  generalize hLe : ([] : List Loc) = locs
  have hS : va_S A s.heap H locs := by
    rw [← hLe, ← hHe]
    exact va_S.rf
  unfold s_X2_fetches at hs
  have hE := x_X2_fetches_e κ p1 p2
  refine lv_iload_n hx hb dX2_fetches_0 rfl (lv_at hl 1 rfl) ?_
  refine lv_iload_n hx hb dX2_fetches_1 rfl (lv_at hl 2 rfl) ?_
  have hPc := hP.sub (ws' := eW) [] rfl
  have hDc := hD.sub (ws' := eW) [] (by decide) rfl
  by_cases hx_2 : x_X2_needRange p1 p2 = 0
  · have hs := hs hx_2
    rw [if_pos hx_2] at hE
    refine rcV (W2 := fun _ => kW cI h κ) (va_runS (As := [.int p1, .int p2]) (rest := []) ⟨hx, hb, hml, hown, hts⟩ (c_X2_needRange l dC dI cI H.size p1 p2 hx_2) (va_cwS 2 hts gX2_fetches_X2_needRange rfl rfl rfl (by decide +kernel) ⟨Nat.le_of_ble_eq_true rfl, Nat.le_of_ble_eq_true rfl⟩) (pW_S hPc hK hDc) rfl rfl hl.1 rfl (lv_room (Nat.le_of_ble_eq_true rfl)) dX2_fetches_2 ⟨Nat.le_of_ble_eq_true rfl, Nat.le_of_ble_eq_true rfl⟩) hP hD hS hA [] [0, 1, 2, 3, 4, 5, 6, 7, 8, 9] [0, 1, 2, 3, 4, 5, 6, 7, 8, 9] rfl rfl (by decide) (fun _ => rfl) (fun u_2 H locs hw hP hD hS => ?_)
    refine lv_aload_n hx hb dX2_fetches_5 rfl (lv_at hl 0 rfl) ?_
    have hPc := hP.sub (ws' := kW cI h κ) [0, 1, 2, 3, 4, 5, 6, 7, 8, 9] rfl
    have hDc := hD.sub (ws' := kW cI h κ) [0, 1, 2, 3, 4, 5, 6, 7, 8, 9] (by decide) rfl
    by_cases hx_6 : x_X2_needUp κ = 0
    · have hs := hs hx_6
      rw [if_pos hx_6] at hE
      refine rcV (W2 := fun _ => kW cI h κ) (va_runV (As := []) (rest := []) ⟨hx, hb, hml, hown, hts⟩ (c_X2_needUp l dC dI cI h H.size κ hx_6) (cwV 0 hts gX2_fetches_X2_needUp rfl rfl rfl (by decide +kernel) ⟨Nat.le_of_ble_eq_true rfl, Nat.le_of_ble_eq_true rfl⟩) (pW_V hPc hK hDc (ci := 2) (q0 := 0) rfl rfl) rfl rfl hl.1 rfl (lv_room (Nat.le_of_ble_eq_true rfl)) dX2_fetches_6 ⟨Nat.le_of_ble_eq_true rfl, Nat.le_of_ble_eq_true rfl⟩) hP hD hS hA [0, 1, 2, 3, 4, 5, 6, 7, 8, 9] [] [0, 1, 2, 3, 4, 5, 6, 7, 8, 9] rfl rfl (by decide) (fun _ => rfl) (fun u_6 H locs hw hP hD hS => ?_)
      exact absurd hE hX
    · have hFc := va_free (wc := kW cI h κ) hD hS hA [0, 1, 2, 3, 4, 5, 6, 7, 8, 9] rfl
      exact rxO (vx_runV (As := []) (rest := []) ⟨hx, hb, hml, hown, hts⟩ (b_X2_needUp l hlt dC dI cI h H.size κ hx_6) (cwV 0 hts gX2_fetches_X2_needUp rfl rfl rfl (by decide +kernel) ⟨Nat.le_of_ble_eq_true rfl, Nat.le_of_ble_eq_true rfl⟩) (pX_V hPc hK hDc hZ hS hFc (ci := 2) (q0 := 0) rfl rfl) rfl rfl hl.1 rfl (lv_room (Nat.le_of_ble_eq_true rfl)) dX2_fetches_6 ⟨Nat.le_of_ble_eq_true rfl, Nat.le_of_ble_eq_true rfl⟩) hP hD hS hA [0, 1, 2, 3, 4, 5, 6, 7, 8, 9] [] [0, 1, 2, 3, 4, 5, 6, 7, 8, 9] rfl rfl (by decide) rfl ht hlocks (Nat.le_of_ble_eq_true rfl) (Nat.le_of_ble_eq_true rfl) (by rw [hE, if_neg hx_6])
  · have hFc := va_free (wc := eW) hD hS hA [] rfl
    exact rxO (vx_runS (As := [.int p1, .int p2]) (rest := []) ⟨hx, hb, hml, hown, hts⟩ (b_X2_needRange l hlt dC dI cI H.size p1 p2 hx_2) (va_cwS 2 hts gX2_fetches_X2_needRange rfl rfl rfl (by decide +kernel) ⟨Nat.le_of_ble_eq_true rfl, Nat.le_of_ble_eq_true rfl⟩) (pX_S hPc hK hDc hZ hS hFc) rfl rfl hl.1 rfl (lv_room (Nat.le_of_ble_eq_true rfl)) dX2_fetches_2 ⟨Nat.le_of_ble_eq_true rfl, Nat.le_of_ble_eq_true rfl⟩) hP hD hS hA [] [0, 1, 2, 3, 4, 5, 6, 7, 8, 9] [0, 1, 2, 3, 4, 5, 6, 7, 8, 9] rfl rfl (by decide) rfl ht hlocks (Nat.le_of_ble_eq_true rfl) (Nat.le_of_ble_eq_true rfl) (by rw [hE, if_neg hx_2])
def v_X2_synchronize (κ : KS) : Int32 × KS := (((v_X2_writeEntries κ).1), ((v_X2_writeEntries κ).2))
theorem v_X2_synchronize_e (κ : KS) : v_X2_synchronize κ = (((v_X2_writeEntries κ).1), ((v_X2_writeEntries κ).2)) := rfl
def x_X2_synchronize (κ : KS) : Nat := if x_X2_needUp κ = 0 then 0 else x_X2_needUp κ
theorem x_X2_synchronize_e (κ : KS) : x_X2_synchronize κ = if x_X2_needUp κ = 0 then 0 else x_X2_needUp κ := rfl
def s_X2_synchronize (κ : KS) : Prop := (x_X2_needUp κ = 0 → (s_X2_writeEntries κ ∧ True))
set_option maxHeartbeats 1000000 in
set_option maxRecDepth 100000 in
theorem c_X2_synchronize (l : Launch) (dC : Nat → ClassId) (dI : Nat → Nat → Nat) (cI : ClassId) (h : Nat → Nat) (sz : Nat) (κ : KS) (hX : x_X2_synchronize κ = 0) (hs : s_X2_synchronize κ) : Met l yX2_synchronize wsX2_synchronize ({ frames := 7, cells := 0, slots := 0, locals := 102 }) (va_Pc [.ref (h 0)] (pW (dC, dI) [(cI, .int)] (kW cI h κ) sz)) (va_Qi (fun (r : Int32) (u : KS) => r = (v_X2_synchronize κ).1 ∧ u = (v_X2_synchronize κ).2 ∧ bz r) (qW (dC, dI) (va_A (kW cI h κ) sz) (fun u => kW cI h u)) (va_A (kW cI h κ) sz)) 0 0 (va_A (kW cI h κ) sz) := by
  refine Met.ofW (cc := cX2_synchronize) (maxL := 1) (ret := (some .boolean)) (by decide) rfl ?_
  intro p e s m args below meth c s₁ B hml hv
  obtain ⟨rfl, hsz, hP, hK, hD0⟩ := hv
  have hx := B.exec
  have hb := B.bytes
  have hr := B.returns
  have hts := atoms_spec (ws := wsX2_synchronize) B.pre
  have hown : s.vm.findClass RX2 = some m.cls := findClass_of_methodNamed B.named
  have hlocks := B.notSynchronized
  have hinX2 : ∀ w ∈ wsX20, w ∈ wsX2_synchronize := by decide +kernel
  subst hsz
  have hD := hD0.self (sz := s.heap.size)
  generalize hAe : va_A (kW cI h κ) s.heap.size = A at hD ⊢
  have hA : ∀ q : Nat, s.heap.size ≤ q → A q := fun q h => by rw [← hAe]; exact Or.inr h
  have hl := lv_entry ([.ref (h 0)]) (n := 1) (Nat.le_of_ble_eq_true rfl)
  rw [lg_entry_eq]
  generalize (lg_sl ([.ref (h 0)]) ++ List.replicate (1 - (lg_sl ([.ref (h 0)])).length) Slot.unset).toArray = ls at hl ⊢
  have hl : lv_has ls 1 [(0, .ref (h 0))] := hl
  generalize hHe : s.heap = H at hP ⊢
  generalize hLe : ([] : List Loc) = locs
  have hS : va_S A s.heap H locs := by
    rw [← hLe, ← hHe]
    exact va_S.rf
  unfold s_X2_synchronize at hs
  rw [x_X2_synchronize_e] at hX
  have hV := v_X2_synchronize_e κ
  refine lv_aload_n hx hb dX2_synchronize_0 rfl (lv_at hl 0 rfl) ?_
  have hx_1 : x_X2_needUp κ = 0 := (x_of hX).1
  have hX := (x_of hX).2
  have hs := hs hx_1
  have hPc := hP.sub (ws' := kW cI h κ) [0, 1, 2, 3, 4, 5, 6, 7, 8, 9] rfl
  have hDc := hD.sub (ws' := kW cI h κ) [0, 1, 2, 3, 4, 5, 6, 7, 8, 9] (by decide) rfl
  refine rcV (W2 := fun _ => kW cI h κ) (va_runV (As := []) (rest := []) ⟨hx, hb, hml, hown, hts⟩ (c_X2_needUp l dC dI cI h H.size κ hx_1) (cwV 0 hts gX2_synchronize_X2_needUp rfl rfl rfl (by decide +kernel) ⟨Nat.le_of_ble_eq_true rfl, Nat.le_of_ble_eq_true rfl⟩) (pW_V hPc hK hDc (ci := 2) (q0 := 0) rfl rfl) rfl rfl hl.1 rfl (lv_room (Nat.le_of_ble_eq_true rfl)) dX2_synchronize_1 ⟨Nat.le_of_ble_eq_true rfl, Nat.le_of_ble_eq_true rfl⟩) hP hD hS hA [0, 1, 2, 3, 4, 5, 6, 7, 8, 9] [] [0, 1, 2, 3, 4, 5, 6, 7, 8, 9] rfl rfl (by decide) (fun _ => rfl) (fun u_1 H locs hw hP hD hS => ?_)
  refine lv_aload_n hx hb dX2_synchronize_4 rfl (lv_at hl 0 rfl) ?_
  have o_5 : s_X2_writeEntries κ := hs.1
  have hs := hs.2
  have hPc := hP.sub (ws' := kW cI h κ) [0, 1, 2, 3, 4, 5, 6, 7, 8, 9] rfl
  have hDc := hD.sub (ws' := kW cI h κ) [0, 1, 2, 3, 4, 5, 6, 7, 8, 9] (by decide) rfl
  refine rcI (W2 := fun u => kW cI h u) (va_runV (As := []) (rest := []) ⟨hx, hb, hml, hown, hts⟩ (c_X2_writeEntries l dC dI cI h H.size κ o_5) (cwV 0 hts gX2_synchronize_X2_writeEntries rfl rfl rfl (by decide +kernel) ⟨Nat.le_of_ble_eq_true rfl, Nat.le_of_ble_eq_true rfl⟩) (pW_V hPc hK hDc (ci := 2) (q0 := 0) rfl rfl) rfl rfl hl.1 rfl (lv_room (Nat.le_of_ble_eq_true rfl)) dX2_synchronize_5 ⟨Nat.le_of_ble_eq_true rfl, Nat.le_of_ble_eq_true rfl⟩) hP hD hS hA [0, 1, 2, 3, 4, 5, 6, 7, 8, 9] [] [0, 1, 2, 3, 4, 5, 6, 7, 8, 9] rfl rfl (by decide) (fun _ => rfl) (fun r_5 u_5 H locs hw hP hD hS => ?_)
  obtain ⟨hw, hw2, hz_5⟩ := hw
  try rw [← hw] at hV
  try rw [← hw2] at hV
  have hz9 : bz (r_5) := by first | assumption | (repeat (first | exact bz0 | exact bz1 | assumption | refine bz_ite ?_ ?_))
  exact rZ (w := fun u => kW cI h u) (u_5) hx hb hr hlocks hP hD hS (Nat.le_of_ble_eq_true rfl) (Nat.le_of_ble_eq_true rfl) dX2_synchronize_8 hz9 ⟨by rw [hV] <;> rfl, by rw [hV] <;> rfl, hz9⟩
set_option maxHeartbeats 1000000 in
set_option maxRecDepth 100000 in
theorem b_X2_synchronize (l : Launch) (hlt : l.stackTraces = false) (dC : Nat → ClassId) (dI : Nat → Nat → Nat) (cI : ClassId) (h : Nat → Nat) (sz : Nat) (κ : KS) (hX : ¬ x_X2_synchronize κ = 0) (hs : s_X2_synchronize κ) : vx_Met l yX2_synchronize wsX2_synchronize ({ frames := 7, cells := 1, slots := 6, locals := 102 }) (va_Pc [.ref (h 0)] (pX (dC, dI) [(cI, .int)] (kW cI h κ) sz)) bQ (xC (dC, dI) (va_A (kW cI h κ) sz) (kW cI h κ) (x_X2_synchronize κ)) 1 6 (va_A (kW cI h κ) sz) := by
  refine vx_ofW (cc := cX2_synchronize) (maxL := 1) (ret := (some .boolean)) (by decide) rfl ?_
  intro p e s m args below meth c s₁ B hml ht hv
  obtain ⟨rfl, ⟨hsz, hP, hK, hD0⟩, hZ⟩ := hv
  have hx := B.exec
  have hb := B.bytes
  have hr := B.returns
  have hts := atoms_spec (ws := wsX2_synchronize) B.pre
  have hown : s.vm.findClass RX2 = some m.cls := findClass_of_methodNamed B.named
  have hlocks := B.notSynchronized
  have hinX2 : ∀ w ∈ wsX20, w ∈ wsX2_synchronize := by decide +kernel
  subst hsz
  have hD := hD0.self (sz := s.heap.size)
  generalize hAe : va_A (kW cI h κ) s.heap.size = A at hD hZ ⊢
  have hA : ∀ q : Nat, s.heap.size ≤ q → A q := fun q h => by rw [← hAe]; exact Or.inr h
  have hl := lv_entry ([.ref (h 0)]) (n := 1) (Nat.le_of_ble_eq_true rfl)
  rw [lg_entry_eq]
  generalize (lg_sl ([.ref (h 0)]) ++ List.replicate (1 - (lg_sl ([.ref (h 0)])).length) Slot.unset).toArray = ls at hl ⊢
  have hl : lv_has ls 1 [(0, .ref (h 0))] := hl
  generalize hHe : s.heap = H at hP ⊢
  generalize hLe : ([] : List Loc) = locs
  have hS : va_S A s.heap H locs := by
    rw [← hLe, ← hHe]
    exact va_S.rf
  unfold s_X2_synchronize at hs
  have hE := x_X2_synchronize_e κ
  refine lv_aload_n hx hb dX2_synchronize_0 rfl (lv_at hl 0 rfl) ?_
  have hPc := hP.sub (ws' := kW cI h κ) [0, 1, 2, 3, 4, 5, 6, 7, 8, 9] rfl
  have hDc := hD.sub (ws' := kW cI h κ) [0, 1, 2, 3, 4, 5, 6, 7, 8, 9] (by decide) rfl
  by_cases hx_1 : x_X2_needUp κ = 0
  · have hs := hs hx_1
    rw [if_pos hx_1] at hE
    refine rcV (W2 := fun _ => kW cI h κ) (va_runV (As := []) (rest := []) ⟨hx, hb, hml, hown, hts⟩ (c_X2_needUp l dC dI cI h H.size κ hx_1) (cwV 0 hts gX2_synchronize_X2_needUp rfl rfl rfl (by decide +kernel) ⟨Nat.le_of_ble_eq_true rfl, Nat.le_of_ble_eq_true rfl⟩) (pW_V hPc hK hDc (ci := 2) (q0 := 0) rfl rfl) rfl rfl hl.1 rfl (lv_room (Nat.le_of_ble_eq_true rfl)) dX2_synchronize_1 ⟨Nat.le_of_ble_eq_true rfl, Nat.le_of_ble_eq_true rfl⟩) hP hD hS hA [0, 1, 2, 3, 4, 5, 6, 7, 8, 9] [] [0, 1, 2, 3, 4, 5, 6, 7, 8, 9] rfl rfl (by decide) (fun _ => rfl) (fun u_1 H locs hw hP hD hS => ?_)
    exact absurd hE hX
  · have hFc := va_free (wc := kW cI h κ) hD hS hA [0, 1, 2, 3, 4, 5, 6, 7, 8, 9] rfl
    exact rxO (vx_runV (As := []) (rest := []) ⟨hx, hb, hml, hown, hts⟩ (b_X2_needUp l hlt dC dI cI h H.size κ hx_1) (cwV 0 hts gX2_synchronize_X2_needUp rfl rfl rfl (by decide +kernel) ⟨Nat.le_of_ble_eq_true rfl, Nat.le_of_ble_eq_true rfl⟩) (pX_V hPc hK hDc hZ hS hFc (ci := 2) (q0 := 0) rfl rfl) rfl rfl hl.1 rfl (lv_room (Nat.le_of_ble_eq_true rfl)) dX2_synchronize_1 ⟨Nat.le_of_ble_eq_true rfl, Nat.le_of_ble_eq_true rfl⟩) hP hD hS hA [0, 1, 2, 3, 4, 5, 6, 7, 8, 9] [] [0, 1, 2, 3, 4, 5, 6, 7, 8, 9] rfl rfl (by decide) rfl ht hlocks (Nat.le_of_ble_eq_true rfl) (Nat.le_of_ble_eq_true rfl) (by rw [hE, if_neg hx_1])
def v_X2_checkpoint (κ : KS) : Int32 × KS := if ((v_X2_writeEntries κ).1) = 0 then (0, ((v_X2_writeEntries κ).2)) else if ((v_X2_writeOnce ((v_X2_writeEntries κ).2)).1) = 0 then (0, ((v_X2_writeOnce ((v_X2_writeEntries κ).2)).2)) else (1, kSCt (kSCi ((v_X2_writeOnce ((v_X2_writeEntries κ).2)).2) (v_X0_takeFrom (kIx ((v_X2_writeOnce ((v_X2_writeEntries κ).2)).2)) (kCi ((v_X2_writeOnce ((v_X2_writeEntries κ).2)).2)))) (kHd ((v_X2_writeOnce ((v_X2_writeEntries κ).2)).2)))
theorem v_X2_checkpoint_e (κ : KS) : v_X2_checkpoint κ = if ((v_X2_writeEntries κ).1) = 0 then (0, ((v_X2_writeEntries κ).2)) else if ((v_X2_writeOnce ((v_X2_writeEntries κ).2)).1) = 0 then (0, ((v_X2_writeOnce ((v_X2_writeEntries κ).2)).2)) else (1, kSCt (kSCi ((v_X2_writeOnce ((v_X2_writeEntries κ).2)).2) (v_X0_takeFrom (kIx ((v_X2_writeOnce ((v_X2_writeEntries κ).2)).2)) (kCi ((v_X2_writeOnce ((v_X2_writeEntries κ).2)).2)))) (kHd ((v_X2_writeOnce ((v_X2_writeEntries κ).2)).2))) := rfl
def x_X2_checkpoint (κ : KS) : Nat := if x_X2_needUp κ = 0 then 0 else x_X2_needUp κ
theorem x_X2_checkpoint_e (κ : KS) : x_X2_checkpoint κ = if x_X2_needUp κ = 0 then 0 else x_X2_needUp κ := rfl
def s_X2_checkpoint (κ : KS) : Prop := (x_X2_needUp κ = 0 → (s_X2_writeEntries κ ∧ ((((v_X2_writeEntries κ).1) = 0 → True) ∧ (¬ ((v_X2_writeEntries κ).1) = 0 → ((((v_X2_writeOnce ((v_X2_writeEntries κ).2)).1) = 0 → True) ∧ (¬ ((v_X2_writeOnce ((v_X2_writeEntries κ).2)).1) = 0 → (s_X0_takeFrom (kIx ((v_X2_writeOnce ((v_X2_writeEntries κ).2)).2)) (kCi ((v_X2_writeOnce ((v_X2_writeEntries κ).2)).2)) ∧ True)))))))
set_option maxHeartbeats 1000000 in
set_option maxRecDepth 100000 in
theorem c_X2_checkpoint (l : Launch) (dC : Nat → ClassId) (dI : Nat → Nat → Nat) (cI : ClassId) (h : Nat → Nat) (sz : Nat) (κ : KS) (hX : x_X2_checkpoint κ = 0) (hs : s_X2_checkpoint κ) : Met l yX2_checkpoint wsX2_checkpoint ({ frames := 7, cells := 0, slots := 0, locals := 102 }) (va_Pc [.ref (h 0)] (pW (dC, dI) [(cI, .int)] (kW cI h κ) sz)) (va_Qi (fun (r : Int32) (u : KS) => r = (v_X2_checkpoint κ).1 ∧ u = (v_X2_checkpoint κ).2 ∧ bz r) (qW (dC, dI) (va_A (kW cI h κ) sz) (fun u => kW cI h u)) (va_A (kW cI h κ) sz)) 0 0 (va_A (kW cI h κ) sz) := by
  refine Met.ofW (cc := cX2_checkpoint) (maxL := 1) (ret := (some .boolean)) (by decide) rfl ?_
  intro p e s m args below meth c s₁ B hml hv
  obtain ⟨rfl, hsz, hP, hK, hD0⟩ := hv
  have hx := B.exec
  have hb := B.bytes
  have hr := B.returns
  have hts := atoms_spec (ws := wsX2_checkpoint) B.pre
  have hown : s.vm.findClass RX2 = some m.cls := findClass_of_methodNamed B.named
  have hlocks := B.notSynchronized
  have hinX2 : ∀ w ∈ wsX20, w ∈ wsX2_checkpoint := by decide +kernel
  have hf19 := hts (.fieldLink RX2 19 "Keysapart" "index" "LKeysapart$Index;") (by decide +kernel)
  have hf23 := hts (.fieldLink RX2 23 "Keysapart" "checkpointIndex" "LKeysapart$Index;") (by decide +kernel)
  have hf33 := hts (.fieldLink RX2 33 "Keysapart" "headAt" "I") (by decide +kernel)
  have hf43 := hts (.fieldLink RX2 43 "Keysapart" "checkpointTo" "I") (by decide +kernel)
  subst hsz
  have hD := hD0.self (sz := s.heap.size)
  generalize hAe : va_A (kW cI h κ) s.heap.size = A at hD ⊢
  have hA : ∀ q : Nat, s.heap.size ≤ q → A q := fun q h => by rw [← hAe]; exact Or.inr h
  have hl := lv_entry ([.ref (h 0)]) (n := 1) (Nat.le_of_ble_eq_true rfl)
  rw [lg_entry_eq]
  generalize (lg_sl ([.ref (h 0)]) ++ List.replicate (1 - (lg_sl ([.ref (h 0)])).length) Slot.unset).toArray = ls at hl ⊢
  have hl : lv_has ls 1 [(0, .ref (h 0))] := hl
  generalize hHe : s.heap = H at hP ⊢
  generalize hLe : ([] : List Loc) = locs
  have hS : va_S A s.heap H locs := by
    rw [← hLe, ← hHe]
    exact va_S.rf
  unfold s_X2_checkpoint at hs
  rw [x_X2_checkpoint_e] at hX
  have hV := v_X2_checkpoint_e κ
  refine lv_aload_n hx hb dX2_checkpoint_0 rfl (lv_at hl 0 rfl) ?_
  have hx_1 : x_X2_needUp κ = 0 := (x_of hX).1
  have hX := (x_of hX).2
  have hs := hs hx_1
  have hPc := hP.sub (ws' := kW cI h κ) [0, 1, 2, 3, 4, 5, 6, 7, 8, 9] rfl
  have hDc := hD.sub (ws' := kW cI h κ) [0, 1, 2, 3, 4, 5, 6, 7, 8, 9] (by decide) rfl
  refine rcV (W2 := fun _ => kW cI h κ) (va_runV (As := []) (rest := []) ⟨hx, hb, hml, hown, hts⟩ (c_X2_needUp l dC dI cI h H.size κ hx_1) (cwV 0 hts gX2_checkpoint_X2_needUp rfl rfl rfl (by decide +kernel) ⟨Nat.le_of_ble_eq_true rfl, Nat.le_of_ble_eq_true rfl⟩) (pW_V hPc hK hDc (ci := 2) (q0 := 0) rfl rfl) rfl rfl hl.1 rfl (lv_room (Nat.le_of_ble_eq_true rfl)) dX2_checkpoint_1 ⟨Nat.le_of_ble_eq_true rfl, Nat.le_of_ble_eq_true rfl⟩) hP hD hS hA [0, 1, 2, 3, 4, 5, 6, 7, 8, 9] [] [0, 1, 2, 3, 4, 5, 6, 7, 8, 9] rfl rfl (by decide) (fun _ => rfl) (fun u_1 H locs hw hP hD hS => ?_)
  refine lv_aload_n hx hb dX2_checkpoint_4 rfl (lv_at hl 0 rfl) ?_
  have o_5 : s_X2_writeEntries κ := hs.1
  have hs := hs.2
  have hPc := hP.sub (ws' := kW cI h κ) [0, 1, 2, 3, 4, 5, 6, 7, 8, 9] rfl
  have hDc := hD.sub (ws' := kW cI h κ) [0, 1, 2, 3, 4, 5, 6, 7, 8, 9] (by decide) rfl
  refine rcI (W2 := fun u => kW cI h u) (va_runV (As := []) (rest := []) ⟨hx, hb, hml, hown, hts⟩ (c_X2_writeEntries l dC dI cI h H.size κ o_5) (cwV 0 hts gX2_checkpoint_X2_writeEntries rfl rfl rfl (by decide +kernel) ⟨Nat.le_of_ble_eq_true rfl, Nat.le_of_ble_eq_true rfl⟩) (pW_V hPc hK hDc (ci := 2) (q0 := 0) rfl rfl) rfl rfl hl.1 rfl (lv_room (Nat.le_of_ble_eq_true rfl)) dX2_checkpoint_5 ⟨Nat.le_of_ble_eq_true rfl, Nat.le_of_ble_eq_true rfl⟩) hP hD hS hA [0, 1, 2, 3, 4, 5, 6, 7, 8, 9] [] [0, 1, 2, 3, 4, 5, 6, 7, 8, 9] rfl rfl (by decide) (fun _ => rfl) (fun r_5 u_5 H locs hw hP hD hS => ?_)
  obtain ⟨hw, hw2, hz_5⟩ := hw
  try rw [← hw] at hV
  try rw [← hw] at hs
  try rw [← hw2] at hV
  try rw [← hw2] at hs
  refine lv_if_eq (tgt := 18) hx hb dX2_checkpoint_8 (by decide) (fun c_8 => ?_) (fun c_8 => ?_)
  · skip
    have hs := hs.1 c_8
    rw [if_pos c_8] at hV
    refine lv_iconst (v := 0) hx hb dX2_checkpoint_18 (by decide) ?_
    have hz9 : bz (0) := by first | assumption | (repeat (first | exact bz0 | exact bz1 | assumption | refine bz_ite ?_ ?_))
    exact rZ (w := fun u => kW cI h u) (u_5) hx hb hr hlocks hP hD hS (Nat.le_of_ble_eq_true rfl) (Nat.le_of_ble_eq_true rfl) dX2_checkpoint_19 hz9 ⟨by rw [hV] <;> rfl, by rw [hV] <;> rfl, hz9⟩
  · skip
    have hs := hs.2 c_8
    rw [if_neg c_8] at hV
    refine lv_aload_n hx hb dX2_checkpoint_11 rfl (lv_at hl 0 rfl) ?_
    have hPc := hP.sub (ws' := kW cI h u_5) [0, 1, 2, 3, 4, 5, 6, 7, 8, 9] rfl
    have hDc := hD.sub (ws' := kW cI h u_5) [0, 1, 2, 3, 4, 5, 6, 7, 8, 9] (by decide) rfl
    refine rcI (W2 := fun u => kW cI h u) (va_runV (As := []) (rest := []) ⟨hx, hb, hml, hown, hts⟩ (c_X2_writeOnce l dC dI cI h H.size u_5) (cwV 0 hts gX2_checkpoint_X2_writeOnce rfl rfl rfl (by decide +kernel) ⟨Nat.le_of_ble_eq_true rfl, Nat.le_of_ble_eq_true rfl⟩) (pW_V hPc hK hDc (ci := 2) (q0 := 0) rfl rfl) rfl rfl hl.1 rfl (lv_room (Nat.le_of_ble_eq_true rfl)) dX2_checkpoint_12 ⟨Nat.le_of_ble_eq_true rfl, Nat.le_of_ble_eq_true rfl⟩) hP hD hS hA [0, 1, 2, 3, 4, 5, 6, 7, 8, 9] [] [0, 1, 2, 3, 4, 5, 6, 7, 8, 9] rfl rfl (by decide) (fun _ => rfl) (fun r_12 u_12 H locs hw hP hD hS => ?_)
    obtain ⟨hw, hw2, hz_12⟩ := hw
    try rw [← hw] at hV
    try rw [← hw] at hs
    try rw [← hw2] at hV
    try rw [← hw2] at hs
    refine lv_if_ne (tgt := 20) hx hb dX2_checkpoint_15 (by decide) (fun c_15 => ?_) (fun c_15 => ?_)
    · skip
      have hs := hs.2 c_15
      rw [if_neg c_15] at hV
      refine lv_aload_n hx hb dX2_checkpoint_20 rfl (lv_at hl 0 rfl) ?_
      refine va_get (D := (dC, dI)) (ci := 2) (v := .ref (h 3)) (C := RX2) (T := TX2) (N := 10) hx hb hts hinX2 hown hK hP 0 rfl rfl 2 (by decide) hf23 (fun _ h9 => h9) rfl dX2_checkpoint_21 ?_
      refine lv_aload_n hx hb dX2_checkpoint_24 rfl (lv_at hl 0 rfl) ?_
      refine va_get (D := (dC, dI)) (ci := 2) (v := .ref (h 2)) (C := RX2) (T := TX2) (N := 10) hx hb hts hinX2 hown hK hP 0 rfl rfl 1 (by decide) hf19 (fun _ h9 => h9) rfl dX2_checkpoint_25 ?_
      have o_28 : s_X0_takeFrom (kIx u_12) (kCi u_12) := hs.1
      have hs := hs.2
      have hPc := hP.sub (ws' := jW cI (h 3) (h 8) (h 2) (h 7) (kIx u_12) (kCi u_12)) [3, 8, 2, 7] rfl
      have hDc := hD.sub (ws' := jW cI (h 3) (h 8) (h 2) (h 7) (kIx u_12) (kCi u_12)) [3, 8, 2, 7] (by decide) rfl
      refine rcV (W2 := fun u => kW cI h (kSCi u_12 u)) (va_runV (As := [.ref (h 2)]) (rest := []) ⟨hx, hb, hml, hown, hts⟩ (c_X0_takeFrom l dC dI cI (h 3) (h 8) (h 2) (h 7) (kIx u_12) H.size (kCi u_12) o_28) (cwV 1 hts gX2_checkpoint_X0_takeFrom rfl rfl rfl (by decide +kernel) ⟨Nat.le_of_ble_eq_true rfl, Nat.le_of_ble_eq_true rfl⟩) (pW_V hPc hK hDc (ci := 0) (q0 := 0) rfl rfl) rfl rfl hl.1 rfl (lv_room (Nat.le_of_ble_eq_true rfl)) dX2_checkpoint_28 ⟨Nat.le_of_ble_eq_true rfl, Nat.le_of_ble_eq_true rfl⟩) hP hD hS hA [3, 8, 2, 7] [0, 1, 4, 5, 6, 9] [0, 1, 8, 6, 2, 3, 4, 9, 7, 5] rfl rfl (by decide) (fun _ => rfl) (fun u_28 H locs hw hP hD hS => ?_)
      try rw [← hw] at hV
      refine lv_aload_n hx hb dX2_checkpoint_31 rfl (lv_at hl 0 rfl) ?_
      refine lv_aload_n hx hb dX2_checkpoint_32 rfl (lv_at hl 0 rfl) ?_
      refine va_get (D := (dC, dI)) (ci := 2) (v := .int (kHd u_12)) (C := RX2) (T := TX2) (N := 10) hx hb hts hinX2 hown hK hP 0 rfl rfl 5 (by decide) hf33 (fun _ h9 => h9) rfl dX2_checkpoint_33 ?_
      refine va_put (D := (dC, dI)) (ci := 2) (v := .int (kHd u_12)) (ty := .int) (C := RX2) (T := TX2) (N := 10) hx hb hts hinX2 tyX2 tyX2_ok nmX2 hown hK hP hD hS 0 rfl rfl 8 (by decide) hf43 (fun _ h9 => h9) rfl (by decide +kernel) rfl rfl (Nat.le_of_ble_eq_true rfl) dX2_checkpoint_36 (fun H locs hP hD hS => ?_)
      have hP : va_P (dC, dI) vwCl (kW cI h (kSCt (kSCi u_12 u_28) (kHd u_12))) H := hP
      have hD : va_D A (kW cI h (kSCt (kSCi u_12 u_28) (kHd u_12))) := hD
      refine lv_iconst (v := 1) hx hb dX2_checkpoint_39 (by decide) ?_
      have hz9 : bz (1) := by first | assumption | (repeat (first | exact bz0 | exact bz1 | assumption | refine bz_ite ?_ ?_))
      exact rZ (w := fun u => kW cI h u) (kSCt (kSCi u_12 u_28) (kHd u_12)) hx hb hr hlocks hP hD hS (Nat.le_of_ble_eq_true rfl) (Nat.le_of_ble_eq_true rfl) dX2_checkpoint_40 hz9 ⟨by rw [hV] <;> rfl, by rw [hV] <;> rfl, hz9⟩
    · skip
      have hs := hs.1 c_15
      rw [if_pos c_15] at hV
      refine lv_iconst (v := 0) hx hb dX2_checkpoint_18 (by decide) ?_
      have hz9 : bz (0) := by first | assumption | (repeat (first | exact bz0 | exact bz1 | assumption | refine bz_ite ?_ ?_))
      exact rZ (w := fun u => kW cI h u) (u_12) hx hb hr hlocks hP hD hS (Nat.le_of_ble_eq_true rfl) (Nat.le_of_ble_eq_true rfl) dX2_checkpoint_19 hz9 ⟨by rw [hV] <;> rfl, by rw [hV] <;> rfl, hz9⟩
set_option maxHeartbeats 1000000 in
set_option maxRecDepth 100000 in
theorem b_X2_checkpoint (l : Launch) (hlt : l.stackTraces = false) (dC : Nat → ClassId) (dI : Nat → Nat → Nat) (cI : ClassId) (h : Nat → Nat) (sz : Nat) (κ : KS) (hX : ¬ x_X2_checkpoint κ = 0) (hs : s_X2_checkpoint κ) : vx_Met l yX2_checkpoint wsX2_checkpoint ({ frames := 7, cells := 1, slots := 6, locals := 102 }) (va_Pc [.ref (h 0)] (pX (dC, dI) [(cI, .int)] (kW cI h κ) sz)) bQ (xC (dC, dI) (va_A (kW cI h κ) sz) (kW cI h κ) (x_X2_checkpoint κ)) 1 6 (va_A (kW cI h κ) sz) := by
  refine vx_ofW (cc := cX2_checkpoint) (maxL := 1) (ret := (some .boolean)) (by decide) rfl ?_
  intro p e s m args below meth c s₁ B hml ht hv
  obtain ⟨rfl, ⟨hsz, hP, hK, hD0⟩, hZ⟩ := hv
  have hx := B.exec
  have hb := B.bytes
  have hr := B.returns
  have hts := atoms_spec (ws := wsX2_checkpoint) B.pre
  have hown : s.vm.findClass RX2 = some m.cls := findClass_of_methodNamed B.named
  have hlocks := B.notSynchronized
  have hinX2 : ∀ w ∈ wsX20, w ∈ wsX2_checkpoint := by decide +kernel
  have hf19 := hts (.fieldLink RX2 19 "Keysapart" "index" "LKeysapart$Index;") (by decide +kernel)
  have hf23 := hts (.fieldLink RX2 23 "Keysapart" "checkpointIndex" "LKeysapart$Index;") (by decide +kernel)
  have hf33 := hts (.fieldLink RX2 33 "Keysapart" "headAt" "I") (by decide +kernel)
  have hf43 := hts (.fieldLink RX2 43 "Keysapart" "checkpointTo" "I") (by decide +kernel)
  subst hsz
  have hD := hD0.self (sz := s.heap.size)
  generalize hAe : va_A (kW cI h κ) s.heap.size = A at hD hZ ⊢
  have hA : ∀ q : Nat, s.heap.size ≤ q → A q := fun q h => by rw [← hAe]; exact Or.inr h
  have hl := lv_entry ([.ref (h 0)]) (n := 1) (Nat.le_of_ble_eq_true rfl)
  rw [lg_entry_eq]
  generalize (lg_sl ([.ref (h 0)]) ++ List.replicate (1 - (lg_sl ([.ref (h 0)])).length) Slot.unset).toArray = ls at hl ⊢
  have hl : lv_has ls 1 [(0, .ref (h 0))] := hl
  generalize hHe : s.heap = H at hP ⊢
  generalize hLe : ([] : List Loc) = locs
  have hS : va_S A s.heap H locs := by
    rw [← hLe, ← hHe]
    exact va_S.rf
  unfold s_X2_checkpoint at hs
  have hE := x_X2_checkpoint_e κ
  refine lv_aload_n hx hb dX2_checkpoint_0 rfl (lv_at hl 0 rfl) ?_
  have hPc := hP.sub (ws' := kW cI h κ) [0, 1, 2, 3, 4, 5, 6, 7, 8, 9] rfl
  have hDc := hD.sub (ws' := kW cI h κ) [0, 1, 2, 3, 4, 5, 6, 7, 8, 9] (by decide) rfl
  by_cases hx_1 : x_X2_needUp κ = 0
  · have hs := hs hx_1
    rw [if_pos hx_1] at hE
    refine rcV (W2 := fun _ => kW cI h κ) (va_runV (As := []) (rest := []) ⟨hx, hb, hml, hown, hts⟩ (c_X2_needUp l dC dI cI h H.size κ hx_1) (cwV 0 hts gX2_checkpoint_X2_needUp rfl rfl rfl (by decide +kernel) ⟨Nat.le_of_ble_eq_true rfl, Nat.le_of_ble_eq_true rfl⟩) (pW_V hPc hK hDc (ci := 2) (q0 := 0) rfl rfl) rfl rfl hl.1 rfl (lv_room (Nat.le_of_ble_eq_true rfl)) dX2_checkpoint_1 ⟨Nat.le_of_ble_eq_true rfl, Nat.le_of_ble_eq_true rfl⟩) hP hD hS hA [0, 1, 2, 3, 4, 5, 6, 7, 8, 9] [] [0, 1, 2, 3, 4, 5, 6, 7, 8, 9] rfl rfl (by decide) (fun _ => rfl) (fun u_1 H locs hw hP hD hS => ?_)
    exact absurd hE hX
  · have hFc := va_free (wc := kW cI h κ) hD hS hA [0, 1, 2, 3, 4, 5, 6, 7, 8, 9] rfl
    exact rxO (vx_runV (As := []) (rest := []) ⟨hx, hb, hml, hown, hts⟩ (b_X2_needUp l hlt dC dI cI h H.size κ hx_1) (cwV 0 hts gX2_checkpoint_X2_needUp rfl rfl rfl (by decide +kernel) ⟨Nat.le_of_ble_eq_true rfl, Nat.le_of_ble_eq_true rfl⟩) (pX_V hPc hK hDc hZ hS hFc (ci := 2) (q0 := 0) rfl rfl) rfl rfl hl.1 rfl (lv_room (Nat.le_of_ble_eq_true rfl)) dX2_checkpoint_1 ⟨Nat.le_of_ble_eq_true rfl, Nat.le_of_ble_eq_true rfl⟩) hP hD hS hA [0, 1, 2, 3, 4, 5, 6, 7, 8, 9] [] [0, 1, 2, 3, 4, 5, 6, 7, 8, 9] rfl rfl (by decide) rfl ht hlocks (Nat.le_of_ble_eq_true rfl) (Nat.le_of_ble_eq_true rfl) (by rw [hE, if_neg hx_1])
def v_X2_collect (κ : KS) (p1 : Int32) : Int32 × KS := if p1 < 1 then (0, κ) else if p1 ≤ 96 then if p1 ≤ ((kHd κ) - (kTl κ)) then if ((v_X2_writeEntries (v_X2_appendLiveAgain κ p1)).1) = 0 then (0, ((v_X2_writeEntries (v_X2_appendLiveAgain κ p1)).2)) else if ((v_X2_writeOnce ((v_X2_writeEntries (v_X2_appendLiveAgain κ p1)).2)).1) = 0 then (0, ((v_X2_writeOnce ((v_X2_writeEntries (v_X2_appendLiveAgain κ p1)).2)).2)) else (1, kSTl ((v_X2_writeOnce ((v_X2_writeEntries (v_X2_appendLiveAgain κ p1)).2)).2) ((kTl ((v_X2_writeOnce ((v_X2_writeEntries (v_X2_appendLiveAgain κ p1)).2)).2)) + p1)) else (0, κ) else (0, κ)
theorem v_X2_collect_e (κ : KS) (p1 : Int32) : v_X2_collect κ p1 = if p1 < 1 then (0, κ) else if p1 ≤ 96 then if p1 ≤ ((kHd κ) - (kTl κ)) then if ((v_X2_writeEntries (v_X2_appendLiveAgain κ p1)).1) = 0 then (0, ((v_X2_writeEntries (v_X2_appendLiveAgain κ p1)).2)) else if ((v_X2_writeOnce ((v_X2_writeEntries (v_X2_appendLiveAgain κ p1)).2)).1) = 0 then (0, ((v_X2_writeOnce ((v_X2_writeEntries (v_X2_appendLiveAgain κ p1)).2)).2)) else (1, kSTl ((v_X2_writeOnce ((v_X2_writeEntries (v_X2_appendLiveAgain κ p1)).2)).2) ((kTl ((v_X2_writeOnce ((v_X2_writeEntries (v_X2_appendLiveAgain κ p1)).2)).2)) + p1)) else (0, κ) else (0, κ) := rfl
def x_X2_collect (κ : KS) (p1 : Int32) : Nat := if p1 < 1 then 1 else if p1 ≤ 96 then if x_X2_needUp κ = 0 then if p1 ≤ ((kHd κ) - (kTl κ)) then if x_X2_needRoom κ (v_X2_liveFromTail κ p1) = 0 then 0 else x_X2_needRoom κ (v_X2_liveFromTail κ p1) else 2 else x_X2_needUp κ else 1
theorem x_X2_collect_e (κ : KS) (p1 : Int32) : x_X2_collect κ p1 = if p1 < 1 then 1 else if p1 ≤ 96 then if x_X2_needUp κ = 0 then if p1 ≤ ((kHd κ) - (kTl κ)) then if x_X2_needRoom κ (v_X2_liveFromTail κ p1) = 0 then 0 else x_X2_needRoom κ (v_X2_liveFromTail κ p1) else 2 else x_X2_needUp κ else 1 := rfl
def s_X2_collect (κ : KS) (p1 : Int32) : Prop := ((p1 < 1 → True) ∧ (¬ p1 < 1 → ((p1 ≤ 96 → (x_X2_needUp κ = 0 → ((p1 ≤ ((kHd κ) - (kTl κ)) → (s_X2_liveFromTail κ p1 ∧ (x_X2_needRoom κ (v_X2_liveFromTail κ p1) = 0 → (s_X2_appendLiveAgain κ p1 ∧ (s_X2_writeEntries (v_X2_appendLiveAgain κ p1) ∧ True))))) ∧ (¬ p1 ≤ ((kHd κ) - (kTl κ)) → True)))) ∧ (¬ p1 ≤ 96 → True))))
set_option maxHeartbeats 1000000 in
set_option maxRecDepth 100000 in
theorem c_X2_collect (l : Launch) (dC : Nat → ClassId) (dI : Nat → Nat → Nat) (cI : ClassId) (h : Nat → Nat) (sz : Nat) (κ : KS) (p1 : Int32) (hX : x_X2_collect κ p1 = 0) (hs : s_X2_collect κ p1) : Met l yX2_collect wsX2_collect ({ frames := 7, cells := 0, slots := 0, locals := 113 }) (va_Pc [.ref (h 0), .int p1] (pW (dC, dI) [(cI, .int)] (kW cI h κ) sz)) (va_Qi (fun (r : Int32) (u : KS) => r = (v_X2_collect κ p1).1 ∧ u = (v_X2_collect κ p1).2 ∧ bz r) (qW (dC, dI) (va_A (kW cI h κ) sz) (fun u => kW cI h u)) (va_A (kW cI h κ) sz)) 0 0 (va_A (kW cI h κ) sz) := by
  refine Met.ofW (cc := cX2_collect) (maxL := 2) (ret := (some .boolean)) (by decide) rfl ?_
  intro p e s m args below meth c s₁ B hml hv
  obtain ⟨rfl, hsz, hP, hK, hD0⟩ := hv
  have hx := B.exec
  have hb := B.bytes
  have hr := B.returns
  have hts := atoms_spec (ws := wsX2_collect) B.pre
  have hown : s.vm.findClass RX2 = some m.cls := findClass_of_methodNamed B.named
  have hlocks := B.notSynchronized
  have hinX2 : ∀ w ∈ wsX20, w ∈ wsX2_collect := by decide +kernel
  have hf33 := hts (.fieldLink RX2 33 "Keysapart" "headAt" "I") (by decide +kernel)
  have hf37 := hts (.fieldLink RX2 37 "Keysapart" "tailAt" "I") (by decide +kernel)
  subst hsz
  have hD := hD0.self (sz := s.heap.size)
  generalize hAe : va_A (kW cI h κ) s.heap.size = A at hD ⊢
  have hA : ∀ q : Nat, s.heap.size ≤ q → A q := fun q h => by rw [← hAe]; exact Or.inr h
  have hl := lv_entry ([.ref (h 0), .int p1]) (n := 2) (Nat.le_of_ble_eq_true rfl)
  rw [lg_entry_eq]
  generalize (lg_sl ([.ref (h 0), .int p1]) ++ List.replicate (2 - (lg_sl ([.ref (h 0), .int p1])).length) Slot.unset).toArray = ls at hl ⊢
  have hl : lv_has ls 2 [(0, .ref (h 0)), (1, .int p1)] := hl
  generalize hHe : s.heap = H at hP ⊢
  generalize hLe : ([] : List Loc) = locs
  have hS : va_S A s.heap H locs := by
    rw [← hLe, ← hHe]
    exact va_S.rf
  unfold s_X2_collect at hs
  rw [x_X2_collect_e] at hX
  have hV := v_X2_collect_e κ p1
  refine lv_iload_n hx hb dX2_collect_0 rfl (lv_at hl 1 rfl) ?_
  refine lv_iconst (v := 1) hx hb dX2_collect_1 (by decide) ?_
  refine lv_icmp_lt (tgt := 11) hx hb dX2_collect_2 (by decide) (fun c_2 => ?_) (fun c_2 => ?_)
  · skip
    have hs := hs.1 c_2
    rw [if_pos c_2] at hV
    rw [if_pos c_2] at hX
    exact absurd hX (by decide)
  · skip
    have hs := hs.2 c_2
    rw [if_neg c_2] at hV
    rw [if_neg c_2] at hX
    refine lv_iload_n hx hb dX2_collect_5 rfl (lv_at hl 1 rfl) ?_
    refine lv_bipush (v := 96) hx hb dX2_collect_6 (by decide) ?_
    refine lv_icmp_le (tgt := 21) hx hb dX2_collect_8 (by decide) (fun c_8 => ?_) (fun c_8 => ?_)
    · skip
      have hs := hs.1 c_8
      rw [if_pos c_8] at hV
      rw [if_pos c_8] at hX
      refine lv_aload_n hx hb dX2_collect_21 rfl (lv_at hl 0 rfl) ?_
      have hx_22 : x_X2_needUp κ = 0 := (x_of hX).1
      have hX := (x_of hX).2
      have hs := hs hx_22
      have hPc := hP.sub (ws' := kW cI h κ) [0, 1, 2, 3, 4, 5, 6, 7, 8, 9] rfl
      have hDc := hD.sub (ws' := kW cI h κ) [0, 1, 2, 3, 4, 5, 6, 7, 8, 9] (by decide) rfl
      refine rcV (W2 := fun _ => kW cI h κ) (va_runV (As := []) (rest := []) ⟨hx, hb, hml, hown, hts⟩ (c_X2_needUp l dC dI cI h H.size κ hx_22) (cwV 0 hts gX2_collect_X2_needUp rfl rfl rfl (by decide +kernel) ⟨Nat.le_of_ble_eq_true rfl, Nat.le_of_ble_eq_true rfl⟩) (pW_V hPc hK hDc (ci := 2) (q0 := 0) rfl rfl) rfl rfl hl.1 rfl (lv_room (Nat.le_of_ble_eq_true rfl)) dX2_collect_22 ⟨Nat.le_of_ble_eq_true rfl, Nat.le_of_ble_eq_true rfl⟩) hP hD hS hA [0, 1, 2, 3, 4, 5, 6, 7, 8, 9] [] [0, 1, 2, 3, 4, 5, 6, 7, 8, 9] rfl rfl (by decide) (fun _ => rfl) (fun u_22 H locs hw hP hD hS => ?_)
      refine lv_iload_n hx hb dX2_collect_25 rfl (lv_at hl 1 rfl) ?_
      refine lv_aload_n hx hb dX2_collect_26 rfl (lv_at hl 0 rfl) ?_
      refine va_get (D := (dC, dI)) (ci := 2) (v := .int (kHd κ)) (C := RX2) (T := TX2) (N := 10) hx hb hts hinX2 hown hK hP 0 rfl rfl 5 (by decide) hf33 (fun _ h9 => h9) rfl dX2_collect_27 ?_
      refine lv_aload_n hx hb dX2_collect_30 rfl (lv_at hl 0 rfl) ?_
      refine va_get (D := (dC, dI)) (ci := 2) (v := .int (kTl κ)) (C := RX2) (T := TX2) (N := 10) hx hb hts hinX2 hown hK hP 0 rfl rfl 6 (by decide) hf37 (fun _ h9 => h9) rfl dX2_collect_31 ?_
      refine lv_isub hx hb dX2_collect_34 ?_
      refine lv_icmp_le (tgt := 48) hx hb dX2_collect_35 (by decide) (fun c_35 => ?_) (fun c_35 => ?_)
      · skip
        have hs := hs.1 c_35
        rw [if_pos c_35] at hV
        rw [if_pos c_35] at hX
        refine lv_aload_n hx hb dX2_collect_48 rfl (lv_at hl 0 rfl) ?_
        refine lv_aload_n hx hb dX2_collect_49 rfl (lv_at hl 0 rfl) ?_
        refine lv_iload_n hx hb dX2_collect_50 rfl (lv_at hl 1 rfl) ?_
        have o_51 : s_X2_liveFromTail κ p1 := hs.1
        have hs := hs.2
        have hPc := hP.sub (ws' := kW cI h κ) [0, 1, 2, 3, 4, 5, 6, 7, 8, 9] rfl
        have hDc := hD.sub (ws' := kW cI h κ) [0, 1, 2, 3, 4, 5, 6, 7, 8, 9] (by decide) rfl
        refine rcI (W2 := fun _ => kW cI h κ) (va_runV (As := [.int p1]) (rest := [.ref (h 0)]) ⟨hx, hb, hml, hown, hts⟩ (c_X2_liveFromTail l dC dI cI h H.size κ p1 o_51) (cwV 1 hts gX2_collect_X2_liveFromTail rfl rfl rfl (by decide +kernel) ⟨Nat.le_of_ble_eq_true rfl, Nat.le_of_ble_eq_true rfl⟩) (pW_V hPc hK hDc (ci := 2) (q0 := 0) rfl rfl) rfl rfl hl.1 rfl (lv_room (Nat.le_of_ble_eq_true rfl)) dX2_collect_51 ⟨Nat.le_of_ble_eq_true rfl, Nat.le_of_ble_eq_true rfl⟩) hP hD hS hA [0, 1, 2, 3, 4, 5, 6, 7, 8, 9] [] [0, 1, 2, 3, 4, 5, 6, 7, 8, 9] rfl rfl (by decide) (fun _ => rfl) (fun r_51 u_51 H locs hw hP hD hS => ?_)
        try rw [← hw] at hV
        try rw [← hw] at hs
        try rw [← hw] at hX
        have hx_54 : x_X2_needRoom κ r_51 = 0 := (x_of hX).1
        have hX := (x_of hX).2
        have hs := hs hx_54
        have hPc := hP.sub (ws' := kW cI h κ) [0, 1, 2, 3, 4, 5, 6, 7, 8, 9] rfl
        have hDc := hD.sub (ws' := kW cI h κ) [0, 1, 2, 3, 4, 5, 6, 7, 8, 9] (by decide) rfl
        refine rcV (W2 := fun _ => kW cI h κ) (va_runV (As := [.int r_51]) (rest := []) ⟨hx, hb, hml, hown, hts⟩ (c_X2_needRoom l dC dI cI h H.size κ r_51 hx_54) (cwV 1 hts gX2_collect_X2_needRoom rfl rfl rfl (by decide +kernel) ⟨Nat.le_of_ble_eq_true rfl, Nat.le_of_ble_eq_true rfl⟩) (pW_V hPc hK hDc (ci := 2) (q0 := 0) rfl rfl) rfl rfl hl.1 rfl (lv_room (Nat.le_of_ble_eq_true rfl)) dX2_collect_54 ⟨Nat.le_of_ble_eq_true rfl, Nat.le_of_ble_eq_true rfl⟩) hP hD hS hA [0, 1, 2, 3, 4, 5, 6, 7, 8, 9] [] [0, 1, 2, 3, 4, 5, 6, 7, 8, 9] rfl rfl (by decide) (fun _ => rfl) (fun u_54 H locs hw hP hD hS => ?_)
        refine lv_aload_n hx hb dX2_collect_57 rfl (lv_at hl 0 rfl) ?_
        refine lv_iload_n hx hb dX2_collect_58 rfl (lv_at hl 1 rfl) ?_
        have o_59 : s_X2_appendLiveAgain κ p1 := hs.1
        have hs := hs.2
        have hPc := hP.sub (ws' := kW cI h κ) [0, 1, 2, 3, 4, 5, 6, 7, 8, 9] rfl
        have hDc := hD.sub (ws' := kW cI h κ) [0, 1, 2, 3, 4, 5, 6, 7, 8, 9] (by decide) rfl
        refine rcV (W2 := fun u => kW cI h u) (va_runV (As := [.int p1]) (rest := []) ⟨hx, hb, hml, hown, hts⟩ (c_X2_appendLiveAgain l dC dI cI h H.size κ p1 o_59) (cwV 1 hts gX2_collect_X2_appendLiveAgain rfl rfl rfl (by decide +kernel) ⟨Nat.le_of_ble_eq_true rfl, Nat.le_of_ble_eq_true rfl⟩) (pW_V hPc hK hDc (ci := 2) (q0 := 0) rfl rfl) rfl rfl hl.1 rfl (lv_room (Nat.le_of_ble_eq_true rfl)) dX2_collect_59 ⟨Nat.le_of_ble_eq_true rfl, Nat.le_of_ble_eq_true rfl⟩) hP hD hS hA [0, 1, 2, 3, 4, 5, 6, 7, 8, 9] [] [0, 1, 2, 3, 4, 5, 6, 7, 8, 9] rfl rfl (by decide) (fun _ => rfl) (fun u_59 H locs hw hP hD hS => ?_)
        try rw [← hw] at hV
        try rw [← hw] at hs
        refine lv_aload_n hx hb dX2_collect_62 rfl (lv_at hl 0 rfl) ?_
        have o_63 : s_X2_writeEntries u_59 := hs.1
        have hs := hs.2
        have hPc := hP.sub (ws' := kW cI h u_59) [0, 1, 2, 3, 4, 5, 6, 7, 8, 9] rfl
        have hDc := hD.sub (ws' := kW cI h u_59) [0, 1, 2, 3, 4, 5, 6, 7, 8, 9] (by decide) rfl
        refine rcI (W2 := fun u => kW cI h u) (va_runV (As := []) (rest := []) ⟨hx, hb, hml, hown, hts⟩ (c_X2_writeEntries l dC dI cI h H.size u_59 o_63) (cwV 0 hts gX2_collect_X2_writeEntries rfl rfl rfl (by decide +kernel) ⟨Nat.le_of_ble_eq_true rfl, Nat.le_of_ble_eq_true rfl⟩) (pW_V hPc hK hDc (ci := 2) (q0 := 0) rfl rfl) rfl rfl hl.1 rfl (lv_room (Nat.le_of_ble_eq_true rfl)) dX2_collect_63 ⟨Nat.le_of_ble_eq_true rfl, Nat.le_of_ble_eq_true rfl⟩) hP hD hS hA [0, 1, 2, 3, 4, 5, 6, 7, 8, 9] [] [0, 1, 2, 3, 4, 5, 6, 7, 8, 9] rfl rfl (by decide) (fun _ => rfl) (fun r_63 u_63 H locs hw hP hD hS => ?_)
        obtain ⟨hw, hw2, hz_63⟩ := hw
        try rw [← hw] at hV
        try rw [← hw2] at hV
        refine lv_if_eq (tgt := 76) hx hb dX2_collect_66 (by decide) (fun c_66 => ?_) (fun c_66 => ?_)
        · skip
          rw [if_pos c_66] at hV
          refine lv_iconst (v := 0) hx hb dX2_collect_76 (by decide) ?_
          have hz9 : bz (0) := by first | assumption | (repeat (first | exact bz0 | exact bz1 | assumption | refine bz_ite ?_ ?_))
          exact rZ (w := fun u => kW cI h u) (u_63) hx hb hr hlocks hP hD hS (Nat.le_of_ble_eq_true rfl) (Nat.le_of_ble_eq_true rfl) dX2_collect_77 hz9 ⟨by rw [hV] <;> rfl, by rw [hV] <;> rfl, hz9⟩
        · skip
          rw [if_neg c_66] at hV
          refine lv_aload_n hx hb dX2_collect_69 rfl (lv_at hl 0 rfl) ?_
          have hPc := hP.sub (ws' := kW cI h u_63) [0, 1, 2, 3, 4, 5, 6, 7, 8, 9] rfl
          have hDc := hD.sub (ws' := kW cI h u_63) [0, 1, 2, 3, 4, 5, 6, 7, 8, 9] (by decide) rfl
          refine rcI (W2 := fun u => kW cI h u) (va_runV (As := []) (rest := []) ⟨hx, hb, hml, hown, hts⟩ (c_X2_writeOnce l dC dI cI h H.size u_63) (cwV 0 hts gX2_collect_X2_writeOnce rfl rfl rfl (by decide +kernel) ⟨Nat.le_of_ble_eq_true rfl, Nat.le_of_ble_eq_true rfl⟩) (pW_V hPc hK hDc (ci := 2) (q0 := 0) rfl rfl) rfl rfl hl.1 rfl (lv_room (Nat.le_of_ble_eq_true rfl)) dX2_collect_70 ⟨Nat.le_of_ble_eq_true rfl, Nat.le_of_ble_eq_true rfl⟩) hP hD hS hA [0, 1, 2, 3, 4, 5, 6, 7, 8, 9] [] [0, 1, 2, 3, 4, 5, 6, 7, 8, 9] rfl rfl (by decide) (fun _ => rfl) (fun r_70 u_70 H locs hw hP hD hS => ?_)
          obtain ⟨hw, hw2, hz_70⟩ := hw
          try rw [← hw] at hV
          try rw [← hw2] at hV
          refine lv_if_ne (tgt := 78) hx hb dX2_collect_73 (by decide) (fun c_73 => ?_) (fun c_73 => ?_)
          · skip
            rw [if_neg c_73] at hV
            refine lv_aload_n hx hb dX2_collect_78 rfl (lv_at hl 0 rfl) ?_
            refine lv_dup hx hb dX2_collect_79 rfl ?_
            refine va_get (D := (dC, dI)) (ci := 2) (v := .int (kTl u_70)) (C := RX2) (T := TX2) (N := 10) hx hb hts hinX2 hown hK hP 0 rfl rfl 6 (by decide) hf37 (fun _ h9 => h9) rfl dX2_collect_80 ?_
            refine lv_iload_n hx hb dX2_collect_83 rfl (lv_at hl 1 rfl) ?_
            refine lv_iadd hx hb dX2_collect_84 ?_
            refine va_put (D := (dC, dI)) (ci := 2) (v := .int ((kTl u_70) + p1)) (ty := .int) (C := RX2) (T := TX2) (N := 10) hx hb hts hinX2 tyX2 tyX2_ok nmX2 hown hK hP hD hS 0 rfl rfl 6 (by decide) hf37 (fun _ h9 => h9) rfl (by decide +kernel) rfl rfl (Nat.le_of_ble_eq_true rfl) dX2_collect_85 (fun H locs hP hD hS => ?_)
            have hP : va_P (dC, dI) vwCl (kW cI h (kSTl u_70 ((kTl u_70) + p1))) H := hP
            have hD : va_D A (kW cI h (kSTl u_70 ((kTl u_70) + p1))) := hD
            refine lv_iconst (v := 1) hx hb dX2_collect_88 (by decide) ?_
            have hz9 : bz (1) := by first | assumption | (repeat (first | exact bz0 | exact bz1 | assumption | refine bz_ite ?_ ?_))
            exact rZ (w := fun u => kW cI h u) (kSTl u_70 ((kTl u_70) + p1)) hx hb hr hlocks hP hD hS (Nat.le_of_ble_eq_true rfl) (Nat.le_of_ble_eq_true rfl) dX2_collect_89 hz9 ⟨by rw [hV] <;> rfl, by rw [hV] <;> rfl, hz9⟩
          · skip
            rw [if_pos c_73] at hV
            refine lv_iconst (v := 0) hx hb dX2_collect_76 (by decide) ?_
            have hz9 : bz (0) := by first | assumption | (repeat (first | exact bz0 | exact bz1 | assumption | refine bz_ite ?_ ?_))
            exact rZ (w := fun u => kW cI h u) (u_70) hx hb hr hlocks hP hD hS (Nat.le_of_ble_eq_true rfl) (Nat.le_of_ble_eq_true rfl) dX2_collect_77 hz9 ⟨by rw [hV] <;> rfl, by rw [hV] <;> rfl, hz9⟩
      · skip
        have hs := hs.2 c_35
        rw [if_neg c_35] at hV
        rw [if_neg c_35] at hX
        exact absurd hX (by decide)
    · skip
      have hs := hs.2 c_8
      rw [if_neg c_8] at hV
      rw [if_neg c_8] at hX
      exact absurd hX (by decide)
set_option maxHeartbeats 1000000 in
set_option maxRecDepth 100000 in
theorem b_X2_collect (l : Launch) (hlt : l.stackTraces = false) (dC : Nat → ClassId) (dI : Nat → Nat → Nat) (cI : ClassId) (h : Nat → Nat) (sz : Nat) (κ : KS) (p1 : Int32) (hX : ¬ x_X2_collect κ p1 = 0) (hs : s_X2_collect κ p1) : vx_Met l yX2_collect wsX2_collect ({ frames := 7, cells := 1, slots := 6, locals := 113 }) (va_Pc [.ref (h 0), .int p1] (pX (dC, dI) [(cI, .int)] (kW cI h κ) sz)) bQ (xC (dC, dI) (va_A (kW cI h κ) sz) (kW cI h κ) (x_X2_collect κ p1)) 1 6 (va_A (kW cI h κ) sz) := by
  refine vx_ofW (cc := cX2_collect) (maxL := 2) (ret := (some .boolean)) (by decide) rfl ?_
  intro p e s m args below meth c s₁ B hml ht hv
  obtain ⟨rfl, ⟨hsz, hP, hK, hD0⟩, hZ⟩ := hv
  have hx := B.exec
  have hb := B.bytes
  have hr := B.returns
  have hts := atoms_spec (ws := wsX2_collect) B.pre
  have hown : s.vm.findClass RX2 = some m.cls := findClass_of_methodNamed B.named
  have hlocks := B.notSynchronized
  have hinX2 : ∀ w ∈ wsX20, w ∈ wsX2_collect := by decide +kernel
  have hf33 := hts (.fieldLink RX2 33 "Keysapart" "headAt" "I") (by decide +kernel)
  have hf37 := hts (.fieldLink RX2 37 "Keysapart" "tailAt" "I") (by decide +kernel)
  subst hsz
  have hD := hD0.self (sz := s.heap.size)
  generalize hAe : va_A (kW cI h κ) s.heap.size = A at hD hZ ⊢
  have hA : ∀ q : Nat, s.heap.size ≤ q → A q := fun q h => by rw [← hAe]; exact Or.inr h
  have hl := lv_entry ([.ref (h 0), .int p1]) (n := 2) (Nat.le_of_ble_eq_true rfl)
  rw [lg_entry_eq]
  generalize (lg_sl ([.ref (h 0), .int p1]) ++ List.replicate (2 - (lg_sl ([.ref (h 0), .int p1])).length) Slot.unset).toArray = ls at hl ⊢
  have hl : lv_has ls 2 [(0, .ref (h 0)), (1, .int p1)] := hl
  generalize hHe : s.heap = H at hP ⊢
  generalize hLe : ([] : List Loc) = locs
  have hS : va_S A s.heap H locs := by
    rw [← hLe, ← hHe]
    exact va_S.rf
  unfold s_X2_collect at hs
  have hE := x_X2_collect_e κ p1
  refine lv_iload_n hx hb dX2_collect_0 rfl (lv_at hl 1 rfl) ?_
  refine lv_iconst (v := 1) hx hb dX2_collect_1 (by decide) ?_
  refine lv_icmp_lt (tgt := 11) hx hb dX2_collect_2 (by decide) (fun c_2 => ?_) (fun c_2 => ?_)
  · skip
    have hs := hs.1 c_2
    rw [if_pos c_2] at hE
    exact rT (cls := "java/lang/IllegalArgumentException") (text := "entries are 1 to 96") (ik := 53) (is := 109) (ic := 57) hx hb hlt hown hts (by decide +kernel) (by decide +kernel) (by decide +kernel) (by decide +kernel) ats_b57 ats_g57 hZ (by decide +kernel) hS hD hP (by rw [hml]; exact hl.1) dX2_collect_11 dX2_collect_14 dX2_collect_15 dX2_collect_17 dX2_collect_20 ht (Nat.le_of_ble_eq_true rfl) (Nat.le_of_ble_eq_true rfl) (Nat.le_of_ble_eq_true rfl) (Nat.le_of_ble_eq_true rfl) hlocks (by rw [hE]; exact Or.inl ⟨rfl, rfl⟩) (Nat.le_of_ble_eq_true rfl) (Nat.le_of_ble_eq_true rfl)
  · skip
    have hs := hs.2 c_2
    rw [if_neg c_2] at hE
    refine lv_iload_n hx hb dX2_collect_5 rfl (lv_at hl 1 rfl) ?_
    refine lv_bipush (v := 96) hx hb dX2_collect_6 (by decide) ?_
    refine lv_icmp_le (tgt := 21) hx hb dX2_collect_8 (by decide) (fun c_8 => ?_) (fun c_8 => ?_)
    · skip
      have hs := hs.1 c_8
      rw [if_pos c_8] at hE
      refine lv_aload_n hx hb dX2_collect_21 rfl (lv_at hl 0 rfl) ?_
      have hPc := hP.sub (ws' := kW cI h κ) [0, 1, 2, 3, 4, 5, 6, 7, 8, 9] rfl
      have hDc := hD.sub (ws' := kW cI h κ) [0, 1, 2, 3, 4, 5, 6, 7, 8, 9] (by decide) rfl
      by_cases hx_22 : x_X2_needUp κ = 0
      · have hs := hs hx_22
        rw [if_pos hx_22] at hE
        refine rcV (W2 := fun _ => kW cI h κ) (va_runV (As := []) (rest := []) ⟨hx, hb, hml, hown, hts⟩ (c_X2_needUp l dC dI cI h H.size κ hx_22) (cwV 0 hts gX2_collect_X2_needUp rfl rfl rfl (by decide +kernel) ⟨Nat.le_of_ble_eq_true rfl, Nat.le_of_ble_eq_true rfl⟩) (pW_V hPc hK hDc (ci := 2) (q0 := 0) rfl rfl) rfl rfl hl.1 rfl (lv_room (Nat.le_of_ble_eq_true rfl)) dX2_collect_22 ⟨Nat.le_of_ble_eq_true rfl, Nat.le_of_ble_eq_true rfl⟩) hP hD hS hA [0, 1, 2, 3, 4, 5, 6, 7, 8, 9] [] [0, 1, 2, 3, 4, 5, 6, 7, 8, 9] rfl rfl (by decide) (fun _ => rfl) (fun u_22 H locs hw hP hD hS => ?_)
        refine lv_iload_n hx hb dX2_collect_25 rfl (lv_at hl 1 rfl) ?_
        refine lv_aload_n hx hb dX2_collect_26 rfl (lv_at hl 0 rfl) ?_
        refine va_get (D := (dC, dI)) (ci := 2) (v := .int (kHd κ)) (C := RX2) (T := TX2) (N := 10) hx hb hts hinX2 hown hK hP 0 rfl rfl 5 (by decide) hf33 (fun _ h9 => h9) rfl dX2_collect_27 ?_
        refine lv_aload_n hx hb dX2_collect_30 rfl (lv_at hl 0 rfl) ?_
        refine va_get (D := (dC, dI)) (ci := 2) (v := .int (kTl κ)) (C := RX2) (T := TX2) (N := 10) hx hb hts hinX2 hown hK hP 0 rfl rfl 6 (by decide) hf37 (fun _ h9 => h9) rfl dX2_collect_31 ?_
        refine lv_isub hx hb dX2_collect_34 ?_
        refine lv_icmp_le (tgt := 48) hx hb dX2_collect_35 (by decide) (fun c_35 => ?_) (fun c_35 => ?_)
        · skip
          have hs := hs.1 c_35
          rw [if_pos c_35] at hE
          refine lv_aload_n hx hb dX2_collect_48 rfl (lv_at hl 0 rfl) ?_
          refine lv_aload_n hx hb dX2_collect_49 rfl (lv_at hl 0 rfl) ?_
          refine lv_iload_n hx hb dX2_collect_50 rfl (lv_at hl 1 rfl) ?_
          have o_51 : s_X2_liveFromTail κ p1 := hs.1
          have hs := hs.2
          have hPc := hP.sub (ws' := kW cI h κ) [0, 1, 2, 3, 4, 5, 6, 7, 8, 9] rfl
          have hDc := hD.sub (ws' := kW cI h κ) [0, 1, 2, 3, 4, 5, 6, 7, 8, 9] (by decide) rfl
          refine rcI (W2 := fun _ => kW cI h κ) (va_runV (As := [.int p1]) (rest := [.ref (h 0)]) ⟨hx, hb, hml, hown, hts⟩ (c_X2_liveFromTail l dC dI cI h H.size κ p1 o_51) (cwV 1 hts gX2_collect_X2_liveFromTail rfl rfl rfl (by decide +kernel) ⟨Nat.le_of_ble_eq_true rfl, Nat.le_of_ble_eq_true rfl⟩) (pW_V hPc hK hDc (ci := 2) (q0 := 0) rfl rfl) rfl rfl hl.1 rfl (lv_room (Nat.le_of_ble_eq_true rfl)) dX2_collect_51 ⟨Nat.le_of_ble_eq_true rfl, Nat.le_of_ble_eq_true rfl⟩) hP hD hS hA [0, 1, 2, 3, 4, 5, 6, 7, 8, 9] [] [0, 1, 2, 3, 4, 5, 6, 7, 8, 9] rfl rfl (by decide) (fun _ => rfl) (fun r_51 u_51 H locs hw hP hD hS => ?_)
          try rw [← hw] at hs
          try rw [← hw] at hE
          have hPc := hP.sub (ws' := kW cI h κ) [0, 1, 2, 3, 4, 5, 6, 7, 8, 9] rfl
          have hDc := hD.sub (ws' := kW cI h κ) [0, 1, 2, 3, 4, 5, 6, 7, 8, 9] (by decide) rfl
          by_cases hx_54 : x_X2_needRoom κ r_51 = 0
          · have hs := hs hx_54
            rw [if_pos hx_54] at hE
            refine rcV (W2 := fun _ => kW cI h κ) (va_runV (As := [.int r_51]) (rest := []) ⟨hx, hb, hml, hown, hts⟩ (c_X2_needRoom l dC dI cI h H.size κ r_51 hx_54) (cwV 1 hts gX2_collect_X2_needRoom rfl rfl rfl (by decide +kernel) ⟨Nat.le_of_ble_eq_true rfl, Nat.le_of_ble_eq_true rfl⟩) (pW_V hPc hK hDc (ci := 2) (q0 := 0) rfl rfl) rfl rfl hl.1 rfl (lv_room (Nat.le_of_ble_eq_true rfl)) dX2_collect_54 ⟨Nat.le_of_ble_eq_true rfl, Nat.le_of_ble_eq_true rfl⟩) hP hD hS hA [0, 1, 2, 3, 4, 5, 6, 7, 8, 9] [] [0, 1, 2, 3, 4, 5, 6, 7, 8, 9] rfl rfl (by decide) (fun _ => rfl) (fun u_54 H locs hw hP hD hS => ?_)
            exact absurd hE hX
          · have hFc := va_free (wc := kW cI h κ) hD hS hA [0, 1, 2, 3, 4, 5, 6, 7, 8, 9] rfl
            exact rxO (vx_runV (As := [.int r_51]) (rest := []) ⟨hx, hb, hml, hown, hts⟩ (b_X2_needRoom l hlt dC dI cI h H.size κ r_51 hx_54) (cwV 1 hts gX2_collect_X2_needRoom rfl rfl rfl (by decide +kernel) ⟨Nat.le_of_ble_eq_true rfl, Nat.le_of_ble_eq_true rfl⟩) (pX_V hPc hK hDc hZ hS hFc (ci := 2) (q0 := 0) rfl rfl) rfl rfl hl.1 rfl (lv_room (Nat.le_of_ble_eq_true rfl)) dX2_collect_54 ⟨Nat.le_of_ble_eq_true rfl, Nat.le_of_ble_eq_true rfl⟩) hP hD hS hA [0, 1, 2, 3, 4, 5, 6, 7, 8, 9] [] [0, 1, 2, 3, 4, 5, 6, 7, 8, 9] rfl rfl (by decide) rfl ht hlocks (Nat.le_of_ble_eq_true rfl) (Nat.le_of_ble_eq_true rfl) (by rw [hE, if_neg hx_54])
        · skip
          have hs := hs.2 c_35
          rw [if_neg c_35] at hE
          exact rT (cls := "java/lang/IllegalStateException") (text := "the log has fewer entries") (ik := 74) (is := 111) (ic := 78) hx hb hlt hown hts (by decide +kernel) (by decide +kernel) (by decide +kernel) (by decide +kernel) ats_b78 ats_g78 hZ (by decide +kernel) hS hD hP (by rw [hml]; exact hl.1) dX2_collect_38 dX2_collect_41 dX2_collect_42 dX2_collect_44 dX2_collect_47 ht (Nat.le_of_ble_eq_true rfl) (Nat.le_of_ble_eq_true rfl) (Nat.le_of_ble_eq_true rfl) (Nat.le_of_ble_eq_true rfl) hlocks (by rw [hE]; exact Or.inr ⟨rfl, rfl⟩) (Nat.le_of_ble_eq_true rfl) (Nat.le_of_ble_eq_true rfl)
      · have hFc := va_free (wc := kW cI h κ) hD hS hA [0, 1, 2, 3, 4, 5, 6, 7, 8, 9] rfl
        exact rxO (vx_runV (As := []) (rest := []) ⟨hx, hb, hml, hown, hts⟩ (b_X2_needUp l hlt dC dI cI h H.size κ hx_22) (cwV 0 hts gX2_collect_X2_needUp rfl rfl rfl (by decide +kernel) ⟨Nat.le_of_ble_eq_true rfl, Nat.le_of_ble_eq_true rfl⟩) (pX_V hPc hK hDc hZ hS hFc (ci := 2) (q0 := 0) rfl rfl) rfl rfl hl.1 rfl (lv_room (Nat.le_of_ble_eq_true rfl)) dX2_collect_22 ⟨Nat.le_of_ble_eq_true rfl, Nat.le_of_ble_eq_true rfl⟩) hP hD hS hA [0, 1, 2, 3, 4, 5, 6, 7, 8, 9] [] [0, 1, 2, 3, 4, 5, 6, 7, 8, 9] rfl rfl (by decide) rfl ht hlocks (Nat.le_of_ble_eq_true rfl) (Nat.le_of_ble_eq_true rfl) (by rw [hE, if_neg hx_22])
    · skip
      have hs := hs.2 c_8
      rw [if_neg c_8] at hE
      exact rT (cls := "java/lang/IllegalArgumentException") (text := "entries are 1 to 96") (ik := 53) (is := 109) (ic := 57) hx hb hlt hown hts (by decide +kernel) (by decide +kernel) (by decide +kernel) (by decide +kernel) ats_b57 ats_g57 hZ (by decide +kernel) hS hD hP (by rw [hml]; exact hl.1) dX2_collect_11 dX2_collect_14 dX2_collect_15 dX2_collect_17 dX2_collect_20 ht (Nat.le_of_ble_eq_true rfl) (Nat.le_of_ble_eq_true rfl) (Nat.le_of_ble_eq_true rfl) (Nat.le_of_ble_eq_true rfl) hlocks (by rw [hE]; exact Or.inl ⟨rfl, rfl⟩) (Nat.le_of_ble_eq_true rfl) (Nat.le_of_ble_eq_true rfl)
def v_X2_crash (κ : KS) : Int32 × KS := (((kHd κ) - (kWr κ)), (v_X2_losePower κ))
theorem v_X2_crash_e (κ : KS) : v_X2_crash κ = (((kHd κ) - (kWr κ)), (v_X2_losePower κ)) := rfl
def x_X2_crash (κ : KS) : Nat := if x_X2_needUp κ = 0 then 0 else x_X2_needUp κ
theorem x_X2_crash_e (κ : KS) : x_X2_crash κ = if x_X2_needUp κ = 0 then 0 else x_X2_needUp κ := rfl
set_option maxHeartbeats 1000000 in
set_option maxRecDepth 100000 in
theorem c_X2_crash (l : Launch) (dC : Nat → ClassId) (dI : Nat → Nat → Nat) (cI : ClassId) (h : Nat → Nat) (sz : Nat) (κ : KS) (hX : x_X2_crash κ = 0) : Met l yX2_crash wsX2_crash ({ frames := 7, cells := 0, slots := 0, locals := 102 }) (va_Pc [.ref (h 0)] (pW (dC, dI) [(cI, .int)] (kW cI h κ) sz)) (va_Qi (fun (r : Int32) (u : KS) => r = (v_X2_crash κ).1 ∧ u = (v_X2_crash κ).2) (qW (dC, dI) (va_A (kW cI h κ) sz) (fun u => kW cI h u)) (va_A (kW cI h κ) sz)) 0 0 (va_A (kW cI h κ) sz) := by
  refine Met.ofW (cc := cX2_crash) (maxL := 2) (ret := (some .int)) (by decide) rfl ?_
  intro p e s m args below meth c s₁ B hml hv
  obtain ⟨rfl, hsz, hP, hK, hD0⟩ := hv
  have hx := B.exec
  have hb := B.bytes
  have hr := B.returns
  have hts := atoms_spec (ws := wsX2_crash) B.pre
  have hown : s.vm.findClass RX2 = some m.cls := findClass_of_methodNamed B.named
  have hlocks := B.notSynchronized
  have hinX2 : ∀ w ∈ wsX20, w ∈ wsX2_crash := by decide +kernel
  have hf33 := hts (.fieldLink RX2 33 "Keysapart" "headAt" "I") (by decide +kernel)
  have hf40 := hts (.fieldLink RX2 40 "Keysapart" "writtenTo" "I") (by decide +kernel)
  subst hsz
  have hD := hD0.self (sz := s.heap.size)
  generalize hAe : va_A (kW cI h κ) s.heap.size = A at hD ⊢
  have hA : ∀ q : Nat, s.heap.size ≤ q → A q := fun q h => by rw [← hAe]; exact Or.inr h
  have hl := lv_entry ([.ref (h 0)]) (n := 2) (Nat.le_of_ble_eq_true rfl)
  rw [lg_entry_eq]
  generalize (lg_sl ([.ref (h 0)]) ++ List.replicate (2 - (lg_sl ([.ref (h 0)])).length) Slot.unset).toArray = ls at hl ⊢
  have hl : lv_has ls 2 [(0, .ref (h 0))] := hl
  generalize hHe : s.heap = H at hP ⊢
  generalize hLe : ([] : List Loc) = locs
  have hS : va_S A s.heap H locs := by
    rw [← hLe, ← hHe]
    exact va_S.rf
  rw [x_X2_crash_e] at hX
  have hV := v_X2_crash_e κ
  refine lv_aload_n hx hb dX2_crash_0 rfl (lv_at hl 0 rfl) ?_
  have hx_1 : x_X2_needUp κ = 0 := (x_of hX).1
  have hX := (x_of hX).2
  have hPc := hP.sub (ws' := kW cI h κ) [0, 1, 2, 3, 4, 5, 6, 7, 8, 9] rfl
  have hDc := hD.sub (ws' := kW cI h κ) [0, 1, 2, 3, 4, 5, 6, 7, 8, 9] (by decide) rfl
  refine rcV (W2 := fun _ => kW cI h κ) (va_runV (As := []) (rest := []) ⟨hx, hb, hml, hown, hts⟩ (c_X2_needUp l dC dI cI h H.size κ hx_1) (cwV 0 hts gX2_crash_X2_needUp rfl rfl rfl (by decide +kernel) ⟨Nat.le_of_ble_eq_true rfl, Nat.le_of_ble_eq_true rfl⟩) (pW_V hPc hK hDc (ci := 2) (q0 := 0) rfl rfl) rfl rfl hl.1 rfl (lv_room (Nat.le_of_ble_eq_true rfl)) dX2_crash_1 ⟨Nat.le_of_ble_eq_true rfl, Nat.le_of_ble_eq_true rfl⟩) hP hD hS hA [0, 1, 2, 3, 4, 5, 6, 7, 8, 9] [] [0, 1, 2, 3, 4, 5, 6, 7, 8, 9] rfl rfl (by decide) (fun _ => rfl) (fun u_1 H locs hw hP hD hS => ?_)
  refine lv_aload_n hx hb dX2_crash_4 rfl (lv_at hl 0 rfl) ?_
  refine va_get (D := (dC, dI)) (ci := 2) (v := .int (kHd κ)) (C := RX2) (T := TX2) (N := 10) hx hb hts hinX2 hown hK hP 0 rfl rfl 5 (by decide) hf33 (fun _ h9 => h9) rfl dX2_crash_5 ?_
  refine lv_aload_n hx hb dX2_crash_8 rfl (lv_at hl 0 rfl) ?_
  refine va_get (D := (dC, dI)) (ci := 2) (v := .int (kWr κ)) (C := RX2) (T := TX2) (N := 10) hx hb hts hinX2 hown hK hP 0 rfl rfl 7 (by decide) hf40 (fun _ h9 => h9) rfl dX2_crash_9 ?_
  refine lv_isub hx hb dX2_crash_12 ?_
  refine lv_istore_n (lv' := [(1, .int ((kHd κ) - (kWr κ))), (0, .ref (h 0))]) hx hb dX2_crash_13 rfl hl (by decide) rfl (fun ls hl => ?_)
  refine lv_aload_n hx hb dX2_crash_14 rfl (lv_at hl 1 rfl) ?_
  have hPc := hP.sub (ws' := kW cI h κ) [0, 1, 2, 3, 4, 5, 6, 7, 8, 9] rfl
  have hDc := hD.sub (ws' := kW cI h κ) [0, 1, 2, 3, 4, 5, 6, 7, 8, 9] (by decide) rfl
  refine rcV (W2 := fun u => kW cI h u) (va_runV (As := []) (rest := []) ⟨hx, hb, hml, hown, hts⟩ (c_X2_losePower l dC dI cI h H.size κ) (cwV 0 hts gX2_crash_X2_losePower rfl rfl rfl (by decide +kernel) ⟨Nat.le_of_ble_eq_true rfl, Nat.le_of_ble_eq_true rfl⟩) (pW_V hPc hK hDc (ci := 2) (q0 := 0) rfl rfl) rfl rfl hl.1 rfl (lv_room (Nat.le_of_ble_eq_true rfl)) dX2_crash_15 ⟨Nat.le_of_ble_eq_true rfl, Nat.le_of_ble_eq_true rfl⟩) hP hD hS hA [0, 1, 2, 3, 4, 5, 6, 7, 8, 9] [] [0, 1, 2, 3, 4, 5, 6, 7, 8, 9] rfl rfl (by decide) (fun _ => rfl) (fun u_15 H locs hw hP hD hS => ?_)
  try rw [← hw] at hV
  refine lv_iload_n hx hb dX2_crash_18 rfl (lv_at hl 0 rfl) ?_
  exact rI (w := fun u => kW cI h u) (u_15) hx hb hr hlocks hP hD hS (Nat.le_of_ble_eq_true rfl) (Nat.le_of_ble_eq_true rfl) dX2_crash_19 ⟨by rw [hV] <;> rfl, by rw [hV] <;> rfl⟩
set_option maxHeartbeats 1000000 in
set_option maxRecDepth 100000 in
theorem b_X2_crash (l : Launch) (hlt : l.stackTraces = false) (dC : Nat → ClassId) (dI : Nat → Nat → Nat) (cI : ClassId) (h : Nat → Nat) (sz : Nat) (κ : KS) (hX : ¬ x_X2_crash κ = 0) : vx_Met l yX2_crash wsX2_crash ({ frames := 7, cells := 1, slots := 6, locals := 102 }) (va_Pc [.ref (h 0)] (pX (dC, dI) [(cI, .int)] (kW cI h κ) sz)) bQ (xC (dC, dI) (va_A (kW cI h κ) sz) (kW cI h κ) (x_X2_crash κ)) 1 6 (va_A (kW cI h κ) sz) := by
  refine vx_ofW (cc := cX2_crash) (maxL := 2) (ret := (some .int)) (by decide) rfl ?_
  intro p e s m args below meth c s₁ B hml ht hv
  obtain ⟨rfl, ⟨hsz, hP, hK, hD0⟩, hZ⟩ := hv
  have hx := B.exec
  have hb := B.bytes
  have hr := B.returns
  have hts := atoms_spec (ws := wsX2_crash) B.pre
  have hown : s.vm.findClass RX2 = some m.cls := findClass_of_methodNamed B.named
  have hlocks := B.notSynchronized
  have hinX2 : ∀ w ∈ wsX20, w ∈ wsX2_crash := by decide +kernel
  have hf33 := hts (.fieldLink RX2 33 "Keysapart" "headAt" "I") (by decide +kernel)
  have hf40 := hts (.fieldLink RX2 40 "Keysapart" "writtenTo" "I") (by decide +kernel)
  subst hsz
  have hD := hD0.self (sz := s.heap.size)
  generalize hAe : va_A (kW cI h κ) s.heap.size = A at hD hZ ⊢
  have hA : ∀ q : Nat, s.heap.size ≤ q → A q := fun q h => by rw [← hAe]; exact Or.inr h
  have hl := lv_entry ([.ref (h 0)]) (n := 2) (Nat.le_of_ble_eq_true rfl)
  rw [lg_entry_eq]
  generalize (lg_sl ([.ref (h 0)]) ++ List.replicate (2 - (lg_sl ([.ref (h 0)])).length) Slot.unset).toArray = ls at hl ⊢
  have hl : lv_has ls 2 [(0, .ref (h 0))] := hl
  generalize hHe : s.heap = H at hP ⊢
  generalize hLe : ([] : List Loc) = locs
  have hS : va_S A s.heap H locs := by
    rw [← hLe, ← hHe]
    exact va_S.rf
  have hE := x_X2_crash_e κ
  refine lv_aload_n hx hb dX2_crash_0 rfl (lv_at hl 0 rfl) ?_
  have hPc := hP.sub (ws' := kW cI h κ) [0, 1, 2, 3, 4, 5, 6, 7, 8, 9] rfl
  have hDc := hD.sub (ws' := kW cI h κ) [0, 1, 2, 3, 4, 5, 6, 7, 8, 9] (by decide) rfl
  by_cases hx_1 : x_X2_needUp κ = 0
  · rw [if_pos hx_1] at hE
    refine rcV (W2 := fun _ => kW cI h κ) (va_runV (As := []) (rest := []) ⟨hx, hb, hml, hown, hts⟩ (c_X2_needUp l dC dI cI h H.size κ hx_1) (cwV 0 hts gX2_crash_X2_needUp rfl rfl rfl (by decide +kernel) ⟨Nat.le_of_ble_eq_true rfl, Nat.le_of_ble_eq_true rfl⟩) (pW_V hPc hK hDc (ci := 2) (q0 := 0) rfl rfl) rfl rfl hl.1 rfl (lv_room (Nat.le_of_ble_eq_true rfl)) dX2_crash_1 ⟨Nat.le_of_ble_eq_true rfl, Nat.le_of_ble_eq_true rfl⟩) hP hD hS hA [0, 1, 2, 3, 4, 5, 6, 7, 8, 9] [] [0, 1, 2, 3, 4, 5, 6, 7, 8, 9] rfl rfl (by decide) (fun _ => rfl) (fun u_1 H locs hw hP hD hS => ?_)
    exact absurd hE hX
  · have hFc := va_free (wc := kW cI h κ) hD hS hA [0, 1, 2, 3, 4, 5, 6, 7, 8, 9] rfl
    exact rxO (vx_runV (As := []) (rest := []) ⟨hx, hb, hml, hown, hts⟩ (b_X2_needUp l hlt dC dI cI h H.size κ hx_1) (cwV 0 hts gX2_crash_X2_needUp rfl rfl rfl (by decide +kernel) ⟨Nat.le_of_ble_eq_true rfl, Nat.le_of_ble_eq_true rfl⟩) (pX_V hPc hK hDc hZ hS hFc (ci := 2) (q0 := 0) rfl rfl) rfl rfl hl.1 rfl (lv_room (Nat.le_of_ble_eq_true rfl)) dX2_crash_1 ⟨Nat.le_of_ble_eq_true rfl, Nat.le_of_ble_eq_true rfl⟩) hP hD hS hA [0, 1, 2, 3, 4, 5, 6, 7, 8, 9] [] [0, 1, 2, 3, 4, 5, 6, 7, 8, 9] rfl rfl (by decide) rfl ht hlocks (Nat.le_of_ble_eq_true rfl) (Nat.le_of_ble_eq_true rfl) (by rw [hE, if_neg hx_1])
def v_X2_start (κ : KS) : Int32 × KS := if (kUp κ) = 0 then ((v_X0_size (kIx (v_X2_recover_i κ))), kSUp (v_X2_recover_i κ) 1) else (0, κ)
theorem v_X2_start_e (κ : KS) : v_X2_start κ = if (kUp κ) = 0 then ((v_X0_size (kIx (v_X2_recover_i κ))), kSUp (v_X2_recover_i κ) 1) else (0, κ) := rfl
def x_X2_start (κ : KS) : Nat := if (kUp κ) = 0 then 0 else 2
theorem x_X2_start_e (κ : KS) : x_X2_start κ = if (kUp κ) = 0 then 0 else 2 := rfl
def s_X2_start (κ : KS) : Prop := (((kUp κ) = 0 → (s_X2_recover_i κ ∧ (s_X0_size (kIx (v_X2_recover_i κ)) ∧ True))) ∧ (¬ (kUp κ) = 0 → True))
set_option maxHeartbeats 1000000 in
set_option maxRecDepth 100000 in
theorem c_X2_start (l : Launch) (dC : Nat → ClassId) (dI : Nat → Nat → Nat) (cI : ClassId) (h : Nat → Nat) (sz : Nat) (κ : KS) (hX : x_X2_start κ = 0) (hs : s_X2_start κ) : Met l yX2_start wsX2_start ({ frames := 6, cells := 0, slots := 0, locals := 89 }) (va_Pc [.ref (h 0)] (pW (dC, dI) [(cI, .int)] (kW cI h κ) sz)) (va_Qi (fun (r : Int32) (u : KS) => r = (v_X2_start κ).1 ∧ u = (v_X2_start κ).2) (qW (dC, dI) (va_A (kW cI h κ) sz) (fun u => kW cI h u)) (va_A (kW cI h κ) sz)) 0 0 (va_A (kW cI h κ) sz) := by
  refine Met.ofW (cc := cX2_start) (maxL := 1) (ret := (some .int)) (by decide) rfl ?_
  intro p e s m args below meth c s₁ B hml hv
  obtain ⟨rfl, hsz, hP, hK, hD0⟩ := hv
  have hx := B.exec
  have hb := B.bytes
  have hr := B.returns
  have hts := atoms_spec (ws := wsX2_start) B.pre
  have hown : s.vm.findClass RX2 = some m.cls := findClass_of_methodNamed B.named
  have hlocks := B.notSynchronized
  have hinX2 : ∀ w ∈ wsX20, w ∈ wsX2_start := by decide +kernel
  have hf19 := hts (.fieldLink RX2 19 "Keysapart" "index" "LKeysapart$Index;") (by decide +kernel)
  have hf29 := hts (.fieldLink RX2 29 "Keysapart" "up" "Z") (by decide +kernel)
  subst hsz
  have hD := hD0.self (sz := s.heap.size)
  generalize hAe : va_A (kW cI h κ) s.heap.size = A at hD ⊢
  have hA : ∀ q : Nat, s.heap.size ≤ q → A q := fun q h => by rw [← hAe]; exact Or.inr h
  have hl := lv_entry ([.ref (h 0)]) (n := 1) (Nat.le_of_ble_eq_true rfl)
  rw [lg_entry_eq]
  generalize (lg_sl ([.ref (h 0)]) ++ List.replicate (1 - (lg_sl ([.ref (h 0)])).length) Slot.unset).toArray = ls at hl ⊢
  have hl : lv_has ls 1 [(0, .ref (h 0))] := hl
  generalize hHe : s.heap = H at hP ⊢
  generalize hLe : ([] : List Loc) = locs
  have hS : va_S A s.heap H locs := by
    rw [← hLe, ← hHe]
    exact va_S.rf
  unfold s_X2_start at hs
  rw [x_X2_start_e] at hX
  have hV := v_X2_start_e κ
  refine lv_aload_n hx hb dX2_start_0 rfl (lv_at hl 0 rfl) ?_
  refine va_get (D := (dC, dI)) (ci := 2) (v := .int (kUp κ)) (C := RX2) (T := TX2) (N := 10) hx hb hts hinX2 hown hK hP 0 rfl rfl 4 (by decide) hf29 (fun _ h9 => h9) rfl dX2_start_1 ?_
  refine lv_if_eq (tgt := 17) hx hb dX2_start_4 (by decide) (fun c_4 => ?_) (fun c_4 => ?_)
  · skip
    have hs := hs.1 c_4
    rw [if_pos c_4] at hV
    rw [if_pos c_4] at hX
    refine lv_aload_n hx hb dX2_start_17 rfl (lv_at hl 0 rfl) ?_
    refine lv_aload_n hx hb dX2_start_18 rfl (lv_at hl 0 rfl) ?_
    refine va_get (D := (dC, dI)) (ci := 2) (v := .ref (h 2)) (C := RX2) (T := TX2) (N := 10) hx hb hts hinX2 hown hK hP 0 rfl rfl 1 (by decide) hf19 (fun _ h9 => h9) rfl dX2_start_19 ?_
    have o_22 : s_X2_recover_i κ := hs.1
    have hs := hs.2
    have hPc := hP.sub (ws' := kW cI h κ) [0, 1, 2, 3, 4, 5, 6, 7, 8, 9] rfl
    have hDc := hD.sub (ws' := kW cI h κ) [0, 1, 2, 3, 4, 5, 6, 7, 8, 9] (by decide) rfl
    refine rcV (W2 := fun u => kW cI h u) (va_runV (As := [.ref (h 2)]) (rest := []) ⟨hx, hb, hml, hown, hts⟩ (c_X2_recover_i l dC dI cI h H.size κ o_22) (cwV 1 hts gX2_start_X2_recover rfl rfl rfl (by decide +kernel) ⟨Nat.le_of_ble_eq_true rfl, Nat.le_of_ble_eq_true rfl⟩) (pW_V hPc hK hDc (ci := 2) (q0 := 0) rfl rfl) rfl rfl hl.1 rfl (lv_room (Nat.le_of_ble_eq_true rfl)) dX2_start_22 ⟨Nat.le_of_ble_eq_true rfl, Nat.le_of_ble_eq_true rfl⟩) hP hD hS hA [0, 1, 2, 3, 4, 5, 6, 7, 8, 9] [] [0, 1, 2, 3, 4, 5, 6, 7, 8, 9] rfl rfl (by decide) (fun _ => rfl) (fun u_22 H locs hw hP hD hS => ?_)
    try rw [← hw] at hV
    try rw [← hw] at hs
    refine lv_aload_n hx hb dX2_start_25 rfl (lv_at hl 0 rfl) ?_
    refine lv_iconst (v := 1) hx hb dX2_start_26 (by decide) ?_
    refine va_put (D := (dC, dI)) (ci := 2) (v := .int 1) (ty := .boolean) (C := RX2) (T := TX2) (N := 10) hx hb hts hinX2 tyX2 tyX2_ok nmX2 hown hK hP hD hS 0 rfl rfl 4 (by decide) hf29 (fun _ h9 => h9) rfl (by decide +kernel) rfl rfl (Nat.le_of_ble_eq_true rfl) dX2_start_27 (fun H locs hP hD hS => ?_)
    have hP : va_P (dC, dI) vwCl (kW cI h (kSUp u_22 1)) H := hP
    have hD : va_D A (kW cI h (kSUp u_22 1)) := hD
    refine lv_aload_n hx hb dX2_start_30 rfl (lv_at hl 0 rfl) ?_
    refine va_get (D := (dC, dI)) (ci := 2) (v := .ref (h 2)) (C := RX2) (T := TX2) (N := 10) hx hb hts hinX2 hown hK hP 0 rfl rfl 1 (by decide) hf19 (fun _ h9 => h9) rfl dX2_start_31 ?_
    have o_34 : s_X0_size (kIx u_22) := hs.1
    have hs := hs.2
    have hPc := hP.sub (ws' := iW cI (h 2) (h 7) (kIx u_22)) [2, 7] rfl
    have hDc := hD.sub (ws' := iW cI (h 2) (h 7) (kIx u_22)) [2, 7] (by decide) rfl
    refine rcI (W2 := fun _ => kW cI h (kSUp u_22 1)) (va_runV (As := []) (rest := []) ⟨hx, hb, hml, hown, hts⟩ (c_X0_size l dC dI cI (h 2) (h 7) H.size (kIx u_22) o_34) (cwV 0 hts gX2_start_X0_size rfl rfl rfl (by decide +kernel) ⟨Nat.le_of_ble_eq_true rfl, Nat.le_of_ble_eq_true rfl⟩) (pW_V hPc hK hDc (ci := 0) (q0 := 0) rfl rfl) rfl rfl hl.1 rfl (lv_room (Nat.le_of_ble_eq_true rfl)) dX2_start_34 ⟨Nat.le_of_ble_eq_true rfl, Nat.le_of_ble_eq_true rfl⟩) hP hD hS hA [2, 7] [0, 1, 3, 4, 5, 6, 8, 9] [0, 1, 8, 2, 3, 4, 5, 9, 6, 7] rfl rfl (by decide) (fun _ => rfl) (fun r_34 u_34 H locs hw hP hD hS => ?_)
    try rw [← hw] at hV
    exact rI (w := fun u => kW cI h u) (kSUp u_22 1) hx hb hr hlocks hP hD hS (Nat.le_of_ble_eq_true rfl) (Nat.le_of_ble_eq_true rfl) dX2_start_37 ⟨by rw [hV] <;> rfl, by rw [hV] <;> rfl⟩
  · skip
    have hs := hs.2 c_4
    rw [if_neg c_4] at hV
    rw [if_neg c_4] at hX
    exact absurd hX (by decide)
set_option maxHeartbeats 1000000 in
set_option maxRecDepth 100000 in
theorem b_X2_start (l : Launch) (hlt : l.stackTraces = false) (dC : Nat → ClassId) (dI : Nat → Nat → Nat) (cI : ClassId) (h : Nat → Nat) (sz : Nat) (κ : KS) (hX : ¬ x_X2_start κ = 0) (hs : s_X2_start κ) : vx_Met l yX2_start wsX2_start ({ frames := 6, cells := 1, slots := 6, locals := 89 }) (va_Pc [.ref (h 0)] (pX (dC, dI) [(cI, .int)] (kW cI h κ) sz)) bQ (xC (dC, dI) (va_A (kW cI h κ) sz) (kW cI h κ) (x_X2_start κ)) 1 6 (va_A (kW cI h κ) sz) := by
  refine vx_ofW (cc := cX2_start) (maxL := 1) (ret := (some .int)) (by decide) rfl ?_
  intro p e s m args below meth c s₁ B hml ht hv
  obtain ⟨rfl, ⟨hsz, hP, hK, hD0⟩, hZ⟩ := hv
  have hx := B.exec
  have hb := B.bytes
  have hr := B.returns
  have hts := atoms_spec (ws := wsX2_start) B.pre
  have hown : s.vm.findClass RX2 = some m.cls := findClass_of_methodNamed B.named
  have hlocks := B.notSynchronized
  have hinX2 : ∀ w ∈ wsX20, w ∈ wsX2_start := by decide +kernel
  have hf19 := hts (.fieldLink RX2 19 "Keysapart" "index" "LKeysapart$Index;") (by decide +kernel)
  have hf29 := hts (.fieldLink RX2 29 "Keysapart" "up" "Z") (by decide +kernel)
  subst hsz
  have hD := hD0.self (sz := s.heap.size)
  generalize hAe : va_A (kW cI h κ) s.heap.size = A at hD hZ ⊢
  have hA : ∀ q : Nat, s.heap.size ≤ q → A q := fun q h => by rw [← hAe]; exact Or.inr h
  have hl := lv_entry ([.ref (h 0)]) (n := 1) (Nat.le_of_ble_eq_true rfl)
  rw [lg_entry_eq]
  generalize (lg_sl ([.ref (h 0)]) ++ List.replicate (1 - (lg_sl ([.ref (h 0)])).length) Slot.unset).toArray = ls at hl ⊢
  have hl : lv_has ls 1 [(0, .ref (h 0))] := hl
  generalize hHe : s.heap = H at hP ⊢
  generalize hLe : ([] : List Loc) = locs
  have hS : va_S A s.heap H locs := by
    rw [← hLe, ← hHe]
    exact va_S.rf
  unfold s_X2_start at hs
  have hE := x_X2_start_e κ
  refine lv_aload_n hx hb dX2_start_0 rfl (lv_at hl 0 rfl) ?_
  refine va_get (D := (dC, dI)) (ci := 2) (v := .int (kUp κ)) (C := RX2) (T := TX2) (N := 10) hx hb hts hinX2 hown hK hP 0 rfl rfl 4 (by decide) hf29 (fun _ h9 => h9) rfl dX2_start_1 ?_
  refine lv_if_eq (tgt := 17) hx hb dX2_start_4 (by decide) (fun c_4 => ?_) (fun c_4 => ?_)
  · skip
    have hs := hs.1 c_4
    rw [if_pos c_4] at hE
    exact absurd hE hX
  · skip
    have hs := hs.2 c_4
    rw [if_neg c_4] at hE
    exact rT (cls := "java/lang/IllegalStateException") (text := "the store is up") (ik := 74) (is := 124) (ic := 78) hx hb hlt hown hts (by decide +kernel) (by decide +kernel) (by decide +kernel) (by decide +kernel) ats_b78 ats_g78 hZ (by decide +kernel) hS hD hP (by rw [hml]; exact hl.1) dX2_start_7 dX2_start_10 dX2_start_11 dX2_start_13 dX2_start_16 ht (Nat.le_of_ble_eq_true rfl) (Nat.le_of_ble_eq_true rfl) (Nat.le_of_ble_eq_true rfl) (Nat.le_of_ble_eq_true rfl) hlocks (by rw [hE]; exact Or.inr ⟨rfl, rfl⟩) (Nat.le_of_ble_eq_true rfl) (Nat.le_of_ble_eq_true rfl)
def v_X2_isUp (κ : KS) : Int32 := (kUp κ)
theorem v_X2_isUp_e (κ : KS) : v_X2_isUp κ = (kUp κ) := rfl
set_option maxHeartbeats 1000000 in
set_option maxRecDepth 100000 in
theorem c_X2_isUp (l : Launch) (dC : Nat → ClassId) (dI : Nat → Nat → Nat) (cI : ClassId) (h : Nat → Nat) (sz : Nat) (κ : KS) (hz0 : bz (kUp κ)) : Met l yX2_isUp wsX2_isUp ({ frames := 0, cells := 0, slots := 0, locals := 0 }) (va_Pc [.ref (h 0)] (pW (dC, dI) [(cI, .int)] (kW cI h κ) sz)) (va_Qi (fun (r : Int32) (u : Unit) => r = v_X2_isUp κ ∧ bz r) (qW (dC, dI) (va_A (kW cI h κ) sz) (fun _ => kW cI h κ)) (va_A (kW cI h κ) sz)) 0 0 (va_A (kW cI h κ) sz) := by
  refine Met.ofW (cc := cX2_isUp) (maxL := 1) (ret := (some .boolean)) (by decide) rfl ?_
  intro p e s m args below meth c s₁ B hml hv
  obtain ⟨rfl, hsz, hP, hK, hD0⟩ := hv
  have hx := B.exec
  have hb := B.bytes
  have hr := B.returns
  have hts := atoms_spec (ws := wsX2_isUp) B.pre
  have hown : s.vm.findClass RX2 = some m.cls := findClass_of_methodNamed B.named
  have hlocks := B.notSynchronized
  have hinX2 : ∀ w ∈ wsX20, w ∈ wsX2_isUp := by decide +kernel
  have hf29 := hts (.fieldLink RX2 29 "Keysapart" "up" "Z") (by decide +kernel)
  subst hsz
  have hD := hD0.self (sz := s.heap.size)
  generalize hAe : va_A (kW cI h κ) s.heap.size = A at hD ⊢
  have hA : ∀ q : Nat, s.heap.size ≤ q → A q := fun q h => by rw [← hAe]; exact Or.inr h
  have hl := lv_entry ([.ref (h 0)]) (n := 1) (Nat.le_of_ble_eq_true rfl)
  rw [lg_entry_eq]
  generalize (lg_sl ([.ref (h 0)]) ++ List.replicate (1 - (lg_sl ([.ref (h 0)])).length) Slot.unset).toArray = ls at hl ⊢
  have hl : lv_has ls 1 [(0, .ref (h 0))] := hl
  generalize hHe : s.heap = H at hP ⊢
  generalize hLe : ([] : List Loc) = locs
  have hS : va_S A s.heap H locs := by
    rw [← hLe, ← hHe]
    exact va_S.rf
  have hV := v_X2_isUp_e κ
  refine lv_aload_n hx hb dX2_isUp_0 rfl (lv_at hl 0 rfl) ?_
  refine va_get (D := (dC, dI)) (ci := 2) (v := .int (kUp κ)) (C := RX2) (T := TX2) (N := 10) hx hb hts hinX2 hown hK hP 0 rfl rfl 4 (by decide) hf29 (fun _ h9 => h9) rfl dX2_isUp_1 ?_
  have hz9 : bz ((kUp κ)) := by first | assumption | (repeat (first | exact bz0 | exact bz1 | assumption | refine bz_ite ?_ ?_))
  exact rZ (w := fun _ => kW cI h κ) (()) hx hb hr hlocks hP hD hS (Nat.le_of_ble_eq_true rfl) (Nat.le_of_ble_eq_true rfl) dX2_isUp_4 hz9 ⟨by rw [hV] <;> rfl, hz9⟩
def v_X2_head (κ : KS) : Int32 := (kHd κ)
theorem v_X2_head_e (κ : KS) : v_X2_head κ = (kHd κ) := rfl
set_option maxHeartbeats 1000000 in
set_option maxRecDepth 100000 in
theorem c_X2_head (l : Launch) (dC : Nat → ClassId) (dI : Nat → Nat → Nat) (cI : ClassId) (h : Nat → Nat) (sz : Nat) (κ : KS) : Met l yX2_head wsX2_head ({ frames := 0, cells := 0, slots := 0, locals := 0 }) (va_Pc [.ref (h 0)] (pW (dC, dI) [(cI, .int)] (kW cI h κ) sz)) (va_Qi (fun (r : Int32) (u : Unit) => r = v_X2_head κ) (qW (dC, dI) (va_A (kW cI h κ) sz) (fun _ => kW cI h κ)) (va_A (kW cI h κ) sz)) 0 0 (va_A (kW cI h κ) sz) := by
  refine Met.ofW (cc := cX2_head) (maxL := 1) (ret := (some .int)) (by decide) rfl ?_
  intro p e s m args below meth c s₁ B hml hv
  obtain ⟨rfl, hsz, hP, hK, hD0⟩ := hv
  have hx := B.exec
  have hb := B.bytes
  have hr := B.returns
  have hts := atoms_spec (ws := wsX2_head) B.pre
  have hown : s.vm.findClass RX2 = some m.cls := findClass_of_methodNamed B.named
  have hlocks := B.notSynchronized
  have hinX2 : ∀ w ∈ wsX20, w ∈ wsX2_head := by decide +kernel
  have hf33 := hts (.fieldLink RX2 33 "Keysapart" "headAt" "I") (by decide +kernel)
  subst hsz
  have hD := hD0.self (sz := s.heap.size)
  generalize hAe : va_A (kW cI h κ) s.heap.size = A at hD ⊢
  have hA : ∀ q : Nat, s.heap.size ≤ q → A q := fun q h => by rw [← hAe]; exact Or.inr h
  have hl := lv_entry ([.ref (h 0)]) (n := 1) (Nat.le_of_ble_eq_true rfl)
  rw [lg_entry_eq]
  generalize (lg_sl ([.ref (h 0)]) ++ List.replicate (1 - (lg_sl ([.ref (h 0)])).length) Slot.unset).toArray = ls at hl ⊢
  have hl : lv_has ls 1 [(0, .ref (h 0))] := hl
  generalize hHe : s.heap = H at hP ⊢
  generalize hLe : ([] : List Loc) = locs
  have hS : va_S A s.heap H locs := by
    rw [← hLe, ← hHe]
    exact va_S.rf
  have hV := v_X2_head_e κ
  refine lv_aload_n hx hb dX2_head_0 rfl (lv_at hl 0 rfl) ?_
  refine va_get (D := (dC, dI)) (ci := 2) (v := .int (kHd κ)) (C := RX2) (T := TX2) (N := 10) hx hb hts hinX2 hown hK hP 0 rfl rfl 5 (by decide) hf33 (fun _ h9 => h9) rfl dX2_head_1 ?_
  exact rI (w := fun _ => kW cI h κ) (()) hx hb hr hlocks hP hD hS (Nat.le_of_ble_eq_true rfl) (Nat.le_of_ble_eq_true rfl) dX2_head_4 (by rw [hV] <;> rfl)
def v_X2_tail (κ : KS) : Int32 := (kTl κ)
theorem v_X2_tail_e (κ : KS) : v_X2_tail κ = (kTl κ) := rfl
set_option maxHeartbeats 1000000 in
set_option maxRecDepth 100000 in
theorem c_X2_tail (l : Launch) (dC : Nat → ClassId) (dI : Nat → Nat → Nat) (cI : ClassId) (h : Nat → Nat) (sz : Nat) (κ : KS) : Met l yX2_tail wsX2_tail ({ frames := 0, cells := 0, slots := 0, locals := 0 }) (va_Pc [.ref (h 0)] (pW (dC, dI) [(cI, .int)] (kW cI h κ) sz)) (va_Qi (fun (r : Int32) (u : Unit) => r = v_X2_tail κ) (qW (dC, dI) (va_A (kW cI h κ) sz) (fun _ => kW cI h κ)) (va_A (kW cI h κ) sz)) 0 0 (va_A (kW cI h κ) sz) := by
  refine Met.ofW (cc := cX2_tail) (maxL := 1) (ret := (some .int)) (by decide) rfl ?_
  intro p e s m args below meth c s₁ B hml hv
  obtain ⟨rfl, hsz, hP, hK, hD0⟩ := hv
  have hx := B.exec
  have hb := B.bytes
  have hr := B.returns
  have hts := atoms_spec (ws := wsX2_tail) B.pre
  have hown : s.vm.findClass RX2 = some m.cls := findClass_of_methodNamed B.named
  have hlocks := B.notSynchronized
  have hinX2 : ∀ w ∈ wsX20, w ∈ wsX2_tail := by decide +kernel
  have hf37 := hts (.fieldLink RX2 37 "Keysapart" "tailAt" "I") (by decide +kernel)
  subst hsz
  have hD := hD0.self (sz := s.heap.size)
  generalize hAe : va_A (kW cI h κ) s.heap.size = A at hD ⊢
  have hA : ∀ q : Nat, s.heap.size ≤ q → A q := fun q h => by rw [← hAe]; exact Or.inr h
  have hl := lv_entry ([.ref (h 0)]) (n := 1) (Nat.le_of_ble_eq_true rfl)
  rw [lg_entry_eq]
  generalize (lg_sl ([.ref (h 0)]) ++ List.replicate (1 - (lg_sl ([.ref (h 0)])).length) Slot.unset).toArray = ls at hl ⊢
  have hl : lv_has ls 1 [(0, .ref (h 0))] := hl
  generalize hHe : s.heap = H at hP ⊢
  generalize hLe : ([] : List Loc) = locs
  have hS : va_S A s.heap H locs := by
    rw [← hLe, ← hHe]
    exact va_S.rf
  have hV := v_X2_tail_e κ
  refine lv_aload_n hx hb dX2_tail_0 rfl (lv_at hl 0 rfl) ?_
  refine va_get (D := (dC, dI)) (ci := 2) (v := .int (kTl κ)) (C := RX2) (T := TX2) (N := 10) hx hb hts hinX2 hown hK hP 0 rfl rfl 6 (by decide) hf37 (fun _ h9 => h9) rfl dX2_tail_1 ?_
  exact rI (w := fun _ => kW cI h κ) (()) hx hb hr hlocks hP hD hS (Nat.le_of_ble_eq_true rfl) (Nat.le_of_ble_eq_true rfl) dX2_tail_4 (by rw [hV] <;> rfl)
def v_X2_written (κ : KS) : Int32 := (kWr κ)
theorem v_X2_written_e (κ : KS) : v_X2_written κ = (kWr κ) := rfl
set_option maxHeartbeats 1000000 in
set_option maxRecDepth 100000 in
theorem c_X2_written (l : Launch) (dC : Nat → ClassId) (dI : Nat → Nat → Nat) (cI : ClassId) (h : Nat → Nat) (sz : Nat) (κ : KS) : Met l yX2_written wsX2_written ({ frames := 0, cells := 0, slots := 0, locals := 0 }) (va_Pc [.ref (h 0)] (pW (dC, dI) [(cI, .int)] (kW cI h κ) sz)) (va_Qi (fun (r : Int32) (u : Unit) => r = v_X2_written κ) (qW (dC, dI) (va_A (kW cI h κ) sz) (fun _ => kW cI h κ)) (va_A (kW cI h κ) sz)) 0 0 (va_A (kW cI h κ) sz) := by
  refine Met.ofW (cc := cX2_written) (maxL := 1) (ret := (some .int)) (by decide) rfl ?_
  intro p e s m args below meth c s₁ B hml hv
  obtain ⟨rfl, hsz, hP, hK, hD0⟩ := hv
  have hx := B.exec
  have hb := B.bytes
  have hr := B.returns
  have hts := atoms_spec (ws := wsX2_written) B.pre
  have hown : s.vm.findClass RX2 = some m.cls := findClass_of_methodNamed B.named
  have hlocks := B.notSynchronized
  have hinX2 : ∀ w ∈ wsX20, w ∈ wsX2_written := by decide +kernel
  have hf40 := hts (.fieldLink RX2 40 "Keysapart" "writtenTo" "I") (by decide +kernel)
  subst hsz
  have hD := hD0.self (sz := s.heap.size)
  generalize hAe : va_A (kW cI h κ) s.heap.size = A at hD ⊢
  have hA : ∀ q : Nat, s.heap.size ≤ q → A q := fun q h => by rw [← hAe]; exact Or.inr h
  have hl := lv_entry ([.ref (h 0)]) (n := 1) (Nat.le_of_ble_eq_true rfl)
  rw [lg_entry_eq]
  generalize (lg_sl ([.ref (h 0)]) ++ List.replicate (1 - (lg_sl ([.ref (h 0)])).length) Slot.unset).toArray = ls at hl ⊢
  have hl : lv_has ls 1 [(0, .ref (h 0))] := hl
  generalize hHe : s.heap = H at hP ⊢
  generalize hLe : ([] : List Loc) = locs
  have hS : va_S A s.heap H locs := by
    rw [← hLe, ← hHe]
    exact va_S.rf
  have hV := v_X2_written_e κ
  refine lv_aload_n hx hb dX2_written_0 rfl (lv_at hl 0 rfl) ?_
  refine va_get (D := (dC, dI)) (ci := 2) (v := .int (kWr κ)) (C := RX2) (T := TX2) (N := 10) hx hb hts hinX2 hown hK hP 0 rfl rfl 7 (by decide) hf40 (fun _ h9 => h9) rfl dX2_written_1 ?_
  exact rI (w := fun _ => kW cI h κ) (()) hx hb hr hlocks hP hD hS (Nat.le_of_ble_eq_true rfl) (Nat.le_of_ble_eq_true rfl) dX2_written_4 (by rw [hV] <;> rfl)
def v_X2_checkpointAt (κ : KS) : Int32 := (kCt κ)
theorem v_X2_checkpointAt_e (κ : KS) : v_X2_checkpointAt κ = (kCt κ) := rfl
set_option maxHeartbeats 1000000 in
set_option maxRecDepth 100000 in
theorem c_X2_checkpointAt (l : Launch) (dC : Nat → ClassId) (dI : Nat → Nat → Nat) (cI : ClassId) (h : Nat → Nat) (sz : Nat) (κ : KS) : Met l yX2_checkpointAt wsX2_checkpointAt ({ frames := 0, cells := 0, slots := 0, locals := 0 }) (va_Pc [.ref (h 0)] (pW (dC, dI) [(cI, .int)] (kW cI h κ) sz)) (va_Qi (fun (r : Int32) (u : Unit) => r = v_X2_checkpointAt κ) (qW (dC, dI) (va_A (kW cI h κ) sz) (fun _ => kW cI h κ)) (va_A (kW cI h κ) sz)) 0 0 (va_A (kW cI h κ) sz) := by
  refine Met.ofW (cc := cX2_checkpointAt) (maxL := 1) (ret := (some .int)) (by decide) rfl ?_
  intro p e s m args below meth c s₁ B hml hv
  obtain ⟨rfl, hsz, hP, hK, hD0⟩ := hv
  have hx := B.exec
  have hb := B.bytes
  have hr := B.returns
  have hts := atoms_spec (ws := wsX2_checkpointAt) B.pre
  have hown : s.vm.findClass RX2 = some m.cls := findClass_of_methodNamed B.named
  have hlocks := B.notSynchronized
  have hinX2 : ∀ w ∈ wsX20, w ∈ wsX2_checkpointAt := by decide +kernel
  have hf43 := hts (.fieldLink RX2 43 "Keysapart" "checkpointTo" "I") (by decide +kernel)
  subst hsz
  have hD := hD0.self (sz := s.heap.size)
  generalize hAe : va_A (kW cI h κ) s.heap.size = A at hD ⊢
  have hA : ∀ q : Nat, s.heap.size ≤ q → A q := fun q h => by rw [← hAe]; exact Or.inr h
  have hl := lv_entry ([.ref (h 0)]) (n := 1) (Nat.le_of_ble_eq_true rfl)
  rw [lg_entry_eq]
  generalize (lg_sl ([.ref (h 0)]) ++ List.replicate (1 - (lg_sl ([.ref (h 0)])).length) Slot.unset).toArray = ls at hl ⊢
  have hl : lv_has ls 1 [(0, .ref (h 0))] := hl
  generalize hHe : s.heap = H at hP ⊢
  generalize hLe : ([] : List Loc) = locs
  have hS : va_S A s.heap H locs := by
    rw [← hLe, ← hHe]
    exact va_S.rf
  have hV := v_X2_checkpointAt_e κ
  refine lv_aload_n hx hb dX2_checkpointAt_0 rfl (lv_at hl 0 rfl) ?_
  refine va_get (D := (dC, dI)) (ci := 2) (v := .int (kCt κ)) (C := RX2) (T := TX2) (N := 10) hx hb hts hinX2 hown hK hP 0 rfl rfl 8 (by decide) hf43 (fun _ h9 => h9) rfl dX2_checkpointAt_1 ?_
  exact rI (w := fun _ => kW cI h κ) (()) hx hb hr hlocks hP hD hS (Nat.le_of_ble_eq_true rfl) (Nat.le_of_ble_eq_true rfl) dX2_checkpointAt_4 (by rw [hV] <;> rfl)
def v_X2_positionOf (κ : KS) (p1 : Int32) : Int32 := (v_X0_find (kIx κ) p1)
theorem v_X2_positionOf_e (κ : KS) (p1 : Int32) : v_X2_positionOf κ p1 = (v_X0_find (kIx κ) p1) := rfl
def x_X2_positionOf (κ : KS) (p1 : Int32) : Nat := if x_X2_needKey p1 = 0 then if x_X2_needUp κ = 0 then 0 else x_X2_needUp κ else x_X2_needKey p1
theorem x_X2_positionOf_e (κ : KS) (p1 : Int32) : x_X2_positionOf κ p1 = if x_X2_needKey p1 = 0 then if x_X2_needUp κ = 0 then 0 else x_X2_needUp κ else x_X2_needKey p1 := rfl
set_option maxHeartbeats 1000000 in
set_option maxRecDepth 100000 in
theorem c_X2_positionOf (l : Launch) (dC : Nat → ClassId) (dI : Nat → Nat → Nat) (cI : ClassId) (h : Nat → Nat) (sz : Nat) (κ : KS) (p1 : Int32) (hX : x_X2_positionOf κ p1 = 0) : Met l yX2_positionOf wsX2_positionOf ({ frames := 7, cells := 0, slots := 0, locals := 102 }) (va_Pc [.ref (h 0), .int p1] (pW (dC, dI) [(cI, .int)] (kW cI h κ) sz)) (va_Qi (fun (r : Int32) (u : Unit) => r = v_X2_positionOf κ p1) (qW (dC, dI) (va_A (kW cI h κ) sz) (fun _ => kW cI h κ)) (va_A (kW cI h κ) sz)) 0 0 (va_A (kW cI h κ) sz) := by
  refine Met.ofW (cc := cX2_positionOf) (maxL := 2) (ret := (some .int)) (by decide) rfl ?_
  intro p e s m args below meth c s₁ B hml hv
  obtain ⟨rfl, hsz, hP, hK, hD0⟩ := hv
  have hx := B.exec
  have hb := B.bytes
  have hr := B.returns
  have hts := atoms_spec (ws := wsX2_positionOf) B.pre
  have hown : s.vm.findClass RX2 = some m.cls := findClass_of_methodNamed B.named
  have hlocks := B.notSynchronized
  have hinX2 : ∀ w ∈ wsX20, w ∈ wsX2_positionOf := by decide +kernel
  have hf19 := hts (.fieldLink RX2 19 "Keysapart" "index" "LKeysapart$Index;") (by decide +kernel)
  subst hsz
  have hD := hD0.self (sz := s.heap.size)
  generalize hAe : va_A (kW cI h κ) s.heap.size = A at hD ⊢
  have hA : ∀ q : Nat, s.heap.size ≤ q → A q := fun q h => by rw [← hAe]; exact Or.inr h
  have hl := lv_entry ([.ref (h 0), .int p1]) (n := 2) (Nat.le_of_ble_eq_true rfl)
  rw [lg_entry_eq]
  generalize (lg_sl ([.ref (h 0), .int p1]) ++ List.replicate (2 - (lg_sl ([.ref (h 0), .int p1])).length) Slot.unset).toArray = ls at hl ⊢
  have hl : lv_has ls 2 [(0, .ref (h 0)), (1, .int p1)] := hl
  generalize hHe : s.heap = H at hP ⊢
  generalize hLe : ([] : List Loc) = locs
  have hS : va_S A s.heap H locs := by
    rw [← hLe, ← hHe]
    exact va_S.rf
  rw [x_X2_positionOf_e] at hX
  have hV := v_X2_positionOf_e κ p1
  refine lv_iload_n hx hb dX2_positionOf_0 rfl (lv_at hl 1 rfl) ?_
  have hx_1 : x_X2_needKey p1 = 0 := (x_of hX).1
  have hX := (x_of hX).2
  have hPc := hP.sub (ws' := eW) [] rfl
  have hDc := hD.sub (ws' := eW) [] (by decide) rfl
  refine rcV (W2 := fun _ => kW cI h κ) (va_runS (As := [.int p1]) (rest := []) ⟨hx, hb, hml, hown, hts⟩ (c_X2_needKey l dC dI cI H.size p1 hx_1) (va_cwS 1 hts gX2_positionOf_X2_needKey rfl rfl rfl (by decide +kernel) ⟨Nat.le_of_ble_eq_true rfl, Nat.le_of_ble_eq_true rfl⟩) (pW_S hPc hK hDc) rfl rfl hl.1 rfl (lv_room (Nat.le_of_ble_eq_true rfl)) dX2_positionOf_1 ⟨Nat.le_of_ble_eq_true rfl, Nat.le_of_ble_eq_true rfl⟩) hP hD hS hA [] [0, 1, 2, 3, 4, 5, 6, 7, 8, 9] [0, 1, 2, 3, 4, 5, 6, 7, 8, 9] rfl rfl (by decide) (fun _ => rfl) (fun u_1 H locs hw hP hD hS => ?_)
  refine lv_aload_n hx hb dX2_positionOf_4 rfl (lv_at hl 0 rfl) ?_
  have hx_5 : x_X2_needUp κ = 0 := (x_of hX).1
  have hX := (x_of hX).2
  have hPc := hP.sub (ws' := kW cI h κ) [0, 1, 2, 3, 4, 5, 6, 7, 8, 9] rfl
  have hDc := hD.sub (ws' := kW cI h κ) [0, 1, 2, 3, 4, 5, 6, 7, 8, 9] (by decide) rfl
  refine rcV (W2 := fun _ => kW cI h κ) (va_runV (As := []) (rest := []) ⟨hx, hb, hml, hown, hts⟩ (c_X2_needUp l dC dI cI h H.size κ hx_5) (cwV 0 hts gX2_positionOf_X2_needUp rfl rfl rfl (by decide +kernel) ⟨Nat.le_of_ble_eq_true rfl, Nat.le_of_ble_eq_true rfl⟩) (pW_V hPc hK hDc (ci := 2) (q0 := 0) rfl rfl) rfl rfl hl.1 rfl (lv_room (Nat.le_of_ble_eq_true rfl)) dX2_positionOf_5 ⟨Nat.le_of_ble_eq_true rfl, Nat.le_of_ble_eq_true rfl⟩) hP hD hS hA [0, 1, 2, 3, 4, 5, 6, 7, 8, 9] [] [0, 1, 2, 3, 4, 5, 6, 7, 8, 9] rfl rfl (by decide) (fun _ => rfl) (fun u_5 H locs hw hP hD hS => ?_)
  refine lv_aload_n hx hb dX2_positionOf_8 rfl (lv_at hl 0 rfl) ?_
  refine va_get (D := (dC, dI)) (ci := 2) (v := .ref (h 2)) (C := RX2) (T := TX2) (N := 10) hx hb hts hinX2 hown hK hP 0 rfl rfl 1 (by decide) hf19 (fun _ h9 => h9) rfl dX2_positionOf_9 ?_
  refine lv_iload_n hx hb dX2_positionOf_12 rfl (lv_at hl 1 rfl) ?_
  have hPc := hP.sub (ws' := iW cI (h 2) (h 7) (kIx κ)) [2, 7] rfl
  have hDc := hD.sub (ws' := iW cI (h 2) (h 7) (kIx κ)) [2, 7] (by decide) rfl
  refine rcI (W2 := fun _ => kW cI h κ) (va_runV (As := [.int p1]) (rest := []) ⟨hx, hb, hml, hown, hts⟩ (c_X0_find l dC dI cI (h 2) (h 7) H.size (kIx κ) p1) (cwV 1 hts gX2_positionOf_X0_find rfl rfl rfl (by decide +kernel) ⟨Nat.le_of_ble_eq_true rfl, Nat.le_of_ble_eq_true rfl⟩) (pW_V hPc hK hDc (ci := 0) (q0 := 0) rfl rfl) rfl rfl hl.1 rfl (lv_room (Nat.le_of_ble_eq_true rfl)) dX2_positionOf_13 ⟨Nat.le_of_ble_eq_true rfl, Nat.le_of_ble_eq_true rfl⟩) hP hD hS hA [2, 7] [0, 1, 3, 4, 5, 6, 8, 9] [0, 1, 8, 2, 3, 4, 5, 9, 6, 7] rfl rfl (by decide) (fun _ => rfl) (fun r_13 u_13 H locs hw hP hD hS => ?_)
  try rw [← hw] at hV
  exact rI (w := fun _ => kW cI h κ) (()) hx hb hr hlocks hP hD hS (Nat.le_of_ble_eq_true rfl) (Nat.le_of_ble_eq_true rfl) dX2_positionOf_16 (by rw [hV] <;> rfl)
set_option maxHeartbeats 1000000 in
set_option maxRecDepth 100000 in
theorem b_X2_positionOf (l : Launch) (hlt : l.stackTraces = false) (dC : Nat → ClassId) (dI : Nat → Nat → Nat) (cI : ClassId) (h : Nat → Nat) (sz : Nat) (κ : KS) (p1 : Int32) (hX : ¬ x_X2_positionOf κ p1 = 0) : vx_Met l yX2_positionOf wsX2_positionOf ({ frames := 7, cells := 1, slots := 6, locals := 102 }) (va_Pc [.ref (h 0), .int p1] (pX (dC, dI) [(cI, .int)] (kW cI h κ) sz)) bQ (xC (dC, dI) (va_A (kW cI h κ) sz) (kW cI h κ) (x_X2_positionOf κ p1)) 1 6 (va_A (kW cI h κ) sz) := by
  refine vx_ofW (cc := cX2_positionOf) (maxL := 2) (ret := (some .int)) (by decide) rfl ?_
  intro p e s m args below meth c s₁ B hml ht hv
  obtain ⟨rfl, ⟨hsz, hP, hK, hD0⟩, hZ⟩ := hv
  have hx := B.exec
  have hb := B.bytes
  have hr := B.returns
  have hts := atoms_spec (ws := wsX2_positionOf) B.pre
  have hown : s.vm.findClass RX2 = some m.cls := findClass_of_methodNamed B.named
  have hlocks := B.notSynchronized
  have hinX2 : ∀ w ∈ wsX20, w ∈ wsX2_positionOf := by decide +kernel
  have hf19 := hts (.fieldLink RX2 19 "Keysapart" "index" "LKeysapart$Index;") (by decide +kernel)
  subst hsz
  have hD := hD0.self (sz := s.heap.size)
  generalize hAe : va_A (kW cI h κ) s.heap.size = A at hD hZ ⊢
  have hA : ∀ q : Nat, s.heap.size ≤ q → A q := fun q h => by rw [← hAe]; exact Or.inr h
  have hl := lv_entry ([.ref (h 0), .int p1]) (n := 2) (Nat.le_of_ble_eq_true rfl)
  rw [lg_entry_eq]
  generalize (lg_sl ([.ref (h 0), .int p1]) ++ List.replicate (2 - (lg_sl ([.ref (h 0), .int p1])).length) Slot.unset).toArray = ls at hl ⊢
  have hl : lv_has ls 2 [(0, .ref (h 0)), (1, .int p1)] := hl
  generalize hHe : s.heap = H at hP ⊢
  generalize hLe : ([] : List Loc) = locs
  have hS : va_S A s.heap H locs := by
    rw [← hLe, ← hHe]
    exact va_S.rf
  have hE := x_X2_positionOf_e κ p1
  refine lv_iload_n hx hb dX2_positionOf_0 rfl (lv_at hl 1 rfl) ?_
  have hPc := hP.sub (ws' := eW) [] rfl
  have hDc := hD.sub (ws' := eW) [] (by decide) rfl
  by_cases hx_1 : x_X2_needKey p1 = 0
  · rw [if_pos hx_1] at hE
    refine rcV (W2 := fun _ => kW cI h κ) (va_runS (As := [.int p1]) (rest := []) ⟨hx, hb, hml, hown, hts⟩ (c_X2_needKey l dC dI cI H.size p1 hx_1) (va_cwS 1 hts gX2_positionOf_X2_needKey rfl rfl rfl (by decide +kernel) ⟨Nat.le_of_ble_eq_true rfl, Nat.le_of_ble_eq_true rfl⟩) (pW_S hPc hK hDc) rfl rfl hl.1 rfl (lv_room (Nat.le_of_ble_eq_true rfl)) dX2_positionOf_1 ⟨Nat.le_of_ble_eq_true rfl, Nat.le_of_ble_eq_true rfl⟩) hP hD hS hA [] [0, 1, 2, 3, 4, 5, 6, 7, 8, 9] [0, 1, 2, 3, 4, 5, 6, 7, 8, 9] rfl rfl (by decide) (fun _ => rfl) (fun u_1 H locs hw hP hD hS => ?_)
    refine lv_aload_n hx hb dX2_positionOf_4 rfl (lv_at hl 0 rfl) ?_
    have hPc := hP.sub (ws' := kW cI h κ) [0, 1, 2, 3, 4, 5, 6, 7, 8, 9] rfl
    have hDc := hD.sub (ws' := kW cI h κ) [0, 1, 2, 3, 4, 5, 6, 7, 8, 9] (by decide) rfl
    by_cases hx_5 : x_X2_needUp κ = 0
    · rw [if_pos hx_5] at hE
      refine rcV (W2 := fun _ => kW cI h κ) (va_runV (As := []) (rest := []) ⟨hx, hb, hml, hown, hts⟩ (c_X2_needUp l dC dI cI h H.size κ hx_5) (cwV 0 hts gX2_positionOf_X2_needUp rfl rfl rfl (by decide +kernel) ⟨Nat.le_of_ble_eq_true rfl, Nat.le_of_ble_eq_true rfl⟩) (pW_V hPc hK hDc (ci := 2) (q0 := 0) rfl rfl) rfl rfl hl.1 rfl (lv_room (Nat.le_of_ble_eq_true rfl)) dX2_positionOf_5 ⟨Nat.le_of_ble_eq_true rfl, Nat.le_of_ble_eq_true rfl⟩) hP hD hS hA [0, 1, 2, 3, 4, 5, 6, 7, 8, 9] [] [0, 1, 2, 3, 4, 5, 6, 7, 8, 9] rfl rfl (by decide) (fun _ => rfl) (fun u_5 H locs hw hP hD hS => ?_)
      exact absurd hE hX
    · have hFc := va_free (wc := kW cI h κ) hD hS hA [0, 1, 2, 3, 4, 5, 6, 7, 8, 9] rfl
      exact rxO (vx_runV (As := []) (rest := []) ⟨hx, hb, hml, hown, hts⟩ (b_X2_needUp l hlt dC dI cI h H.size κ hx_5) (cwV 0 hts gX2_positionOf_X2_needUp rfl rfl rfl (by decide +kernel) ⟨Nat.le_of_ble_eq_true rfl, Nat.le_of_ble_eq_true rfl⟩) (pX_V hPc hK hDc hZ hS hFc (ci := 2) (q0 := 0) rfl rfl) rfl rfl hl.1 rfl (lv_room (Nat.le_of_ble_eq_true rfl)) dX2_positionOf_5 ⟨Nat.le_of_ble_eq_true rfl, Nat.le_of_ble_eq_true rfl⟩) hP hD hS hA [0, 1, 2, 3, 4, 5, 6, 7, 8, 9] [] [0, 1, 2, 3, 4, 5, 6, 7, 8, 9] rfl rfl (by decide) rfl ht hlocks (Nat.le_of_ble_eq_true rfl) (Nat.le_of_ble_eq_true rfl) (by rw [hE, if_neg hx_5])
  · have hFc := va_free (wc := eW) hD hS hA [] rfl
    exact rxO (vx_runS (As := [.int p1]) (rest := []) ⟨hx, hb, hml, hown, hts⟩ (b_X2_needKey l hlt dC dI cI H.size p1 hx_1) (va_cwS 1 hts gX2_positionOf_X2_needKey rfl rfl rfl (by decide +kernel) ⟨Nat.le_of_ble_eq_true rfl, Nat.le_of_ble_eq_true rfl⟩) (pX_S hPc hK hDc hZ hS hFc) rfl rfl hl.1 rfl (lv_room (Nat.le_of_ble_eq_true rfl)) dX2_positionOf_1 ⟨Nat.le_of_ble_eq_true rfl, Nat.le_of_ble_eq_true rfl⟩) hP hD hS hA [] [0, 1, 2, 3, 4, 5, 6, 7, 8, 9] [0, 1, 2, 3, 4, 5, 6, 7, 8, 9] rfl rfl (by decide) rfl ht hlocks (Nat.le_of_ble_eq_true rfl) (Nat.le_of_ble_eq_true rfl) (by rw [hE, if_neg hx_1])
def v_X2_segments (κ : KS) : Int32 := if (kTl κ) < (kHd κ) then (((v_X2_segmentOf ((kHd κ) - 1)) - (v_X2_segmentOf (kTl κ))) + 1) else 0
theorem v_X2_segments_e (κ : KS) : v_X2_segments κ = if (kTl κ) < (kHd κ) then (((v_X2_segmentOf ((kHd κ) - 1)) - (v_X2_segmentOf (kTl κ))) + 1) else 0 := rfl
set_option maxHeartbeats 1000000 in
set_option maxRecDepth 100000 in
theorem c_X2_segments (l : Launch) (dC : Nat → ClassId) (dI : Nat → Nat → Nat) (cI : ClassId) (h : Nat → Nat) (sz : Nat) (κ : KS) : Met l yX2_segments wsX2_segments ({ frames := 1, cells := 0, slots := 0, locals := 20 }) (va_Pc [.ref (h 0)] (pW (dC, dI) [(cI, .int)] (kW cI h κ) sz)) (va_Qi (fun (r : Int32) (u : Unit) => r = v_X2_segments κ) (qW (dC, dI) (va_A (kW cI h κ) sz) (fun _ => kW cI h κ)) (va_A (kW cI h κ) sz)) 0 0 (va_A (kW cI h κ) sz) := by
  refine Met.ofW (cc := cX2_segments) (maxL := 1) (ret := (some .int)) (by decide) rfl ?_
  intro p e s m args below meth c s₁ B hml hv
  obtain ⟨rfl, hsz, hP, hK, hD0⟩ := hv
  have hx := B.exec
  have hb := B.bytes
  have hr := B.returns
  have hts := atoms_spec (ws := wsX2_segments) B.pre
  have hown : s.vm.findClass RX2 = some m.cls := findClass_of_methodNamed B.named
  have hlocks := B.notSynchronized
  have hinX2 : ∀ w ∈ wsX20, w ∈ wsX2_segments := by decide +kernel
  have hf33 := hts (.fieldLink RX2 33 "Keysapart" "headAt" "I") (by decide +kernel)
  have hf37 := hts (.fieldLink RX2 37 "Keysapart" "tailAt" "I") (by decide +kernel)
  subst hsz
  have hD := hD0.self (sz := s.heap.size)
  generalize hAe : va_A (kW cI h κ) s.heap.size = A at hD ⊢
  have hA : ∀ q : Nat, s.heap.size ≤ q → A q := fun q h => by rw [← hAe]; exact Or.inr h
  have hl := lv_entry ([.ref (h 0)]) (n := 1) (Nat.le_of_ble_eq_true rfl)
  rw [lg_entry_eq]
  generalize (lg_sl ([.ref (h 0)]) ++ List.replicate (1 - (lg_sl ([.ref (h 0)])).length) Slot.unset).toArray = ls at hl ⊢
  have hl : lv_has ls 1 [(0, .ref (h 0))] := hl
  generalize hHe : s.heap = H at hP ⊢
  generalize hLe : ([] : List Loc) = locs
  have hS : va_S A s.heap H locs := by
    rw [← hLe, ← hHe]
    exact va_S.rf
  have hV := v_X2_segments_e κ
  refine lv_aload_n hx hb dX2_segments_0 rfl (lv_at hl 0 rfl) ?_
  refine va_get (D := (dC, dI)) (ci := 2) (v := .int (kHd κ)) (C := RX2) (T := TX2) (N := 10) hx hb hts hinX2 hown hK hP 0 rfl rfl 5 (by decide) hf33 (fun _ h9 => h9) rfl dX2_segments_1 ?_
  refine lv_aload_n hx hb dX2_segments_4 rfl (lv_at hl 0 rfl) ?_
  refine va_get (D := (dC, dI)) (ci := 2) (v := .int (kTl κ)) (C := RX2) (T := TX2) (N := 10) hx hb hts hinX2 hown hK hP 0 rfl rfl 6 (by decide) hf37 (fun _ h9 => h9) rfl dX2_segments_5 ?_
  refine lv_icmp_gt (tgt := 13) hx hb dX2_segments_8 (by decide) (fun c_8 => ?_) (fun c_8 => ?_)
  · skip
    rw [if_pos c_8] at hV
    refine lv_aload_n hx hb dX2_segments_13 rfl (lv_at hl 0 rfl) ?_
    refine va_get (D := (dC, dI)) (ci := 2) (v := .int (kHd κ)) (C := RX2) (T := TX2) (N := 10) hx hb hts hinX2 hown hK hP 0 rfl rfl 5 (by decide) hf33 (fun _ h9 => h9) rfl dX2_segments_14 ?_
    refine lv_iconst (v := 1) hx hb dX2_segments_17 (by decide) ?_
    refine lv_isub hx hb dX2_segments_18 ?_
    have hPc := hP.sub (ws' := eW) [] rfl
    have hDc := hD.sub (ws' := eW) [] (by decide) rfl
    refine rcI (W2 := fun _ => kW cI h κ) (va_runS (As := [.int ((kHd κ) - 1)]) (rest := []) ⟨hx, hb, hml, hown, hts⟩ (c_X2_segmentOf l dC dI cI H.size ((kHd κ) - 1)) (va_cwS 1 hts gX2_segments_X2_segmentOf rfl rfl rfl (by decide +kernel) ⟨Nat.le_of_ble_eq_true rfl, Nat.le_of_ble_eq_true rfl⟩) (pW_S hPc hK hDc) rfl rfl hl.1 rfl (lv_room (Nat.le_of_ble_eq_true rfl)) dX2_segments_19 ⟨Nat.le_of_ble_eq_true rfl, Nat.le_of_ble_eq_true rfl⟩) hP hD hS hA [] [0, 1, 2, 3, 4, 5, 6, 7, 8, 9] [0, 1, 2, 3, 4, 5, 6, 7, 8, 9] rfl rfl (by decide) (fun _ => rfl) (fun r_19 u_19 H locs hw hP hD hS => ?_)
    try rw [← hw] at hV
    refine lv_aload_n hx hb dX2_segments_22 rfl (lv_at hl 0 rfl) ?_
    refine va_get (D := (dC, dI)) (ci := 2) (v := .int (kTl κ)) (C := RX2) (T := TX2) (N := 10) hx hb hts hinX2 hown hK hP 0 rfl rfl 6 (by decide) hf37 (fun _ h9 => h9) rfl dX2_segments_23 ?_
    have hPc := hP.sub (ws' := eW) [] rfl
    have hDc := hD.sub (ws' := eW) [] (by decide) rfl
    refine rcI (W2 := fun _ => kW cI h κ) (va_runS (As := [.int (kTl κ)]) (rest := [.int r_19]) ⟨hx, hb, hml, hown, hts⟩ (c_X2_segmentOf l dC dI cI H.size (kTl κ)) (va_cwS 1 hts gX2_segments_X2_segmentOf rfl rfl rfl (by decide +kernel) ⟨Nat.le_of_ble_eq_true rfl, Nat.le_of_ble_eq_true rfl⟩) (pW_S hPc hK hDc) rfl rfl hl.1 rfl (lv_room (Nat.le_of_ble_eq_true rfl)) dX2_segments_26 ⟨Nat.le_of_ble_eq_true rfl, Nat.le_of_ble_eq_true rfl⟩) hP hD hS hA [] [0, 1, 2, 3, 4, 5, 6, 7, 8, 9] [0, 1, 2, 3, 4, 5, 6, 7, 8, 9] rfl rfl (by decide) (fun _ => rfl) (fun r_26 u_26 H locs hw hP hD hS => ?_)
    try rw [← hw] at hV
    refine lv_isub hx hb dX2_segments_29 ?_
    refine lv_iconst (v := 1) hx hb dX2_segments_30 (by decide) ?_
    refine lv_iadd hx hb dX2_segments_31 ?_
    exact rI (w := fun _ => kW cI h κ) (()) hx hb hr hlocks hP hD hS (Nat.le_of_ble_eq_true rfl) (Nat.le_of_ble_eq_true rfl) dX2_segments_32 (by rw [hV] <;> rfl)
  · skip
    rw [if_neg c_8] at hV
    refine lv_iconst (v := 0) hx hb dX2_segments_11 (by decide) ?_
    exact rI (w := fun _ => kW cI h κ) (()) hx hb hr hlocks hP hD hS (Nat.le_of_ble_eq_true rfl) (Nat.le_of_ble_eq_true rfl) dX2_segments_12 (by rw [hV] <;> rfl)
def v_X2_live (κ : KS) : Int32 := (v_X2_liveFromTail κ ((kHd κ) - (kTl κ)))
theorem v_X2_live_e (κ : KS) : v_X2_live κ = (v_X2_liveFromTail κ ((kHd κ) - (kTl κ))) := rfl
def x_X2_live (κ : KS) : Nat := if x_X2_needUp κ = 0 then 0 else x_X2_needUp κ
theorem x_X2_live_e (κ : KS) : x_X2_live κ = if x_X2_needUp κ = 0 then 0 else x_X2_needUp κ := rfl
def s_X2_live (κ : KS) : Prop := (x_X2_needUp κ = 0 → (s_X2_liveFromTail κ ((kHd κ) - (kTl κ)) ∧ True))
set_option maxHeartbeats 1000000 in
set_option maxRecDepth 100000 in
theorem c_X2_live (l : Launch) (dC : Nat → ClassId) (dI : Nat → Nat → Nat) (cI : ClassId) (h : Nat → Nat) (sz : Nat) (κ : KS) (hX : x_X2_live κ = 0) (hs : s_X2_live κ) : Met l yX2_live wsX2_live ({ frames := 7, cells := 0, slots := 0, locals := 102 }) (va_Pc [.ref (h 0)] (pW (dC, dI) [(cI, .int)] (kW cI h κ) sz)) (va_Qi (fun (r : Int32) (u : Unit) => r = v_X2_live κ) (qW (dC, dI) (va_A (kW cI h κ) sz) (fun _ => kW cI h κ)) (va_A (kW cI h κ) sz)) 0 0 (va_A (kW cI h κ) sz) := by
  refine Met.ofW (cc := cX2_live) (maxL := 1) (ret := (some .int)) (by decide) rfl ?_
  intro p e s m args below meth c s₁ B hml hv
  obtain ⟨rfl, hsz, hP, hK, hD0⟩ := hv
  have hx := B.exec
  have hb := B.bytes
  have hr := B.returns
  have hts := atoms_spec (ws := wsX2_live) B.pre
  have hown : s.vm.findClass RX2 = some m.cls := findClass_of_methodNamed B.named
  have hlocks := B.notSynchronized
  have hinX2 : ∀ w ∈ wsX20, w ∈ wsX2_live := by decide +kernel
  have hf33 := hts (.fieldLink RX2 33 "Keysapart" "headAt" "I") (by decide +kernel)
  have hf37 := hts (.fieldLink RX2 37 "Keysapart" "tailAt" "I") (by decide +kernel)
  subst hsz
  have hD := hD0.self (sz := s.heap.size)
  generalize hAe : va_A (kW cI h κ) s.heap.size = A at hD ⊢
  have hA : ∀ q : Nat, s.heap.size ≤ q → A q := fun q h => by rw [← hAe]; exact Or.inr h
  have hl := lv_entry ([.ref (h 0)]) (n := 1) (Nat.le_of_ble_eq_true rfl)
  rw [lg_entry_eq]
  generalize (lg_sl ([.ref (h 0)]) ++ List.replicate (1 - (lg_sl ([.ref (h 0)])).length) Slot.unset).toArray = ls at hl ⊢
  have hl : lv_has ls 1 [(0, .ref (h 0))] := hl
  generalize hHe : s.heap = H at hP ⊢
  generalize hLe : ([] : List Loc) = locs
  have hS : va_S A s.heap H locs := by
    rw [← hLe, ← hHe]
    exact va_S.rf
  unfold s_X2_live at hs
  rw [x_X2_live_e] at hX
  have hV := v_X2_live_e κ
  refine lv_aload_n hx hb dX2_live_0 rfl (lv_at hl 0 rfl) ?_
  have hx_1 : x_X2_needUp κ = 0 := (x_of hX).1
  have hX := (x_of hX).2
  have hs := hs hx_1
  have hPc := hP.sub (ws' := kW cI h κ) [0, 1, 2, 3, 4, 5, 6, 7, 8, 9] rfl
  have hDc := hD.sub (ws' := kW cI h κ) [0, 1, 2, 3, 4, 5, 6, 7, 8, 9] (by decide) rfl
  refine rcV (W2 := fun _ => kW cI h κ) (va_runV (As := []) (rest := []) ⟨hx, hb, hml, hown, hts⟩ (c_X2_needUp l dC dI cI h H.size κ hx_1) (cwV 0 hts gX2_live_X2_needUp rfl rfl rfl (by decide +kernel) ⟨Nat.le_of_ble_eq_true rfl, Nat.le_of_ble_eq_true rfl⟩) (pW_V hPc hK hDc (ci := 2) (q0 := 0) rfl rfl) rfl rfl hl.1 rfl (lv_room (Nat.le_of_ble_eq_true rfl)) dX2_live_1 ⟨Nat.le_of_ble_eq_true rfl, Nat.le_of_ble_eq_true rfl⟩) hP hD hS hA [0, 1, 2, 3, 4, 5, 6, 7, 8, 9] [] [0, 1, 2, 3, 4, 5, 6, 7, 8, 9] rfl rfl (by decide) (fun _ => rfl) (fun u_1 H locs hw hP hD hS => ?_)
  refine lv_aload_n hx hb dX2_live_4 rfl (lv_at hl 0 rfl) ?_
  refine lv_aload_n hx hb dX2_live_5 rfl (lv_at hl 0 rfl) ?_
  refine va_get (D := (dC, dI)) (ci := 2) (v := .int (kHd κ)) (C := RX2) (T := TX2) (N := 10) hx hb hts hinX2 hown hK hP 0 rfl rfl 5 (by decide) hf33 (fun _ h9 => h9) rfl dX2_live_6 ?_
  refine lv_aload_n hx hb dX2_live_9 rfl (lv_at hl 0 rfl) ?_
  refine va_get (D := (dC, dI)) (ci := 2) (v := .int (kTl κ)) (C := RX2) (T := TX2) (N := 10) hx hb hts hinX2 hown hK hP 0 rfl rfl 6 (by decide) hf37 (fun _ h9 => h9) rfl dX2_live_10 ?_
  refine lv_isub hx hb dX2_live_13 ?_
  have o_14 : s_X2_liveFromTail κ ((kHd κ) - (kTl κ)) := hs.1
  have hs := hs.2
  have hPc := hP.sub (ws' := kW cI h κ) [0, 1, 2, 3, 4, 5, 6, 7, 8, 9] rfl
  have hDc := hD.sub (ws' := kW cI h κ) [0, 1, 2, 3, 4, 5, 6, 7, 8, 9] (by decide) rfl
  refine rcI (W2 := fun _ => kW cI h κ) (va_runV (As := [.int ((kHd κ) - (kTl κ))]) (rest := []) ⟨hx, hb, hml, hown, hts⟩ (c_X2_liveFromTail l dC dI cI h H.size κ ((kHd κ) - (kTl κ)) o_14) (cwV 1 hts gX2_live_X2_liveFromTail rfl rfl rfl (by decide +kernel) ⟨Nat.le_of_ble_eq_true rfl, Nat.le_of_ble_eq_true rfl⟩) (pW_V hPc hK hDc (ci := 2) (q0 := 0) rfl rfl) rfl rfl hl.1 rfl (lv_room (Nat.le_of_ble_eq_true rfl)) dX2_live_14 ⟨Nat.le_of_ble_eq_true rfl, Nat.le_of_ble_eq_true rfl⟩) hP hD hS hA [0, 1, 2, 3, 4, 5, 6, 7, 8, 9] [] [0, 1, 2, 3, 4, 5, 6, 7, 8, 9] rfl rfl (by decide) (fun _ => rfl) (fun r_14 u_14 H locs hw hP hD hS => ?_)
  try rw [← hw] at hV
  exact rI (w := fun _ => kW cI h κ) (()) hx hb hr hlocks hP hD hS (Nat.le_of_ble_eq_true rfl) (Nat.le_of_ble_eq_true rfl) dX2_live_17 (by rw [hV] <;> rfl)
set_option maxHeartbeats 1000000 in
set_option maxRecDepth 100000 in
theorem b_X2_live (l : Launch) (hlt : l.stackTraces = false) (dC : Nat → ClassId) (dI : Nat → Nat → Nat) (cI : ClassId) (h : Nat → Nat) (sz : Nat) (κ : KS) (hX : ¬ x_X2_live κ = 0) (hs : s_X2_live κ) : vx_Met l yX2_live wsX2_live ({ frames := 7, cells := 1, slots := 6, locals := 102 }) (va_Pc [.ref (h 0)] (pX (dC, dI) [(cI, .int)] (kW cI h κ) sz)) bQ (xC (dC, dI) (va_A (kW cI h κ) sz) (kW cI h κ) (x_X2_live κ)) 1 6 (va_A (kW cI h κ) sz) := by
  refine vx_ofW (cc := cX2_live) (maxL := 1) (ret := (some .int)) (by decide) rfl ?_
  intro p e s m args below meth c s₁ B hml ht hv
  obtain ⟨rfl, ⟨hsz, hP, hK, hD0⟩, hZ⟩ := hv
  have hx := B.exec
  have hb := B.bytes
  have hr := B.returns
  have hts := atoms_spec (ws := wsX2_live) B.pre
  have hown : s.vm.findClass RX2 = some m.cls := findClass_of_methodNamed B.named
  have hlocks := B.notSynchronized
  have hinX2 : ∀ w ∈ wsX20, w ∈ wsX2_live := by decide +kernel
  have hf33 := hts (.fieldLink RX2 33 "Keysapart" "headAt" "I") (by decide +kernel)
  have hf37 := hts (.fieldLink RX2 37 "Keysapart" "tailAt" "I") (by decide +kernel)
  subst hsz
  have hD := hD0.self (sz := s.heap.size)
  generalize hAe : va_A (kW cI h κ) s.heap.size = A at hD hZ ⊢
  have hA : ∀ q : Nat, s.heap.size ≤ q → A q := fun q h => by rw [← hAe]; exact Or.inr h
  have hl := lv_entry ([.ref (h 0)]) (n := 1) (Nat.le_of_ble_eq_true rfl)
  rw [lg_entry_eq]
  generalize (lg_sl ([.ref (h 0)]) ++ List.replicate (1 - (lg_sl ([.ref (h 0)])).length) Slot.unset).toArray = ls at hl ⊢
  have hl : lv_has ls 1 [(0, .ref (h 0))] := hl
  generalize hHe : s.heap = H at hP ⊢
  generalize hLe : ([] : List Loc) = locs
  have hS : va_S A s.heap H locs := by
    rw [← hLe, ← hHe]
    exact va_S.rf
  unfold s_X2_live at hs
  have hE := x_X2_live_e κ
  refine lv_aload_n hx hb dX2_live_0 rfl (lv_at hl 0 rfl) ?_
  have hPc := hP.sub (ws' := kW cI h κ) [0, 1, 2, 3, 4, 5, 6, 7, 8, 9] rfl
  have hDc := hD.sub (ws' := kW cI h κ) [0, 1, 2, 3, 4, 5, 6, 7, 8, 9] (by decide) rfl
  by_cases hx_1 : x_X2_needUp κ = 0
  · have hs := hs hx_1
    rw [if_pos hx_1] at hE
    refine rcV (W2 := fun _ => kW cI h κ) (va_runV (As := []) (rest := []) ⟨hx, hb, hml, hown, hts⟩ (c_X2_needUp l dC dI cI h H.size κ hx_1) (cwV 0 hts gX2_live_X2_needUp rfl rfl rfl (by decide +kernel) ⟨Nat.le_of_ble_eq_true rfl, Nat.le_of_ble_eq_true rfl⟩) (pW_V hPc hK hDc (ci := 2) (q0 := 0) rfl rfl) rfl rfl hl.1 rfl (lv_room (Nat.le_of_ble_eq_true rfl)) dX2_live_1 ⟨Nat.le_of_ble_eq_true rfl, Nat.le_of_ble_eq_true rfl⟩) hP hD hS hA [0, 1, 2, 3, 4, 5, 6, 7, 8, 9] [] [0, 1, 2, 3, 4, 5, 6, 7, 8, 9] rfl rfl (by decide) (fun _ => rfl) (fun u_1 H locs hw hP hD hS => ?_)
    exact absurd hE hX
  · have hFc := va_free (wc := kW cI h κ) hD hS hA [0, 1, 2, 3, 4, 5, 6, 7, 8, 9] rfl
    exact rxO (vx_runV (As := []) (rest := []) ⟨hx, hb, hml, hown, hts⟩ (b_X2_needUp l hlt dC dI cI h H.size κ hx_1) (cwV 0 hts gX2_live_X2_needUp rfl rfl rfl (by decide +kernel) ⟨Nat.le_of_ble_eq_true rfl, Nat.le_of_ble_eq_true rfl⟩) (pX_V hPc hK hDc hZ hS hFc (ci := 2) (q0 := 0) rfl rfl) rfl rfl hl.1 rfl (lv_room (Nat.le_of_ble_eq_true rfl)) dX2_live_1 ⟨Nat.le_of_ble_eq_true rfl, Nat.le_of_ble_eq_true rfl⟩) hP hD hS hA [0, 1, 2, 3, 4, 5, 6, 7, 8, 9] [] [0, 1, 2, 3, 4, 5, 6, 7, 8, 9] rfl rfl (by decide) rfl ht hlocks (Nat.le_of_ble_eq_true rfl) (Nat.le_of_ble_eq_true rfl) (by rw [hE, if_neg hx_1])
def v_X2_toFree (κ : KS) : Int32 := if ((kHd κ) - (kTl κ)) < ((((v_X2_segmentOf (kTl κ)) + 1) * 8) - (kTl κ)) then (-1) else ((((v_X2_segmentOf (kTl κ)) + 1) * 8) - (kTl κ))
theorem v_X2_toFree_e (κ : KS) : v_X2_toFree κ = if ((kHd κ) - (kTl κ)) < ((((v_X2_segmentOf (kTl κ)) + 1) * 8) - (kTl κ)) then (-1) else ((((v_X2_segmentOf (kTl κ)) + 1) * 8) - (kTl κ)) := rfl
set_option maxHeartbeats 1000000 in
set_option maxRecDepth 100000 in
theorem c_X2_toFree (l : Launch) (dC : Nat → ClassId) (dI : Nat → Nat → Nat) (cI : ClassId) (h : Nat → Nat) (sz : Nat) (κ : KS) : Met l yX2_toFree wsX2_toFree ({ frames := 1, cells := 0, slots := 0, locals := 20 }) (va_Pc [.ref (h 0)] (pW (dC, dI) [(cI, .int)] (kW cI h κ) sz)) (va_Qi (fun (r : Int32) (u : Unit) => r = v_X2_toFree κ) (qW (dC, dI) (va_A (kW cI h κ) sz) (fun _ => kW cI h κ)) (va_A (kW cI h κ) sz)) 0 0 (va_A (kW cI h κ) sz) := by
  refine Met.ofW (cc := cX2_toFree) (maxL := 2) (ret := (some .int)) (by decide) rfl ?_
  intro p e s m args below meth c s₁ B hml hv
  obtain ⟨rfl, hsz, hP, hK, hD0⟩ := hv
  have hx := B.exec
  have hb := B.bytes
  have hr := B.returns
  have hts := atoms_spec (ws := wsX2_toFree) B.pre
  have hown : s.vm.findClass RX2 = some m.cls := findClass_of_methodNamed B.named
  have hlocks := B.notSynchronized
  have hinX2 : ∀ w ∈ wsX20, w ∈ wsX2_toFree := by decide +kernel
  have hf33 := hts (.fieldLink RX2 33 "Keysapart" "headAt" "I") (by decide +kernel)
  have hf37 := hts (.fieldLink RX2 37 "Keysapart" "tailAt" "I") (by decide +kernel)
  subst hsz
  have hD := hD0.self (sz := s.heap.size)
  generalize hAe : va_A (kW cI h κ) s.heap.size = A at hD ⊢
  have hA : ∀ q : Nat, s.heap.size ≤ q → A q := fun q h => by rw [← hAe]; exact Or.inr h
  have hl := lv_entry ([.ref (h 0)]) (n := 2) (Nat.le_of_ble_eq_true rfl)
  rw [lg_entry_eq]
  generalize (lg_sl ([.ref (h 0)]) ++ List.replicate (2 - (lg_sl ([.ref (h 0)])).length) Slot.unset).toArray = ls at hl ⊢
  have hl : lv_has ls 2 [(0, .ref (h 0))] := hl
  generalize hHe : s.heap = H at hP ⊢
  generalize hLe : ([] : List Loc) = locs
  have hS : va_S A s.heap H locs := by
    rw [← hLe, ← hHe]
    exact va_S.rf
  have hV := v_X2_toFree_e κ
  refine lv_aload_n hx hb dX2_toFree_0 rfl (lv_at hl 0 rfl) ?_
  refine va_get (D := (dC, dI)) (ci := 2) (v := .int (kTl κ)) (C := RX2) (T := TX2) (N := 10) hx hb hts hinX2 hown hK hP 0 rfl rfl 6 (by decide) hf37 (fun _ h9 => h9) rfl dX2_toFree_1 ?_
  have hPc := hP.sub (ws' := eW) [] rfl
  have hDc := hD.sub (ws' := eW) [] (by decide) rfl
  refine rcI (W2 := fun _ => kW cI h κ) (va_runS (As := [.int (kTl κ)]) (rest := []) ⟨hx, hb, hml, hown, hts⟩ (c_X2_segmentOf l dC dI cI H.size (kTl κ)) (va_cwS 1 hts gX2_toFree_X2_segmentOf rfl rfl rfl (by decide +kernel) ⟨Nat.le_of_ble_eq_true rfl, Nat.le_of_ble_eq_true rfl⟩) (pW_S hPc hK hDc) rfl rfl hl.1 rfl (lv_room (Nat.le_of_ble_eq_true rfl)) dX2_toFree_4 ⟨Nat.le_of_ble_eq_true rfl, Nat.le_of_ble_eq_true rfl⟩) hP hD hS hA [] [0, 1, 2, 3, 4, 5, 6, 7, 8, 9] [0, 1, 2, 3, 4, 5, 6, 7, 8, 9] rfl rfl (by decide) (fun _ => rfl) (fun r_4 u_4 H locs hw hP hD hS => ?_)
  try rw [← hw] at hV
  refine lv_iconst (v := 1) hx hb dX2_toFree_7 (by decide) ?_
  refine lv_iadd hx hb dX2_toFree_8 ?_
  refine lv_bipush (v := 8) hx hb dX2_toFree_9 (by decide) ?_
  refine lv_imul hx hb dX2_toFree_11 ?_
  refine lv_aload_n hx hb dX2_toFree_12 rfl (lv_at hl 0 rfl) ?_
  refine va_get (D := (dC, dI)) (ci := 2) (v := .int (kTl κ)) (C := RX2) (T := TX2) (N := 10) hx hb hts hinX2 hown hK hP 0 rfl rfl 6 (by decide) hf37 (fun _ h9 => h9) rfl dX2_toFree_13 ?_
  refine lv_isub hx hb dX2_toFree_16 ?_
  refine lv_istore_n (lv' := [(1, .int (((r_4 + 1) * 8) - (kTl κ))), (0, .ref (h 0))]) hx hb dX2_toFree_17 rfl hl (by decide) rfl (fun ls hl => ?_)
  refine lv_iload_n hx hb dX2_toFree_18 rfl (lv_at hl 0 rfl) ?_
  refine lv_aload_n hx hb dX2_toFree_19 rfl (lv_at hl 1 rfl) ?_
  refine va_get (D := (dC, dI)) (ci := 2) (v := .int (kHd κ)) (C := RX2) (T := TX2) (N := 10) hx hb hts hinX2 hown hK hP 0 rfl rfl 5 (by decide) hf33 (fun _ h9 => h9) rfl dX2_toFree_20 ?_
  refine lv_aload_n hx hb dX2_toFree_23 rfl (lv_at hl 1 rfl) ?_
  refine va_get (D := (dC, dI)) (ci := 2) (v := .int (kTl κ)) (C := RX2) (T := TX2) (N := 10) hx hb hts hinX2 hown hK hP 0 rfl rfl 6 (by decide) hf37 (fun _ h9 => h9) rfl dX2_toFree_24 ?_
  refine lv_isub hx hb dX2_toFree_27 ?_
  refine lv_icmp_gt (tgt := 35) hx hb dX2_toFree_28 (by decide) (fun c_28 => ?_) (fun c_28 => ?_)
  · skip
    rw [if_pos c_28] at hV
    refine lv_iconst (v := (-1)) hx hb dX2_toFree_35 (by decide) ?_
    exact rI (w := fun _ => kW cI h κ) (()) hx hb hr hlocks hP hD hS (Nat.le_of_ble_eq_true rfl) (Nat.le_of_ble_eq_true rfl) dX2_toFree_36 (by rw [hV] <;> rfl)
  · skip
    rw [if_neg c_28] at hV
    refine lv_iload_n hx hb dX2_toFree_31 rfl (lv_at hl 0 rfl) ?_
    refine lv_goto (tgt := 36) hx hb dX2_toFree_32 (by decide) ?_
    exact rI (w := fun _ => kW cI h κ) (()) hx hb hr hlocks hP hD hS (Nat.le_of_ble_eq_true rfl) (Nat.le_of_ble_eq_true rfl) dX2_toFree_36 (by rw [hV] <;> rfl)
def v_X2_wouldHave (κ : KS) : Int32 × KS := ((v_X0_size (kTr (v_X2_recover_t κ))), (v_X2_recover_t κ))
theorem v_X2_wouldHave_e (κ : KS) : v_X2_wouldHave κ = ((v_X0_size (kTr (v_X2_recover_t κ))), (v_X2_recover_t κ)) := rfl
def s_X2_wouldHave (κ : KS) : Prop := (s_X2_recover_t κ ∧ (s_X0_size (kTr (v_X2_recover_t κ)) ∧ True))
set_option maxHeartbeats 1000000 in
set_option maxRecDepth 100000 in
theorem c_X2_wouldHave (l : Launch) (dC : Nat → ClassId) (dI : Nat → Nat → Nat) (cI : ClassId) (h : Nat → Nat) (sz : Nat) (κ : KS) (hs : s_X2_wouldHave κ) : Met l yX2_wouldHave wsX2_wouldHave ({ frames := 4, cells := 0, slots := 0, locals := 89 }) (va_Pc [.ref (h 0)] (pW (dC, dI) [(cI, .int)] (kW cI h κ) sz)) (va_Qi (fun (r : Int32) (u : KS) => r = (v_X2_wouldHave κ).1 ∧ u = (v_X2_wouldHave κ).2) (qW (dC, dI) (va_A (kW cI h κ) sz) (fun u => kW cI h u)) (va_A (kW cI h κ) sz)) 0 0 (va_A (kW cI h κ) sz) := by
  refine Met.ofW (cc := cX2_wouldHave) (maxL := 1) (ret := (some .int)) (by decide) rfl ?_
  intro p e s m args below meth c s₁ B hml hv
  obtain ⟨rfl, hsz, hP, hK, hD0⟩ := hv
  have hx := B.exec
  have hb := B.bytes
  have hr := B.returns
  have hts := atoms_spec (ws := wsX2_wouldHave) B.pre
  have hown : s.vm.findClass RX2 = some m.cls := findClass_of_methodNamed B.named
  have hlocks := B.notSynchronized
  have hinX2 : ∀ w ∈ wsX20, w ∈ wsX2_wouldHave := by decide +kernel
  have hf26 := hts (.fieldLink RX2 26 "Keysapart" "trialIndex" "LKeysapart$Index;") (by decide +kernel)
  subst hsz
  have hD := hD0.self (sz := s.heap.size)
  generalize hAe : va_A (kW cI h κ) s.heap.size = A at hD ⊢
  have hA : ∀ q : Nat, s.heap.size ≤ q → A q := fun q h => by rw [← hAe]; exact Or.inr h
  have hl := lv_entry ([.ref (h 0)]) (n := 1) (Nat.le_of_ble_eq_true rfl)
  rw [lg_entry_eq]
  generalize (lg_sl ([.ref (h 0)]) ++ List.replicate (1 - (lg_sl ([.ref (h 0)])).length) Slot.unset).toArray = ls at hl ⊢
  have hl : lv_has ls 1 [(0, .ref (h 0))] := hl
  generalize hHe : s.heap = H at hP ⊢
  generalize hLe : ([] : List Loc) = locs
  have hS : va_S A s.heap H locs := by
    rw [← hLe, ← hHe]
    exact va_S.rf
  unfold s_X2_wouldHave at hs
  have hV := v_X2_wouldHave_e κ
  refine lv_aload_n hx hb dX2_wouldHave_0 rfl (lv_at hl 0 rfl) ?_
  refine lv_aload_n hx hb dX2_wouldHave_1 rfl (lv_at hl 0 rfl) ?_
  refine va_get (D := (dC, dI)) (ci := 2) (v := .ref (h 4)) (C := RX2) (T := TX2) (N := 10) hx hb hts hinX2 hown hK hP 0 rfl rfl 3 (by decide) hf26 (fun _ h9 => h9) rfl dX2_wouldHave_2 ?_
  have o_5 : s_X2_recover_t κ := hs.1
  have hs := hs.2
  have hPc := hP.sub (ws' := kW cI h κ) [0, 1, 2, 3, 4, 5, 6, 7, 8, 9] rfl
  have hDc := hD.sub (ws' := kW cI h κ) [0, 1, 2, 3, 4, 5, 6, 7, 8, 9] (by decide) rfl
  refine rcV (W2 := fun u => kW cI h u) (va_runV (As := [.ref (h 4)]) (rest := []) ⟨hx, hb, hml, hown, hts⟩ (c_X2_recover_t l dC dI cI h H.size κ o_5) (cwV 1 hts gX2_wouldHave_X2_recover rfl rfl rfl (by decide +kernel) ⟨Nat.le_of_ble_eq_true rfl, Nat.le_of_ble_eq_true rfl⟩) (pW_V hPc hK hDc (ci := 2) (q0 := 0) rfl rfl) rfl rfl hl.1 rfl (lv_room (Nat.le_of_ble_eq_true rfl)) dX2_wouldHave_5 ⟨Nat.le_of_ble_eq_true rfl, Nat.le_of_ble_eq_true rfl⟩) hP hD hS hA [0, 1, 2, 3, 4, 5, 6, 7, 8, 9] [] [0, 1, 2, 3, 4, 5, 6, 7, 8, 9] rfl rfl (by decide) (fun _ => rfl) (fun u_5 H locs hw hP hD hS => ?_)
  try rw [← hw] at hV
  try rw [← hw] at hs
  refine lv_aload_n hx hb dX2_wouldHave_8 rfl (lv_at hl 0 rfl) ?_
  refine va_get (D := (dC, dI)) (ci := 2) (v := .ref (h 4)) (C := RX2) (T := TX2) (N := 10) hx hb hts hinX2 hown hK hP 0 rfl rfl 3 (by decide) hf26 (fun _ h9 => h9) rfl dX2_wouldHave_9 ?_
  have o_12 : s_X0_size (kTr u_5) := hs.1
  have hs := hs.2
  have hPc := hP.sub (ws' := iW cI (h 4) (h 9) (kTr u_5)) [4, 9] rfl
  have hDc := hD.sub (ws' := iW cI (h 4) (h 9) (kTr u_5)) [4, 9] (by decide) rfl
  refine rcI (W2 := fun _ => kW cI h u_5) (va_runV (As := []) (rest := []) ⟨hx, hb, hml, hown, hts⟩ (c_X0_size l dC dI cI (h 4) (h 9) H.size (kTr u_5) o_12) (cwV 0 hts gX2_wouldHave_X0_size rfl rfl rfl (by decide +kernel) ⟨Nat.le_of_ble_eq_true rfl, Nat.le_of_ble_eq_true rfl⟩) (pW_V hPc hK hDc (ci := 0) (q0 := 0) rfl rfl) rfl rfl hl.1 rfl (lv_room (Nat.le_of_ble_eq_true rfl)) dX2_wouldHave_12 ⟨Nat.le_of_ble_eq_true rfl, Nat.le_of_ble_eq_true rfl⟩) hP hD hS hA [4, 9] [0, 1, 2, 3, 5, 6, 7, 8] [0, 1, 2, 3, 8, 4, 5, 6, 7, 9] rfl rfl (by decide) (fun _ => rfl) (fun r_12 u_12 H locs hw hP hD hS => ?_)
  try rw [← hw] at hV
  exact rI (w := fun u => kW cI h u) (u_5) hx hb hr hlocks hP hD hS (Nat.le_of_ble_eq_true rfl) (Nat.le_of_ble_eq_true rfl) dX2_wouldHave_15 ⟨by rw [hV] <;> rfl, by rw [hV] <;> rfl⟩
