def v_X2_append (κ : KS) (p1 : Int32) (p2 : Int32) : Int32 × KS := ((kHd κ), kSHd (v_X2_follow_i (kSG κ (v_X1_store (kLk κ, kLv κ) (kHd κ) p1 p2)) (kHd κ)) ((kHd κ) + 1))
theorem v_X2_append_e (κ : KS) (p1 : Int32) (p2 : Int32) : v_X2_append κ p1 p2 = ((kHd κ), kSHd (v_X2_follow_i (kSG κ (v_X1_store (kLk κ, kLv κ) (kHd κ) p1 p2)) (kHd κ)) ((kHd κ) + 1)) := rfl
def s_X2_append (κ : KS) (p1 : Int32) (p2 : Int32) : Prop := (s_X1_store (kLk κ, kLv κ) (kHd κ) p1 p2 ∧ (s_X2_follow_i (kSG κ (v_X1_store (kLk κ, kLv κ) (kHd κ) p1 p2)) (kHd κ) ∧ True))
set_option maxHeartbeats 1000000 in
set_option maxRecDepth 100000 in
theorem c_X2_append (l : Launch) (dC : Nat → ClassId) (dI : Nat → Nat → Nat) (cI : ClassId) (h : Nat → Nat) (sz : Nat) (κ : KS) (p1 : Int32) (p2 : Int32) (hs : s_X2_append κ p1 p2) : Met l yX2_append wsX2_append ({ frames := 3, cells := 0, slots := 0, locals := 67 }) (va_Pc [.ref (h 0), .int p1, .int p2] (pW (dC, dI) [(cI, .int)] (kW cI h κ) sz)) (va_Qi (fun (r : Int32) (u : KS) => r = (v_X2_append κ p1 p2).1 ∧ u = (v_X2_append κ p1 p2).2) (qW (dC, dI) (va_A (kW cI h κ) sz) (fun u => kW cI h u)) (va_A (kW cI h κ) sz)) 0 0 (va_A (kW cI h κ) sz) := by
  refine Met.ofW (cc := cX2_append) (maxL := 4) (ret := (some .int)) (by decide) rfl ?_
  intro p e s m args below meth c s₁ B hml hv
  obtain ⟨rfl, hsz, hP, hK, hD0⟩ := hv
  have hx := B.exec
  have hb := B.bytes
  have hr := B.returns
  have hts := atoms_spec (ws := wsX2_append) B.pre
  have hown : s.vm.findClass RX2 = some m.cls := findClass_of_methodNamed B.named
  have hlocks := B.notSynchronized
  have hinX2 : ∀ w ∈ wsX20, w ∈ wsX2_append := by decide +kernel
  have hf12 := hts (.fieldLink RX2 12 "Keysapart" "log" "LKeysapart$Log;") (by decide +kernel)
  have hf19 := hts (.fieldLink RX2 19 "Keysapart" "index" "LKeysapart$Index;") (by decide +kernel)
  have hf33 := hts (.fieldLink RX2 33 "Keysapart" "headAt" "I") (by decide +kernel)
  subst hsz
  have hD := hD0.self (sz := s.heap.size)
  generalize hAe : va_A (kW cI h κ) s.heap.size = A at hD ⊢
  have hA : ∀ q : Nat, s.heap.size ≤ q → A q := fun q h => by rw [← hAe]; exact Or.inr h
  have hl := lv_entry ([.ref (h 0), .int p1, .int p2]) (n := 4) (Nat.le_of_ble_eq_true rfl)
  rw [lg_entry_eq]
  generalize (lg_sl ([.ref (h 0), .int p1, .int p2]) ++ List.replicate (4 - (lg_sl ([.ref (h 0), .int p1, .int p2])).length) Slot.unset).toArray = ls at hl ⊢
  have hl : lv_has ls 4 [(0, .ref (h 0)), (1, .int p1), (2, .int p2)] := hl
  generalize hHe : s.heap = H at hP ⊢
  generalize hLe : ([] : List Loc) = locs
  have hS : va_S A s.heap H locs := by
    rw [← hLe, ← hHe]
    exact va_S.rf
  unfold s_X2_append at hs
  have hV := v_X2_append_e κ p1 p2
  refine lv_aload_n hx hb dX2_append_0 rfl (lv_at hl 0 rfl) ?_
  refine va_get (D := (dC, dI)) (ci := 2) (v := .int (kHd κ)) (C := RX2) (T := TX2) (N := 10) hx hb hts hinX2 hown hK hP 0 rfl rfl 5 (by decide) hf33 (fun _ h9 => h9) rfl dX2_append_1 ?_
  refine lv_istore_n (lv' := [(3, .int (kHd κ)), (0, .ref (h 0)), (1, .int p1), (2, .int p2)]) hx hb dX2_append_4 rfl hl (by decide) rfl (fun ls hl => ?_)
  refine lv_aload_n hx hb dX2_append_5 rfl (lv_at hl 1 rfl) ?_
  refine va_get (D := (dC, dI)) (ci := 2) (v := .ref (h 1)) (C := RX2) (T := TX2) (N := 10) hx hb hts hinX2 hown hK hP 0 rfl rfl 0 (by decide) hf12 (fun _ h9 => h9) rfl dX2_append_6 ?_
  refine lv_iload_n hx hb dX2_append_9 rfl (lv_at hl 0 rfl) ?_
  refine lv_iload_n hx hb dX2_append_10 rfl (lv_at hl 2 rfl) ?_
  refine lv_iload_n hx hb dX2_append_11 rfl (lv_at hl 3 rfl) ?_
  have o_12 : s_X1_store (kLk κ, kLv κ) (kHd κ) p1 p2 := hs.1
  have hs := hs.2
  have hPc := hP.sub (ws' := gW cI (h 1) (h 5) (h 6) (kLk κ, kLv κ)) [1, 5, 6] rfl
  have hDc := hD.sub (ws' := gW cI (h 1) (h 5) (h 6) (kLk κ, kLv κ)) [1, 5, 6] (by decide) rfl
  refine rcV (W2 := fun u => kW cI h (kSG κ u)) (va_runV (As := [.int (kHd κ), .int p1, .int p2]) (rest := []) ⟨hx, hb, hml, hown, hts⟩ (c_X1_store l dC dI cI (h 1) (h 5) (h 6) H.size (kLk κ, kLv κ) (kHd κ) p1 p2 o_12) (cwV 3 hts gX2_append_X1_store rfl rfl rfl (by decide +kernel) ⟨Nat.le_of_ble_eq_true rfl, Nat.le_of_ble_eq_true rfl⟩) (pW_V hPc hK hDc (ci := 1) (q0 := 0) rfl rfl) rfl rfl hl.1 rfl (lv_room (Nat.le_of_ble_eq_true rfl)) dX2_append_12 ⟨Nat.le_of_ble_eq_true rfl, Nat.le_of_ble_eq_true rfl⟩) hP hD hS hA [1, 5, 6] [0, 2, 3, 4, 7, 8, 9] [0, 7, 1, 2, 3, 8, 9, 4, 5, 6] rfl rfl (by decide) (fun _ => rfl) (fun u_12 H locs hw hP hD hS => ?_)
  try rw [← hw] at hV
  try rw [← hw] at hs
  refine lv_aload_n hx hb dX2_append_15 rfl (lv_at hl 1 rfl) ?_
  refine lv_aload_n hx hb dX2_append_16 rfl (lv_at hl 1 rfl) ?_
  refine va_get (D := (dC, dI)) (ci := 2) (v := .ref (h 2)) (C := RX2) (T := TX2) (N := 10) hx hb hts hinX2 hown hK hP 0 rfl rfl 1 (by decide) hf19 (fun _ h9 => h9) rfl dX2_append_17 ?_
  refine lv_iload_n hx hb dX2_append_20 rfl (lv_at hl 0 rfl) ?_
  have o_21 : s_X2_follow_i (kSG κ u_12) (kHd κ) := hs.1
  have hs := hs.2
  have hPc := hP.sub (ws' := kW cI h (kSG κ u_12)) [0, 1, 2, 3, 4, 5, 6, 7, 8, 9] rfl
  have hDc := hD.sub (ws' := kW cI h (kSG κ u_12)) [0, 1, 2, 3, 4, 5, 6, 7, 8, 9] (by decide) rfl
  refine rcV (W2 := fun u => kW cI h u) (va_runV (As := [.ref (h 2), .int (kHd κ)]) (rest := []) ⟨hx, hb, hml, hown, hts⟩ (c_X2_follow_i l dC dI cI h H.size (kSG κ u_12) (kHd κ) o_21) (cwV 2 hts gX2_append_X2_follow rfl rfl rfl (by decide +kernel) ⟨Nat.le_of_ble_eq_true rfl, Nat.le_of_ble_eq_true rfl⟩) (pW_V hPc hK hDc (ci := 2) (q0 := 0) rfl rfl) rfl rfl hl.1 rfl (lv_room (Nat.le_of_ble_eq_true rfl)) dX2_append_21 ⟨Nat.le_of_ble_eq_true rfl, Nat.le_of_ble_eq_true rfl⟩) hP hD hS hA [0, 1, 2, 3, 4, 5, 6, 7, 8, 9] [] [0, 1, 2, 3, 4, 5, 6, 7, 8, 9] rfl rfl (by decide) (fun _ => rfl) (fun u_21 H locs hw hP hD hS => ?_)
  try rw [← hw] at hV
  refine lv_aload_n hx hb dX2_append_24 rfl (lv_at hl 1 rfl) ?_
  refine lv_iload_n hx hb dX2_append_25 rfl (lv_at hl 0 rfl) ?_
  refine lv_iconst (v := 1) hx hb dX2_append_26 (by decide) ?_
  refine lv_iadd hx hb dX2_append_27 ?_
  refine va_put (D := (dC, dI)) (ci := 2) (v := .int ((kHd κ) + 1)) (ty := .int) (C := RX2) (T := TX2) (N := 10) hx hb hts hinX2 tyX2 tyX2_ok nmX2 hown hK hP hD hS 0 rfl rfl 5 (by decide) hf33 (fun _ h9 => h9) rfl (by decide +kernel) rfl rfl (Nat.le_of_ble_eq_true rfl) dX2_append_28 (fun H locs hP hD hS => ?_)
  have hP : va_P (dC, dI) vwCl (kW cI h (kSHd u_21 ((kHd κ) + 1))) H := hP
  have hD : va_D A (kW cI h (kSHd u_21 ((kHd κ) + 1))) := hD
  refine lv_iload_n hx hb dX2_append_31 rfl (lv_at hl 0 rfl) ?_
  exact rI (w := fun u => kW cI h u) (kSHd u_21 ((kHd κ) + 1)) hx hb hr hlocks hP hD hS (Nat.le_of_ble_eq_true rfl) (Nat.le_of_ble_eq_true rfl) dX2_append_32 ⟨by rw [hV] <;> rfl, by rw [hV] <;> rfl⟩
def l_X2_appendLiveAgain_12 (y2 : Int32) (y1 : Int32) : Nat → KS → Int32 → KS × Int32
  | 0, κ12, x3_12 => (κ12, x3_12)
  | n + 1, κ12, x3_12 => if y2 ≤ x3_12 then (κ12, x3_12) else l_X2_appendLiveAgain_12 y2 y1 n (if (v_X2_isLive κ12 x3_12) = 0 then κ12 else ((v_X2_append κ12 (v_X1_keyAt (kLk κ12, kLv κ12) x3_12) (v_X1_valueAt (kLk κ12, kLv κ12) x3_12)).2)) (x3_12 + 1)
theorem l_X2_appendLiveAgain_12_s (y2 : Int32) (y1 : Int32) (n : Nat) (κ12 : KS) (x3_12 : Int32) : l_X2_appendLiveAgain_12 y2 y1 (n + 1) κ12 x3_12 = if y2 ≤ x3_12 then (κ12, x3_12) else l_X2_appendLiveAgain_12 y2 y1 n (if (v_X2_isLive κ12 x3_12) = 0 then κ12 else ((v_X2_append κ12 (v_X1_keyAt (kLk κ12, kLv κ12) x3_12) (v_X1_valueAt (kLk κ12, kLv κ12) x3_12)).2)) (x3_12 + 1) := rfl
def sl_X2_appendLiveAgain_12 (y2 : Int32) (y1 : Int32) : Nat → KS → Int32 → Prop
  | 0, κ12, x3_12 => False
  | n + 1, κ12, x3_12 => ((y2 ≤ x3_12 → True) ∧ (¬ y2 ≤ x3_12 → (s_X2_isLive κ12 x3_12 ∧ ((((v_X2_isLive κ12 x3_12) = 0 → True) ∧ (¬ (v_X2_isLive κ12 x3_12) = 0 → (s_X1_keyAt (kLk κ12, kLv κ12) x3_12 ∧ (s_X1_valueAt (kLk κ12, kLv κ12) x3_12 ∧ (s_X2_append κ12 (v_X1_keyAt (kLk κ12, kLv κ12) x3_12) (v_X1_valueAt (kLk κ12, kLv κ12) x3_12) ∧ True))))) ∧ sl_X2_appendLiveAgain_12 y2 y1 n (if (v_X2_isLive κ12 x3_12) = 0 then κ12 else ((v_X2_append κ12 (v_X1_keyAt (kLk κ12, kLv κ12) x3_12) (v_X1_valueAt (kLk κ12, kLv κ12) x3_12)).2)) (x3_12 + 1)))))
theorem sl_X2_appendLiveAgain_12_s (y2 : Int32) (y1 : Int32) (n : Nat) (κ12 : KS) (x3_12 : Int32) : sl_X2_appendLiveAgain_12 y2 y1 (n + 1) κ12 x3_12 = ((y2 ≤ x3_12 → True) ∧ (¬ y2 ≤ x3_12 → (s_X2_isLive κ12 x3_12 ∧ ((((v_X2_isLive κ12 x3_12) = 0 → True) ∧ (¬ (v_X2_isLive κ12 x3_12) = 0 → (s_X1_keyAt (kLk κ12, kLv κ12) x3_12 ∧ (s_X1_valueAt (kLk κ12, kLv κ12) x3_12 ∧ (s_X2_append κ12 (v_X1_keyAt (kLk κ12, kLv κ12) x3_12) (v_X1_valueAt (kLk κ12, kLv κ12) x3_12) ∧ True))))) ∧ sl_X2_appendLiveAgain_12 y2 y1 n (if (v_X2_isLive κ12 x3_12) = 0 then κ12 else ((v_X2_append κ12 (v_X1_keyAt (kLk κ12, kLv κ12) x3_12) (v_X1_valueAt (kLk κ12, kLv κ12) x3_12)).2)) (x3_12 + 1))))) := rfl
def v_X2_appendLiveAgain (κ : KS) (p1 : Int32) : KS := (l_X2_appendLiveAgain_12 ((kTl κ) + p1) p1 100 κ (kTl κ)).1
theorem v_X2_appendLiveAgain_e (κ : KS) (p1 : Int32) : v_X2_appendLiveAgain κ p1 = (l_X2_appendLiveAgain_12 ((kTl κ) + p1) p1 100 κ (kTl κ)).1 := rfl
def s_X2_appendLiveAgain (κ : KS) (p1 : Int32) : Prop := (sl_X2_appendLiveAgain_12 ((kTl κ) + p1) p1 100 κ (kTl κ) ∧ True)
set_option maxHeartbeats 1000000 in
set_option maxRecDepth 100000 in
theorem c_X2_appendLiveAgain (l : Launch) (dC : Nat → ClassId) (dI : Nat → Nat → Nat) (cI : ClassId) (h : Nat → Nat) (sz : Nat) (κ : KS) (p1 : Int32) (hs : s_X2_appendLiveAgain κ p1) : Met l yX2_appendLiveAgain wsX2_appendLiveAgain ({ frames := 4, cells := 0, slots := 0, locals := 90 }) (va_Pc [.ref (h 0), .int p1] (pW (dC, dI) [(cI, .int)] (kW cI h κ) sz)) (va_Qv (fun (u : KS) => u = v_X2_appendLiveAgain κ p1) (qW (dC, dI) (va_A (kW cI h κ) sz) (fun u => kW cI h u)) (va_A (kW cI h κ) sz)) 0 0 (va_A (kW cI h κ) sz) := by
  refine Met.ofW (cc := cX2_appendLiveAgain) (maxL := 4) (ret := none) (by decide) rfl ?_
  intro p e s m args below meth c s₁ B hml hv
  obtain ⟨rfl, hsz, hP, hK, hD0⟩ := hv
  have hx := B.exec
  have hb := B.bytes
  have hr := B.returns
  have hts := atoms_spec (ws := wsX2_appendLiveAgain) B.pre
  have hown : s.vm.findClass RX2 = some m.cls := findClass_of_methodNamed B.named
  have hlocks := B.notSynchronized
  have hinX2 : ∀ w ∈ wsX20, w ∈ wsX2_appendLiveAgain := by decide +kernel
  have hf12 := hts (.fieldLink RX2 12 "Keysapart" "log" "LKeysapart$Log;") (by decide +kernel)
  have hf37 := hts (.fieldLink RX2 37 "Keysapart" "tailAt" "I") (by decide +kernel)
  subst hsz
  have hD := hD0.self (sz := s.heap.size)
  generalize hAe : va_A (kW cI h κ) s.heap.size = A at hD ⊢
  have hA : ∀ q : Nat, s.heap.size ≤ q → A q := fun q h => by rw [← hAe]; exact Or.inr h
  have hl := lv_entry ([.ref (h 0), .int p1]) (n := 4) (Nat.le_of_ble_eq_true rfl)
  rw [lg_entry_eq]
  generalize (lg_sl ([.ref (h 0), .int p1]) ++ List.replicate (4 - (lg_sl ([.ref (h 0), .int p1])).length) Slot.unset).toArray = ls at hl ⊢
  have hl : lv_has ls 4 [(0, .ref (h 0)), (1, .int p1)] := hl
  generalize hHe : s.heap = H at hP ⊢
  generalize hLe : ([] : List Loc) = locs
  have hS : va_S A s.heap H locs := by
    rw [← hLe, ← hHe]
    exact va_S.rf
  unfold s_X2_appendLiveAgain at hs
  have hV := v_X2_appendLiveAgain_e κ p1
  refine lv_aload_n hx hb dX2_appendLiveAgain_0 rfl (lv_at hl 0 rfl) ?_
  refine va_get (D := (dC, dI)) (ci := 2) (v := .int (kTl κ)) (C := RX2) (T := TX2) (N := 10) hx hb hts hinX2 hown hK hP 0 rfl rfl 6 (by decide) hf37 (fun _ h9 => h9) rfl dX2_appendLiveAgain_1 ?_
  refine lv_iload_n hx hb dX2_appendLiveAgain_4 rfl (lv_at hl 1 rfl) ?_
  refine lv_iadd hx hb dX2_appendLiveAgain_5 ?_
  refine lv_istore_n (lv' := [(2, .int ((kTl κ) + p1)), (0, .ref (h 0)), (1, .int p1)]) hx hb dX2_appendLiveAgain_6 rfl hl (by decide) rfl (fun ls hl => ?_)
  refine lv_aload_n hx hb dX2_appendLiveAgain_7 rfl (lv_at hl 1 rfl) ?_
  refine va_get (D := (dC, dI)) (ci := 2) (v := .int (kTl κ)) (C := RX2) (T := TX2) (N := 10) hx hb hts hinX2 hown hK hP 0 rfl rfl 6 (by decide) hf37 (fun _ h9 => h9) rfl dX2_appendLiveAgain_8 ?_
  refine lv_istore_n (lv' := [(3, .int (kTl κ)), (2, .int ((kTl κ) + p1)), (0, .ref (h 0)), (1, .int p1)]) hx hb dX2_appendLiveAgain_11 rfl hl (by decide) rfl (fun ls hl => ?_)
  have o_l12 : sl_X2_appendLiveAgain_12 ((kTl κ) + p1) p1 100 κ (kTl κ) := hs.1
  have hs := hs.2
  have loop_12 : ∀ (n : Nat) (κ12 : KS) (x3_12 : Int32) (H : Heap) (locs : List Loc) (ls : Array Slot) (hs : sl_X2_appendLiveAgain_12 ((kTl κ) + p1) p1 n κ12 x3_12) (K : ∀ (z : KS × Int32) (hw : z = l_X2_appendLiveAgain_12 ((kTl κ) + p1) p1 n κ12 x3_12) (H : Heap) (locs : List Loc) (ls : Array Slot), va_P (dC, dI) vwCl (kW cI h z.1) H → va_D A (kW cI h z.1) → va_S A s.heap H locs → lv_has ls 4 [(3, .int z.2), (0, .ref (h 0)), (2, .int ((kTl κ) + p1)), (1, .int p1)] → W p l e (headSpec wsX2_appendLiveAgain ({ frames := 4, cells := 0, slots := 0, locals := 90 })).room s m [.ref (h 0), .int p1].toArray below meth c H locs 0 0 (MQ below (va_Qv (fun (u : KS) => u = v_X2_appendLiveAgain κ p1) (qW (dC, dI) A (fun u => kW cI h u)) A) [.ref (h 0), .int p1].toArray s 0 0 A) (F0 m 52 ls [])) (hP : va_P (dC, dI) vwCl (kW cI h κ12) H) (hD : va_D A (kW cI h κ12)) (hS : va_S A s.heap H locs) (hl : lv_has ls 4 [(3, .int x3_12), (0, .ref (h 0)), (2, .int ((kTl κ) + p1)), (1, .int p1)]), W p l e (headSpec wsX2_appendLiveAgain ({ frames := 4, cells := 0, slots := 0, locals := 90 })).room s m [.ref (h 0), .int p1].toArray below meth c H locs 0 0 (MQ below (va_Qv (fun (u : KS) => u = v_X2_appendLiveAgain κ p1) (qW (dC, dI) A (fun u => kW cI h u)) A) [.ref (h 0), .int p1].toArray s 0 0 A) (F0 m 12 ls []) := by
    intro n
    induction n with
    | zero => intro κ12 x3_12 H locs ls hs; exact False.elim hs
    | succ n ih =>
      intro κ12 x3_12 H locs ls hs K hP hD hS hl
      rw [sl_X2_appendLiveAgain_12_s] at hs
      rw [l_X2_appendLiveAgain_12_s] at K
      refine lv_iload_n hx hb dX2_appendLiveAgain_12 rfl (lv_at hl 0 rfl) ?_
      refine lv_iload_n hx hb dX2_appendLiveAgain_13 rfl (lv_at hl 2 rfl) ?_
      refine lv_icmp_ge (tgt := 52) hx hb dX2_appendLiveAgain_14 (by decide) (fun c_14 => ?_) (fun c_14 => ?_)
      · skip
        have hs := hs.1 c_14
        rw [if_pos c_14] at K
        exact K _ rfl H locs ls hP hD hS (lv_sub hl [0, 1, 2, 3] rfl)
      · skip
        have hs := hs.2 c_14
        rw [if_neg c_14] at K
        refine lv_aload_n hx hb dX2_appendLiveAgain_17 rfl (lv_at hl 1 rfl) ?_
        refine lv_iload_n hx hb dX2_appendLiveAgain_18 rfl (lv_at hl 0 rfl) ?_
        have o_19 : s_X2_isLive κ12 x3_12 := hs.1
        have hs := hs.2
        have hPc := hP.sub (ws' := kW cI h κ12) [0, 1, 2, 3, 4, 5, 6, 7, 8, 9] rfl
        have hDc := hD.sub (ws' := kW cI h κ12) [0, 1, 2, 3, 4, 5, 6, 7, 8, 9] (by decide) rfl
        refine rcI (W2 := fun _ => kW cI h κ12) (va_runV (As := [.int x3_12]) (rest := []) ⟨hx, hb, hml, hown, hts⟩ (c_X2_isLive l dC dI cI h H.size κ12 x3_12 o_19) (cwV 1 hts gX2_appendLiveAgain_X2_isLive rfl rfl rfl (by decide +kernel) ⟨Nat.le_of_ble_eq_true rfl, Nat.le_of_ble_eq_true rfl⟩) (pW_V hPc hK hDc (ci := 2) (q0 := 0) rfl rfl) rfl rfl hl.1 rfl (lv_room (Nat.le_of_ble_eq_true rfl)) dX2_appendLiveAgain_19 ⟨Nat.le_of_ble_eq_true rfl, Nat.le_of_ble_eq_true rfl⟩) hP hD hS hA [0, 1, 2, 3, 4, 5, 6, 7, 8, 9] [] [0, 1, 2, 3, 4, 5, 6, 7, 8, 9] rfl rfl (by decide) (fun _ => rfl) (fun r_19 u_19 H locs hw hP hD hS => ?_)
        obtain ⟨hw, hz_19⟩ := hw
        try rw [← hw] at K
        try rw [← hw] at hs
        suffices J_22 : ∀ (H : Heap) (locs : List Loc) (ls : Array Slot), va_P (dC, dI) vwCl (kW cI h (if r_19 = 0 then κ12 else ((v_X2_append κ12 (v_X1_keyAt (kLk κ12, kLv κ12) x3_12) (v_X1_valueAt (kLk κ12, kLv κ12) x3_12)).2))) H → va_D A (kW cI h (if r_19 = 0 then κ12 else ((v_X2_append κ12 (v_X1_keyAt (kLk κ12, kLv κ12) x3_12) (v_X1_valueAt (kLk κ12, kLv κ12) x3_12)).2))) → va_S A s.heap H locs → lv_has ls 4 [(3, .int x3_12), (0, .ref (h 0)), (2, .int ((kTl κ) + p1)), (1, .int p1)] → W p l e (headSpec wsX2_appendLiveAgain ({ frames := 4, cells := 0, slots := 0, locals := 90 })).room s m [.ref (h 0), .int p1].toArray below meth c H locs 0 0 (MQ below (va_Qv (fun (u : KS) => u = v_X2_appendLiveAgain κ p1) (qW (dC, dI) A (fun u => kW cI h u)) A) [.ref (h 0), .int p1].toArray s 0 0 A) (F0 m 46 ls []) by
          have hs := hs.1
          refine lv_if_eq (tgt := 46) hx hb dX2_appendLiveAgain_22 (by decide) (fun c_22 => ?_) (fun c_22 => ?_)
          · skip
            have hs := hs.1 c_22
            rw [if_pos c_22] at J_22
            exact J_22 H locs ls hP hD hS (lv_sub hl [0, 1, 2, 3] rfl)
          · skip
            have hs := hs.2 c_22
            rw [if_neg c_22] at J_22
            refine lv_aload_n hx hb dX2_appendLiveAgain_25 rfl (lv_at hl 1 rfl) ?_
            refine lv_aload_n hx hb dX2_appendLiveAgain_26 rfl (lv_at hl 1 rfl) ?_
            refine va_get (D := (dC, dI)) (ci := 2) (v := .ref (h 1)) (C := RX2) (T := TX2) (N := 10) hx hb hts hinX2 hown hK hP 0 rfl rfl 0 (by decide) hf12 (fun _ h9 => h9) rfl dX2_appendLiveAgain_27 ?_
            refine lv_iload_n hx hb dX2_appendLiveAgain_30 rfl (lv_at hl 0 rfl) ?_
            have o_31 : s_X1_keyAt (kLk κ12, kLv κ12) x3_12 := hs.1
            have hs := hs.2
            have hPc := hP.sub (ws' := gW cI (h 1) (h 5) (h 6) (kLk κ12, kLv κ12)) [1, 5, 6] rfl
            have hDc := hD.sub (ws' := gW cI (h 1) (h 5) (h 6) (kLk κ12, kLv κ12)) [1, 5, 6] (by decide) rfl
            refine rcI (W2 := fun _ => kW cI h κ12) (va_runV (As := [.int x3_12]) (rest := [.ref (h 0)]) ⟨hx, hb, hml, hown, hts⟩ (c_X1_keyAt l dC dI cI (h 1) (h 5) (h 6) H.size (kLk κ12, kLv κ12) x3_12 o_31) (cwV 1 hts gX2_appendLiveAgain_X1_keyAt rfl rfl rfl (by decide +kernel) ⟨Nat.le_of_ble_eq_true rfl, Nat.le_of_ble_eq_true rfl⟩) (pW_V hPc hK hDc (ci := 1) (q0 := 0) rfl rfl) rfl rfl hl.1 rfl (lv_room (Nat.le_of_ble_eq_true rfl)) dX2_appendLiveAgain_31 ⟨Nat.le_of_ble_eq_true rfl, Nat.le_of_ble_eq_true rfl⟩) hP hD hS hA [1, 5, 6] [0, 2, 3, 4, 7, 8, 9] [0, 7, 1, 2, 3, 8, 9, 4, 5, 6] rfl rfl (by decide) (fun _ => rfl) (fun r_31 u_31 H locs hw hP hD hS => ?_)
            try rw [← hw] at J_22
            try rw [← hw] at hs
            refine lv_aload_n hx hb dX2_appendLiveAgain_34 rfl (lv_at hl 1 rfl) ?_
            refine va_get (D := (dC, dI)) (ci := 2) (v := .ref (h 1)) (C := RX2) (T := TX2) (N := 10) hx hb hts hinX2 hown hK hP 0 rfl rfl 0 (by decide) hf12 (fun _ h9 => h9) rfl dX2_appendLiveAgain_35 ?_
            refine lv_iload_n hx hb dX2_appendLiveAgain_38 rfl (lv_at hl 0 rfl) ?_
            have o_39 : s_X1_valueAt (kLk κ12, kLv κ12) x3_12 := hs.1
            have hs := hs.2
            have hPc := hP.sub (ws' := gW cI (h 1) (h 5) (h 6) (kLk κ12, kLv κ12)) [1, 5, 6] rfl
            have hDc := hD.sub (ws' := gW cI (h 1) (h 5) (h 6) (kLk κ12, kLv κ12)) [1, 5, 6] (by decide) rfl
            refine rcI (W2 := fun _ => kW cI h κ12) (va_runV (As := [.int x3_12]) (rest := [.int r_31, .ref (h 0)]) ⟨hx, hb, hml, hown, hts⟩ (c_X1_valueAt l dC dI cI (h 1) (h 5) (h 6) H.size (kLk κ12, kLv κ12) x3_12 o_39) (cwV 1 hts gX2_appendLiveAgain_X1_valueAt rfl rfl rfl (by decide +kernel) ⟨Nat.le_of_ble_eq_true rfl, Nat.le_of_ble_eq_true rfl⟩) (pW_V hPc hK hDc (ci := 1) (q0 := 0) rfl rfl) rfl rfl hl.1 rfl (lv_room (Nat.le_of_ble_eq_true rfl)) dX2_appendLiveAgain_39 ⟨Nat.le_of_ble_eq_true rfl, Nat.le_of_ble_eq_true rfl⟩) hP hD hS hA [1, 5, 6] [0, 2, 3, 4, 7, 8, 9] [0, 7, 1, 2, 3, 8, 9, 4, 5, 6] rfl rfl (by decide) (fun _ => rfl) (fun r_39 u_39 H locs hw hP hD hS => ?_)
            try rw [← hw] at J_22
            try rw [← hw] at hs
            have o_42 : s_X2_append κ12 r_31 r_39 := hs.1
            have hs := hs.2
            have hPc := hP.sub (ws' := kW cI h κ12) [0, 1, 2, 3, 4, 5, 6, 7, 8, 9] rfl
            have hDc := hD.sub (ws' := kW cI h κ12) [0, 1, 2, 3, 4, 5, 6, 7, 8, 9] (by decide) rfl
            refine rcI (W2 := fun u => kW cI h u) (va_runV (As := [.int r_31, .int r_39]) (rest := []) ⟨hx, hb, hml, hown, hts⟩ (c_X2_append l dC dI cI h H.size κ12 r_31 r_39 o_42) (cwV 2 hts gX2_appendLiveAgain_X2_append rfl rfl rfl (by decide +kernel) ⟨Nat.le_of_ble_eq_true rfl, Nat.le_of_ble_eq_true rfl⟩) (pW_V hPc hK hDc (ci := 2) (q0 := 0) rfl rfl) rfl rfl hl.1 rfl (lv_room (Nat.le_of_ble_eq_true rfl)) dX2_appendLiveAgain_42 ⟨Nat.le_of_ble_eq_true rfl, Nat.le_of_ble_eq_true rfl⟩) hP hD hS hA [0, 1, 2, 3, 4, 5, 6, 7, 8, 9] [] [0, 1, 2, 3, 4, 5, 6, 7, 8, 9] rfl rfl (by decide) (fun _ => rfl) (fun r_42 u_42 H locs hw hP hD hS => ?_)
            obtain ⟨hw, hw2⟩ := hw
            try rw [← hw] at J_22
            try rw [← hw2] at J_22
            refine lv_pop hx hb dX2_appendLiveAgain_45 rfl ?_
            exact J_22 H locs ls hP hD hS (lv_sub hl [0, 1, 2, 3] rfl)
        have hs := hs.2
        intro H locs ls hP hD hS hl
        refine lv_iinc (v := x3_12 + 1) (lv' := [(3, .int (x3_12 + 1)), (0, .ref (h 0)), (2, .int ((kTl κ) + p1)), (1, .int p1)]) hx hb dX2_appendLiveAgain_46 hl (k := 0) rfl rfl (by decide) rfl (fun ls hl => ?_)
        refine lv_goto (tgt := 12) hx hb dX2_appendLiveAgain_49 (by decide) ?_
        exact ih (if r_19 = 0 then κ12 else ((v_X2_append κ12 (v_X1_keyAt (kLk κ12, kLv κ12) x3_12) (v_X1_valueAt (kLk κ12, kLv κ12) x3_12)).2)) (x3_12 + 1) H locs ls hs K hP hD hS (lv_sub hl [0, 1, 2, 3] rfl)
  refine loop_12 100 κ (kTl κ) H locs ls o_l12 (fun z_12 hw H locs ls hP hD hS hl => ?_) hP hD hS (lv_sub hl [0, 2, 1, 3] rfl)
  try rw [← hw] at hV
  exact rV (w := fun u => kW cI h u) (z_12.1) hx hb hr hlocks hP hD hS (Nat.le_of_ble_eq_true rfl) (Nat.le_of_ble_eq_true rfl) dX2_appendLiveAgain_52 (by rw [hV] <;> rfl)
def l_X2_recover_i_28 : Nat → KS → Int32 → KS × Int32
  | 0, κ28, x2_28 => (κ28, x2_28)
  | n + 1, κ28, x2_28 => if (kWr κ28) ≤ x2_28 then (κ28, x2_28) else l_X2_recover_i_28 n (v_X2_follow_i κ28 x2_28) (x2_28 + 1)
theorem l_X2_recover_i_28_s (n : Nat) (κ28 : KS) (x2_28 : Int32) : l_X2_recover_i_28 (n + 1) κ28 x2_28 = if (kWr κ28) ≤ x2_28 then (κ28, x2_28) else l_X2_recover_i_28 n (v_X2_follow_i κ28 x2_28) (x2_28 + 1) := rfl
def sl_X2_recover_i_28 : Nat → KS → Int32 → Prop
  | 0, κ28, x2_28 => False
  | n + 1, κ28, x2_28 => (((kWr κ28) ≤ x2_28 → True) ∧ (¬ (kWr κ28) ≤ x2_28 → (s_X2_follow_i κ28 x2_28 ∧ sl_X2_recover_i_28 n (v_X2_follow_i κ28 x2_28) (x2_28 + 1))))
theorem sl_X2_recover_i_28_s (n : Nat) (κ28 : KS) (x2_28 : Int32) : sl_X2_recover_i_28 (n + 1) κ28 x2_28 = (((kWr κ28) ≤ x2_28 → True) ∧ (¬ (kWr κ28) ≤ x2_28 → (s_X2_follow_i κ28 x2_28 ∧ sl_X2_recover_i_28 n (v_X2_follow_i κ28 x2_28) (x2_28 + 1)))) := rfl
def v_X2_recover_i (κ : KS) : KS := (l_X2_recover_i_28 100 (kSIx (kSIx κ (v_X0_takeFrom (kCi κ) (kIx κ))) (v_X0_dropBelow (v_X0_takeFrom (kCi κ) (kIx κ)) (kTl κ))) (if (kCt κ) < (kTl κ) then (kTl κ) else (kCt κ) : Int32)).1
theorem v_X2_recover_i_e (κ : KS) : v_X2_recover_i κ = (l_X2_recover_i_28 100 (kSIx (kSIx κ (v_X0_takeFrom (kCi κ) (kIx κ))) (v_X0_dropBelow (v_X0_takeFrom (kCi κ) (kIx κ)) (kTl κ))) (if (kCt κ) < (kTl κ) then (kTl κ) else (kCt κ) : Int32)).1 := rfl
def s_X2_recover_i (κ : KS) : Prop := (s_X0_takeFrom (kCi κ) (kIx κ) ∧ (s_X0_dropBelow (v_X0_takeFrom (kCi κ) (kIx κ)) (kTl κ) ∧ (sl_X2_recover_i_28 100 (kSIx (kSIx κ (v_X0_takeFrom (kCi κ) (kIx κ))) (v_X0_dropBelow (v_X0_takeFrom (kCi κ) (kIx κ)) (kTl κ))) (if (kCt κ) < (kTl κ) then (kTl κ) else (kCt κ) : Int32) ∧ True)))
set_option maxHeartbeats 1000000 in
set_option maxRecDepth 100000 in
theorem c_X2_recover_i (l : Launch) (dC : Nat → ClassId) (dI : Nat → Nat → Nat) (cI : ClassId) (h : Nat → Nat) (sz : Nat) (κ : KS) (hs : s_X2_recover_i κ) : Met l yX2_recover wsX2_recover ({ frames := 3, cells := 0, slots := 0, locals := 67 }) (va_Pc [.ref (h 0), .ref (h 2)] (pW (dC, dI) [(cI, .int)] (kW cI h κ) sz)) (va_Qv (fun (u : KS) => u = v_X2_recover_i κ) (qW (dC, dI) (va_A (kW cI h κ) sz) (fun u => kW cI h u)) (va_A (kW cI h κ) sz)) 0 0 (va_A (kW cI h κ) sz) := by
  refine Met.ofW (cc := cX2_recover) (maxL := 3) (ret := none) (by decide) rfl ?_
  intro p e s m args below meth c s₁ B hml hv
  obtain ⟨rfl, hsz, hP, hK, hD0⟩ := hv
  have hx := B.exec
  have hb := B.bytes
  have hr := B.returns
  have hts := atoms_spec (ws := wsX2_recover) B.pre
  have hown : s.vm.findClass RX2 = some m.cls := findClass_of_methodNamed B.named
  have hlocks := B.notSynchronized
  have hinX2 : ∀ w ∈ wsX20, w ∈ wsX2_recover := by decide +kernel
  have hf23 := hts (.fieldLink RX2 23 "Keysapart" "checkpointIndex" "LKeysapart$Index;") (by decide +kernel)
  have hf37 := hts (.fieldLink RX2 37 "Keysapart" "tailAt" "I") (by decide +kernel)
  have hf40 := hts (.fieldLink RX2 40 "Keysapart" "writtenTo" "I") (by decide +kernel)
  have hf43 := hts (.fieldLink RX2 43 "Keysapart" "checkpointTo" "I") (by decide +kernel)
  subst hsz
  have hD := hD0.self (sz := s.heap.size)
  generalize hAe : va_A (kW cI h κ) s.heap.size = A at hD ⊢
  have hA : ∀ q : Nat, s.heap.size ≤ q → A q := fun q h => by rw [← hAe]; exact Or.inr h
  have hl := lv_entry ([.ref (h 0), .ref (h 2)]) (n := 3) (Nat.le_of_ble_eq_true rfl)
  rw [lg_entry_eq]
  generalize (lg_sl ([.ref (h 0), .ref (h 2)]) ++ List.replicate (3 - (lg_sl ([.ref (h 0), .ref (h 2)])).length) Slot.unset).toArray = ls at hl ⊢
  have hl : lv_has ls 3 [(0, .ref (h 0)), (1, .ref (h 2))] := hl
  generalize hHe : s.heap = H at hP ⊢
  generalize hLe : ([] : List Loc) = locs
  have hS : va_S A s.heap H locs := by
    rw [← hLe, ← hHe]
    exact va_S.rf
  unfold s_X2_recover_i at hs
  have hV := v_X2_recover_i_e κ
  refine lv_aload_n hx hb dX2_recover_0 rfl (lv_at hl 1 rfl) ?_
  refine lv_aload_n hx hb dX2_recover_1 rfl (lv_at hl 0 rfl) ?_
  refine va_get (D := (dC, dI)) (ci := 2) (v := .ref (h 3)) (C := RX2) (T := TX2) (N := 10) hx hb hts hinX2 hown hK hP 0 rfl rfl 2 (by decide) hf23 (fun _ h9 => h9) rfl dX2_recover_2 ?_
  have o_5 : s_X0_takeFrom (kCi κ) (kIx κ) := hs.1
  have hs := hs.2
  have hPc := hP.sub (ws' := jW cI (h 2) (h 7) (h 3) (h 8) (kCi κ) (kIx κ)) [2, 7, 3, 8] rfl
  have hDc := hD.sub (ws' := jW cI (h 2) (h 7) (h 3) (h 8) (kCi κ) (kIx κ)) [2, 7, 3, 8] (by decide) rfl
  refine rcV (W2 := fun u => kW cI h (kSIx κ u)) (va_runV (As := [.ref (h 3)]) (rest := []) ⟨hx, hb, hml, hown, hts⟩ (c_X0_takeFrom l dC dI cI (h 2) (h 7) (h 3) (h 8) (kCi κ) H.size (kIx κ) o_5) (cwV 1 hts gX2_recover_X0_takeFrom rfl rfl rfl (by decide +kernel) ⟨Nat.le_of_ble_eq_true rfl, Nat.le_of_ble_eq_true rfl⟩) (pW_V hPc hK hDc (ci := 0) (q0 := 0) rfl rfl) rfl rfl hl.1 rfl (lv_room (Nat.le_of_ble_eq_true rfl)) dX2_recover_5 ⟨Nat.le_of_ble_eq_true rfl, Nat.le_of_ble_eq_true rfl⟩) hP hD hS hA [2, 7, 3, 8] [0, 1, 4, 5, 6, 9] [0, 1, 6, 8, 2, 3, 4, 7, 9, 5] rfl rfl (by decide) (fun _ => rfl) (fun u_5 H locs hw hP hD hS => ?_)
  try rw [← hw] at hV
  try rw [← hw] at hs
  refine lv_aload_n hx hb dX2_recover_8 rfl (lv_at hl 1 rfl) ?_
  refine lv_aload_n hx hb dX2_recover_9 rfl (lv_at hl 0 rfl) ?_
  refine va_get (D := (dC, dI)) (ci := 2) (v := .int (kTl κ)) (C := RX2) (T := TX2) (N := 10) hx hb hts hinX2 hown hK hP 0 rfl rfl 6 (by decide) hf37 (fun _ h9 => h9) rfl dX2_recover_10 ?_
  have o_13 : s_X0_dropBelow u_5 (kTl κ) := hs.1
  have hs := hs.2
  have hPc := hP.sub (ws' := iW cI (h 2) (h 7) u_5) [2, 7] rfl
  have hDc := hD.sub (ws' := iW cI (h 2) (h 7) u_5) [2, 7] (by decide) rfl
  refine rcV (W2 := fun u => kW cI h (kSIx (kSIx κ u_5) u)) (va_runV (As := [.int (kTl κ)]) (rest := []) ⟨hx, hb, hml, hown, hts⟩ (c_X0_dropBelow l dC dI cI (h 2) (h 7) H.size u_5 (kTl κ) o_13) (cwV 1 hts gX2_recover_X0_dropBelow rfl rfl rfl (by decide +kernel) ⟨Nat.le_of_ble_eq_true rfl, Nat.le_of_ble_eq_true rfl⟩) (pW_V hPc hK hDc (ci := 0) (q0 := 0) rfl rfl) rfl rfl hl.1 rfl (lv_room (Nat.le_of_ble_eq_true rfl)) dX2_recover_13 ⟨Nat.le_of_ble_eq_true rfl, Nat.le_of_ble_eq_true rfl⟩) hP hD hS hA [2, 7] [0, 1, 3, 4, 5, 6, 8, 9] [0, 1, 8, 2, 3, 4, 5, 9, 6, 7] rfl rfl (by decide) (fun _ => rfl) (fun u_13 H locs hw hP hD hS => ?_)
  try rw [← hw] at hV
  try rw [← hw] at hs
  refine lv_aload_n hx hb dX2_recover_16 rfl (lv_at hl 0 rfl) ?_
  refine va_get (D := (dC, dI)) (ci := 2) (v := .int (kCt κ)) (C := RX2) (T := TX2) (N := 10) hx hb hts hinX2 hown hK hP 0 rfl rfl 8 (by decide) hf43 (fun _ h9 => h9) rfl dX2_recover_17 ?_
  refine lv_aload_n hx hb dX2_recover_20 rfl (lv_at hl 0 rfl) ?_
  refine va_get (D := (dC, dI)) (ci := 2) (v := .int (kTl κ)) (C := RX2) (T := TX2) (N := 10) hx hb hts hinX2 hown hK hP 0 rfl rfl 6 (by decide) hf37 (fun _ h9 => h9) rfl dX2_recover_21 ?_
  refine va_mmax hx hb (by rw [hml]; exact hl.1.symm) hown (hts (.methodLink RX2 164 Lib.Math.max.name) (by decide +kernel)) (hts (.static Lib.Math.max.name) (by decide +kernel)) (hts (.initialized "java/lang/Math") (by decide +kernel)) (hts (.code Lib.Math.max.name Lib.Math.max.code 2 (some .int)) (by decide +kernel)) (Nat.le_of_ble_eq_true rfl) (Nat.le_of_ble_eq_true rfl) (Nat.le_of_ble_eq_true rfl) (Nat.le_of_ble_eq_true rfl) dX2_recover_24 ?_
  refine lv_istore_n (lv' := [(2, .int (if (kCt κ) < (kTl κ) then (kTl κ) else (kCt κ) : Int32)), (0, .ref (h 0)), (1, .ref (h 2))]) hx hb dX2_recover_27 rfl hl (by decide) rfl (fun ls hl => ?_)
  have o_l28 : sl_X2_recover_i_28 100 (kSIx (kSIx κ u_5) u_13) (if (kCt κ) < (kTl κ) then (kTl κ) else (kCt κ) : Int32) := hs.1
  have hs := hs.2
  have loop_28 : ∀ (n : Nat) (κ28 : KS) (x2_28 : Int32) (H : Heap) (locs : List Loc) (ls : Array Slot) (hs : sl_X2_recover_i_28 n κ28 x2_28) (K : ∀ (z : KS × Int32) (hw : z = l_X2_recover_i_28 n κ28 x2_28) (H : Heap) (locs : List Loc) (ls : Array Slot), va_P (dC, dI) vwCl (kW cI h z.1) H → va_D A (kW cI h z.1) → va_S A s.heap H locs → lv_has ls 3 [(2, .int z.2), (0, .ref (h 0)), (1, .ref (h 2))] → W p l e (headSpec wsX2_recover ({ frames := 3, cells := 0, slots := 0, locals := 67 })).room s m [.ref (h 0), .ref (h 2)].toArray below meth c H locs 0 0 (MQ below (va_Qv (fun (u : KS) => u = v_X2_recover_i κ) (qW (dC, dI) A (fun u => kW cI h u)) A) [.ref (h 0), .ref (h 2)].toArray s 0 0 A) (F0 m 48 ls [])) (hP : va_P (dC, dI) vwCl (kW cI h κ28) H) (hD : va_D A (kW cI h κ28)) (hS : va_S A s.heap H locs) (hl : lv_has ls 3 [(2, .int x2_28), (0, .ref (h 0)), (1, .ref (h 2))]), W p l e (headSpec wsX2_recover ({ frames := 3, cells := 0, slots := 0, locals := 67 })).room s m [.ref (h 0), .ref (h 2)].toArray below meth c H locs 0 0 (MQ below (va_Qv (fun (u : KS) => u = v_X2_recover_i κ) (qW (dC, dI) A (fun u => kW cI h u)) A) [.ref (h 0), .ref (h 2)].toArray s 0 0 A) (F0 m 28 ls []) := by
    intro n
    induction n with
    | zero => intro κ28 x2_28 H locs ls hs; exact False.elim hs
    | succ n ih =>
      intro κ28 x2_28 H locs ls hs K hP hD hS hl
      rw [sl_X2_recover_i_28_s] at hs
      rw [l_X2_recover_i_28_s] at K
      refine lv_iload_n hx hb dX2_recover_28 rfl (lv_at hl 0 rfl) ?_
      refine lv_aload_n hx hb dX2_recover_29 rfl (lv_at hl 1 rfl) ?_
      refine va_get (D := (dC, dI)) (ci := 2) (v := .int (kWr κ28)) (C := RX2) (T := TX2) (N := 10) hx hb hts hinX2 hown hK hP 0 rfl rfl 7 (by decide) hf40 (fun _ h9 => h9) rfl dX2_recover_30 ?_
      refine lv_icmp_ge (tgt := 48) hx hb dX2_recover_33 (by decide) (fun c_33 => ?_) (fun c_33 => ?_)
      · skip
        have hs := hs.1 c_33
        rw [if_pos c_33] at K
        exact K _ rfl H locs ls hP hD hS (lv_sub hl [0, 1, 2] rfl)
      · skip
        have hs := hs.2 c_33
        rw [if_neg c_33] at K
        refine lv_aload_n hx hb dX2_recover_36 rfl (lv_at hl 1 rfl) ?_
        refine lv_aload_n hx hb dX2_recover_37 rfl (lv_at hl 2 rfl) ?_
        refine lv_iload_n hx hb dX2_recover_38 rfl (lv_at hl 0 rfl) ?_
        have o_39 : s_X2_follow_i κ28 x2_28 := hs.1
        have hs := hs.2
        have hPc := hP.sub (ws' := kW cI h κ28) [0, 1, 2, 3, 4, 5, 6, 7, 8, 9] rfl
        have hDc := hD.sub (ws' := kW cI h κ28) [0, 1, 2, 3, 4, 5, 6, 7, 8, 9] (by decide) rfl
        refine rcV (W2 := fun u => kW cI h u) (va_runV (As := [.ref (h 2), .int x2_28]) (rest := []) ⟨hx, hb, hml, hown, hts⟩ (c_X2_follow_i l dC dI cI h H.size κ28 x2_28 o_39) (cwV 2 hts gX2_recover_X2_follow rfl rfl rfl (by decide +kernel) ⟨Nat.le_of_ble_eq_true rfl, Nat.le_of_ble_eq_true rfl⟩) (pW_V hPc hK hDc (ci := 2) (q0 := 0) rfl rfl) rfl rfl hl.1 rfl (lv_room (Nat.le_of_ble_eq_true rfl)) dX2_recover_39 ⟨Nat.le_of_ble_eq_true rfl, Nat.le_of_ble_eq_true rfl⟩) hP hD hS hA [0, 1, 2, 3, 4, 5, 6, 7, 8, 9] [] [0, 1, 2, 3, 4, 5, 6, 7, 8, 9] rfl rfl (by decide) (fun _ => rfl) (fun u_39 H locs hw hP hD hS => ?_)
        try rw [← hw] at K
        try rw [← hw] at hs
        refine lv_iinc (v := x2_28 + 1) (lv' := [(2, .int (x2_28 + 1)), (0, .ref (h 0)), (1, .ref (h 2))]) hx hb dX2_recover_42 hl (k := 0) rfl rfl (by decide) rfl (fun ls hl => ?_)
        refine lv_goto (tgt := 28) hx hb dX2_recover_45 (by decide) ?_
        exact ih u_39 (x2_28 + 1) H locs ls hs K hP hD hS (lv_sub hl [0, 1, 2] rfl)
  refine loop_28 100 (kSIx (kSIx κ u_5) u_13) (if (kCt κ) < (kTl κ) then (kTl κ) else (kCt κ) : Int32) H locs ls o_l28 (fun z_28 hw H locs ls hP hD hS hl => ?_) hP hD hS (lv_sub hl [0, 1, 2] rfl)
  try rw [← hw] at hV
  exact rV (w := fun u => kW cI h u) (z_28.1) hx hb hr hlocks hP hD hS (Nat.le_of_ble_eq_true rfl) (Nat.le_of_ble_eq_true rfl) dX2_recover_48 (by rw [hV] <;> rfl)
def l_X2_recover_t_28 : Nat → KS → Int32 → KS × Int32
  | 0, κ28, x2_28 => (κ28, x2_28)
  | n + 1, κ28, x2_28 => if (kWr κ28) ≤ x2_28 then (κ28, x2_28) else l_X2_recover_t_28 n (v_X2_follow_t κ28 x2_28) (x2_28 + 1)
theorem l_X2_recover_t_28_s (n : Nat) (κ28 : KS) (x2_28 : Int32) : l_X2_recover_t_28 (n + 1) κ28 x2_28 = if (kWr κ28) ≤ x2_28 then (κ28, x2_28) else l_X2_recover_t_28 n (v_X2_follow_t κ28 x2_28) (x2_28 + 1) := rfl
def sl_X2_recover_t_28 : Nat → KS → Int32 → Prop
  | 0, κ28, x2_28 => False
  | n + 1, κ28, x2_28 => (((kWr κ28) ≤ x2_28 → True) ∧ (¬ (kWr κ28) ≤ x2_28 → (s_X2_follow_t κ28 x2_28 ∧ sl_X2_recover_t_28 n (v_X2_follow_t κ28 x2_28) (x2_28 + 1))))
theorem sl_X2_recover_t_28_s (n : Nat) (κ28 : KS) (x2_28 : Int32) : sl_X2_recover_t_28 (n + 1) κ28 x2_28 = (((kWr κ28) ≤ x2_28 → True) ∧ (¬ (kWr κ28) ≤ x2_28 → (s_X2_follow_t κ28 x2_28 ∧ sl_X2_recover_t_28 n (v_X2_follow_t κ28 x2_28) (x2_28 + 1)))) := rfl
def v_X2_recover_t (κ : KS) : KS := (l_X2_recover_t_28 100 (kSTr (kSTr κ (v_X0_takeFrom (kCi κ) (kTr κ))) (v_X0_dropBelow (v_X0_takeFrom (kCi κ) (kTr κ)) (kTl κ))) (if (kCt κ) < (kTl κ) then (kTl κ) else (kCt κ) : Int32)).1
theorem v_X2_recover_t_e (κ : KS) : v_X2_recover_t κ = (l_X2_recover_t_28 100 (kSTr (kSTr κ (v_X0_takeFrom (kCi κ) (kTr κ))) (v_X0_dropBelow (v_X0_takeFrom (kCi κ) (kTr κ)) (kTl κ))) (if (kCt κ) < (kTl κ) then (kTl κ) else (kCt κ) : Int32)).1 := rfl
def s_X2_recover_t (κ : KS) : Prop := (s_X0_takeFrom (kCi κ) (kTr κ) ∧ (s_X0_dropBelow (v_X0_takeFrom (kCi κ) (kTr κ)) (kTl κ) ∧ (sl_X2_recover_t_28 100 (kSTr (kSTr κ (v_X0_takeFrom (kCi κ) (kTr κ))) (v_X0_dropBelow (v_X0_takeFrom (kCi κ) (kTr κ)) (kTl κ))) (if (kCt κ) < (kTl κ) then (kTl κ) else (kCt κ) : Int32) ∧ True)))
set_option maxHeartbeats 1000000 in
set_option maxRecDepth 100000 in
theorem c_X2_recover_t (l : Launch) (dC : Nat → ClassId) (dI : Nat → Nat → Nat) (cI : ClassId) (h : Nat → Nat) (sz : Nat) (κ : KS) (hs : s_X2_recover_t κ) : Met l yX2_recover wsX2_recover ({ frames := 3, cells := 0, slots := 0, locals := 67 }) (va_Pc [.ref (h 0), .ref (h 4)] (pW (dC, dI) [(cI, .int)] (kW cI h κ) sz)) (va_Qv (fun (u : KS) => u = v_X2_recover_t κ) (qW (dC, dI) (va_A (kW cI h κ) sz) (fun u => kW cI h u)) (va_A (kW cI h κ) sz)) 0 0 (va_A (kW cI h κ) sz) := by
  refine Met.ofW (cc := cX2_recover) (maxL := 3) (ret := none) (by decide) rfl ?_
  intro p e s m args below meth c s₁ B hml hv
  obtain ⟨rfl, hsz, hP, hK, hD0⟩ := hv
  have hx := B.exec
  have hb := B.bytes
  have hr := B.returns
  have hts := atoms_spec (ws := wsX2_recover) B.pre
  have hown : s.vm.findClass RX2 = some m.cls := findClass_of_methodNamed B.named
  have hlocks := B.notSynchronized
  have hinX2 : ∀ w ∈ wsX20, w ∈ wsX2_recover := by decide +kernel
  have hf23 := hts (.fieldLink RX2 23 "Keysapart" "checkpointIndex" "LKeysapart$Index;") (by decide +kernel)
  have hf37 := hts (.fieldLink RX2 37 "Keysapart" "tailAt" "I") (by decide +kernel)
  have hf40 := hts (.fieldLink RX2 40 "Keysapart" "writtenTo" "I") (by decide +kernel)
  have hf43 := hts (.fieldLink RX2 43 "Keysapart" "checkpointTo" "I") (by decide +kernel)
  subst hsz
  have hD := hD0.self (sz := s.heap.size)
  generalize hAe : va_A (kW cI h κ) s.heap.size = A at hD ⊢
  have hA : ∀ q : Nat, s.heap.size ≤ q → A q := fun q h => by rw [← hAe]; exact Or.inr h
  have hl := lv_entry ([.ref (h 0), .ref (h 4)]) (n := 3) (Nat.le_of_ble_eq_true rfl)
  rw [lg_entry_eq]
  generalize (lg_sl ([.ref (h 0), .ref (h 4)]) ++ List.replicate (3 - (lg_sl ([.ref (h 0), .ref (h 4)])).length) Slot.unset).toArray = ls at hl ⊢
  have hl : lv_has ls 3 [(0, .ref (h 0)), (1, .ref (h 4))] := hl
  generalize hHe : s.heap = H at hP ⊢
  generalize hLe : ([] : List Loc) = locs
  have hS : va_S A s.heap H locs := by
    rw [← hLe, ← hHe]
    exact va_S.rf
  unfold s_X2_recover_t at hs
  have hV := v_X2_recover_t_e κ
  refine lv_aload_n hx hb dX2_recover_0 rfl (lv_at hl 1 rfl) ?_
  refine lv_aload_n hx hb dX2_recover_1 rfl (lv_at hl 0 rfl) ?_
  refine va_get (D := (dC, dI)) (ci := 2) (v := .ref (h 3)) (C := RX2) (T := TX2) (N := 10) hx hb hts hinX2 hown hK hP 0 rfl rfl 2 (by decide) hf23 (fun _ h9 => h9) rfl dX2_recover_2 ?_
  have o_5 : s_X0_takeFrom (kCi κ) (kTr κ) := hs.1
  have hs := hs.2
  have hPc := hP.sub (ws' := jW cI (h 4) (h 9) (h 3) (h 8) (kCi κ) (kTr κ)) [4, 9, 3, 8] rfl
  have hDc := hD.sub (ws' := jW cI (h 4) (h 9) (h 3) (h 8) (kCi κ) (kTr κ)) [4, 9, 3, 8] (by decide) rfl
  refine rcV (W2 := fun u => kW cI h (kSTr κ u)) (va_runV (As := [.ref (h 3)]) (rest := []) ⟨hx, hb, hml, hown, hts⟩ (c_X0_takeFrom l dC dI cI (h 4) (h 9) (h 3) (h 8) (kCi κ) H.size (kTr κ) o_5) (cwV 1 hts gX2_recover_X0_takeFrom rfl rfl rfl (by decide +kernel) ⟨Nat.le_of_ble_eq_true rfl, Nat.le_of_ble_eq_true rfl⟩) (pW_V hPc hK hDc (ci := 0) (q0 := 0) rfl rfl) rfl rfl hl.1 rfl (lv_room (Nat.le_of_ble_eq_true rfl)) dX2_recover_5 ⟨Nat.le_of_ble_eq_true rfl, Nat.le_of_ble_eq_true rfl⟩) hP hD hS hA [4, 9, 3, 8] [0, 1, 2, 5, 6, 7] [0, 1, 2, 8, 6, 3, 4, 5, 9, 7] rfl rfl (by decide) (fun _ => rfl) (fun u_5 H locs hw hP hD hS => ?_)
  try rw [← hw] at hV
  try rw [← hw] at hs
  refine lv_aload_n hx hb dX2_recover_8 rfl (lv_at hl 1 rfl) ?_
  refine lv_aload_n hx hb dX2_recover_9 rfl (lv_at hl 0 rfl) ?_
  refine va_get (D := (dC, dI)) (ci := 2) (v := .int (kTl κ)) (C := RX2) (T := TX2) (N := 10) hx hb hts hinX2 hown hK hP 0 rfl rfl 6 (by decide) hf37 (fun _ h9 => h9) rfl dX2_recover_10 ?_
  have o_13 : s_X0_dropBelow u_5 (kTl κ) := hs.1
  have hs := hs.2
  have hPc := hP.sub (ws' := iW cI (h 4) (h 9) u_5) [4, 9] rfl
  have hDc := hD.sub (ws' := iW cI (h 4) (h 9) u_5) [4, 9] (by decide) rfl
  refine rcV (W2 := fun u => kW cI h (kSTr (kSTr κ u_5) u)) (va_runV (As := [.int (kTl κ)]) (rest := []) ⟨hx, hb, hml, hown, hts⟩ (c_X0_dropBelow l dC dI cI (h 4) (h 9) H.size u_5 (kTl κ) o_13) (cwV 1 hts gX2_recover_X0_dropBelow rfl rfl rfl (by decide +kernel) ⟨Nat.le_of_ble_eq_true rfl, Nat.le_of_ble_eq_true rfl⟩) (pW_V hPc hK hDc (ci := 0) (q0 := 0) rfl rfl) rfl rfl hl.1 rfl (lv_room (Nat.le_of_ble_eq_true rfl)) dX2_recover_13 ⟨Nat.le_of_ble_eq_true rfl, Nat.le_of_ble_eq_true rfl⟩) hP hD hS hA [4, 9] [0, 1, 2, 3, 5, 6, 7, 8] [0, 1, 2, 3, 8, 4, 5, 6, 7, 9] rfl rfl (by decide) (fun _ => rfl) (fun u_13 H locs hw hP hD hS => ?_)
  try rw [← hw] at hV
  try rw [← hw] at hs
  refine lv_aload_n hx hb dX2_recover_16 rfl (lv_at hl 0 rfl) ?_
  refine va_get (D := (dC, dI)) (ci := 2) (v := .int (kCt κ)) (C := RX2) (T := TX2) (N := 10) hx hb hts hinX2 hown hK hP 0 rfl rfl 8 (by decide) hf43 (fun _ h9 => h9) rfl dX2_recover_17 ?_
  refine lv_aload_n hx hb dX2_recover_20 rfl (lv_at hl 0 rfl) ?_
  refine va_get (D := (dC, dI)) (ci := 2) (v := .int (kTl κ)) (C := RX2) (T := TX2) (N := 10) hx hb hts hinX2 hown hK hP 0 rfl rfl 6 (by decide) hf37 (fun _ h9 => h9) rfl dX2_recover_21 ?_
  refine va_mmax hx hb (by rw [hml]; exact hl.1.symm) hown (hts (.methodLink RX2 164 Lib.Math.max.name) (by decide +kernel)) (hts (.static Lib.Math.max.name) (by decide +kernel)) (hts (.initialized "java/lang/Math") (by decide +kernel)) (hts (.code Lib.Math.max.name Lib.Math.max.code 2 (some .int)) (by decide +kernel)) (Nat.le_of_ble_eq_true rfl) (Nat.le_of_ble_eq_true rfl) (Nat.le_of_ble_eq_true rfl) (Nat.le_of_ble_eq_true rfl) dX2_recover_24 ?_
  refine lv_istore_n (lv' := [(2, .int (if (kCt κ) < (kTl κ) then (kTl κ) else (kCt κ) : Int32)), (0, .ref (h 0)), (1, .ref (h 4))]) hx hb dX2_recover_27 rfl hl (by decide) rfl (fun ls hl => ?_)
  have o_l28 : sl_X2_recover_t_28 100 (kSTr (kSTr κ u_5) u_13) (if (kCt κ) < (kTl κ) then (kTl κ) else (kCt κ) : Int32) := hs.1
  have hs := hs.2
  have loop_28 : ∀ (n : Nat) (κ28 : KS) (x2_28 : Int32) (H : Heap) (locs : List Loc) (ls : Array Slot) (hs : sl_X2_recover_t_28 n κ28 x2_28) (K : ∀ (z : KS × Int32) (hw : z = l_X2_recover_t_28 n κ28 x2_28) (H : Heap) (locs : List Loc) (ls : Array Slot), va_P (dC, dI) vwCl (kW cI h z.1) H → va_D A (kW cI h z.1) → va_S A s.heap H locs → lv_has ls 3 [(2, .int z.2), (0, .ref (h 0)), (1, .ref (h 4))] → W p l e (headSpec wsX2_recover ({ frames := 3, cells := 0, slots := 0, locals := 67 })).room s m [.ref (h 0), .ref (h 4)].toArray below meth c H locs 0 0 (MQ below (va_Qv (fun (u : KS) => u = v_X2_recover_t κ) (qW (dC, dI) A (fun u => kW cI h u)) A) [.ref (h 0), .ref (h 4)].toArray s 0 0 A) (F0 m 48 ls [])) (hP : va_P (dC, dI) vwCl (kW cI h κ28) H) (hD : va_D A (kW cI h κ28)) (hS : va_S A s.heap H locs) (hl : lv_has ls 3 [(2, .int x2_28), (0, .ref (h 0)), (1, .ref (h 4))]), W p l e (headSpec wsX2_recover ({ frames := 3, cells := 0, slots := 0, locals := 67 })).room s m [.ref (h 0), .ref (h 4)].toArray below meth c H locs 0 0 (MQ below (va_Qv (fun (u : KS) => u = v_X2_recover_t κ) (qW (dC, dI) A (fun u => kW cI h u)) A) [.ref (h 0), .ref (h 4)].toArray s 0 0 A) (F0 m 28 ls []) := by
    intro n
    induction n with
    | zero => intro κ28 x2_28 H locs ls hs; exact False.elim hs
    | succ n ih =>
      intro κ28 x2_28 H locs ls hs K hP hD hS hl
      rw [sl_X2_recover_t_28_s] at hs
      rw [l_X2_recover_t_28_s] at K
      refine lv_iload_n hx hb dX2_recover_28 rfl (lv_at hl 0 rfl) ?_
      refine lv_aload_n hx hb dX2_recover_29 rfl (lv_at hl 1 rfl) ?_
      refine va_get (D := (dC, dI)) (ci := 2) (v := .int (kWr κ28)) (C := RX2) (T := TX2) (N := 10) hx hb hts hinX2 hown hK hP 0 rfl rfl 7 (by decide) hf40 (fun _ h9 => h9) rfl dX2_recover_30 ?_
      refine lv_icmp_ge (tgt := 48) hx hb dX2_recover_33 (by decide) (fun c_33 => ?_) (fun c_33 => ?_)
      · skip
        have hs := hs.1 c_33
        rw [if_pos c_33] at K
        exact K _ rfl H locs ls hP hD hS (lv_sub hl [0, 1, 2] rfl)
      · skip
        have hs := hs.2 c_33
        rw [if_neg c_33] at K
        refine lv_aload_n hx hb dX2_recover_36 rfl (lv_at hl 1 rfl) ?_
        refine lv_aload_n hx hb dX2_recover_37 rfl (lv_at hl 2 rfl) ?_
        refine lv_iload_n hx hb dX2_recover_38 rfl (lv_at hl 0 rfl) ?_
        have o_39 : s_X2_follow_t κ28 x2_28 := hs.1
        have hs := hs.2
        have hPc := hP.sub (ws' := kW cI h κ28) [0, 1, 2, 3, 4, 5, 6, 7, 8, 9] rfl
        have hDc := hD.sub (ws' := kW cI h κ28) [0, 1, 2, 3, 4, 5, 6, 7, 8, 9] (by decide) rfl
        refine rcV (W2 := fun u => kW cI h u) (va_runV (As := [.ref (h 4), .int x2_28]) (rest := []) ⟨hx, hb, hml, hown, hts⟩ (c_X2_follow_t l dC dI cI h H.size κ28 x2_28 o_39) (cwV 2 hts gX2_recover_X2_follow rfl rfl rfl (by decide +kernel) ⟨Nat.le_of_ble_eq_true rfl, Nat.le_of_ble_eq_true rfl⟩) (pW_V hPc hK hDc (ci := 2) (q0 := 0) rfl rfl) rfl rfl hl.1 rfl (lv_room (Nat.le_of_ble_eq_true rfl)) dX2_recover_39 ⟨Nat.le_of_ble_eq_true rfl, Nat.le_of_ble_eq_true rfl⟩) hP hD hS hA [0, 1, 2, 3, 4, 5, 6, 7, 8, 9] [] [0, 1, 2, 3, 4, 5, 6, 7, 8, 9] rfl rfl (by decide) (fun _ => rfl) (fun u_39 H locs hw hP hD hS => ?_)
        try rw [← hw] at K
        try rw [← hw] at hs
        refine lv_iinc (v := x2_28 + 1) (lv' := [(2, .int (x2_28 + 1)), (0, .ref (h 0)), (1, .ref (h 4))]) hx hb dX2_recover_42 hl (k := 0) rfl rfl (by decide) rfl (fun ls hl => ?_)
        refine lv_goto (tgt := 28) hx hb dX2_recover_45 (by decide) ?_
        exact ih u_39 (x2_28 + 1) H locs ls hs K hP hD hS (lv_sub hl [0, 1, 2] rfl)
  refine loop_28 100 (kSTr (kSTr κ u_5) u_13) (if (kCt κ) < (kTl κ) then (kTl κ) else (kCt κ) : Int32) H locs ls o_l28 (fun z_28 hw H locs ls hP hD hS hl => ?_) hP hD hS (lv_sub hl [0, 1, 2] rfl)
  try rw [← hw] at hV
  exact rV (w := fun u => kW cI h u) (z_28.1) hx hb hr hlocks hP hD hS (Nat.le_of_ble_eq_true rfl) (Nat.le_of_ble_eq_true rfl) dX2_recover_48 (by rw [hV] <;> rfl)
