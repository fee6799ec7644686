/-- the class's ten cells and a row of what is due -/
def hW (cI : ClassId) (h : Nat → Nat) (ad : Nat) (κ : KS) (d : Nat → Int32) : va_W := kW cI h κ ++ [(ad, .inl (cI, 64, .inl d))]
set_option maxHeartbeats 4000000 in
set_option maxRecDepth 100000 in
/-- all keys are as they are due, and lie in the log -/
theorem c_has (l : Launch) (dC : Nat → ClassId) (dI : Nat → Nat → Nat) (cI : ClassId) (h : Nat → Nat) (ad : Nat) (sz : Nat) (κ : KS) (d sf : Nat → Int32) (N xH xT xW xC : Nat) (hq : IN κ d sf N xH xT xW xC) : Met l yL_has wsL_has ({ frames := 10, cells := 0, slots := 0, locals := 171 }) (va_Pc [.ref (h 0), .ref ad] (pW (dC, dI) [(cI, .int)] (hW cI h ad κ d) sz)) (va_Qi (fun (r : Int32) (u : Unit) => r = 1) (qW (dC, dI) (va_A (hW cI h ad κ d) sz) (fun _ => hW cI h ad κ d)) (va_A (hW cI h ad κ d) sz)) 0 0 (va_A (hW cI h ad κ d) sz) := by
  refine Met.ofW (cc := cL_has) (maxL := 8) (ret := (some .boolean)) (by decide) rfl ?_
  intro p e s m args below meth c s₁ B hml hv
  obtain ⟨rfl, hsz, hP, hK, hD0⟩ := hv
  have hx := B.exec
  have hb := B.bytes
  have hr := B.returns
  have hts := atoms_spec (ws := wsL_has) B.pre
  have hown : s.vm.findClass RL = some m.cls := findClass_of_methodNamed B.named
  have hlocks := B.notSynchronized
  subst hsz
  have hD := hD0.self (sz := s.heap.size)
  generalize hAe : va_A (hW cI h ad κ d) s.heap.size = A at hD ⊢
  have hA : ∀ q : Nat, s.heap.size ≤ q → A q := fun q h => by rw [← hAe]; exact Or.inr h
  have hl := lv_entry ([.ref (h 0), .ref ad]) (n := 8) (Nat.le_of_ble_eq_true rfl)
  rw [lg_entry_eq]
  generalize (lg_sl ([.ref (h 0), .ref ad]) ++ List.replicate (8 - (lg_sl ([.ref (h 0), .ref ad])).length) Slot.unset).toArray = ls at hl ⊢
  have hl : lv_has ls 8 [(0, .ref (h 0)), (1, .ref ad)] := hl
  generalize hHe : s.heap = H at hP ⊢
  generalize hLe : ([] : List Loc) = locs
  have hS : va_S A s.heap H locs := by
    rw [← hLe, ← hHe]
    exact va_S.rf
  obtain ⟨⟨-, -, -, -, -, -⟩, ⟨q1, q2, q3, q4, q5, q6⟩, -⟩ := id hq
  have n10 : ¬ (1 : Int32) = 0 := by decide
  have K386 : ∀ (H : Heap) (locs : List Loc) (ls : Array Slot), va_P (dC, dI) vwCl (hW cI h ad κ d) H → va_D A (hW cI h ad κ d) → va_S A s.heap H locs → lv_has ls 8 [(0, .ref (h 0)), (1, .ref ad)] → W p l e (headSpec wsL_has ({ frames := 10, cells := 0, slots := 0, locals := 171 })).room s m [.ref (h 0), .ref ad].toArray below meth c H locs 0 0 (MQ below (va_Qi (fun (r : Int32) (u : Unit) => r = 1) (qW (dC, dI) A (fun _ => hW cI h ad κ d)) A) [.ref (h 0), .ref ad].toArray s 0 0 A) (F0 m 386 ls []) := by
    intro H locs ls hP hD hS hl
    refine lv_iconst (v := 1) hx hb dL_has_386 (by decide) ?_
    refine lv_goto (tgt := 391) hx hb dL_has_387 (by decide) ?_
    exact rZ (w := fun _ => hW cI h ad κ d) () hx hb hr hlocks hP hD hS (Nat.le_of_ble_eq_true rfl) (Nat.le_of_ble_eq_true rfl) dL_has_391 bz1 rfl
  have K247 : ∀ (H : Heap) (locs : List Loc) (ls : Array Slot), va_P (dC, dI) vwCl (hW cI h ad κ d) H → va_D A (hW cI h ad κ d) → va_S A s.heap H locs → lv_has ls 8 [(2, .int (SM d 64)), (3, .int (nI (MN d 64))), (0, .ref (h 0)), (1, .ref ad)] → W p l e (headSpec wsL_has ({ frames := 10, cells := 0, slots := 0, locals := 171 })).room s m [.ref (h 0), .ref ad].toArray below meth c H locs 0 0 (MQ below (va_Qi (fun (r : Int32) (u : Unit) => r = 1) (qW (dC, dI) A (fun _ => hW cI h ad κ d)) A) [.ref (h 0), .ref ad].toArray s 0 0 A) (F0 m 247 ls []) := by
    intro H locs ls hP hD hS hl
    refine lv_aload_n hx hb dL_has_247 rfl (lv_at hl 2 rfl) ?_
    refine lv_iconst (v := 0) hx hb dL_has_248 (by decide) ?_
    refine lv_bipush (v := 63) hx hb dL_has_249 (by decide) ?_
    have sp := sum_v hq
    have hPc := hP.sub (ws' := kW cI h κ) [0, 1, 2, 3, 4, 5, 6, 7, 8, 9] rfl
    have hDc := hD.sub (ws' := kW cI h κ) [0, 1, 2, 3, 4, 5, 6, 7, 8, 9] (by decide) rfl
    refine rcI (wc := kW cI h κ) (W2 := fun _ => hW cI h ad κ d) (vx_runSW (As := [.ref (h 0), .int 0, .int 63]) (rest := []) ⟨hx, hb, hml, hown, hts⟩ (w_sum l dC dI cI h H.size κ 0 63 sp.2.1 sp.1) (vx_cwSW 3 hts gL_has_L_sum rfl rfl rfl (by decide +kernel) ⟨Nat.le_of_ble_eq_true rfl, Nat.le_of_ble_eq_true rfl⟩) (pW_S hPc hK hDc) rfl rfl hl.1 rfl (lv_room (Nat.le_of_ble_eq_true rfl)) dL_has_251 ⟨Nat.le_of_ble_eq_true rfl, Nat.le_of_ble_eq_true rfl⟩) hP hD hS hA [0, 1, 2, 3, 4, 5, 6, 7, 8, 9] [10] [1, 2, 3, 4, 5, 6, 7, 8, 9, 10, 0] rfl rfl (by decide) (fun _ => rfl) (fun r u H locs hw hP hD hS => ?_)
    obtain rfl : r = (SM d 64) := hw.trans sp.2.2
    refine lv_iload_n hx hb dL_has_254 rfl (lv_at hl 0 rfl) ?_
    refine lv_icmp_ne (tgt := 283) hx hb dL_has_255 (by decide) (fun c_ => absurd (rfl) c_) (fun c_ => ?_)
    refine lv_aload_n hx hb dL_has_258 rfl (lv_at hl 2 rfl) ?_
    obtain ⟨lv1, lv2, lv3, lv4⟩ := live_op hq
    have hPc := hP.sub (ws' := kW cI h κ) [0, 1, 2, 3, 4, 5, 6, 7, 8, 9] rfl
    have hDc := hD.sub (ws' := kW cI h κ) [0, 1, 2, 3, 4, 5, 6, 7, 8, 9] (by decide) rfl
    refine rcI (wc := kW cI h κ) (W2 := fun _ => hW cI h ad κ d) (vx_runSW (As := [.ref (h 0)]) (rest := []) ⟨hx, hb, hml, hown, hts⟩ (w_live l dC dI cI h H.size κ lv2 lv1) (vx_cwSW 1 hts gL_has_L_live rfl rfl rfl (by decide +kernel) ⟨Nat.le_of_ble_eq_true rfl, Nat.le_of_ble_eq_true rfl⟩) (pW_S hPc hK hDc) rfl rfl hl.1 rfl (lv_room (Nat.le_of_ble_eq_true rfl)) dL_has_259 ⟨Nat.le_of_ble_eq_true rfl, Nat.le_of_ble_eq_true rfl⟩) hP hD hS hA [0, 1, 2, 3, 4, 5, 6, 7, 8, 9] [10] [1, 2, 3, 4, 5, 6, 7, 8, 9, 10, 0] rfl rfl (by decide) (fun _ => rfl) (fun r u H locs hw hP hD hS => ?_)
    obtain rfl : r = nI (MN d 64) := hw.trans lv3
    refine lv_iload_n hx hb dL_has_262 rfl (lv_at hl 1 rfl) ?_
    refine lv_icmp_ne (tgt := 283) hx hb dL_has_263 (by decide) (fun c_ => absurd (rfl) c_) (fun c_ => ?_)
    refine lv_iload_n hx hb dL_has_266 rfl (lv_at hl 1 rfl) ?_
    refine lv_aload_n hx hb dL_has_267 rfl (lv_at hl 2 rfl) ?_
    have hPc := hP.sub (ws' := kW cI h κ) [0, 1, 2, 3, 4, 5, 6, 7, 8, 9] rfl
    have hDc := hD.sub (ws' := kW cI h κ) [0, 1, 2, 3, 4, 5, 6, 7, 8, 9] (by decide) rfl
    refine rcI (wc := kW cI h κ) (W2 := fun _ => hW cI h ad κ d) (va_runV (As := []) (rest := [.int (nI (MN d 64))]) ⟨hx, hb, hml, hown, hts⟩ (c_X2_head l dC dI cI h H.size κ) (cwV 0 hts gL_has_X2_head rfl rfl rfl (by decide +kernel) ⟨Nat.le_of_ble_eq_true rfl, Nat.le_of_ble_eq_true rfl⟩) (pW_V hPc hK hDc (ci := 2) (q0 := 0) rfl rfl) rfl rfl hl.1 rfl (lv_room (Nat.le_of_ble_eq_true rfl)) dL_has_268 ⟨Nat.le_of_ble_eq_true rfl, Nat.le_of_ble_eq_true rfl⟩) hP hD hS hA [0, 1, 2, 3, 4, 5, 6, 7, 8, 9] [10] [1, 2, 3, 4, 5, 6, 7, 8, 9, 10, 0] rfl rfl (by decide) (fun _ => rfl) (fun r u H locs hw hP hD hS => ?_)
    obtain rfl : r = (nI xH) := hw.trans (head_v hq)
    refine lv_aload_n hx hb dL_has_271 rfl (lv_at hl 2 rfl) ?_
    have hPc := hP.sub (ws' := kW cI h κ) [0, 1, 2, 3, 4, 5, 6, 7, 8, 9] rfl
    have hDc := hD.sub (ws' := kW cI h κ) [0, 1, 2, 3, 4, 5, 6, 7, 8, 9] (by decide) rfl
    refine rcI (wc := kW cI h κ) (W2 := fun _ => hW cI h ad κ d) (va_runV (As := []) (rest := [.int (nI xH), .int (nI (MN d 64))]) ⟨hx, hb, hml, hown, hts⟩ (c_X2_tail l dC dI cI h H.size κ) (cwV 0 hts gL_has_X2_tail rfl rfl rfl (by decide +kernel) ⟨Nat.le_of_ble_eq_true rfl, Nat.le_of_ble_eq_true rfl⟩) (pW_V hPc hK hDc (ci := 2) (q0 := 0) rfl rfl) rfl rfl hl.1 rfl (lv_room (Nat.le_of_ble_eq_true rfl)) dL_has_272 ⟨Nat.le_of_ble_eq_true rfl, Nat.le_of_ble_eq_true rfl⟩) hP hD hS hA [0, 1, 2, 3, 4, 5, 6, 7, 8, 9] [10] [1, 2, 3, 4, 5, 6, 7, 8, 9, 10, 0] rfl rfl (by decide) (fun _ => rfl) (fun r u H locs hw hP hD hS => ?_)
    obtain rfl : r = (nI xT) := hw.trans (tail_v hq)
    refine lv_isub hx hb dL_has_275 ?_
    rw [show ((nI xH) - (nI xT) : Int32) = (nI (xH - xT)) from pk_sub (by omega)]
    refine lv_icmp_gt (tgt := 283) hx hb dL_has_276 (by decide) (fun c_ => absurd c_ (nI_nlt lv4 (by omega))) (fun c_ => ?_)
    refine lv_iconst (v := 1) hx hb dL_has_279 (by decide) ?_
    refine lv_goto (tgt := 284) hx hb dL_has_280 (by decide) ?_
    refine lv_istore (lv' := [(5, .int 1), (2, .int (SM d 64)), (3, .int (nI (MN d 64))), (0, .ref (h 0)), (1, .ref ad)]) hx hb dL_has_284 hl (by decide) rfl (fun ls hl => ?_)
    refine lv_aload_n hx hb dL_has_286 rfl (lv_at hl 3 rfl) ?_
    refine lv_iconst (v := 0) hx hb dL_has_287 (by decide) ?_
    refine lv_bipush (v := 63) hx hb dL_has_288 (by decide) ?_
    have sp := fet_64 hq
    have hPc := hP.sub (ws' := kW cI h κ) [0, 1, 2, 3, 4, 5, 6, 7, 8, 9] rfl
    have hDc := hD.sub (ws' := kW cI h κ) [0, 1, 2, 3, 4, 5, 6, 7, 8, 9] (by decide) rfl
    refine rcI (wc := kW cI h κ) (W2 := fun _ => hW cI h ad κ d) (vx_runSW (As := [.ref (h 0), .int 0, .int 63]) (rest := []) ⟨hx, hb, hml, hown, hts⟩ (w_fetches l dC dI cI h H.size κ 0 63 sp.2.1 sp.1) (vx_cwSW 3 hts gL_has_L_fetches rfl rfl rfl (by decide +kernel) ⟨Nat.le_of_ble_eq_true rfl, Nat.le_of_ble_eq_true rfl⟩) (pW_S hPc hK hDc) rfl rfl hl.1 rfl (lv_room (Nat.le_of_ble_eq_true rfl)) dL_has_290 ⟨Nat.le_of_ble_eq_true rfl, Nat.le_of_ble_eq_true rfl⟩) hP hD hS hA [0, 1, 2, 3, 4, 5, 6, 7, 8, 9] [10] [1, 2, 3, 4, 5, 6, 7, 8, 9, 10, 0] rfl rfl (by decide) (fun _ => rfl) (fun r u H locs hw hP hD hS => ?_)
    obtain rfl : r = (nI (FT (kIx κ) xT 64 0)) := hw.trans sp.2.2
    refine lv_istore (lv' := [(6, .int (nI (FT (kIx κ) xT 64 0))), (5, .int 1), (2, .int (SM d 64)), (3, .int (nI (MN d 64))), (0, .ref (h 0)), (1, .ref ad)]) hx hb dL_has_293 hl (by decide) rfl (fun ls hl => ?_)
    refine lv_iload hx hb dL_has_295 (lv_at hl 1 rfl) ?_
    obtain ⟨f1, f2, f3⟩ := fet_all hq
    obtain ⟨g1, g2⟩ := seg_op hq
    have m64 := MN_le d 64
    refine lv_if_eq (tgt := 390) hx hb dL_has_297 (by decide) (fun c_ => absurd c_ (n10)) (fun c_ => ?_)
    refine lv_iload hx hb dL_has_300 (lv_at hl 0 rfl) ?_
    refine lv_aload_n hx hb dL_has_302 rfl (lv_at hl 4 rfl) ?_
    have hPc := hP.sub (ws' := kW cI h κ) [0, 1, 2, 3, 4, 5, 6, 7, 8, 9] rfl
    have hDc := hD.sub (ws' := kW cI h κ) [0, 1, 2, 3, 4, 5, 6, 7, 8, 9] (by decide) rfl
    refine rcI (wc := kW cI h κ) (W2 := fun _ => hW cI h ad κ d) (va_runV (As := []) (rest := [.int (nI (FT (kIx κ) xT 64 0))]) ⟨hx, hb, hml, hown, hts⟩ (c_X2_segments l dC dI cI h H.size κ) (cwV 0 hts gL_has_X2_segments rfl rfl rfl (by decide +kernel) ⟨Nat.le_of_ble_eq_true rfl, Nat.le_of_ble_eq_true rfl⟩) (pW_V hPc hK hDc (ci := 2) (q0 := 0) rfl rfl) rfl rfl hl.1 rfl (lv_room (Nat.le_of_ble_eq_true rfl)) dL_has_303 ⟨Nat.le_of_ble_eq_true rfl, Nat.le_of_ble_eq_true rfl⟩) hP hD hS hA [0, 1, 2, 3, 4, 5, 6, 7, 8, 9] [10] [1, 2, 3, 4, 5, 6, 7, 8, 9, 10, 0] rfl rfl (by decide) (fun _ => rfl) (fun r u H locs hw hP hD hS => ?_)
    obtain rfl : r = (nI (SG xT xH)) := hw.trans g1
    refine lv_icmp_gt (tgt := 390) hx hb dL_has_306 (by decide) (fun c_ => absurd c_ (nI_nlt f1 (by omega))) (fun c_ => ?_)
    refine lv_iload hx hb dL_has_309 (lv_at hl 0 rfl) ?_
    refine lv_iload_n hx hb dL_has_311 rfl (lv_at hl 3 rfl) ?_
    refine lv_icmp_gt (tgt := 390) hx hb dL_has_312 (by decide) (fun c_ => absurd c_ (nI_nlt f2 (by omega))) (fun c_ => ?_)
    refine lv_iload_n hx hb dL_has_315 rfl (lv_at hl 3 rfl) ?_
    have K337 : ∀ (H : Heap) (locs : List Loc) (ls : Array Slot), va_P (dC, dI) vwCl (hW cI h ad κ d) H → va_D A (hW cI h ad κ d) → va_S A s.heap H locs → lv_has ls 8 [(3, .int (nI (MN d 64))), (0, .ref (h 0)), (1, .ref ad)] → W p l e (headSpec wsL_has ({ frames := 10, cells := 0, slots := 0, locals := 171 })).room s m [.ref (h 0), .ref ad].toArray below meth c H locs 0 0 (MQ below (va_Qi (fun (r : Int32) (u : Unit) => r = 1) (qW (dC, dI) A (fun _ => hW cI h ad κ d)) A) [.ref (h 0), .ref ad].toArray s 0 0 A) (F0 m 337 ls []) := by
      intro H locs ls hP hD hS hl
      refine lv_aload_n hx hb dL_has_337 rfl (lv_at hl 1 rfl) ?_
      have hPc := hP.sub (ws' := kW cI h κ) [0, 1, 2, 3, 4, 5, 6, 7, 8, 9] rfl
      have hDc := hD.sub (ws' := kW cI h κ) [0, 1, 2, 3, 4, 5, 6, 7, 8, 9] (by decide) rfl
      refine rcI (wc := kW cI h κ) (W2 := fun _ => hW cI h ad κ d) (va_runV (As := []) (rest := []) ⟨hx, hb, hml, hown, hts⟩ (c_X2_segments l dC dI cI h H.size κ) (cwV 0 hts gL_has_X2_segments rfl rfl rfl (by decide +kernel) ⟨Nat.le_of_ble_eq_true rfl, Nat.le_of_ble_eq_true rfl⟩) (pW_V hPc hK hDc (ci := 2) (q0 := 0) rfl rfl) rfl rfl hl.1 rfl (lv_room (Nat.le_of_ble_eq_true rfl)) dL_has_338 ⟨Nat.le_of_ble_eq_true rfl, Nat.le_of_ble_eq_true rfl⟩) hP hD hS hA [0, 1, 2, 3, 4, 5, 6, 7, 8, 9] [10] [1, 2, 3, 4, 5, 6, 7, 8, 9, 10, 0] rfl rfl (by decide) (fun _ => rfl) (fun r u H locs hw hP hD hS => ?_)
      obtain rfl : r = (nI (SG xT xH)) := hw.trans g1
      refine lv_bipush (v := 12) hx hb dL_has_341 (by decide) ?_
      refine lv_icmp_gt (tgt := 390) hx hb dL_has_343 (by decide) (fun c_ => absurd c_ (not_gt12 g2)) (fun c_ => ?_)
      refine lv_aload_n hx hb dL_has_346 rfl (lv_at hl 1 rfl) ?_
      rcases free_op hq with ef | ⟨f, ef, y1, y2, y3⟩
      · have hPc := hP.sub (ws' := kW cI h κ) [0, 1, 2, 3, 4, 5, 6, 7, 8, 9] rfl
        have hDc := hD.sub (ws' := kW cI h κ) [0, 1, 2, 3, 4, 5, 6, 7, 8, 9] (by decide) rfl
        refine rcI (wc := kW cI h κ) (W2 := fun _ => hW cI h ad κ d) (va_runV (As := []) (rest := []) ⟨hx, hb, hml, hown, hts⟩ (c_X2_toFree l dC dI cI h H.size κ) (cwV 0 hts gL_has_X2_toFree rfl rfl rfl (by decide +kernel) ⟨Nat.le_of_ble_eq_true rfl, Nat.le_of_ble_eq_true rfl⟩) (pW_V hPc hK hDc (ci := 2) (q0 := 0) rfl rfl) rfl rfl hl.1 rfl (lv_room (Nat.le_of_ble_eq_true rfl)) dL_has_347 ⟨Nat.le_of_ble_eq_true rfl, Nat.le_of_ble_eq_true rfl⟩) hP hD hS hA [0, 1, 2, 3, 4, 5, 6, 7, 8, 9] [10] [1, 2, 3, 4, 5, 6, 7, 8, 9, 10, 0] rfl rfl (by decide) (fun _ => rfl) (fun r u H locs hw hP hD hS => ?_)
        obtain rfl : r = (-1) := hw.trans ef
        refine lv_iconst (v := (-1)) hx hb dL_has_350 (by decide) ?_
        refine lv_icmp_eq (tgt := 386) hx hb dL_has_351 (by decide) (fun c_ => ?_) (fun c_ => absurd (rfl) c_)
        exact K386 H locs ls hP hD hS (lv_sub hl [1, 2] rfl)
      · have hPc := hP.sub (ws' := kW cI h κ) [0, 1, 2, 3, 4, 5, 6, 7, 8, 9] rfl
        have hDc := hD.sub (ws' := kW cI h κ) [0, 1, 2, 3, 4, 5, 6, 7, 8, 9] (by decide) rfl
        refine rcI (wc := kW cI h κ) (W2 := fun _ => hW cI h ad κ d) (va_runV (As := []) (rest := []) ⟨hx, hb, hml, hown, hts⟩ (c_X2_toFree l dC dI cI h H.size κ) (cwV 0 hts gL_has_X2_toFree rfl rfl rfl (by decide +kernel) ⟨Nat.le_of_ble_eq_true rfl, Nat.le_of_ble_eq_true rfl⟩) (pW_V hPc hK hDc (ci := 2) (q0 := 0) rfl rfl) rfl rfl hl.1 rfl (lv_room (Nat.le_of_ble_eq_true rfl)) dL_has_347 ⟨Nat.le_of_ble_eq_true rfl, Nat.le_of_ble_eq_true rfl⟩) hP hD hS hA [0, 1, 2, 3, 4, 5, 6, 7, 8, 9] [10] [1, 2, 3, 4, 5, 6, 7, 8, 9, 10, 0] rfl rfl (by decide) (fun _ => rfl) (fun r u H locs hw hP hD hS => ?_)
        obtain rfl : r = (nI f) := hw.trans ef
        refine lv_iconst (v := (-1)) hx hb dL_has_350 (by decide) ?_
        refine lv_icmp_eq (tgt := 386) hx hb dL_has_351 (by decide) (fun c_ => absurd c_ (n_ne1 (by omega))) (fun c_ => ?_)
        refine lv_aload_n hx hb dL_has_354 rfl (lv_at hl 1 rfl) ?_
        have hPc := hP.sub (ws' := kW cI h κ) [0, 1, 2, 3, 4, 5, 6, 7, 8, 9] rfl
        have hDc := hD.sub (ws' := kW cI h κ) [0, 1, 2, 3, 4, 5, 6, 7, 8, 9] (by decide) rfl
        refine rcI (wc := kW cI h κ) (W2 := fun _ => hW cI h ad κ d) (va_runV (As := []) (rest := []) ⟨hx, hb, hml, hown, hts⟩ (c_X2_toFree l dC dI cI h H.size κ) (cwV 0 hts gL_has_X2_toFree rfl rfl rfl (by decide +kernel) ⟨Nat.le_of_ble_eq_true rfl, Nat.le_of_ble_eq_true rfl⟩) (pW_V hPc hK hDc (ci := 2) (q0 := 0) rfl rfl) rfl rfl hl.1 rfl (lv_room (Nat.le_of_ble_eq_true rfl)) dL_has_355 ⟨Nat.le_of_ble_eq_true rfl, Nat.le_of_ble_eq_true rfl⟩) hP hD hS hA [0, 1, 2, 3, 4, 5, 6, 7, 8, 9] [10] [1, 2, 3, 4, 5, 6, 7, 8, 9, 10, 0] rfl rfl (by decide) (fun _ => rfl) (fun r u H locs hw hP hD hS => ?_)
        obtain rfl : r = (nI f) := hw.trans ef
        refine lv_iconst (v := 1) hx hb dL_has_358 (by decide) ?_
        refine lv_icmp_lt (tgt := 390) hx hb dL_has_359 (by decide) (fun c_ => absurd c_ (not_lt1 y1 (by omega))) (fun c_ => ?_)
        refine lv_aload_n hx hb dL_has_362 rfl (lv_at hl 1 rfl) ?_
        have hPc := hP.sub (ws' := kW cI h κ) [0, 1, 2, 3, 4, 5, 6, 7, 8, 9] rfl
        have hDc := hD.sub (ws' := kW cI h κ) [0, 1, 2, 3, 4, 5, 6, 7, 8, 9] (by decide) rfl
        refine rcI (wc := kW cI h κ) (W2 := fun _ => hW cI h ad κ d) (va_runV (As := []) (rest := []) ⟨hx, hb, hml, hown, hts⟩ (c_X2_toFree l dC dI cI h H.size κ) (cwV 0 hts gL_has_X2_toFree rfl rfl rfl (by decide +kernel) ⟨Nat.le_of_ble_eq_true rfl, Nat.le_of_ble_eq_true rfl⟩) (pW_V hPc hK hDc (ci := 2) (q0 := 0) rfl rfl) rfl rfl hl.1 rfl (lv_room (Nat.le_of_ble_eq_true rfl)) dL_has_363 ⟨Nat.le_of_ble_eq_true rfl, Nat.le_of_ble_eq_true rfl⟩) hP hD hS hA [0, 1, 2, 3, 4, 5, 6, 7, 8, 9] [10] [1, 2, 3, 4, 5, 6, 7, 8, 9, 10, 0] rfl rfl (by decide) (fun _ => rfl) (fun r u H locs hw hP hD hS => ?_)
        obtain rfl : r = (nI f) := hw.trans ef
        refine lv_bipush (v := 8) hx hb dL_has_366 (by decide) ?_
        refine lv_icmp_gt (tgt := 390) hx hb dL_has_368 (by decide) (fun c_ => absurd c_ (not_gt8 y2)) (fun c_ => ?_)
        refine lv_aload_n hx hb dL_has_371 rfl (lv_at hl 1 rfl) ?_
        have hPc := hP.sub (ws' := kW cI h κ) [0, 1, 2, 3, 4, 5, 6, 7, 8, 9] rfl
        have hDc := hD.sub (ws' := kW cI h κ) [0, 1, 2, 3, 4, 5, 6, 7, 8, 9] (by decide) rfl
        refine rcI (wc := kW cI h κ) (W2 := fun _ => hW cI h ad κ d) (va_runV (As := []) (rest := []) ⟨hx, hb, hml, hown, hts⟩ (c_X2_tail l dC dI cI h H.size κ) (cwV 0 hts gL_has_X2_tail rfl rfl rfl (by decide +kernel) ⟨Nat.le_of_ble_eq_true rfl, Nat.le_of_ble_eq_true rfl⟩) (pW_V hPc hK hDc (ci := 2) (q0 := 0) rfl rfl) rfl rfl hl.1 rfl (lv_room (Nat.le_of_ble_eq_true rfl)) dL_has_372 ⟨Nat.le_of_ble_eq_true rfl, Nat.le_of_ble_eq_true rfl⟩) hP hD hS hA [0, 1, 2, 3, 4, 5, 6, 7, 8, 9] [10] [1, 2, 3, 4, 5, 6, 7, 8, 9, 10, 0] rfl rfl (by decide) (fun _ => rfl) (fun r u H locs hw hP hD hS => ?_)
        obtain rfl : r = (nI xT) := hw.trans (tail_v hq)
        refine lv_aload_n hx hb dL_has_375 rfl (lv_at hl 1 rfl) ?_
        have hPc := hP.sub (ws' := kW cI h κ) [0, 1, 2, 3, 4, 5, 6, 7, 8, 9] rfl
        have hDc := hD.sub (ws' := kW cI h κ) [0, 1, 2, 3, 4, 5, 6, 7, 8, 9] (by decide) rfl
        refine rcI (wc := kW cI h κ) (W2 := fun _ => hW cI h ad κ d) (va_runV (As := []) (rest := [.int (nI xT)]) ⟨hx, hb, hml, hown, hts⟩ (c_X2_toFree l dC dI cI h H.size κ) (cwV 0 hts gL_has_X2_toFree rfl rfl rfl (by decide +kernel) ⟨Nat.le_of_ble_eq_true rfl, Nat.le_of_ble_eq_true rfl⟩) (pW_V hPc hK hDc (ci := 2) (q0 := 0) rfl rfl) rfl rfl hl.1 rfl (lv_room (Nat.le_of_ble_eq_true rfl)) dL_has_376 ⟨Nat.le_of_ble_eq_true rfl, Nat.le_of_ble_eq_true rfl⟩) hP hD hS hA [0, 1, 2, 3, 4, 5, 6, 7, 8, 9] [10] [1, 2, 3, 4, 5, 6, 7, 8, 9, 10, 0] rfl rfl (by decide) (fun _ => rfl) (fun r u H locs hw hP hD hS => ?_)
        obtain rfl : r = (nI f) := hw.trans ef
        refine lv_iadd hx hb dL_has_379 ?_
        refine lv_bipush (v := 8) hx hb dL_has_380 (by decide) ?_
        refine lv_irem hx hb dL_has_382 (by decide) ?_
        rw [show ((nI xT + nI f) - (nI xT + nI f) / 8 * 8 : Int32) = 0 from rem_8 y3 (by omega)]
        refine lv_if_ne (tgt := 390) hx hb dL_has_383 (by decide) (fun c_ => absurd (rfl) c_) (fun c_ => ?_)
        exact K386 H locs ls hP hD hS (lv_sub hl [1, 2] rfl)
    refine lv_if_ne (tgt := 323) hx hb dL_has_316 (by decide) (fun c_1 => ?_) (fun c_1 => ?_)
    · have z1 : ¬ MN d 64 = 0 := fun z => c_1 (by rw [z, nI_0])
      have z2 : ¬ FT (kIx κ) xT 64 0 = 0 := fun z => z1 (f3.mpr z)
      refine lv_iconst (v := 0) hx hb dL_has_323 (by decide) ?_
      refine lv_iload hx hb dL_has_324 (lv_at hl 0 rfl) ?_
      refine lv_if_ne (tgt := 333) hx hb dL_has_326 (by decide) (fun c_ => ?_) (fun c_ => absurd c_ (nI_ne0 (by omega) (by omega)))
      refine lv_iconst (v := 0) hx hb dL_has_333 (by decide) ?_
      refine lv_icmp_ne (tgt := 390) hx hb dL_has_334 (by decide) (fun c_ => absurd (rfl) c_) (fun c_ => ?_)
      exact K337 H locs ls hP hD hS (lv_sub hl [3, 4, 5] rfl)
    · have z1 : MN d 64 = 0 := by
        rcases Nat.eq_zero_or_pos (MN d 64) with z | z
        · exact z
        · exact absurd c_1 (nI_ne0 z (by omega))
      have z2 : FT (kIx κ) xT 64 0 = 0 := f3.mp z1
      refine lv_iconst (v := 1) hx hb dL_has_319 (by decide) ?_
      refine lv_goto (tgt := 324) hx hb dL_has_320 (by decide) ?_
      refine lv_iload hx hb dL_has_324 (lv_at hl 0 rfl) ?_
      refine lv_if_ne (tgt := 333) hx hb dL_has_326 (by decide) (fun c_ => absurd (by rw [z2, nI_0]) c_) (fun c_ => ?_)
      refine lv_iconst (v := 1) hx hb dL_has_329 (by decide) ?_
      refine lv_goto (tgt := 334) hx hb dL_has_330 (by decide) ?_
      refine lv_icmp_ne (tgt := 390) hx hb dL_has_334 (by decide) (fun c_ => absurd (rfl) c_) (fun c_ => ?_)
      exact K337 H locs ls hP hD hS (lv_sub hl [3, 4, 5] rfl)
  have K223 : ∀ (H : Heap) (locs : List Loc) (ls : Array Slot), va_P (dC, dI) vwCl (hW cI h ad κ d) H → va_D A (hW cI h ad κ d) → va_S A s.heap H locs → lv_has ls 8 [(2, .int (SM d 64)), (3, .int (nI (MN d 64))), (4, .int (lsK d 64)), (5, .int 1), (6, .int (nI 64)), (0, .ref (h 0)), (1, .ref ad)] → W p l e (headSpec wsL_has ({ frames := 10, cells := 0, slots := 0, locals := 171 })).room s m [.ref (h 0), .ref ad].toArray below meth c H locs 0 0 (MQ below (va_Qi (fun (r : Int32) (u : Unit) => r = 1) (qW (dC, dI) A (fun _ => hW cI h ad κ d)) A) [.ref (h 0), .ref ad].toArray s 0 0 A) (F0 m 223 ls []) := by
    intro H locs ls hP hD hS hl
    refine lv_iload hx hb dL_has_223 (lv_at hl 3 rfl) ?_
    refine lv_if_eq (tgt := 283) hx hb dL_has_225 (by decide) (fun c_ => absurd c_ (n10)) (fun c_ => ?_)
    refine lv_iload hx hb dL_has_228 (lv_at hl 2 rfl) ?_
    refine lv_bipush (v := 63) hx hb dL_has_230 (by decide) ?_
    refine lv_icmp_eq (tgt := 247) hx hb dL_has_232 (by decide) (fun c_1 => ?_) (fun c_1 => ?_)
    · exact K247 H locs ls hP hD hS (lv_sub hl [0, 1, 5, 6] rfl)
    · refine lv_aload_n hx hb dL_has_235 rfl (lv_at hl 5 rfl) ?_
      refine lv_iload hx hb dL_has_236 (lv_at hl 2 rfl) ?_
      refine lv_iconst (v := 1) hx hb dL_has_238 (by decide) ?_
      refine lv_iadd hx hb dL_has_239 ?_
      have sp := next_end hq c_1
      have hPc := hP.sub (ws' := kW cI h κ) [0, 1, 2, 3, 4, 5, 6, 7, 8, 9] rfl
      have hDc := hD.sub (ws' := kW cI h κ) [0, 1, 2, 3, 4, 5, 6, 7, 8, 9] (by decide) rfl
      refine rcI (wc := kW cI h κ) (W2 := fun _ => hW cI h ad κ d) (vx_runSW (As := [.ref (h 0), .int ((lsK d 64) + 1)]) (rest := []) ⟨hx, hb, hml, hown, hts⟩ (w_next l dC dI cI h H.size κ (lsK d 64 + 1) sp.2.1 sp.1) (vx_cwSW 2 hts gL_has_L_next rfl rfl rfl (by decide +kernel) ⟨Nat.le_of_ble_eq_true rfl, Nat.le_of_ble_eq_true rfl⟩) (pW_S hPc hK hDc) rfl rfl hl.1 rfl (lv_room (Nat.le_of_ble_eq_true rfl)) dL_has_240 ⟨Nat.le_of_ble_eq_true rfl, Nat.le_of_ble_eq_true rfl⟩) hP hD hS hA [0, 1, 2, 3, 4, 5, 6, 7, 8, 9] [10] [1, 2, 3, 4, 5, 6, 7, 8, 9, 10, 0] rfl rfl (by decide) (fun _ => rfl) (fun r u H locs hw hP hD hS => ?_)
      obtain rfl : r = (-1) := hw.trans sp.2.2
      refine lv_iconst (v := (-1)) hx hb dL_has_243 (by decide) ?_
      refine lv_icmp_ne (tgt := 283) hx hb dL_has_244 (by decide) (fun c_ => absurd (rfl) c_) (fun c_ => ?_)
      exact K247 H locs ls hP hD hS (lv_sub hl [0, 1, 5, 6] rfl)
  have loop : ∀ (j k : Nat), k + j = 64 → ∀ (H : Heap) (locs : List Loc) (ls : Array Slot), va_P (dC, dI) vwCl (hW cI h ad κ d) H → va_D A (hW cI h ad κ d) → va_S A s.heap H locs → lv_has ls 8 [(2, .int (SM d k)), (3, .int (nI (MN d k))), (4, .int (lsK d k)), (5, .int 1), (6, .int (nI k)), (0, .ref (h 0)), (1, .ref ad)] → W p l e (headSpec wsL_has ({ frames := 10, cells := 0, slots := 0, locals := 171 })).room s m [.ref (h 0), .ref ad].toArray below meth c H locs 0 0 (MQ below (va_Qi (fun (r : Int32) (u : Unit) => r = 1) (qW (dC, dI) A (fun _ => hW cI h ad κ d)) A) [.ref (h 0), .ref ad].toArray s 0 0 A) (F0 m 46 ls []) := by
    intro j
    induction j with
    | zero =>
      intro k hk H locs ls hP hD hS hl
      have e64 : k = 64 := by omega
      subst e64
      refine lv_iload hx hb dL_has_46 (lv_at hl 4 rfl) ?_
      refine lv_bipush (v := 64) hx hb dL_has_48 (by decide) ?_
      refine lv_icmp_ge (tgt := 223) hx hb dL_has_50 (by decide) (fun c_ => ?_) (fun c_ => absurd ((le64 (by omega)).mpr (by omega)) c_)
      exact K223 H locs ls hP hD hS hl
    | succ j ih =>
      intro k hk H locs ls hP hD hS hl
      have h64 : k < 64 := by omega
      refine lv_iload hx hb dL_has_46 (lv_at hl 4 rfl) ?_
      refine lv_bipush (v := 64) hx hb dL_has_48 (by decide) ?_
      refine lv_icmp_ge (tgt := 223) hx hb dL_has_50 (by decide) (fun c_ => absurd c_ (fun e => absurd ((le64 (by omega)).mp e) (by omega))) (fun c_ => ?_)
      refine lv_iload hx hb dL_has_53 (lv_at hl 3 rfl) ?_
      refine lv_if_eq (tgt := 223) hx hb dL_has_55 (by decide) (fun c_ => absurd c_ (n10)) (fun c_ => ?_)
      refine lv_aload_n hx hb dL_has_58 rfl (lv_at hl 5 rfl) ?_
      refine lv_iload hx hb dL_has_59 (lv_at hl 4 rfl) ?_
      have sp := pos_op hq h64
      have hPc := hP.sub (ws' := kW cI h κ) [0, 1, 2, 3, 4, 5, 6, 7, 8, 9] rfl
      have hDc := hD.sub (ws' := kW cI h κ) [0, 1, 2, 3, 4, 5, 6, 7, 8, 9] (by decide) rfl
      refine rcI (wc := kW cI h κ) (W2 := fun _ => hW cI h ad κ d) (vx_runSW (As := [.ref (h 0), .int (nI k)]) (rest := []) ⟨hx, hb, hml, hown, hts⟩ (w_position l dC dI cI h H.size κ (nI k) sp.1) (vx_cwSW 2 hts gL_has_L_position rfl rfl rfl (by decide +kernel) ⟨Nat.le_of_ble_eq_true rfl, Nat.le_of_ble_eq_true rfl⟩) (pW_S hPc hK hDc) rfl rfl hl.1 rfl (lv_room (Nat.le_of_ble_eq_true rfl)) dL_has_61 ⟨Nat.le_of_ble_eq_true rfl, Nat.le_of_ble_eq_true rfl⟩) hP hD hS hA [0, 1, 2, 3, 4, 5, 6, 7, 8, 9] [10] [1, 2, 3, 4, 5, 6, 7, 8, 9, 10, 0] rfl rfl (by decide) (fun _ => rfl) (fun r u H locs hw hP hD hS => ?_)
      obtain rfl : r = (kIx κ k) := hw.trans sp.2
      refine lv_istore (lv' := [(7, .int (kIx κ k)), (2, .int (SM d k)), (3, .int (nI (MN d k))), (4, .int (lsK d k)), (5, .int 1), (6, .int (nI k)), (0, .ref (h 0)), (1, .ref ad)]) hx hb dL_has_64 hl (by decide) rfl (fun ls hl => ?_)
      refine lv_aload_n hx hb dL_has_66 rfl (lv_at hl 6 rfl) ?_
      refine lv_iload hx hb dL_has_67 (lv_at hl 5 rfl) ?_
      have sp := get_v hq h64
      have hPc := hP.sub (ws' := kW cI h κ) [0, 1, 2, 3, 4, 5, 6, 7, 8, 9] rfl
      have hDc := hD.sub (ws' := kW cI h κ) [0, 1, 2, 3, 4, 5, 6, 7, 8, 9] (by decide) rfl
      refine rcI (wc := kW cI h κ) (W2 := fun _ => hW cI h ad κ d) (vx_runSW (As := [.ref (h 0), .int (nI k)]) (rest := []) ⟨hx, hb, hml, hown, hts⟩ (w_get l dC dI cI h H.size κ (nI k) sp.2.1 sp.1) (vx_cwSW 2 hts gL_has_L_get rfl rfl rfl (by decide +kernel) ⟨Nat.le_of_ble_eq_true rfl, Nat.le_of_ble_eq_true rfl⟩) (pW_S hPc hK hDc) rfl rfl hl.1 rfl (lv_room (Nat.le_of_ble_eq_true rfl)) dL_has_69 ⟨Nat.le_of_ble_eq_true rfl, Nat.le_of_ble_eq_true rfl⟩) hP hD hS hA [0, 1, 2, 3, 4, 5, 6, 7, 8, 9] [10] [1, 2, 3, 4, 5, 6, 7, 8, 9, 10, 0] rfl rfl (by decide) (fun _ => rfl) (fun r u H locs hw hP hD hS => ?_)
      obtain rfl : r = (d k) := hw.trans sp.2.2
      refine lv_aload_n hx hb dL_has_72 rfl (lv_at hl 7 rfl) ?_
      refine lv_iload hx hb dL_has_73 (lv_at hl 5 rfl) ?_
      refine va_iald hx hb hK hP 10 0 rfl rfl (vp_in_nI (by omega) (by decide)) dL_has_75 ?_
      rw [nI_clamp (show k < 2 ^ 31 by omega)]
      refine lv_icmp_ne (tgt := 133) hx hb dL_has_76 (by decide) (fun c_ => absurd (rfl) c_) (fun c_ => ?_)
      refine lv_aload_n hx hb dL_has_79 rfl (lv_at hl 7 rfl) ?_
      refine lv_iload hx hb dL_has_80 (lv_at hl 5 rfl) ?_
      refine va_iald hx hb hK hP 10 0 rfl rfl (vp_in_nI (by omega) (by decide)) dL_has_82 ?_
      rw [nI_clamp (show k < 2 ^ 31 by omega)]
      rcases hq.two h64 with ⟨e1, e2⟩ | ⟨p9, v9, e1, e2, e3, e5, e6, e7⟩
      · have u1 : d k < 0 := by rw [e2]; decide
        have u2 : ¬ 0 ≤ d k := by rw [e2]; decide
        refine lv_if_ge (tgt := 90) hx hb dL_has_83 (by decide) (fun c_ => absurd c_ (u2)) (fun c_ => ?_)
        refine lv_iconst (v := 1) hx hb dL_has_86 (by decide) ?_
        refine lv_goto (tgt := 91) hx hb dL_has_87 (by decide) ?_
        refine lv_iload hx hb dL_has_91 (lv_at hl 0 rfl) ?_
        refine lv_iconst (v := (-1)) hx hb dL_has_93 (by decide) ?_
        refine lv_icmp_ne (tgt := 101) hx hb dL_has_94 (by decide) (fun c_ => absurd (e1) c_) (fun c_ => ?_)
        refine lv_iconst (v := 1) hx hb dL_has_97 (by decide) ?_
        refine lv_goto (tgt := 102) hx hb dL_has_98 (by decide) ?_
        refine lv_icmp_ne (tgt := 133) hx hb dL_has_102 (by decide) (fun c_ => absurd (rfl) c_) (fun c_ => ?_)
        refine lv_iload hx hb dL_has_105 (lv_at hl 0 rfl) ?_
        refine lv_iconst (v := (-1)) hx hb dL_has_107 (by decide) ?_
        refine lv_icmp_eq (tgt := 129) hx hb dL_has_108 (by decide) (fun c_ => ?_) (fun c_ => absurd (e1) c_)
        refine lv_iconst (v := 1) hx hb dL_has_129 (by decide) ?_
        refine lv_goto (tgt := 134) hx hb dL_has_130 (by decide) ?_
        refine lv_istore (lv' := [(5, .int 1), (7, .int (kIx κ k)), (2, .int (SM d k)), (3, .int (nI (MN d k))), (4, .int (lsK d k)), (6, .int (nI k)), (0, .ref (h 0)), (1, .ref ad)]) hx hb dL_has_134 hl (by decide) rfl (fun ls hl => ?_)
        refine lv_iload_n hx hb dL_has_136 rfl (lv_at hl 2 rfl) ?_
        refine lv_aload_n hx hb dL_has_137 rfl (lv_at hl 7 rfl) ?_
        refine lv_iload hx hb dL_has_138 (lv_at hl 5 rfl) ?_
        refine va_iald hx hb hK hP 10 0 rfl rfl (vp_in_nI (by omega) (by decide)) dL_has_140 ?_
        rw [nI_clamp (show k < 2 ^ 31 by omega)]
        refine lv_if_ge (tgt := 148) hx hb dL_has_141 (by decide) (fun c_ => absurd c_ (u2)) (fun c_ => ?_)
        refine lv_iconst (v := 0) hx hb dL_has_144 (by decide) ?_
        refine lv_goto (tgt := 152) hx hb dL_has_145 (by decide) ?_
        refine lv_iadd hx hb dL_has_152 ?_
        rw [show ((SM d k) + 0 : Int32) = (SM d (k + 1)) from SM_m u1]
        refine lv_istore_n (lv' := [(2, .int (SM d (k + 1))), (5, .int 1), (7, .int (kIx κ k)), (3, .int (nI (MN d k))), (4, .int (lsK d k)), (6, .int (nI k)), (0, .ref (h 0)), (1, .ref ad)]) hx hb dL_has_153 rfl hl (by decide) rfl (fun ls hl => ?_)
        refine lv_iload_n hx hb dL_has_154 rfl (lv_at hl 3 rfl) ?_
        refine lv_aload_n hx hb dL_has_155 rfl (lv_at hl 7 rfl) ?_
        refine lv_iload hx hb dL_has_156 (lv_at hl 5 rfl) ?_
        refine va_iald hx hb hK hP 10 0 rfl rfl (vp_in_nI (by omega) (by decide)) dL_has_158 ?_
        rw [nI_clamp (show k < 2 ^ 31 by omega)]
        refine lv_if_ge (tgt := 166) hx hb dL_has_159 (by decide) (fun c_ => absurd c_ (u2)) (fun c_ => ?_)
        refine lv_iconst (v := 0) hx hb dL_has_162 (by decide) ?_
        refine lv_goto (tgt := 167) hx hb dL_has_163 (by decide) ?_
        refine lv_iadd hx hb dL_has_167 ?_
        rw [show (((nI (MN d k))) + 0 : Int32) = (nI (MN d (k + 1))) from MN_m u2]
        refine lv_istore_n (lv' := [(3, .int (nI (MN d (k + 1)))), (2, .int (SM d (k + 1))), (5, .int 1), (7, .int (kIx κ k)), (4, .int (lsK d k)), (6, .int (nI k)), (0, .ref (h 0)), (1, .ref ad)]) hx hb dL_has_168 rfl hl (by decide) rfl (fun ls hl => ?_)
        refine lv_aload_n hx hb dL_has_169 rfl (lv_at hl 7 rfl) ?_
        refine lv_iload hx hb dL_has_170 (lv_at hl 5 rfl) ?_
        refine va_iald hx hb hK hP 10 0 rfl rfl (vp_in_nI (by omega) (by decide)) dL_has_172 ?_
        rw [nI_clamp (show k < 2 ^ 31 by omega)]
        refine lv_if_lt (tgt := 217) hx hb dL_has_173 (by decide) (fun c_ => ?_) (fun c_ => absurd (u1) c_)
        refine lv_iinc (v := nI (k + 1)) (lv' := [(6, .int (nI (k + 1))), (3, .int (nI (MN d (k + 1)))), (2, .int (SM d (k + 1))), (5, .int 1), (7, .int (kIx κ k)), (4, .int (lsK d k)), (0, .ref (h 0)), (1, .ref ad)]) hx hb dL_has_217 hl (k := 5) rfl (by rw [← nI_1]; rfl) (by decide) rfl (fun ls hl => ?_)
        refine lv_goto (tgt := 46) hx hb dL_has_220 (by decide) ?_
        rw [LS_m u2] at hl
        exact ih (k + 1) (by omega) H locs ls hP hD hS (lv_sub hl [2, 1, 5, 3, 0, 6, 7] rfl)
      · have u1 : ¬ d k < 0 := by rw [e7]; exact nI_pos (by omega)
        have u2 : 0 ≤ d k := by rw [e7]; exact nI_pos' (by omega)
        have u3 : ¬ kIx κ k = -1 := by rw [e1]; exact n_ne1 (by omega)
        refine lv_if_ge (tgt := 90) hx hb dL_has_83 (by decide) (fun c_ => ?_) (fun c_ => absurd (u2) c_)
        refine lv_iconst (v := 0) hx hb dL_has_90 (by decide) ?_
        refine lv_iload hx hb dL_has_91 (lv_at hl 0 rfl) ?_
        refine lv_iconst (v := (-1)) hx hb dL_has_93 (by decide) ?_
        refine lv_icmp_ne (tgt := 101) hx hb dL_has_94 (by decide) (fun c_ => ?_) (fun c_ => absurd c_ (u3))
        refine lv_iconst (v := 0) hx hb dL_has_101 (by decide) ?_
        refine lv_icmp_ne (tgt := 133) hx hb dL_has_102 (by decide) (fun c_ => absurd (rfl) c_) (fun c_ => ?_)
        refine lv_iload hx hb dL_has_105 (lv_at hl 0 rfl) ?_
        refine lv_iconst (v := (-1)) hx hb dL_has_107 (by decide) ?_
        refine lv_icmp_eq (tgt := 129) hx hb dL_has_108 (by decide) (fun c_ => absurd c_ (u3)) (fun c_ => ?_)
        refine lv_iload hx hb dL_has_111 (lv_at hl 0 rfl) ?_
        refine lv_aload_n hx hb dL_has_113 rfl (lv_at hl 6 rfl) ?_
        have hPc := hP.sub (ws' := kW cI h κ) [0, 1, 2, 3, 4, 5, 6, 7, 8, 9] rfl
        have hDc := hD.sub (ws' := kW cI h κ) [0, 1, 2, 3, 4, 5, 6, 7, 8, 9] (by decide) rfl
        refine rcI (wc := kW cI h κ) (W2 := fun _ => hW cI h ad κ d) (va_runV (As := []) (rest := [.int (kIx κ k)]) ⟨hx, hb, hml, hown, hts⟩ (c_X2_tail l dC dI cI h H.size κ) (cwV 0 hts gL_has_X2_tail rfl rfl rfl (by decide +kernel) ⟨Nat.le_of_ble_eq_true rfl, Nat.le_of_ble_eq_true rfl⟩) (pW_V hPc hK hDc (ci := 2) (q0 := 0) rfl rfl) rfl rfl hl.1 rfl (lv_room (Nat.le_of_ble_eq_true rfl)) dL_has_114 ⟨Nat.le_of_ble_eq_true rfl, Nat.le_of_ble_eq_true rfl⟩) hP hD hS hA [0, 1, 2, 3, 4, 5, 6, 7, 8, 9] [10] [1, 2, 3, 4, 5, 6, 7, 8, 9, 10, 0] rfl rfl (by decide) (fun _ => rfl) (fun r u H locs hw hP hD hS => ?_)
        obtain rfl : r = (nI xT) := hw.trans (tail_v hq)
        refine lv_icmp_lt (tgt := 133) hx hb dL_has_117 (by decide) (fun c_ => absurd c_ (by rw [e1]; exact nI_nlt e2 (by omega))) (fun c_ => ?_)
        refine lv_iload hx hb dL_has_120 (lv_at hl 0 rfl) ?_
        refine lv_aload_n hx hb dL_has_122 rfl (lv_at hl 6 rfl) ?_
        have hPc := hP.sub (ws' := kW cI h κ) [0, 1, 2, 3, 4, 5, 6, 7, 8, 9] rfl
        have hDc := hD.sub (ws' := kW cI h κ) [0, 1, 2, 3, 4, 5, 6, 7, 8, 9] (by decide) rfl
        refine rcI (wc := kW cI h κ) (W2 := fun _ => hW cI h ad κ d) (va_runV (As := []) (rest := [.int (kIx κ k)]) ⟨hx, hb, hml, hown, hts⟩ (c_X2_head l dC dI cI h H.size κ) (cwV 0 hts gL_has_X2_head rfl rfl rfl (by decide +kernel) ⟨Nat.le_of_ble_eq_true rfl, Nat.le_of_ble_eq_true rfl⟩) (pW_V hPc hK hDc (ci := 2) (q0 := 0) rfl rfl) rfl rfl hl.1 rfl (lv_room (Nat.le_of_ble_eq_true rfl)) dL_has_123 ⟨Nat.le_of_ble_eq_true rfl, Nat.le_of_ble_eq_true rfl⟩) hP hD hS hA [0, 1, 2, 3, 4, 5, 6, 7, 8, 9] [10] [1, 2, 3, 4, 5, 6, 7, 8, 9, 10, 0] rfl rfl (by decide) (fun _ => rfl) (fun r u H locs hw hP hD hS => ?_)
        obtain rfl : r = (nI xH) := hw.trans (head_v hq)
        refine lv_icmp_ge (tgt := 133) hx hb dL_has_126 (by decide) (fun c_ => absurd c_ (by rw [e1]; exact nI_ge e3 (by omega))) (fun c_ => ?_)
        refine lv_iconst (v := 1) hx hb dL_has_129 (by decide) ?_
        refine lv_goto (tgt := 134) hx hb dL_has_130 (by decide) ?_
        refine lv_istore (lv' := [(5, .int 1), (7, .int (kIx κ k)), (2, .int (SM d k)), (3, .int (nI (MN d k))), (4, .int (lsK d k)), (6, .int (nI k)), (0, .ref (h 0)), (1, .ref ad)]) hx hb dL_has_134 hl (by decide) rfl (fun ls hl => ?_)
        refine lv_iload_n hx hb dL_has_136 rfl (lv_at hl 2 rfl) ?_
        refine lv_aload_n hx hb dL_has_137 rfl (lv_at hl 7 rfl) ?_
        refine lv_iload hx hb dL_has_138 (lv_at hl 5 rfl) ?_
        refine va_iald hx hb hK hP 10 0 rfl rfl (vp_in_nI (by omega) (by decide)) dL_has_140 ?_
        rw [nI_clamp (show k < 2 ^ 31 by omega)]
        refine lv_if_ge (tgt := 148) hx hb dL_has_141 (by decide) (fun c_ => ?_) (fun c_ => absurd (u2) c_)
        refine lv_aload_n hx hb dL_has_148 rfl (lv_at hl 7 rfl) ?_
        refine lv_iload hx hb dL_has_149 (lv_at hl 5 rfl) ?_
        refine va_iald hx hb hK hP 10 0 rfl rfl (vp_in_nI (by omega) (by decide)) dL_has_151 ?_
        rw [nI_clamp (show k < 2 ^ 31 by omega)]
        refine lv_iadd hx hb dL_has_152 ?_
        rw [show ((SM d k) + (d k) : Int32) = (SM d (k + 1)) from SM_p u1]
        refine lv_istore_n (lv' := [(2, .int (SM d (k + 1))), (5, .int 1), (7, .int (kIx κ k)), (3, .int (nI (MN d k))), (4, .int (lsK d k)), (6, .int (nI k)), (0, .ref (h 0)), (1, .ref ad)]) hx hb dL_has_153 rfl hl (by decide) rfl (fun ls hl => ?_)
        refine lv_iload_n hx hb dL_has_154 rfl (lv_at hl 3 rfl) ?_
        refine lv_aload_n hx hb dL_has_155 rfl (lv_at hl 7 rfl) ?_
        refine lv_iload hx hb dL_has_156 (lv_at hl 5 rfl) ?_
        refine va_iald hx hb hK hP 10 0 rfl rfl (vp_in_nI (by omega) (by decide)) dL_has_158 ?_
        rw [nI_clamp (show k < 2 ^ 31 by omega)]
        refine lv_if_ge (tgt := 166) hx hb dL_has_159 (by decide) (fun c_ => ?_) (fun c_ => absurd (u2) c_)
        refine lv_iconst (v := 1) hx hb dL_has_166 (by decide) ?_
        refine lv_iadd hx hb dL_has_167 ?_
        rw [show (((nI (MN d k))) + 1 : Int32) = (nI (MN d (k + 1))) from MN_p u2]
        refine lv_istore_n (lv' := [(3, .int (nI (MN d (k + 1)))), (2, .int (SM d (k + 1))), (5, .int 1), (7, .int (kIx κ k)), (4, .int (lsK d k)), (6, .int (nI k)), (0, .ref (h 0)), (1, .ref ad)]) hx hb dL_has_168 rfl hl (by decide) rfl (fun ls hl => ?_)
        refine lv_aload_n hx hb dL_has_169 rfl (lv_at hl 7 rfl) ?_
        refine lv_iload hx hb dL_has_170 (lv_at hl 5 rfl) ?_
        refine va_iald hx hb hK hP 10 0 rfl rfl (vp_in_nI (by omega) (by decide)) dL_has_172 ?_
        rw [nI_clamp (show k < 2 ^ 31 by omega)]
        refine lv_if_lt (tgt := 217) hx hb dL_has_173 (by decide) (fun c_ => absurd c_ (u1)) (fun c_ => ?_)
        refine lv_iload hx hb dL_has_176 (lv_at hl 2 rfl) ?_
        refine lv_if_eq (tgt := 210) hx hb dL_has_178 (by decide) (fun c_ => absurd c_ (n10)) (fun c_ => ?_)
        refine lv_aload_n hx hb dL_has_181 rfl (lv_at hl 6 rfl) ?_
        refine lv_iload hx hb dL_has_182 (lv_at hl 4 rfl) ?_
        refine lv_iconst (v := 1) hx hb dL_has_184 (by decide) ?_
        refine lv_iadd hx hb dL_has_185 ?_
        have sp := next_at hq h64 u3
        have hPc := hP.sub (ws' := kW cI h κ) [0, 1, 2, 3, 4, 5, 6, 7, 8, 9] rfl
        have hDc := hD.sub (ws' := kW cI h κ) [0, 1, 2, 3, 4, 5, 6, 7, 8, 9] (by decide) rfl
        refine rcI (wc := kW cI h κ) (W2 := fun _ => hW cI h ad κ d) (vx_runSW (As := [.ref (h 0), .int ((lsK d k) + 1)]) (rest := []) ⟨hx, hb, hml, hown, hts⟩ (w_next l dC dI cI h H.size κ (lsK d k + 1) sp.2.1 sp.1) (vx_cwSW 2 hts gL_has_L_next rfl rfl rfl (by decide +kernel) ⟨Nat.le_of_ble_eq_true rfl, Nat.le_of_ble_eq_true rfl⟩) (pW_S hPc hK hDc) rfl rfl hl.1 rfl (lv_room (Nat.le_of_ble_eq_true rfl)) dL_has_186 ⟨Nat.le_of_ble_eq_true rfl, Nat.le_of_ble_eq_true rfl⟩) hP hD hS hA [0, 1, 2, 3, 4, 5, 6, 7, 8, 9] [10] [1, 2, 3, 4, 5, 6, 7, 8, 9, 10, 0] rfl rfl (by decide) (fun _ => rfl) (fun r u H locs hw hP hD hS => ?_)
        obtain rfl : r = (nI k) := hw.trans sp.2.2
        refine lv_iload hx hb dL_has_189 (lv_at hl 5 rfl) ?_
        refine lv_icmp_ne (tgt := 210) hx hb dL_has_191 (by decide) (fun c_ => absurd (rfl) c_) (fun c_ => ?_)
        refine lv_aload_n hx hb dL_has_194 rfl (lv_at hl 6 rfl) ?_
        refine lv_iload hx hb dL_has_195 (lv_at hl 5 rfl) ?_
        refine lv_iload hx hb dL_has_197 (lv_at hl 5 rfl) ?_
        have sp := fet_1 hq h64 u3
        have hPc := hP.sub (ws' := kW cI h κ) [0, 1, 2, 3, 4, 5, 6, 7, 8, 9] rfl
        have hDc := hD.sub (ws' := kW cI h κ) [0, 1, 2, 3, 4, 5, 6, 7, 8, 9] (by decide) rfl
        refine rcI (wc := kW cI h κ) (W2 := fun _ => hW cI h ad κ d) (vx_runSW (As := [.ref (h 0), .int (nI k), .int (nI k)]) (rest := []) ⟨hx, hb, hml, hown, hts⟩ (w_fetches l dC dI cI h H.size κ (nI k) (nI k) sp.2.1 sp.1) (vx_cwSW 3 hts gL_has_L_fetches rfl rfl rfl (by decide +kernel) ⟨Nat.le_of_ble_eq_true rfl, Nat.le_of_ble_eq_true rfl⟩) (pW_S hPc hK hDc) rfl rfl hl.1 rfl (lv_room (Nat.le_of_ble_eq_true rfl)) dL_has_199 ⟨Nat.le_of_ble_eq_true rfl, Nat.le_of_ble_eq_true rfl⟩) hP hD hS hA [0, 1, 2, 3, 4, 5, 6, 7, 8, 9] [10] [1, 2, 3, 4, 5, 6, 7, 8, 9, 10, 0] rfl rfl (by decide) (fun _ => rfl) (fun r u H locs hw hP hD hS => ?_)
        obtain rfl : r = 1 := hw.trans sp.2.2
        refine lv_iconst (v := 1) hx hb dL_has_202 (by decide) ?_
        refine lv_icmp_ne (tgt := 210) hx hb dL_has_203 (by decide) (fun c_ => absurd (rfl) c_) (fun c_ => ?_)
        refine lv_iconst (v := 1) hx hb dL_has_206 (by decide) ?_
        refine lv_goto (tgt := 211) hx hb dL_has_207 (by decide) ?_
        refine lv_istore (lv' := [(5, .int 1), (3, .int (nI (MN d (k + 1)))), (2, .int (SM d (k + 1))), (7, .int (kIx κ k)), (4, .int (lsK d k)), (6, .int (nI k)), (0, .ref (h 0)), (1, .ref ad)]) hx hb dL_has_211 hl (by decide) rfl (fun ls hl => ?_)
        refine lv_iload hx hb dL_has_213 (lv_at hl 5 rfl) ?_
        refine lv_istore (lv' := [(4, .int (nI k)), (5, .int 1), (3, .int (nI (MN d (k + 1)))), (2, .int (SM d (k + 1))), (7, .int (kIx κ k)), (6, .int (nI k)), (0, .ref (h 0)), (1, .ref ad)]) hx hb dL_has_215 hl (by decide) rfl (fun ls hl => ?_)
        refine lv_iinc (v := nI (k + 1)) (lv' := [(6, .int (nI (k + 1))), (4, .int (nI k)), (5, .int 1), (3, .int (nI (MN d (k + 1)))), (2, .int (SM d (k + 1))), (7, .int (kIx κ k)), (0, .ref (h 0)), (1, .ref ad)]) hx hb dL_has_217 hl (k := 5) rfl (by rw [← nI_1]; rfl) (by decide) rfl (fun ls hl => ?_)
        refine lv_goto (tgt := 46) hx hb dL_has_220 (by decide) ?_
        rw [LS_p u2] at hl
        exact ih (k + 1) (by omega) H locs ls hP hD hS (lv_sub hl [4, 3, 1, 2, 0, 6, 7] rfl)
  refine lv_iconst (v := 0) hx hb dL_has_0 (by decide) ?_
  refine lv_istore_n (lv' := [(2, .int 0), (0, .ref (h 0)), (1, .ref ad)]) hx hb dL_has_1 rfl hl (by decide) rfl (fun ls hl => ?_)
  refine lv_iconst (v := 0) hx hb dL_has_2 (by decide) ?_
  refine lv_istore_n (lv' := [(3, .int 0), (2, .int 0), (0, .ref (h 0)), (1, .ref ad)]) hx hb dL_has_3 rfl hl (by decide) rfl (fun ls hl => ?_)
  refine lv_iconst (v := (-1)) hx hb dL_has_4 (by decide) ?_
  refine lv_istore (lv' := [(4, .int (-1)), (3, .int 0), (2, .int 0), (0, .ref (h 0)), (1, .ref ad)]) hx hb dL_has_5 hl (by decide) rfl (fun ls hl => ?_)
  refine lv_aload_n hx hb dL_has_7 rfl (lv_at hl 3 rfl) ?_
  have hPc := hP.sub (ws' := kW cI h κ) [0, 1, 2, 3, 4, 5, 6, 7, 8, 9] rfl
  have hDc := hD.sub (ws' := kW cI h κ) [0, 1, 2, 3, 4, 5, 6, 7, 8, 9] (by decide) rfl
  refine rcI (wc := kW cI h κ) (W2 := fun _ => hW cI h ad κ d) (va_runV (As := []) (rest := []) ⟨hx, hb, hml, hown, hts⟩ (c_X2_isUp l dC dI cI h H.size κ (isUp_b hq)) (cwV 0 hts gL_has_X2_isUp rfl rfl rfl (by decide +kernel) ⟨Nat.le_of_ble_eq_true rfl, Nat.le_of_ble_eq_true rfl⟩) (pW_V hPc hK hDc (ci := 2) (q0 := 0) rfl rfl) rfl rfl hl.1 rfl (lv_room (Nat.le_of_ble_eq_true rfl)) dL_has_8 ⟨Nat.le_of_ble_eq_true rfl, Nat.le_of_ble_eq_true rfl⟩) hP hD hS hA [0, 1, 2, 3, 4, 5, 6, 7, 8, 9] [10] [1, 2, 3, 4, 5, 6, 7, 8, 9, 10, 0] rfl rfl (by decide) (fun _ => rfl) (fun r u H locs hw hP hD hS => ?_)
  obtain rfl : r = 1 := hw.1.trans (isUp_v hq)
  refine lv_if_eq (tgt := 40) hx hb dL_has_11 (by decide) (fun c_ => absurd c_ (n10)) (fun c_ => ?_)
  refine lv_aload_n hx hb dL_has_14 rfl (lv_at hl 3 rfl) ?_
  have hPc := hP.sub (ws' := kW cI h κ) [0, 1, 2, 3, 4, 5, 6, 7, 8, 9] rfl
  have hDc := hD.sub (ws' := kW cI h κ) [0, 1, 2, 3, 4, 5, 6, 7, 8, 9] (by decide) rfl
  refine rcI (wc := kW cI h κ) (W2 := fun _ => hW cI h ad κ d) (va_runV (As := []) (rest := []) ⟨hx, hb, hml, hown, hts⟩ (c_X2_tail l dC dI cI h H.size κ) (cwV 0 hts gL_has_X2_tail rfl rfl rfl (by decide +kernel) ⟨Nat.le_of_ble_eq_true rfl, Nat.le_of_ble_eq_true rfl⟩) (pW_V hPc hK hDc (ci := 2) (q0 := 0) rfl rfl) rfl rfl hl.1 rfl (lv_room (Nat.le_of_ble_eq_true rfl)) dL_has_15 ⟨Nat.le_of_ble_eq_true rfl, Nat.le_of_ble_eq_true rfl⟩) hP hD hS hA [0, 1, 2, 3, 4, 5, 6, 7, 8, 9] [10] [1, 2, 3, 4, 5, 6, 7, 8, 9, 10, 0] rfl rfl (by decide) (fun _ => rfl) (fun r u H locs hw hP hD hS => ?_)
  obtain rfl : r = (nI xT) := hw.trans (tail_v hq)
  refine lv_aload_n hx hb dL_has_18 rfl (lv_at hl 3 rfl) ?_
  have hPc := hP.sub (ws' := kW cI h κ) [0, 1, 2, 3, 4, 5, 6, 7, 8, 9] rfl
  have hDc := hD.sub (ws' := kW cI h κ) [0, 1, 2, 3, 4, 5, 6, 7, 8, 9] (by decide) rfl
  refine rcI (wc := kW cI h κ) (W2 := fun _ => hW cI h ad κ d) (va_runV (As := []) (rest := [.int (nI xT)]) ⟨hx, hb, hml, hown, hts⟩ (c_X2_written l dC dI cI h H.size κ) (cwV 0 hts gL_has_X2_written rfl rfl rfl (by decide +kernel) ⟨Nat.le_of_ble_eq_true rfl, Nat.le_of_ble_eq_true rfl⟩) (pW_V hPc hK hDc (ci := 2) (q0 := 0) rfl rfl) rfl rfl hl.1 rfl (lv_room (Nat.le_of_ble_eq_true rfl)) dL_has_19 ⟨Nat.le_of_ble_eq_true rfl, Nat.le_of_ble_eq_true rfl⟩) hP hD hS hA [0, 1, 2, 3, 4, 5, 6, 7, 8, 9] [10] [1, 2, 3, 4, 5, 6, 7, 8, 9, 10, 0] rfl rfl (by decide) (fun _ => rfl) (fun r u H locs hw hP hD hS => ?_)
  obtain rfl : r = (nI xW) := hw.trans (writ_v hq)
  refine lv_icmp_gt (tgt := 40) hx hb dL_has_22 (by decide) (fun c_ => absurd c_ (nI_nlt q1 (by omega))) (fun c_ => ?_)
  refine lv_aload_n hx hb dL_has_25 rfl (lv_at hl 3 rfl) ?_
  have hPc := hP.sub (ws' := kW cI h κ) [0, 1, 2, 3, 4, 5, 6, 7, 8, 9] rfl
  have hDc := hD.sub (ws' := kW cI h κ) [0, 1, 2, 3, 4, 5, 6, 7, 8, 9] (by decide) rfl
  refine rcI (wc := kW cI h κ) (W2 := fun _ => hW cI h ad κ d) (va_runV (As := []) (rest := []) ⟨hx, hb, hml, hown, hts⟩ (c_X2_written l dC dI cI h H.size κ) (cwV 0 hts gL_has_X2_written rfl rfl rfl (by decide +kernel) ⟨Nat.le_of_ble_eq_true rfl, Nat.le_of_ble_eq_true rfl⟩) (pW_V hPc hK hDc (ci := 2) (q0 := 0) rfl rfl) rfl rfl hl.1 rfl (lv_room (Nat.le_of_ble_eq_true rfl)) dL_has_26 ⟨Nat.le_of_ble_eq_true rfl, Nat.le_of_ble_eq_true rfl⟩) hP hD hS hA [0, 1, 2, 3, 4, 5, 6, 7, 8, 9] [10] [1, 2, 3, 4, 5, 6, 7, 8, 9, 10, 0] rfl rfl (by decide) (fun _ => rfl) (fun r u H locs hw hP hD hS => ?_)
  obtain rfl : r = (nI xW) := hw.trans (writ_v hq)
  refine lv_aload_n hx hb dL_has_29 rfl (lv_at hl 3 rfl) ?_
  have hPc := hP.sub (ws' := kW cI h κ) [0, 1, 2, 3, 4, 5, 6, 7, 8, 9] rfl
  have hDc := hD.sub (ws' := kW cI h κ) [0, 1, 2, 3, 4, 5, 6, 7, 8, 9] (by decide) rfl
  refine rcI (wc := kW cI h κ) (W2 := fun _ => hW cI h ad κ d) (va_runV (As := []) (rest := [.int (nI xW)]) ⟨hx, hb, hml, hown, hts⟩ (c_X2_head l dC dI cI h H.size κ) (cwV 0 hts gL_has_X2_head rfl rfl rfl (by decide +kernel) ⟨Nat.le_of_ble_eq_true rfl, Nat.le_of_ble_eq_true rfl⟩) (pW_V hPc hK hDc (ci := 2) (q0 := 0) rfl rfl) rfl rfl hl.1 rfl (lv_room (Nat.le_of_ble_eq_true rfl)) dL_has_30 ⟨Nat.le_of_ble_eq_true rfl, Nat.le_of_ble_eq_true rfl⟩) hP hD hS hA [0, 1, 2, 3, 4, 5, 6, 7, 8, 9] [10] [1, 2, 3, 4, 5, 6, 7, 8, 9, 10, 0] rfl rfl (by decide) (fun _ => rfl) (fun r u H locs hw hP hD hS => ?_)
  obtain rfl : r = (nI xH) := hw.trans (head_v hq)
  refine lv_icmp_gt (tgt := 40) hx hb dL_has_33 (by decide) (fun c_ => absurd c_ (nI_nlt q2 (by omega))) (fun c_ => ?_)
  refine lv_iconst (v := 1) hx hb dL_has_36 (by decide) ?_
  refine lv_goto (tgt := 41) hx hb dL_has_37 (by decide) ?_
  refine lv_istore (lv' := [(5, .int 1), (4, .int (-1)), (3, .int 0), (2, .int 0), (0, .ref (h 0)), (1, .ref ad)]) hx hb dL_has_41 hl (by decide) rfl (fun ls hl => ?_)
  refine lv_iconst (v := 0) hx hb dL_has_43 (by decide) ?_
  refine lv_istore (lv' := [(6, .int 0), (5, .int 1), (4, .int (-1)), (3, .int 0), (2, .int 0), (0, .ref (h 0)), (1, .ref ad)]) hx hb dL_has_44 hl (by decide) rfl (fun ls hl => ?_)
  exact loop 64 0 rfl H locs ls hP hD hS (by rw [nI_0]; exact lv_sub hl [4, 3, 2, 1, 0, 5, 6] rfl)
