section LAW
variable {p : Program} {l : Launch} {e : Env} {R : Room} {s : State} {m : MethodId} {args : Array Value} {below : List Frame} {meth : Method} {c : Code} {H : Heap} {locs : List Loc} {cells slots : Nat} {Q : State → Prop}
variable {cc : ByteArray} {pc : Nat} {ls : Array Slot} {rest : List Value}
theorem lv_lcmpE (hexec : p.tables.exec = Jvm.exec) (hb : c.code = cc) {x : Int64} (hdg : decode cc pc = .ok (.lcmp, 1))
    (k : W p l e R s m args below meth c H locs cells slots Q (F0 m (pc + 1) ls (.int 0 :: rest))) : W p l e R s m args below meth c H locs cells slots Q (F0 m pc ls (.long x :: .long x :: rest)) := by
  intro T hT X
  obtain ⟨t, a, b⟩ := k T hT X
  refine ⟨t, ?_, b⟩
  jvm_step X.here [X.here.top, hexec, hb, hdg]
  exact a
end LAW
/-- the law's world: the class, the reference, the row -/
def LW (cI cL : ClassId) (h g : Nat → Nat) (o : Nat) (κ : KS) (μ : MS) (out : Nat → Int64) : va_W := kW cI h κ ++ (mW cI g μ ++ [(o, .inl (cL, 1, .inr (.inl out)))])
def LC (p : Program) (s : State) (m : MethodId) (c : Code) (b L : Nat) (xs : Nat → Int32) (dC : Nat → ClassId) (dI : Nat → Nat → Nat) (cI cL : ClassId) : Prop :=
  p.tables.exec = Jvm.exec ∧ c.code = cL_law ∧ c.maxLocals = 7 ∧ s.vm.findClass RL = some m.cls ∧ (∀ w ∈ wsL_law, w.before #[Value.ref b] s = true) ∧ va_X b L xs s s.heap ∧ b < s.heap.size ∧ va_K (dC, dI) vwCl [(cI, .int), (cL, .long)] s ∧ zZ (fun q : Nat => s.heap.size ≤ q) s ∧ zNc s ∧ L ≤ 1536
theorem fin_x {N : Nat} {sK sM : Prop} {x : Nat} {code rK rM r5 r7 : Int32} {κ κ' κ2 : KS} {μ' μ2 : MS} (hS : SIM N sK sM x code rK rM κ κ' μ') (hc : x = 0 → code = 0) (h1 : x = 0 → r5 = 0 ∧ κ2 = κ') (h2 : ¬ x = 0 → r5 = code ∧ κ2 = κ) (hm : μ2 = μ') (h7 : r7 = v_X3_thrown μ2) : r7 = r5 ∧ RQ κ2 μ2 (N + 96) := by
  obtain ⟨-, -, ht, a0, a1⟩ := hS
  have e7 : r7 = code := h7.trans (by rw [hm]; exact ht)
  by_cases hX : x = 0
  · obtain ⟨b1, b2⟩ := h1 hX
    exact ⟨by rw [e7, b1, hc hX], by rw [b2, hm]; exact (a0 hX).2⟩
  · obtain ⟨b1, b2⟩ := h2 hX
    exact ⟨by rw [e7, b1], by rw [b2, hm]; exact a1 hX⟩
theorem fin_i {N : Nat} {sK sM : Prop} {x : Nat} {code rK rM r5 r6 r7 : Int32} {κ κ' κ2 : KS} {μ' μ2 : MS} {o2 : Int64} (hS : SIM N sK sM x code rK rM κ κ' μ') (hc : x = 0 → code = 0) (hw : (x = 0 → r5 = 0 ∧ κ2 = κ' ∧ o2 = Int32.toInt64 rK) ∧ (¬ x = 0 → r5 = code ∧ ¬ r5 = 0 ∧ κ2 = κ)) (h6 : r6 = rM) (hm : μ2 = μ') (h7 : r7 = v_X3_thrown μ2) : r7 = r5 ∧ (r5 = 0 → Int32.toInt64 r6 = o2) ∧ RQ κ2 μ2 (N + 96) := by
  have f := fin_x hS hc (fun h => ⟨(hw.1 h).1, (hw.1 h).2.1⟩) (fun h => ⟨(hw.2 h).1, (hw.2 h).2.2⟩) hm h7
  refine ⟨f.1, fun h0 => ?_, f.2⟩
  by_cases hX : x = 0
  · rw [(hw.1 hX).2.2, h6, (hS.2.2.2.1 hX).1]
  · exact absurd h0 (hw.2 hX).2.1
theorem fin_z {N : Nat} {sK sM : Prop} {x : Nat} {code rK rM r5 r6 r7 : Int32} {κ κ' κ2 : KS} {μ' μ2 : MS} {o2 : Int64} (hS : SIM N sK sM x code rK rM κ κ' μ') (hc : x = 0 → code = 0) (hw : (x = 0 → r5 = 0 ∧ κ2 = κ' ∧ o2 = (if rK = 0 then 0 else 1 : Int64)) ∧ (¬ x = 0 → r5 = code ∧ ¬ r5 = 0 ∧ κ2 = κ)) (h6 : r6 = rM) (hm : μ2 = μ') (h7 : r7 = v_X3_thrown μ2) : r7 = r5 ∧ (r5 = 0 → o2 = (if r6 = 0 then 0 else 1 : Int64)) ∧ RQ κ2 μ2 (N + 96) := by
  have f := fin_x hS hc (fun h => ⟨(hw.1 h).1, (hw.1 h).2.1⟩) (fun h => ⟨(hw.2 h).1, (hw.2 h).2.2⟩) hm h7
  refine ⟨f.1, fun h0 => ?_, f.2⟩
  by_cases hX : x = 0
  · rw [(hw.1 hX).2.2, h6, (hS.2.2.2.1 hX).1]
  · exact absurd h0 (hw.2 hX).2.1
theorem nI_c0 {x : Nat} (h : x = 0) : nI x = 0 := by rw [h]; exact nI_0
theorem kc_c0 {x : Nat} (h : x = 0) : kc1 x = 0 := by rw [h]; rfl
theorem in_1 {i L : Nat} (h : i + 3 ≤ L) (hL : L ≤ 1536) : vp_in (nI i + 1) L := by
  rw [nI_1]
  exact vp_in_nI (by omega) (by omega)
theorem in_2 {i L : Nat} (h : i + 3 ≤ L) (hL : L ≤ 1536) : vp_in (nI i + 2) L := by
  have e : nI i + 2 = nI (i + 2) := by
    rw [← nI_1 (i + 1), ← nI_1 i, Int32.add_assoc]
    rfl
  rw [e]
  exact vp_in_nI (by omega) (by omega)
set_option maxHeartbeats 1000000 in
set_option maxRecDepth 100000 in
theorem arm_put {p : Program} {l : Launch} {e : Env} {s : State} {m : MethodId} {below : List Frame} {meth : Method} {c : Code} {b L : Nat} {xs : Nat → Int32} {dC : Nat → ClassId} {dI : Nat → Nat → Nat} {cI cL : ClassId} (hlt : l.stackTraces = false) (C0 : LC p s m c b L xs dC dI cI cL) {h g : Nat → Nat} {o i N : Nat} {κ : KS} {μ : MS} {out : Nat → Int64} (hi : i + 3 ≤ L) (hq : RQ κ μ N) (h9 : N + 96 ≤ 100000) {H : Heap} {locs : List Loc} {cells slots : Nat} {Q : State → Prop} {ls : Array Slot} (hc : cells + 1 ≤ 1051) (hs : slots + 6 ≤ 9112) (hP : va_P (dC, dI) vwCl (LW cI cL h g o κ μ out) H) (hD : va_D (fun q : Nat => s.heap.size ≤ q) (LW cI cL h g o κ μ out)) (hS : va_S (fun q : Nat => s.heap.size ≤ q) s.heap H locs) (hl : lv_has ls 7 [(0, .ref b), (1, .ref (h 0)), (2, .ref (g 0)), (3, .ref o), (4, .int (nI i))])
    (K : ∀ (κ2 : KS) (μ2 : MS) (out2 : Nat → Int64) (H2 : Heap) (locs2 : List Loc) (ls2 : Array Slot), RQ κ2 μ2 (N + 96) → va_P (dC, dI) vwCl (LW cI cL h g o κ2 μ2 out2) H2 → va_D (fun q : Nat => s.heap.size ≤ q) (LW cI cL h g o κ2 μ2 out2) → va_S (fun q : Nat => s.heap.size ≤ q) s.heap H2 locs2 → lv_has ls2 7 [(0, .ref b), (1, .ref (h 0)), (2, .ref (g 0)), (3, .ref o), (4, .int (nI i))] → W p l e room_1 s m #[Value.ref b] below meth c H2 locs2 (cells + 1) (slots + 6) Q (F0 m 1005 ls2 [])) : W p l e room_1 s m #[Value.ref b] below meth c H locs cells slots Q (F0 m 140 ls []) := by
  obtain ⟨hx, hb, hml, hown, hts, hX, hbl, hK, hZ, hNc, hL⟩ := C0
  have hA : ∀ q : Nat, s.heap.size ≤ q → (fun q : Nat => s.heap.size ≤ q) q := fun _ h => h
  have hbA : ¬ (fun q : Nat => s.heap.size ≤ q) b := Nat.not_le.mpr hbl
  have hKc := hK.sub (tys' := [(cI, .int)]) [0] rfl
  obtain ⟨P1, eP1⟩ : ∃ y : Int32, xs (nI i + 1).toNatClampNeg = y := ⟨_, rfl⟩
  obtain ⟨P2, eP2⟩ : ∃ y : Int32, xs (nI i + 2).toNatClampNeg = y := ⟨_, rfl⟩
  have hsim := sim_put hq h9 P1 P2
  have sK := hsim.1
  have sM := hsim.2.1
  refine lv_aload_n hx hb dL_law_140 rfl (lv_at hl 1 rfl) ?_
  refine lv_aload_n hx hb dL_law_141 rfl (lv_at hl 0 rfl) ?_
  refine lv_iload hx hb dL_law_142 (lv_at hl 4 rfl) ?_
  refine lv_iconst (v := 1) hx hb dL_law_144 (by decide) ?_
  refine lv_iadd hx hb dL_law_145 ?_
  refine va_sld hx hb hX hbl hbA hS (in_1 hi hL) dL_law_146 ?_
  rw [eP1]
  refine lv_aload_n hx hb dL_law_147 rfl (lv_at hl 0 rfl) ?_
  refine lv_iload hx hb dL_law_148 (lv_at hl 4 rfl) ?_
  refine lv_iconst (v := 2) hx hb dL_law_150 (by decide) ?_
  refine lv_iadd hx hb dL_law_151 ?_
  refine va_sld hx hb hX hbl hbA hS (in_2 hi hL) dL_law_152 ?_
  rw [eP2]
  refine lv_aload_n hx hb dL_law_153 rfl (lv_at hl 3 rfl) ?_
  have hPc := hP.sub (ws' := wL cI cL h o κ out) [0, 1, 2, 3, 4, 5, 6, 7, 8, 9, 16] rfl
  have hDc := hD.sub (ws' := wL cI cL h o κ out) [0, 1, 2, 3, 4, 5, 6, 7, 8, 9, 16] (by decide) rfl
  have hFc := va_free (wc := wL cI cL h o κ out) hD hS hA [0, 1, 2, 3, 4, 5, 6, 7, 8, 9, 16] rfl
  refine rcI (W2 := fun u => LW cI cL h g o u.1 μ u.2) (vx_runSW (As := [.ref (h 0), .int P1, .int P2, .ref o]) (rest := []) ⟨hx, hb, hml, hown, hts⟩ (w_put l hlt dC dI cI cL h o H.size κ out P1 P2 sK) (vx_cwSW 4 hts gL_law_L_put rfl rfl rfl (by decide +kernel) ⟨Nat.le_of_ble_eq_true rfl, Nat.le_of_ble_eq_true rfl⟩) (pL_S hPc hK hDc hZ hS hFc hNc) rfl rfl hl.1 rfl (lv_room (Nat.le_of_ble_eq_true rfl)) dL_law_154 ⟨hc, hs⟩) hP hD hS hA [0, 1, 2, 3, 4, 5, 6, 7, 8, 9, 16] [10, 11, 12, 13, 14, 15] [6, 7, 8, 9, 10, 11, 12, 13, 14, 15, 0, 1, 2, 3, 4, 5, 16] rfl rfl (by decide) (fun _ => rfl) (fun r5 u5 H locs hw hP hD hS => ?_)
  obtain ⟨κ2, out2⟩ := u5
  dsimp only at hw hP hD
  refine lv_istore (lv' := [(5, .int r5), (0, .ref b), (1, .ref (h 0)), (2, .ref (g 0)), (3, .ref o), (4, .int (nI i))]) hx hb dL_law_157 hl (by decide) rfl (fun ls hl => ?_)
  refine lv_aload_n hx hb dL_law_159 rfl (lv_at hl 3 rfl) ?_
  refine lv_aload_n hx hb dL_law_160 rfl (lv_at hl 1 rfl) ?_
  refine lv_iload hx hb dL_law_161 (lv_at hl 5 rfl) ?_
  refine lv_iconst (v := 1) hx hb dL_law_163 (by decide) ?_
  refine lv_iadd hx hb dL_law_164 ?_
  refine va_sld hx hb hX hbl hbA hS (in_1 hi hL) dL_law_165 ?_
  rw [eP1]
  refine lv_aload_n hx hb dL_law_166 rfl (lv_at hl 1 rfl) ?_
  refine lv_iload hx hb dL_law_167 (lv_at hl 5 rfl) ?_
  refine lv_iconst (v := 2) hx hb dL_law_169 (by decide) ?_
  refine lv_iadd hx hb dL_law_170 ?_
  refine va_sld hx hb hX hbl hbA hS (in_2 hi hL) dL_law_171 ?_
  rw [eP2]
  have hPc := hP.sub (ws' := mW cI g μ) [10, 11, 12, 13, 14, 15] rfl
  have hDc := hD.sub (ws' := mW cI g μ) [10, 11, 12, 13, 14, 15] (by decide) rfl
  refine rcI (W2 := fun u => LW cI cL h g o κ2 u out2) (va_runV (As := [.int P1, .int P2]) (rest := []) ⟨hx, hb, hml, hown, hts⟩ (c_X3_put l dC dI cI g H.size μ P1 P2 sM) (cwV 2 hts gL_law_X3_put rfl rfl rfl (by decide +kernel) ⟨Nat.le_of_ble_eq_true rfl, Nat.le_of_ble_eq_true rfl⟩) (pW_V hPc hKc hDc (ci := 3) (q0 := 0) rfl rfl) rfl rfl hl.1 rfl (lv_room (Nat.le_of_ble_eq_true rfl)) dL_law_172 ⟨hc, hs⟩) hP hD hS hA [10, 11, 12, 13, 14, 15] [0, 1, 2, 3, 4, 5, 6, 7, 8, 9, 16] [0, 1, 2, 3, 4, 5, 6, 7, 8, 9, 11, 12, 13, 14, 15, 16, 10] rfl rfl (by decide) (fun _ => rfl) (fun r6 μ2 H locs hv hP hD hS => ?_)
  obtain ⟨hv, hv2⟩ := hv
  refine lv_istore (lv' := [(6, .int r6), (5, .int r5), (0, .ref b), (1, .ref (h 0)), (2, .ref (g 0)), (3, .ref o), (4, .int (nI i))]) hx hb dL_law_175 hl (by decide) rfl (fun ls hl => ?_)
  refine lv_aload_n hx hb dL_law_177 rfl (lv_at hl 4 rfl) ?_
  have hPc := hP.sub (ws' := mW cI g μ2) [10, 11, 12, 13, 14, 15] rfl
  have hDc := hD.sub (ws' := mW cI g μ2) [10, 11, 12, 13, 14, 15] (by decide) rfl
  refine rcI (W2 := fun _ => LW cI cL h g o κ2 μ2 out2) (va_runV (As := []) (rest := []) ⟨hx, hb, hml, hown, hts⟩ (c_X3_thrown l dC dI cI g H.size μ2) (cwV 0 hts gL_law_X3_thrown rfl rfl rfl (by decide +kernel) ⟨Nat.le_of_ble_eq_true rfl, Nat.le_of_ble_eq_true rfl⟩) (pW_V hPc hKc hDc (ci := 3) (q0 := 0) rfl rfl) rfl rfl hl.1 rfl (lv_room (Nat.le_of_ble_eq_true rfl)) dL_law_178 ⟨hc, hs⟩) hP hD hS hA [10, 11, 12, 13, 14, 15] [0, 1, 2, 3, 4, 5, 6, 7, 8, 9, 16] [0, 1, 2, 3, 4, 5, 6, 7, 8, 9, 11, 12, 13, 14, 15, 16, 10] rfl rfl (by decide) (fun _ => rfl) (fun r7 u7 H locs hv7 hP hD hS => ?_)
  obtain ⟨e75, hO, hR⟩ := fin_i hsim nI_c0 hw hv hv2 hv7
  refine lv_iload hx hb dL_law_181 (lv_at hl 1 rfl) ?_
  refine lv_icmp_eq (tgt := 188) hx hb dL_law_183 (by decide) (fun c_1 => ?_) (fun c_1 => absurd e75 c_1)
  refine lv_iload hx hb dL_law_188 (lv_at hl 1 rfl) ?_
  refine lv_if_ne (tgt := 205) hx hb dL_law_190 (by decide) (fun c_2 => ?_) (fun c_2 => ?_)
  · refine lv_goto (tgt := 1005) hx hb dL_law_205 (by decide) ?_
    exact K κ2 μ2 out2 H locs ls hR hP hD hS (lv_sub hl [2, 3, 4, 5, 6] rfl)
  · refine lv_aload_n hx hb dL_law_193 rfl (lv_at hl 5 rfl) ?_
    refine lv_iconst (v := 0) hx hb dL_law_194 (by decide) ?_
    refine va_lald hx hb hK hP 16 1 rfl rfl in01 dL_law_195 ?_
    refine lv_iload hx hb dL_law_196 (lv_at hl 0 rfl) ?_
    refine lv_i2l (v := (out2 (0 : Int32).toNatClampNeg)) hx hb dL_law_198 ((hO c_2).trans (congrArg out2 (by decide))) ?_
    refine lv_lcmpE hx hb dL_law_199 ?_
    refine lv_if_eq (tgt := 205) hx hb dL_law_200 (by decide) (fun c_3 => ?_) (fun c_3 => absurd rfl c_3)
    refine lv_goto (tgt := 1005) hx hb dL_law_205 (by decide) ?_
    exact K κ2 μ2 out2 H locs ls hR hP hD hS (lv_sub hl [2, 3, 4, 5, 6] rfl)
set_option maxHeartbeats 1000000 in
set_option maxRecDepth 100000 in
theorem arm_delete {p : Program} {l : Launch} {e : Env} {s : State} {m : MethodId} {below : List Frame} {meth : Method} {c : Code} {b L : Nat} {xs : Nat → Int32} {dC : Nat → ClassId} {dI : Nat → Nat → Nat} {cI cL : ClassId} (hlt : l.stackTraces = false) (C0 : LC p s m c b L xs dC dI cI cL) {h g : Nat → Nat} {o i N : Nat} {κ : KS} {μ : MS} {out : Nat → Int64} (hi : i + 3 ≤ L) (hq : RQ κ μ N) (h9 : N + 96 ≤ 100000) {H : Heap} {locs : List Loc} {cells slots : Nat} {Q : State → Prop} {ls : Array Slot} (hc : cells + 1 ≤ 1051) (hs : slots + 6 ≤ 9112) (hP : va_P (dC, dI) vwCl (LW cI cL h g o κ μ out) H) (hD : va_D (fun q : Nat => s.heap.size ≤ q) (LW cI cL h g o κ μ out)) (hS : va_S (fun q : Nat => s.heap.size ≤ q) s.heap H locs) (hl : lv_has ls 7 [(0, .ref b), (1, .ref (h 0)), (2, .ref (g 0)), (3, .ref o), (4, .int (nI i))])
    (K : ∀ (κ2 : KS) (μ2 : MS) (out2 : Nat → Int64) (H2 : Heap) (locs2 : List Loc) (ls2 : Array Slot), RQ κ2 μ2 (N + 96) → va_P (dC, dI) vwCl (LW cI cL h g o κ2 μ2 out2) H2 → va_D (fun q : Nat => s.heap.size ≤ q) (LW cI cL h g o κ2 μ2 out2) → va_S (fun q : Nat => s.heap.size ≤ q) s.heap H2 locs2 → lv_has ls2 7 [(0, .ref b), (1, .ref (h 0)), (2, .ref (g 0)), (3, .ref o), (4, .int (nI i))] → W p l e room_1 s m #[Value.ref b] below meth c H2 locs2 (cells + 1) (slots + 6) Q (F0 m 1005 ls2 [])) : W p l e room_1 s m #[Value.ref b] below meth c H locs cells slots Q (F0 m 208 ls []) := by
  obtain ⟨hx, hb, hml, hown, hts, hX, hbl, hK, hZ, hNc, hL⟩ := C0
  have hA : ∀ q : Nat, s.heap.size ≤ q → (fun q : Nat => s.heap.size ≤ q) q := fun _ h => h
  have hbA : ¬ (fun q : Nat => s.heap.size ≤ q) b := Nat.not_le.mpr hbl
  have hKc := hK.sub (tys' := [(cI, .int)]) [0] rfl
  obtain ⟨P1, eP1⟩ : ∃ y : Int32, xs (nI i + 1).toNatClampNeg = y := ⟨_, rfl⟩
  have hsim := sim_delete hq h9 P1
  have sK := hsim.1
  have sM := hsim.2.1
  refine lv_aload_n hx hb dL_law_208 rfl (lv_at hl 1 rfl) ?_
  refine lv_aload_n hx hb dL_law_209 rfl (lv_at hl 0 rfl) ?_
  refine lv_iload hx hb dL_law_210 (lv_at hl 4 rfl) ?_
  refine lv_iconst (v := 1) hx hb dL_law_212 (by decide) ?_
  refine lv_iadd hx hb dL_law_213 ?_
  refine va_sld hx hb hX hbl hbA hS (in_1 hi hL) dL_law_214 ?_
  rw [eP1]
  refine lv_aload_n hx hb dL_law_215 rfl (lv_at hl 3 rfl) ?_
  have hPc := hP.sub (ws' := wL cI cL h o κ out) [0, 1, 2, 3, 4, 5, 6, 7, 8, 9, 16] rfl
  have hDc := hD.sub (ws' := wL cI cL h o κ out) [0, 1, 2, 3, 4, 5, 6, 7, 8, 9, 16] (by decide) rfl
  have hFc := va_free (wc := wL cI cL h o κ out) hD hS hA [0, 1, 2, 3, 4, 5, 6, 7, 8, 9, 16] rfl
  refine rcI (W2 := fun u => LW cI cL h g o u.1 μ u.2) (vx_runSW (As := [.ref (h 0), .int P1, .ref o]) (rest := []) ⟨hx, hb, hml, hown, hts⟩ (w_delete l hlt dC dI cI cL h o H.size κ out P1 sK) (vx_cwSW 3 hts gL_law_L_delete rfl rfl rfl (by decide +kernel) ⟨Nat.le_of_ble_eq_true rfl, Nat.le_of_ble_eq_true rfl⟩) (pL_S hPc hK hDc hZ hS hFc hNc) rfl rfl hl.1 rfl (lv_room (Nat.le_of_ble_eq_true rfl)) dL_law_216 ⟨hc, hs⟩) hP hD hS hA [0, 1, 2, 3, 4, 5, 6, 7, 8, 9, 16] [10, 11, 12, 13, 14, 15] [6, 7, 8, 9, 10, 11, 12, 13, 14, 15, 0, 1, 2, 3, 4, 5, 16] rfl rfl (by decide) (fun _ => rfl) (fun r5 u5 H locs hw hP hD hS => ?_)
  obtain ⟨κ2, out2⟩ := u5
  dsimp only at hw hP hD
  refine lv_istore (lv' := [(5, .int r5), (0, .ref b), (1, .ref (h 0)), (2, .ref (g 0)), (3, .ref o), (4, .int (nI i))]) hx hb dL_law_219 hl (by decide) rfl (fun ls hl => ?_)
  refine lv_aload_n hx hb dL_law_221 rfl (lv_at hl 3 rfl) ?_
  refine lv_aload_n hx hb dL_law_222 rfl (lv_at hl 1 rfl) ?_
  refine lv_iload hx hb dL_law_223 (lv_at hl 5 rfl) ?_
  refine lv_iconst (v := 1) hx hb dL_law_225 (by decide) ?_
  refine lv_iadd hx hb dL_law_226 ?_
  refine va_sld hx hb hX hbl hbA hS (in_1 hi hL) dL_law_227 ?_
  rw [eP1]
  have hPc := hP.sub (ws' := mW cI g μ) [10, 11, 12, 13, 14, 15] rfl
  have hDc := hD.sub (ws' := mW cI g μ) [10, 11, 12, 13, 14, 15] (by decide) rfl
  refine rcI (W2 := fun u => LW cI cL h g o κ2 u out2) (va_runV (As := [.int P1]) (rest := []) ⟨hx, hb, hml, hown, hts⟩ (c_X3_delete l dC dI cI g H.size μ P1 sM) (cwV 1 hts gL_law_X3_delete rfl rfl rfl (by decide +kernel) ⟨Nat.le_of_ble_eq_true rfl, Nat.le_of_ble_eq_true rfl⟩) (pW_V hPc hKc hDc (ci := 3) (q0 := 0) rfl rfl) rfl rfl hl.1 rfl (lv_room (Nat.le_of_ble_eq_true rfl)) dL_law_228 ⟨hc, hs⟩) hP hD hS hA [10, 11, 12, 13, 14, 15] [0, 1, 2, 3, 4, 5, 6, 7, 8, 9, 16] [0, 1, 2, 3, 4, 5, 6, 7, 8, 9, 11, 12, 13, 14, 15, 16, 10] rfl rfl (by decide) (fun _ => rfl) (fun r6 μ2 H locs hv hP hD hS => ?_)
  obtain ⟨hv, hv2⟩ := hv
  refine lv_istore (lv' := [(6, .int r6), (5, .int r5), (0, .ref b), (1, .ref (h 0)), (2, .ref (g 0)), (3, .ref o), (4, .int (nI i))]) hx hb dL_law_231 hl (by decide) rfl (fun ls hl => ?_)
  refine lv_aload_n hx hb dL_law_233 rfl (lv_at hl 4 rfl) ?_
  have hPc := hP.sub (ws' := mW cI g μ2) [10, 11, 12, 13, 14, 15] rfl
  have hDc := hD.sub (ws' := mW cI g μ2) [10, 11, 12, 13, 14, 15] (by decide) rfl
  refine rcI (W2 := fun _ => LW cI cL h g o κ2 μ2 out2) (va_runV (As := []) (rest := []) ⟨hx, hb, hml, hown, hts⟩ (c_X3_thrown l dC dI cI g H.size μ2) (cwV 0 hts gL_law_X3_thrown rfl rfl rfl (by decide +kernel) ⟨Nat.le_of_ble_eq_true rfl, Nat.le_of_ble_eq_true rfl⟩) (pW_V hPc hKc hDc (ci := 3) (q0 := 0) rfl rfl) rfl rfl hl.1 rfl (lv_room (Nat.le_of_ble_eq_true rfl)) dL_law_234 ⟨hc, hs⟩) hP hD hS hA [10, 11, 12, 13, 14, 15] [0, 1, 2, 3, 4, 5, 6, 7, 8, 9, 16] [0, 1, 2, 3, 4, 5, 6, 7, 8, 9, 11, 12, 13, 14, 15, 16, 10] rfl rfl (by decide) (fun _ => rfl) (fun r7 u7 H locs hv7 hP hD hS => ?_)
  obtain ⟨e75, hO, hR⟩ := fin_i hsim nI_c0 hw hv hv2 hv7
  refine lv_iload hx hb dL_law_237 (lv_at hl 1 rfl) ?_
  refine lv_icmp_eq (tgt := 244) hx hb dL_law_239 (by decide) (fun c_1 => ?_) (fun c_1 => absurd e75 c_1)
  refine lv_iload hx hb dL_law_244 (lv_at hl 1 rfl) ?_
  refine lv_if_ne (tgt := 261) hx hb dL_law_246 (by decide) (fun c_2 => ?_) (fun c_2 => ?_)
  · refine lv_goto (tgt := 1005) hx hb dL_law_261 (by decide) ?_
    exact K κ2 μ2 out2 H locs ls hR hP hD hS (lv_sub hl [2, 3, 4, 5, 6] rfl)
  · refine lv_aload_n hx hb dL_law_249 rfl (lv_at hl 5 rfl) ?_
    refine lv_iconst (v := 0) hx hb dL_law_250 (by decide) ?_
    refine va_lald hx hb hK hP 16 1 rfl rfl in01 dL_law_251 ?_
    refine lv_iload hx hb dL_law_252 (lv_at hl 0 rfl) ?_
    refine lv_i2l (v := (out2 (0 : Int32).toNatClampNeg)) hx hb dL_law_254 ((hO c_2).trans (congrArg out2 (by decide))) ?_
    refine lv_lcmpE hx hb dL_law_255 ?_
    refine lv_if_eq (tgt := 261) hx hb dL_law_256 (by decide) (fun c_3 => ?_) (fun c_3 => absurd rfl c_3)
    refine lv_goto (tgt := 1005) hx hb dL_law_261 (by decide) ?_
    exact K κ2 μ2 out2 H locs ls hR hP hD hS (lv_sub hl [2, 3, 4, 5, 6] rfl)
set_option maxHeartbeats 1000000 in
set_option maxRecDepth 100000 in
theorem arm_get {p : Program} {l : Launch} {e : Env} {s : State} {m : MethodId} {below : List Frame} {meth : Method} {c : Code} {b L : Nat} {xs : Nat → Int32} {dC : Nat → ClassId} {dI : Nat → Nat → Nat} {cI cL : ClassId} (hlt : l.stackTraces = false) (C0 : LC p s m c b L xs dC dI cI cL) {h g : Nat → Nat} {o i N : Nat} {κ : KS} {μ : MS} {out : Nat → Int64} (hi : i + 3 ≤ L) (hq : RQ κ μ N) (h9 : N + 96 ≤ 100000) {H : Heap} {locs : List Loc} {cells slots : Nat} {Q : State → Prop} {ls : Array Slot} (hc : cells + 1 ≤ 1051) (hs : slots + 6 ≤ 9112) (hP : va_P (dC, dI) vwCl (LW cI cL h g o κ μ out) H) (hD : va_D (fun q : Nat => s.heap.size ≤ q) (LW cI cL h g o κ μ out)) (hS : va_S (fun q : Nat => s.heap.size ≤ q) s.heap H locs) (hl : lv_has ls 7 [(0, .ref b), (1, .ref (h 0)), (2, .ref (g 0)), (3, .ref o), (4, .int (nI i))])
    (K : ∀ (κ2 : KS) (μ2 : MS) (out2 : Nat → Int64) (H2 : Heap) (locs2 : List Loc) (ls2 : Array Slot), RQ κ2 μ2 (N + 96) → va_P (dC, dI) vwCl (LW cI cL h g o κ2 μ2 out2) H2 → va_D (fun q : Nat => s.heap.size ≤ q) (LW cI cL h g o κ2 μ2 out2) → va_S (fun q : Nat => s.heap.size ≤ q) s.heap H2 locs2 → lv_has ls2 7 [(0, .ref b), (1, .ref (h 0)), (2, .ref (g 0)), (3, .ref o), (4, .int (nI i))] → W p l e room_1 s m #[Value.ref b] below meth c H2 locs2 (cells + 1) (slots + 6) Q (F0 m 1005 ls2 [])) : W p l e room_1 s m #[Value.ref b] below meth c H locs cells slots Q (F0 m 264 ls []) := by
  obtain ⟨hx, hb, hml, hown, hts, hX, hbl, hK, hZ, hNc, hL⟩ := C0
  have hA : ∀ q : Nat, s.heap.size ≤ q → (fun q : Nat => s.heap.size ≤ q) q := fun _ h => h
  have hbA : ¬ (fun q : Nat => s.heap.size ≤ q) b := Nat.not_le.mpr hbl
  have hKc := hK.sub (tys' := [(cI, .int)]) [0] rfl
  obtain ⟨P1, eP1⟩ : ∃ y : Int32, xs (nI i + 1).toNatClampNeg = y := ⟨_, rfl⟩
  have hsim := sim_get hq h9 P1
  have sK := hsim.1
  have sM := hsim.2.1
  refine lv_aload_n hx hb dL_law_264 rfl (lv_at hl 1 rfl) ?_
  refine lv_aload_n hx hb dL_law_265 rfl (lv_at hl 0 rfl) ?_
  refine lv_iload hx hb dL_law_266 (lv_at hl 4 rfl) ?_
  refine lv_iconst (v := 1) hx hb dL_law_268 (by decide) ?_
  refine lv_iadd hx hb dL_law_269 ?_
  refine va_sld hx hb hX hbl hbA hS (in_1 hi hL) dL_law_270 ?_
  rw [eP1]
  refine lv_aload_n hx hb dL_law_271 rfl (lv_at hl 3 rfl) ?_
  have hPc := hP.sub (ws' := wL cI cL h o κ out) [0, 1, 2, 3, 4, 5, 6, 7, 8, 9, 16] rfl
  have hDc := hD.sub (ws' := wL cI cL h o κ out) [0, 1, 2, 3, 4, 5, 6, 7, 8, 9, 16] (by decide) rfl
  have hFc := va_free (wc := wL cI cL h o κ out) hD hS hA [0, 1, 2, 3, 4, 5, 6, 7, 8, 9, 16] rfl
  refine rcI (W2 := fun u => LW cI cL h g o u.1 μ u.2) (vx_runSW (As := [.ref (h 0), .int P1, .ref o]) (rest := []) ⟨hx, hb, hml, hown, hts⟩ (w_get l hlt dC dI cI cL h o H.size κ out P1 sK) (vx_cwSW 3 hts gL_law_L_get rfl rfl rfl (by decide +kernel) ⟨Nat.le_of_ble_eq_true rfl, Nat.le_of_ble_eq_true rfl⟩) (pL_S hPc hK hDc hZ hS hFc hNc) rfl rfl hl.1 rfl (lv_room (Nat.le_of_ble_eq_true rfl)) dL_law_272 ⟨hc, hs⟩) hP hD hS hA [0, 1, 2, 3, 4, 5, 6, 7, 8, 9, 16] [10, 11, 12, 13, 14, 15] [6, 7, 8, 9, 10, 11, 12, 13, 14, 15, 0, 1, 2, 3, 4, 5, 16] rfl rfl (by decide) (fun _ => rfl) (fun r5 u5 H locs hw hP hD hS => ?_)
  obtain ⟨κ2, out2⟩ := u5
  dsimp only at hw hP hD
  refine lv_istore (lv' := [(5, .int r5), (0, .ref b), (1, .ref (h 0)), (2, .ref (g 0)), (3, .ref o), (4, .int (nI i))]) hx hb dL_law_275 hl (by decide) rfl (fun ls hl => ?_)
  refine lv_aload_n hx hb dL_law_277 rfl (lv_at hl 3 rfl) ?_
  refine lv_aload_n hx hb dL_law_278 rfl (lv_at hl 1 rfl) ?_
  refine lv_iload hx hb dL_law_279 (lv_at hl 5 rfl) ?_
  refine lv_iconst (v := 1) hx hb dL_law_281 (by decide) ?_
  refine lv_iadd hx hb dL_law_282 ?_
  refine va_sld hx hb hX hbl hbA hS (in_1 hi hL) dL_law_283 ?_
  rw [eP1]
  have hPc := hP.sub (ws' := mW cI g μ) [10, 11, 12, 13, 14, 15] rfl
  have hDc := hD.sub (ws' := mW cI g μ) [10, 11, 12, 13, 14, 15] (by decide) rfl
  refine rcI (W2 := fun u => LW cI cL h g o κ2 u out2) (va_runV (As := [.int P1]) (rest := []) ⟨hx, hb, hml, hown, hts⟩ (c_X3_get l dC dI cI g H.size μ P1 sM) (cwV 1 hts gL_law_X3_get rfl rfl rfl (by decide +kernel) ⟨Nat.le_of_ble_eq_true rfl, Nat.le_of_ble_eq_true rfl⟩) (pW_V hPc hKc hDc (ci := 3) (q0 := 0) rfl rfl) rfl rfl hl.1 rfl (lv_room (Nat.le_of_ble_eq_true rfl)) dL_law_284 ⟨hc, hs⟩) hP hD hS hA [10, 11, 12, 13, 14, 15] [0, 1, 2, 3, 4, 5, 6, 7, 8, 9, 16] [0, 1, 2, 3, 4, 5, 6, 7, 8, 9, 11, 12, 13, 14, 15, 16, 10] rfl rfl (by decide) (fun _ => rfl) (fun r6 μ2 H locs hv hP hD hS => ?_)
  obtain ⟨hv, hv2⟩ := hv
  refine lv_istore (lv' := [(6, .int r6), (5, .int r5), (0, .ref b), (1, .ref (h 0)), (2, .ref (g 0)), (3, .ref o), (4, .int (nI i))]) hx hb dL_law_287 hl (by decide) rfl (fun ls hl => ?_)
  refine lv_aload_n hx hb dL_law_289 rfl (lv_at hl 4 rfl) ?_
  have hPc := hP.sub (ws' := mW cI g μ2) [10, 11, 12, 13, 14, 15] rfl
  have hDc := hD.sub (ws' := mW cI g μ2) [10, 11, 12, 13, 14, 15] (by decide) rfl
  refine rcI (W2 := fun _ => LW cI cL h g o κ2 μ2 out2) (va_runV (As := []) (rest := []) ⟨hx, hb, hml, hown, hts⟩ (c_X3_thrown l dC dI cI g H.size μ2) (cwV 0 hts gL_law_X3_thrown rfl rfl rfl (by decide +kernel) ⟨Nat.le_of_ble_eq_true rfl, Nat.le_of_ble_eq_true rfl⟩) (pW_V hPc hKc hDc (ci := 3) (q0 := 0) rfl rfl) rfl rfl hl.1 rfl (lv_room (Nat.le_of_ble_eq_true rfl)) dL_law_290 ⟨hc, hs⟩) hP hD hS hA [10, 11, 12, 13, 14, 15] [0, 1, 2, 3, 4, 5, 6, 7, 8, 9, 16] [0, 1, 2, 3, 4, 5, 6, 7, 8, 9, 11, 12, 13, 14, 15, 16, 10] rfl rfl (by decide) (fun _ => rfl) (fun r7 u7 H locs hv7 hP hD hS => ?_)
  obtain ⟨e75, hO, hR⟩ := fin_i hsim nI_c0 hw hv hv2 hv7
  refine lv_iload hx hb dL_law_293 (lv_at hl 1 rfl) ?_
  refine lv_icmp_eq (tgt := 300) hx hb dL_law_295 (by decide) (fun c_1 => ?_) (fun c_1 => absurd e75 c_1)
  refine lv_iload hx hb dL_law_300 (lv_at hl 1 rfl) ?_
  refine lv_if_ne (tgt := 317) hx hb dL_law_302 (by decide) (fun c_2 => ?_) (fun c_2 => ?_)
  · refine lv_goto (tgt := 1005) hx hb dL_law_317 (by decide) ?_
    exact K κ2 μ2 out2 H locs ls hR hP hD hS (lv_sub hl [2, 3, 4, 5, 6] rfl)
  · refine lv_aload_n hx hb dL_law_305 rfl (lv_at hl 5 rfl) ?_
    refine lv_iconst (v := 0) hx hb dL_law_306 (by decide) ?_
    refine va_lald hx hb hK hP 16 1 rfl rfl in01 dL_law_307 ?_
    refine lv_iload hx hb dL_law_308 (lv_at hl 0 rfl) ?_
    refine lv_i2l (v := (out2 (0 : Int32).toNatClampNeg)) hx hb dL_law_310 ((hO c_2).trans (congrArg out2 (by decide))) ?_
    refine lv_lcmpE hx hb dL_law_311 ?_
    refine lv_if_eq (tgt := 317) hx hb dL_law_312 (by decide) (fun c_3 => ?_) (fun c_3 => absurd rfl c_3)
    refine lv_goto (tgt := 1005) hx hb dL_law_317 (by decide) ?_
    exact K κ2 μ2 out2 H locs ls hR hP hD hS (lv_sub hl [2, 3, 4, 5, 6] rfl)
set_option maxHeartbeats 1000000 in
set_option maxRecDepth 100000 in
theorem arm_next {p : Program} {l : Launch} {e : Env} {s : State} {m : MethodId} {below : List Frame} {meth : Method} {c : Code} {b L : Nat} {xs : Nat → Int32} {dC : Nat → ClassId} {dI : Nat → Nat → Nat} {cI cL : ClassId} (hlt : l.stackTraces = false) (C0 : LC p s m c b L xs dC dI cI cL) {h g : Nat → Nat} {o i N : Nat} {κ : KS} {μ : MS} {out : Nat → Int64} (hi : i + 3 ≤ L) (hq : RQ κ μ N) (h9 : N + 96 ≤ 100000) {H : Heap} {locs : List Loc} {cells slots : Nat} {Q : State → Prop} {ls : Array Slot} (hc : cells + 1 ≤ 1051) (hs : slots + 6 ≤ 9112) (hP : va_P (dC, dI) vwCl (LW cI cL h g o κ μ out) H) (hD : va_D (fun q : Nat => s.heap.size ≤ q) (LW cI cL h g o κ μ out)) (hS : va_S (fun q : Nat => s.heap.size ≤ q) s.heap H locs) (hl : lv_has ls 7 [(0, .ref b), (1, .ref (h 0)), (2, .ref (g 0)), (3, .ref o), (4, .int (nI i))])
    (K : ∀ (κ2 : KS) (μ2 : MS) (out2 : Nat → Int64) (H2 : Heap) (locs2 : List Loc) (ls2 : Array Slot), RQ κ2 μ2 (N + 96) → va_P (dC, dI) vwCl (LW cI cL h g o κ2 μ2 out2) H2 → va_D (fun q : Nat => s.heap.size ≤ q) (LW cI cL h g o κ2 μ2 out2) → va_S (fun q : Nat => s.heap.size ≤ q) s.heap H2 locs2 → lv_has ls2 7 [(0, .ref b), (1, .ref (h 0)), (2, .ref (g 0)), (3, .ref o), (4, .int (nI i))] → W p l e room_1 s m #[Value.ref b] below meth c H2 locs2 (cells + 1) (slots + 6) Q (F0 m 1005 ls2 [])) : W p l e room_1 s m #[Value.ref b] below meth c H locs cells slots Q (F0 m 320 ls []) := by
  obtain ⟨hx, hb, hml, hown, hts, hX, hbl, hK, hZ, hNc, hL⟩ := C0
  have hA : ∀ q : Nat, s.heap.size ≤ q → (fun q : Nat => s.heap.size ≤ q) q := fun _ h => h
  have hbA : ¬ (fun q : Nat => s.heap.size ≤ q) b := Nat.not_le.mpr hbl
  have hKc := hK.sub (tys' := [(cI, .int)]) [0] rfl
  obtain ⟨P1, eP1⟩ : ∃ y : Int32, xs (nI i + 1).toNatClampNeg = y := ⟨_, rfl⟩
  have hsim := sim_next hq h9 P1
  have sK := hsim.1
  have sM := hsim.2.1
  refine lv_aload_n hx hb dL_law_320 rfl (lv_at hl 1 rfl) ?_
  refine lv_aload_n hx hb dL_law_321 rfl (lv_at hl 0 rfl) ?_
  refine lv_iload hx hb dL_law_322 (lv_at hl 4 rfl) ?_
  refine lv_iconst (v := 1) hx hb dL_law_324 (by decide) ?_
  refine lv_iadd hx hb dL_law_325 ?_
  refine va_sld hx hb hX hbl hbA hS (in_1 hi hL) dL_law_326 ?_
  rw [eP1]
  refine lv_aload_n hx hb dL_law_327 rfl (lv_at hl 3 rfl) ?_
  have hPc := hP.sub (ws' := wL cI cL h o κ out) [0, 1, 2, 3, 4, 5, 6, 7, 8, 9, 16] rfl
  have hDc := hD.sub (ws' := wL cI cL h o κ out) [0, 1, 2, 3, 4, 5, 6, 7, 8, 9, 16] (by decide) rfl
  have hFc := va_free (wc := wL cI cL h o κ out) hD hS hA [0, 1, 2, 3, 4, 5, 6, 7, 8, 9, 16] rfl
  refine rcI (W2 := fun u => LW cI cL h g o u.1 μ u.2) (vx_runSW (As := [.ref (h 0), .int P1, .ref o]) (rest := []) ⟨hx, hb, hml, hown, hts⟩ (w_next l hlt dC dI cI cL h o H.size κ out P1 sK) (vx_cwSW 3 hts gL_law_L_next rfl rfl rfl (by decide +kernel) ⟨Nat.le_of_ble_eq_true rfl, Nat.le_of_ble_eq_true rfl⟩) (pL_S hPc hK hDc hZ hS hFc hNc) rfl rfl hl.1 rfl (lv_room (Nat.le_of_ble_eq_true rfl)) dL_law_328 ⟨hc, hs⟩) hP hD hS hA [0, 1, 2, 3, 4, 5, 6, 7, 8, 9, 16] [10, 11, 12, 13, 14, 15] [6, 7, 8, 9, 10, 11, 12, 13, 14, 15, 0, 1, 2, 3, 4, 5, 16] rfl rfl (by decide) (fun _ => rfl) (fun r5 u5 H locs hw hP hD hS => ?_)
  obtain ⟨κ2, out2⟩ := u5
  dsimp only at hw hP hD
  refine lv_istore (lv' := [(5, .int r5), (0, .ref b), (1, .ref (h 0)), (2, .ref (g 0)), (3, .ref o), (4, .int (nI i))]) hx hb dL_law_331 hl (by decide) rfl (fun ls hl => ?_)
  refine lv_aload_n hx hb dL_law_333 rfl (lv_at hl 3 rfl) ?_
  refine lv_aload_n hx hb dL_law_334 rfl (lv_at hl 1 rfl) ?_
  refine lv_iload hx hb dL_law_335 (lv_at hl 5 rfl) ?_
  refine lv_iconst (v := 1) hx hb dL_law_337 (by decide) ?_
  refine lv_iadd hx hb dL_law_338 ?_
  refine va_sld hx hb hX hbl hbA hS (in_1 hi hL) dL_law_339 ?_
  rw [eP1]
  have hPc := hP.sub (ws' := mW cI g μ) [10, 11, 12, 13, 14, 15] rfl
  have hDc := hD.sub (ws' := mW cI g μ) [10, 11, 12, 13, 14, 15] (by decide) rfl
  refine rcI (W2 := fun u => LW cI cL h g o κ2 u out2) (va_runV (As := [.int P1]) (rest := []) ⟨hx, hb, hml, hown, hts⟩ (c_X3_next l dC dI cI g H.size μ P1 sM) (cwV 1 hts gL_law_X3_next rfl rfl rfl (by decide +kernel) ⟨Nat.le_of_ble_eq_true rfl, Nat.le_of_ble_eq_true rfl⟩) (pW_V hPc hKc hDc (ci := 3) (q0 := 0) rfl rfl) rfl rfl hl.1 rfl (lv_room (Nat.le_of_ble_eq_true rfl)) dL_law_340 ⟨hc, hs⟩) hP hD hS hA [10, 11, 12, 13, 14, 15] [0, 1, 2, 3, 4, 5, 6, 7, 8, 9, 16] [0, 1, 2, 3, 4, 5, 6, 7, 8, 9, 11, 12, 13, 14, 15, 16, 10] rfl rfl (by decide) (fun _ => rfl) (fun r6 μ2 H locs hv hP hD hS => ?_)
  obtain ⟨hv, hv2⟩ := hv
  refine lv_istore (lv' := [(6, .int r6), (5, .int r5), (0, .ref b), (1, .ref (h 0)), (2, .ref (g 0)), (3, .ref o), (4, .int (nI i))]) hx hb dL_law_343 hl (by decide) rfl (fun ls hl => ?_)
  refine lv_aload_n hx hb dL_law_345 rfl (lv_at hl 4 rfl) ?_
  have hPc := hP.sub (ws' := mW cI g μ2) [10, 11, 12, 13, 14, 15] rfl
  have hDc := hD.sub (ws' := mW cI g μ2) [10, 11, 12, 13, 14, 15] (by decide) rfl
  refine rcI (W2 := fun _ => LW cI cL h g o κ2 μ2 out2) (va_runV (As := []) (rest := []) ⟨hx, hb, hml, hown, hts⟩ (c_X3_thrown l dC dI cI g H.size μ2) (cwV 0 hts gL_law_X3_thrown rfl rfl rfl (by decide +kernel) ⟨Nat.le_of_ble_eq_true rfl, Nat.le_of_ble_eq_true rfl⟩) (pW_V hPc hKc hDc (ci := 3) (q0 := 0) rfl rfl) rfl rfl hl.1 rfl (lv_room (Nat.le_of_ble_eq_true rfl)) dL_law_346 ⟨hc, hs⟩) hP hD hS hA [10, 11, 12, 13, 14, 15] [0, 1, 2, 3, 4, 5, 6, 7, 8, 9, 16] [0, 1, 2, 3, 4, 5, 6, 7, 8, 9, 11, 12, 13, 14, 15, 16, 10] rfl rfl (by decide) (fun _ => rfl) (fun r7 u7 H locs hv7 hP hD hS => ?_)
  obtain ⟨e75, hO, hR⟩ := fin_i hsim nI_c0 hw hv hv2 hv7
  refine lv_iload hx hb dL_law_349 (lv_at hl 1 rfl) ?_
  refine lv_icmp_eq (tgt := 356) hx hb dL_law_351 (by decide) (fun c_1 => ?_) (fun c_1 => absurd e75 c_1)
  refine lv_iload hx hb dL_law_356 (lv_at hl 1 rfl) ?_
  refine lv_if_ne (tgt := 373) hx hb dL_law_358 (by decide) (fun c_2 => ?_) (fun c_2 => ?_)
  · refine lv_goto (tgt := 1005) hx hb dL_law_373 (by decide) ?_
    exact K κ2 μ2 out2 H locs ls hR hP hD hS (lv_sub hl [2, 3, 4, 5, 6] rfl)
  · refine lv_aload_n hx hb dL_law_361 rfl (lv_at hl 5 rfl) ?_
    refine lv_iconst (v := 0) hx hb dL_law_362 (by decide) ?_
    refine va_lald hx hb hK hP 16 1 rfl rfl in01 dL_law_363 ?_
    refine lv_iload hx hb dL_law_364 (lv_at hl 0 rfl) ?_
    refine lv_i2l (v := (out2 (0 : Int32).toNatClampNeg)) hx hb dL_law_366 ((hO c_2).trans (congrArg out2 (by decide))) ?_
    refine lv_lcmpE hx hb dL_law_367 ?_
    refine lv_if_eq (tgt := 373) hx hb dL_law_368 (by decide) (fun c_3 => ?_) (fun c_3 => absurd rfl c_3)
    refine lv_goto (tgt := 1005) hx hb dL_law_373 (by decide) ?_
    exact K κ2 μ2 out2 H locs ls hR hP hD hS (lv_sub hl [2, 3, 4, 5, 6] rfl)
set_option maxHeartbeats 1000000 in
set_option maxRecDepth 100000 in
theorem arm_sum {p : Program} {l : Launch} {e : Env} {s : State} {m : MethodId} {below : List Frame} {meth : Method} {c : Code} {b L : Nat} {xs : Nat → Int32} {dC : Nat → ClassId} {dI : Nat → Nat → Nat} {cI cL : ClassId} (hlt : l.stackTraces = false) (C0 : LC p s m c b L xs dC dI cI cL) {h g : Nat → Nat} {o i N : Nat} {κ : KS} {μ : MS} {out : Nat → Int64} (hi : i + 3 ≤ L) (hq : RQ κ μ N) (h9 : N + 96 ≤ 100000) {H : Heap} {locs : List Loc} {cells slots : Nat} {Q : State → Prop} {ls : Array Slot} (hc : cells + 1 ≤ 1051) (hs : slots + 6 ≤ 9112) (hP : va_P (dC, dI) vwCl (LW cI cL h g o κ μ out) H) (hD : va_D (fun q : Nat => s.heap.size ≤ q) (LW cI cL h g o κ μ out)) (hS : va_S (fun q : Nat => s.heap.size ≤ q) s.heap H locs) (hl : lv_has ls 7 [(0, .ref b), (1, .ref (h 0)), (2, .ref (g 0)), (3, .ref o), (4, .int (nI i))])
    (K : ∀ (κ2 : KS) (μ2 : MS) (out2 : Nat → Int64) (H2 : Heap) (locs2 : List Loc) (ls2 : Array Slot), RQ κ2 μ2 (N + 96) → va_P (dC, dI) vwCl (LW cI cL h g o κ2 μ2 out2) H2 → va_D (fun q : Nat => s.heap.size ≤ q) (LW cI cL h g o κ2 μ2 out2) → va_S (fun q : Nat => s.heap.size ≤ q) s.heap H2 locs2 → lv_has ls2 7 [(0, .ref b), (1, .ref (h 0)), (2, .ref (g 0)), (3, .ref o), (4, .int (nI i))] → W p l e room_1 s m #[Value.ref b] below meth c H2 locs2 (cells + 1) (slots + 6) Q (F0 m 1005 ls2 [])) : W p l e room_1 s m #[Value.ref b] below meth c H locs cells slots Q (F0 m 376 ls []) := by
  obtain ⟨hx, hb, hml, hown, hts, hX, hbl, hK, hZ, hNc, hL⟩ := C0
  have hA : ∀ q : Nat, s.heap.size ≤ q → (fun q : Nat => s.heap.size ≤ q) q := fun _ h => h
  have hbA : ¬ (fun q : Nat => s.heap.size ≤ q) b := Nat.not_le.mpr hbl
  have hKc := hK.sub (tys' := [(cI, .int)]) [0] rfl
  obtain ⟨P1, eP1⟩ : ∃ y : Int32, xs (nI i + 1).toNatClampNeg = y := ⟨_, rfl⟩
  obtain ⟨P2, eP2⟩ : ∃ y : Int32, xs (nI i + 2).toNatClampNeg = y := ⟨_, rfl⟩
  have hsim := sim_sum hq h9 P1 P2
  have sK := hsim.1
  have sM := hsim.2.1
  refine lv_aload_n hx hb dL_law_376 rfl (lv_at hl 1 rfl) ?_
  refine lv_aload_n hx hb dL_law_377 rfl (lv_at hl 0 rfl) ?_
  refine lv_iload hx hb dL_law_378 (lv_at hl 4 rfl) ?_
  refine lv_iconst (v := 1) hx hb dL_law_380 (by decide) ?_
  refine lv_iadd hx hb dL_law_381 ?_
  refine va_sld hx hb hX hbl hbA hS (in_1 hi hL) dL_law_382 ?_
  rw [eP1]
  refine lv_aload_n hx hb dL_law_383 rfl (lv_at hl 0 rfl) ?_
  refine lv_iload hx hb dL_law_384 (lv_at hl 4 rfl) ?_
  refine lv_iconst (v := 2) hx hb dL_law_386 (by decide) ?_
  refine lv_iadd hx hb dL_law_387 ?_
  refine va_sld hx hb hX hbl hbA hS (in_2 hi hL) dL_law_388 ?_
  rw [eP2]
  refine lv_aload_n hx hb dL_law_389 rfl (lv_at hl 3 rfl) ?_
  have hPc := hP.sub (ws' := wL cI cL h o κ out) [0, 1, 2, 3, 4, 5, 6, 7, 8, 9, 16] rfl
  have hDc := hD.sub (ws' := wL cI cL h o κ out) [0, 1, 2, 3, 4, 5, 6, 7, 8, 9, 16] (by decide) rfl
  have hFc := va_free (wc := wL cI cL h o κ out) hD hS hA [0, 1, 2, 3, 4, 5, 6, 7, 8, 9, 16] rfl
  refine rcI (W2 := fun u => LW cI cL h g o u.1 μ u.2) (vx_runSW (As := [.ref (h 0), .int P1, .int P2, .ref o]) (rest := []) ⟨hx, hb, hml, hown, hts⟩ (w_sum l hlt dC dI cI cL h o H.size κ out P1 P2 sK) (vx_cwSW 4 hts gL_law_L_sum rfl rfl rfl (by decide +kernel) ⟨Nat.le_of_ble_eq_true rfl, Nat.le_of_ble_eq_true rfl⟩) (pL_S hPc hK hDc hZ hS hFc hNc) rfl rfl hl.1 rfl (lv_room (Nat.le_of_ble_eq_true rfl)) dL_law_390 ⟨hc, hs⟩) hP hD hS hA [0, 1, 2, 3, 4, 5, 6, 7, 8, 9, 16] [10, 11, 12, 13, 14, 15] [6, 7, 8, 9, 10, 11, 12, 13, 14, 15, 0, 1, 2, 3, 4, 5, 16] rfl rfl (by decide) (fun _ => rfl) (fun r5 u5 H locs hw hP hD hS => ?_)
  obtain ⟨κ2, out2⟩ := u5
  dsimp only at hw hP hD
  refine lv_istore (lv' := [(5, .int r5), (0, .ref b), (1, .ref (h 0)), (2, .ref (g 0)), (3, .ref o), (4, .int (nI i))]) hx hb dL_law_393 hl (by decide) rfl (fun ls hl => ?_)
  refine lv_aload_n hx hb dL_law_395 rfl (lv_at hl 3 rfl) ?_
  refine lv_aload_n hx hb dL_law_396 rfl (lv_at hl 1 rfl) ?_
  refine lv_iload hx hb dL_law_397 (lv_at hl 5 rfl) ?_
  refine lv_iconst (v := 1) hx hb dL_law_399 (by decide) ?_
  refine lv_iadd hx hb dL_law_400 ?_
  refine va_sld hx hb hX hbl hbA hS (in_1 hi hL) dL_law_401 ?_
  rw [eP1]
  refine lv_aload_n hx hb dL_law_402 rfl (lv_at hl 1 rfl) ?_
  refine lv_iload hx hb dL_law_403 (lv_at hl 5 rfl) ?_
  refine lv_iconst (v := 2) hx hb dL_law_405 (by decide) ?_
  refine lv_iadd hx hb dL_law_406 ?_
  refine va_sld hx hb hX hbl hbA hS (in_2 hi hL) dL_law_407 ?_
  rw [eP2]
  have hPc := hP.sub (ws' := mW cI g μ) [10, 11, 12, 13, 14, 15] rfl
  have hDc := hD.sub (ws' := mW cI g μ) [10, 11, 12, 13, 14, 15] (by decide) rfl
  refine rcI (W2 := fun u => LW cI cL h g o κ2 u out2) (va_runV (As := [.int P1, .int P2]) (rest := []) ⟨hx, hb, hml, hown, hts⟩ (c_X3_sum l dC dI cI g H.size μ P1 P2 sM) (cwV 2 hts gL_law_X3_sum rfl rfl rfl (by decide +kernel) ⟨Nat.le_of_ble_eq_true rfl, Nat.le_of_ble_eq_true rfl⟩) (pW_V hPc hKc hDc (ci := 3) (q0 := 0) rfl rfl) rfl rfl hl.1 rfl (lv_room (Nat.le_of_ble_eq_true rfl)) dL_law_408 ⟨hc, hs⟩) hP hD hS hA [10, 11, 12, 13, 14, 15] [0, 1, 2, 3, 4, 5, 6, 7, 8, 9, 16] [0, 1, 2, 3, 4, 5, 6, 7, 8, 9, 11, 12, 13, 14, 15, 16, 10] rfl rfl (by decide) (fun _ => rfl) (fun r6 μ2 H locs hv hP hD hS => ?_)
  obtain ⟨hv, hv2⟩ := hv
  refine lv_istore (lv' := [(6, .int r6), (5, .int r5), (0, .ref b), (1, .ref (h 0)), (2, .ref (g 0)), (3, .ref o), (4, .int (nI i))]) hx hb dL_law_411 hl (by decide) rfl (fun ls hl => ?_)
  refine lv_aload_n hx hb dL_law_413 rfl (lv_at hl 4 rfl) ?_
  have hPc := hP.sub (ws' := mW cI g μ2) [10, 11, 12, 13, 14, 15] rfl
  have hDc := hD.sub (ws' := mW cI g μ2) [10, 11, 12, 13, 14, 15] (by decide) rfl
  refine rcI (W2 := fun _ => LW cI cL h g o κ2 μ2 out2) (va_runV (As := []) (rest := []) ⟨hx, hb, hml, hown, hts⟩ (c_X3_thrown l dC dI cI g H.size μ2) (cwV 0 hts gL_law_X3_thrown rfl rfl rfl (by decide +kernel) ⟨Nat.le_of_ble_eq_true rfl, Nat.le_of_ble_eq_true rfl⟩) (pW_V hPc hKc hDc (ci := 3) (q0 := 0) rfl rfl) rfl rfl hl.1 rfl (lv_room (Nat.le_of_ble_eq_true rfl)) dL_law_414 ⟨hc, hs⟩) hP hD hS hA [10, 11, 12, 13, 14, 15] [0, 1, 2, 3, 4, 5, 6, 7, 8, 9, 16] [0, 1, 2, 3, 4, 5, 6, 7, 8, 9, 11, 12, 13, 14, 15, 16, 10] rfl rfl (by decide) (fun _ => rfl) (fun r7 u7 H locs hv7 hP hD hS => ?_)
  obtain ⟨e75, hO, hR⟩ := fin_i hsim nI_c0 hw hv hv2 hv7
  refine lv_iload hx hb dL_law_417 (lv_at hl 1 rfl) ?_
  refine lv_icmp_eq (tgt := 424) hx hb dL_law_419 (by decide) (fun c_1 => ?_) (fun c_1 => absurd e75 c_1)
  refine lv_iload hx hb dL_law_424 (lv_at hl 1 rfl) ?_
  refine lv_if_ne (tgt := 441) hx hb dL_law_426 (by decide) (fun c_2 => ?_) (fun c_2 => ?_)
  · refine lv_goto (tgt := 1005) hx hb dL_law_441 (by decide) ?_
    exact K κ2 μ2 out2 H locs ls hR hP hD hS (lv_sub hl [2, 3, 4, 5, 6] rfl)
  · refine lv_aload_n hx hb dL_law_429 rfl (lv_at hl 5 rfl) ?_
    refine lv_iconst (v := 0) hx hb dL_law_430 (by decide) ?_
    refine va_lald hx hb hK hP 16 1 rfl rfl in01 dL_law_431 ?_
    refine lv_iload hx hb dL_law_432 (lv_at hl 0 rfl) ?_
    refine lv_i2l (v := (out2 (0 : Int32).toNatClampNeg)) hx hb dL_law_434 ((hO c_2).trans (congrArg out2 (by decide))) ?_
    refine lv_lcmpE hx hb dL_law_435 ?_
    refine lv_if_eq (tgt := 441) hx hb dL_law_436 (by decide) (fun c_3 => ?_) (fun c_3 => absurd rfl c_3)
    refine lv_goto (tgt := 1005) hx hb dL_law_441 (by decide) ?_
    exact K κ2 μ2 out2 H locs ls hR hP hD hS (lv_sub hl [2, 3, 4, 5, 6] rfl)
set_option maxHeartbeats 1000000 in
set_option maxRecDepth 100000 in
theorem arm_fetches {p : Program} {l : Launch} {e : Env} {s : State} {m : MethodId} {below : List Frame} {meth : Method} {c : Code} {b L : Nat} {xs : Nat → Int32} {dC : Nat → ClassId} {dI : Nat → Nat → Nat} {cI cL : ClassId} (hlt : l.stackTraces = false) (C0 : LC p s m c b L xs dC dI cI cL) {h g : Nat → Nat} {o i N : Nat} {κ : KS} {μ : MS} {out : Nat → Int64} (hi : i + 3 ≤ L) (hq : RQ κ μ N) (h9 : N + 96 ≤ 100000) {H : Heap} {locs : List Loc} {cells slots : Nat} {Q : State → Prop} {ls : Array Slot} (hc : cells + 1 ≤ 1051) (hs : slots + 6 ≤ 9112) (hP : va_P (dC, dI) vwCl (LW cI cL h g o κ μ out) H) (hD : va_D (fun q : Nat => s.heap.size ≤ q) (LW cI cL h g o κ μ out)) (hS : va_S (fun q : Nat => s.heap.size ≤ q) s.heap H locs) (hl : lv_has ls 7 [(0, .ref b), (1, .ref (h 0)), (2, .ref (g 0)), (3, .ref o), (4, .int (nI i))])
    (K : ∀ (κ2 : KS) (μ2 : MS) (out2 : Nat → Int64) (H2 : Heap) (locs2 : List Loc) (ls2 : Array Slot), RQ κ2 μ2 (N + 96) → va_P (dC, dI) vwCl (LW cI cL h g o κ2 μ2 out2) H2 → va_D (fun q : Nat => s.heap.size ≤ q) (LW cI cL h g o κ2 μ2 out2) → va_S (fun q : Nat => s.heap.size ≤ q) s.heap H2 locs2 → lv_has ls2 7 [(0, .ref b), (1, .ref (h 0)), (2, .ref (g 0)), (3, .ref o), (4, .int (nI i))] → W p l e room_1 s m #[Value.ref b] below meth c H2 locs2 (cells + 1) (slots + 6) Q (F0 m 1005 ls2 [])) : W p l e room_1 s m #[Value.ref b] below meth c H locs cells slots Q (F0 m 444 ls []) := by
  obtain ⟨hx, hb, hml, hown, hts, hX, hbl, hK, hZ, hNc, hL⟩ := C0
  have hA : ∀ q : Nat, s.heap.size ≤ q → (fun q : Nat => s.heap.size ≤ q) q := fun _ h => h
  have hbA : ¬ (fun q : Nat => s.heap.size ≤ q) b := Nat.not_le.mpr hbl
  have hKc := hK.sub (tys' := [(cI, .int)]) [0] rfl
  obtain ⟨P1, eP1⟩ : ∃ y : Int32, xs (nI i + 1).toNatClampNeg = y := ⟨_, rfl⟩
  obtain ⟨P2, eP2⟩ : ∃ y : Int32, xs (nI i + 2).toNatClampNeg = y := ⟨_, rfl⟩
  have hsim := sim_fetches hq h9 P1 P2
  have sK := hsim.1
  have sM := hsim.2.1
  refine lv_aload_n hx hb dL_law_444 rfl (lv_at hl 1 rfl) ?_
  refine lv_aload_n hx hb dL_law_445 rfl (lv_at hl 0 rfl) ?_
  refine lv_iload hx hb dL_law_446 (lv_at hl 4 rfl) ?_
  refine lv_iconst (v := 1) hx hb dL_law_448 (by decide) ?_
  refine lv_iadd hx hb dL_law_449 ?_
  refine va_sld hx hb hX hbl hbA hS (in_1 hi hL) dL_law_450 ?_
  rw [eP1]
  refine lv_aload_n hx hb dL_law_451 rfl (lv_at hl 0 rfl) ?_
  refine lv_iload hx hb dL_law_452 (lv_at hl 4 rfl) ?_
  refine lv_iconst (v := 2) hx hb dL_law_454 (by decide) ?_
  refine lv_iadd hx hb dL_law_455 ?_
  refine va_sld hx hb hX hbl hbA hS (in_2 hi hL) dL_law_456 ?_
  rw [eP2]
  refine lv_aload_n hx hb dL_law_457 rfl (lv_at hl 3 rfl) ?_
  have hPc := hP.sub (ws' := wL cI cL h o κ out) [0, 1, 2, 3, 4, 5, 6, 7, 8, 9, 16] rfl
  have hDc := hD.sub (ws' := wL cI cL h o κ out) [0, 1, 2, 3, 4, 5, 6, 7, 8, 9, 16] (by decide) rfl
  have hFc := va_free (wc := wL cI cL h o κ out) hD hS hA [0, 1, 2, 3, 4, 5, 6, 7, 8, 9, 16] rfl
  refine rcI (W2 := fun u => LW cI cL h g o u.1 μ u.2) (vx_runSW (As := [.ref (h 0), .int P1, .int P2, .ref o]) (rest := []) ⟨hx, hb, hml, hown, hts⟩ (w_fetches l hlt dC dI cI cL h o H.size κ out P1 P2 sK) (vx_cwSW 4 hts gL_law_L_fetches rfl rfl rfl (by decide +kernel) ⟨Nat.le_of_ble_eq_true rfl, Nat.le_of_ble_eq_true rfl⟩) (pL_S hPc hK hDc hZ hS hFc hNc) rfl rfl hl.1 rfl (lv_room (Nat.le_of_ble_eq_true rfl)) dL_law_458 ⟨hc, hs⟩) hP hD hS hA [0, 1, 2, 3, 4, 5, 6, 7, 8, 9, 16] [10, 11, 12, 13, 14, 15] [6, 7, 8, 9, 10, 11, 12, 13, 14, 15, 0, 1, 2, 3, 4, 5, 16] rfl rfl (by decide) (fun _ => rfl) (fun r5 u5 H locs hw hP hD hS => ?_)
  obtain ⟨κ2, out2⟩ := u5
  dsimp only at hw hP hD
  refine lv_istore (lv' := [(5, .int r5), (0, .ref b), (1, .ref (h 0)), (2, .ref (g 0)), (3, .ref o), (4, .int (nI i))]) hx hb dL_law_461 hl (by decide) rfl (fun ls hl => ?_)
  refine lv_aload_n hx hb dL_law_463 rfl (lv_at hl 3 rfl) ?_
  refine lv_aload_n hx hb dL_law_464 rfl (lv_at hl 1 rfl) ?_
  refine lv_iload hx hb dL_law_465 (lv_at hl 5 rfl) ?_
  refine lv_iconst (v := 1) hx hb dL_law_467 (by decide) ?_
  refine lv_iadd hx hb dL_law_468 ?_
  refine va_sld hx hb hX hbl hbA hS (in_1 hi hL) dL_law_469 ?_
  rw [eP1]
  refine lv_aload_n hx hb dL_law_470 rfl (lv_at hl 1 rfl) ?_
  refine lv_iload hx hb dL_law_471 (lv_at hl 5 rfl) ?_
  refine lv_iconst (v := 2) hx hb dL_law_473 (by decide) ?_
  refine lv_iadd hx hb dL_law_474 ?_
  refine va_sld hx hb hX hbl hbA hS (in_2 hi hL) dL_law_475 ?_
  rw [eP2]
  have hPc := hP.sub (ws' := mW cI g μ) [10, 11, 12, 13, 14, 15] rfl
  have hDc := hD.sub (ws' := mW cI g μ) [10, 11, 12, 13, 14, 15] (by decide) rfl
  refine rcI (W2 := fun u => LW cI cL h g o κ2 u out2) (va_runV (As := [.int P1, .int P2]) (rest := []) ⟨hx, hb, hml, hown, hts⟩ (c_X3_fetches l dC dI cI g H.size μ P1 P2 sM) (cwV 2 hts gL_law_X3_fetches rfl rfl rfl (by decide +kernel) ⟨Nat.le_of_ble_eq_true rfl, Nat.le_of_ble_eq_true rfl⟩) (pW_V hPc hKc hDc (ci := 3) (q0 := 0) rfl rfl) rfl rfl hl.1 rfl (lv_room (Nat.le_of_ble_eq_true rfl)) dL_law_476 ⟨hc, hs⟩) hP hD hS hA [10, 11, 12, 13, 14, 15] [0, 1, 2, 3, 4, 5, 6, 7, 8, 9, 16] [0, 1, 2, 3, 4, 5, 6, 7, 8, 9, 11, 12, 13, 14, 15, 16, 10] rfl rfl (by decide) (fun _ => rfl) (fun r6 μ2 H locs hv hP hD hS => ?_)
  obtain ⟨hv, hv2⟩ := hv
  refine lv_istore (lv' := [(6, .int r6), (5, .int r5), (0, .ref b), (1, .ref (h 0)), (2, .ref (g 0)), (3, .ref o), (4, .int (nI i))]) hx hb dL_law_479 hl (by decide) rfl (fun ls hl => ?_)
  refine lv_aload_n hx hb dL_law_481 rfl (lv_at hl 4 rfl) ?_
  have hPc := hP.sub (ws' := mW cI g μ2) [10, 11, 12, 13, 14, 15] rfl
  have hDc := hD.sub (ws' := mW cI g μ2) [10, 11, 12, 13, 14, 15] (by decide) rfl
  refine rcI (W2 := fun _ => LW cI cL h g o κ2 μ2 out2) (va_runV (As := []) (rest := []) ⟨hx, hb, hml, hown, hts⟩ (c_X3_thrown l dC dI cI g H.size μ2) (cwV 0 hts gL_law_X3_thrown rfl rfl rfl (by decide +kernel) ⟨Nat.le_of_ble_eq_true rfl, Nat.le_of_ble_eq_true rfl⟩) (pW_V hPc hKc hDc (ci := 3) (q0 := 0) rfl rfl) rfl rfl hl.1 rfl (lv_room (Nat.le_of_ble_eq_true rfl)) dL_law_482 ⟨hc, hs⟩) hP hD hS hA [10, 11, 12, 13, 14, 15] [0, 1, 2, 3, 4, 5, 6, 7, 8, 9, 16] [0, 1, 2, 3, 4, 5, 6, 7, 8, 9, 11, 12, 13, 14, 15, 16, 10] rfl rfl (by decide) (fun _ => rfl) (fun r7 u7 H locs hv7 hP hD hS => ?_)
  obtain ⟨e75, hO, hR⟩ := fin_i hsim nI_c0 hw hv hv2 hv7
  refine lv_iload hx hb dL_law_485 (lv_at hl 1 rfl) ?_
  refine lv_icmp_eq (tgt := 492) hx hb dL_law_487 (by decide) (fun c_1 => ?_) (fun c_1 => absurd e75 c_1)
  refine lv_iload hx hb dL_law_492 (lv_at hl 1 rfl) ?_
  refine lv_if_ne (tgt := 509) hx hb dL_law_494 (by decide) (fun c_2 => ?_) (fun c_2 => ?_)
  · refine lv_goto (tgt := 1005) hx hb dL_law_509 (by decide) ?_
    exact K κ2 μ2 out2 H locs ls hR hP hD hS (lv_sub hl [2, 3, 4, 5, 6] rfl)
  · refine lv_aload_n hx hb dL_law_497 rfl (lv_at hl 5 rfl) ?_
    refine lv_iconst (v := 0) hx hb dL_law_498 (by decide) ?_
    refine va_lald hx hb hK hP 16 1 rfl rfl in01 dL_law_499 ?_
    refine lv_iload hx hb dL_law_500 (lv_at hl 0 rfl) ?_
    refine lv_i2l (v := (out2 (0 : Int32).toNatClampNeg)) hx hb dL_law_502 ((hO c_2).trans (congrArg out2 (by decide))) ?_
    refine lv_lcmpE hx hb dL_law_503 ?_
    refine lv_if_eq (tgt := 509) hx hb dL_law_504 (by decide) (fun c_3 => ?_) (fun c_3 => absurd rfl c_3)
    refine lv_goto (tgt := 1005) hx hb dL_law_509 (by decide) ?_
    exact K κ2 μ2 out2 H locs ls hR hP hD hS (lv_sub hl [2, 3, 4, 5, 6] rfl)
set_option maxHeartbeats 1000000 in
set_option maxRecDepth 100000 in
theorem arm_synchronize {p : Program} {l : Launch} {e : Env} {s : State} {m : MethodId} {below : List Frame} {meth : Method} {c : Code} {b L : Nat} {xs : Nat → Int32} {dC : Nat → ClassId} {dI : Nat → Nat → Nat} {cI cL : ClassId} (hlt : l.stackTraces = false) (C0 : LC p s m c b L xs dC dI cI cL) {h g : Nat → Nat} {o i N : Nat} {κ : KS} {μ : MS} {out : Nat → Int64} (hi : i + 3 ≤ L) (hq : RQ κ μ N) (h9 : N + 96 ≤ 100000) {H : Heap} {locs : List Loc} {cells slots : Nat} {Q : State → Prop} {ls : Array Slot} (hc : cells + 1 ≤ 1051) (hs : slots + 6 ≤ 9112) (hP : va_P (dC, dI) vwCl (LW cI cL h g o κ μ out) H) (hD : va_D (fun q : Nat => s.heap.size ≤ q) (LW cI cL h g o κ μ out)) (hS : va_S (fun q : Nat => s.heap.size ≤ q) s.heap H locs) (hl : lv_has ls 7 [(0, .ref b), (1, .ref (h 0)), (2, .ref (g 0)), (3, .ref o), (4, .int (nI i))])
    (K : ∀ (κ2 : KS) (μ2 : MS) (out2 : Nat → Int64) (H2 : Heap) (locs2 : List Loc) (ls2 : Array Slot), RQ κ2 μ2 (N + 96) → va_P (dC, dI) vwCl (LW cI cL h g o κ2 μ2 out2) H2 → va_D (fun q : Nat => s.heap.size ≤ q) (LW cI cL h g o κ2 μ2 out2) → va_S (fun q : Nat => s.heap.size ≤ q) s.heap H2 locs2 → lv_has ls2 7 [(0, .ref b), (1, .ref (h 0)), (2, .ref (g 0)), (3, .ref o), (4, .int (nI i))] → W p l e room_1 s m #[Value.ref b] below meth c H2 locs2 (cells + 1) (slots + 6) Q (F0 m 1005 ls2 [])) : W p l e room_1 s m #[Value.ref b] below meth c H locs cells slots Q (F0 m 512 ls []) := by
  obtain ⟨hx, hb, hml, hown, hts, hX, hbl, hK, hZ, hNc, hL⟩ := C0
  have hA : ∀ q : Nat, s.heap.size ≤ q → (fun q : Nat => s.heap.size ≤ q) q := fun _ h => h
  have hbA : ¬ (fun q : Nat => s.heap.size ≤ q) b := Nat.not_le.mpr hbl
  have hKc := hK.sub (tys' := [(cI, .int)]) [0] rfl
  have hsim := sim_synchronize hq h9
  have sK := hsim.1
  have sM := hsim.2.1
  refine lv_aload_n hx hb dL_law_512 rfl (lv_at hl 1 rfl) ?_
  refine lv_aload_n hx hb dL_law_513 rfl (lv_at hl 3 rfl) ?_
  have hPc := hP.sub (ws' := wL cI cL h o κ out) [0, 1, 2, 3, 4, 5, 6, 7, 8, 9, 16] rfl
  have hDc := hD.sub (ws' := wL cI cL h o κ out) [0, 1, 2, 3, 4, 5, 6, 7, 8, 9, 16] (by decide) rfl
  have hFc := va_free (wc := wL cI cL h o κ out) hD hS hA [0, 1, 2, 3, 4, 5, 6, 7, 8, 9, 16] rfl
  refine rcI (W2 := fun u => LW cI cL h g o u.1 μ u.2) (vx_runSW (As := [.ref (h 0), .ref o]) (rest := []) ⟨hx, hb, hml, hown, hts⟩ (w_synchronize l hlt dC dI cI cL h o H.size κ out sK) (vx_cwSW 2 hts gL_law_L_synchronize rfl rfl rfl (by decide +kernel) ⟨Nat.le_of_ble_eq_true rfl, Nat.le_of_ble_eq_true rfl⟩) (pL_S hPc hK hDc hZ hS hFc hNc) rfl rfl hl.1 rfl (lv_room (Nat.le_of_ble_eq_true rfl)) dL_law_514 ⟨hc, hs⟩) hP hD hS hA [0, 1, 2, 3, 4, 5, 6, 7, 8, 9, 16] [10, 11, 12, 13, 14, 15] [6, 7, 8, 9, 10, 11, 12, 13, 14, 15, 0, 1, 2, 3, 4, 5, 16] rfl rfl (by decide) (fun _ => rfl) (fun r5 u5 H locs hw hP hD hS => ?_)
  obtain ⟨κ2, out2⟩ := u5
  dsimp only at hw hP hD
  refine lv_istore (lv' := [(5, .int r5), (0, .ref b), (1, .ref (h 0)), (2, .ref (g 0)), (3, .ref o), (4, .int (nI i))]) hx hb dL_law_517 hl (by decide) rfl (fun ls hl => ?_)
  refine lv_aload_n hx hb dL_law_519 rfl (lv_at hl 3 rfl) ?_
  have hPc := hP.sub (ws' := mW cI g μ) [10, 11, 12, 13, 14, 15] rfl
  have hDc := hD.sub (ws' := mW cI g μ) [10, 11, 12, 13, 14, 15] (by decide) rfl
  refine rcI (W2 := fun u => LW cI cL h g o κ2 u out2) (va_runV (As := []) (rest := []) ⟨hx, hb, hml, hown, hts⟩ (c_X3_synchronize l dC dI cI g H.size μ sM) (cwV 0 hts gL_law_X3_synchronize rfl rfl rfl (by decide +kernel) ⟨Nat.le_of_ble_eq_true rfl, Nat.le_of_ble_eq_true rfl⟩) (pW_V hPc hKc hDc (ci := 3) (q0 := 0) rfl rfl) rfl rfl hl.1 rfl (lv_room (Nat.le_of_ble_eq_true rfl)) dL_law_520 ⟨hc, hs⟩) hP hD hS hA [10, 11, 12, 13, 14, 15] [0, 1, 2, 3, 4, 5, 6, 7, 8, 9, 16] [0, 1, 2, 3, 4, 5, 6, 7, 8, 9, 11, 12, 13, 14, 15, 16, 10] rfl rfl (by decide) (fun _ => rfl) (fun r6 μ2 H locs hv hP hD hS => ?_)
  obtain ⟨hv, hv2, hz6⟩ := hv
  refine lv_istore (lv' := [(6, .int r6), (5, .int r5), (0, .ref b), (1, .ref (h 0)), (2, .ref (g 0)), (3, .ref o), (4, .int (nI i))]) hx hb dL_law_523 hl (by decide) rfl (fun ls hl => ?_)
  refine lv_aload_n hx hb dL_law_525 rfl (lv_at hl 4 rfl) ?_
  have hPc := hP.sub (ws' := mW cI g μ2) [10, 11, 12, 13, 14, 15] rfl
  have hDc := hD.sub (ws' := mW cI g μ2) [10, 11, 12, 13, 14, 15] (by decide) rfl
  refine rcI (W2 := fun _ => LW cI cL h g o κ2 μ2 out2) (va_runV (As := []) (rest := []) ⟨hx, hb, hml, hown, hts⟩ (c_X3_thrown l dC dI cI g H.size μ2) (cwV 0 hts gL_law_X3_thrown rfl rfl rfl (by decide +kernel) ⟨Nat.le_of_ble_eq_true rfl, Nat.le_of_ble_eq_true rfl⟩) (pW_V hPc hKc hDc (ci := 3) (q0 := 0) rfl rfl) rfl rfl hl.1 rfl (lv_room (Nat.le_of_ble_eq_true rfl)) dL_law_526 ⟨hc, hs⟩) hP hD hS hA [10, 11, 12, 13, 14, 15] [0, 1, 2, 3, 4, 5, 6, 7, 8, 9, 16] [0, 1, 2, 3, 4, 5, 6, 7, 8, 9, 11, 12, 13, 14, 15, 16, 10] rfl rfl (by decide) (fun _ => rfl) (fun r7 u7 H locs hv7 hP hD hS => ?_)
  obtain ⟨e75, hO, hR⟩ := fin_z hsim kc_c0 hw hv hv2 hv7
  refine lv_iload hx hb dL_law_529 (lv_at hl 1 rfl) ?_
  refine lv_icmp_eq (tgt := 536) hx hb dL_law_531 (by decide) (fun c_1 => ?_) (fun c_1 => absurd e75 c_1)
  refine lv_iload hx hb dL_law_536 (lv_at hl 1 rfl) ?_
  refine lv_if_ne (tgt := 560) hx hb dL_law_538 (by decide) (fun c_2 => ?_) (fun c_2 => ?_)
  · refine lv_goto (tgt := 1005) hx hb dL_law_560 (by decide) ?_
    exact K κ2 μ2 out2 H locs ls hR hP hD hS (lv_sub hl [2, 3, 4, 5, 6] rfl)
  · refine lv_aload_n hx hb dL_law_541 rfl (lv_at hl 5 rfl) ?_
    refine lv_iconst (v := 0) hx hb dL_law_542 (by decide) ?_
    refine va_lald hx hb hK hP 16 1 rfl rfl in01 dL_law_543 ?_
    refine lv_iload hx hb dL_law_544 (lv_at hl 0 rfl) ?_
    refine lv_if_eq (tgt := 553) hx hb dL_law_546 (by decide) (fun c_4 => ?_) (fun c_4 => ?_)
    · refine lv_lconst (v := (out2 (0 : Int32).toNatClampNeg)) hx hb dL_law_553 (by rw [show (0 : Int32).toNatClampNeg = 0 by decide, hO c_2, if_pos c_4]; rfl) ?_
      refine lv_lcmpE hx hb dL_law_554 ?_
      refine lv_if_eq (tgt := 560) hx hb dL_law_555 (by decide) (fun c_3 => ?_) (fun c_3 => absurd rfl c_3)
      refine lv_goto (tgt := 1005) hx hb dL_law_560 (by decide) ?_
      exact K κ2 μ2 out2 H locs ls hR hP hD hS (lv_sub hl [2, 3, 4, 5, 6] rfl)
    · refine lv_lconst (v := (out2 (0 : Int32).toNatClampNeg)) hx hb dL_law_549 (by rw [show (0 : Int32).toNatClampNeg = 0 by decide, hO c_2, if_neg c_4]; rfl) ?_
      refine lv_goto (tgt := 554) hx hb dL_law_550 (by decide) ?_
      refine lv_lcmpE hx hb dL_law_554 ?_
      refine lv_if_eq (tgt := 560) hx hb dL_law_555 (by decide) (fun c_3 => ?_) (fun c_3 => absurd rfl c_3)
      refine lv_goto (tgt := 1005) hx hb dL_law_560 (by decide) ?_
      exact K κ2 μ2 out2 H locs ls hR hP hD hS (lv_sub hl [2, 3, 4, 5, 6] rfl)
set_option maxHeartbeats 1000000 in
set_option maxRecDepth 100000 in
theorem arm_checkpoint {p : Program} {l : Launch} {e : Env} {s : State} {m : MethodId} {below : List Frame} {meth : Method} {c : Code} {b L : Nat} {xs : Nat → Int32} {dC : Nat → ClassId} {dI : Nat → Nat → Nat} {cI cL : ClassId} (hlt : l.stackTraces = false) (C0 : LC p s m c b L xs dC dI cI cL) {h g : Nat → Nat} {o i N : Nat} {κ : KS} {μ : MS} {out : Nat → Int64} (hi : i + 3 ≤ L) (hq : RQ κ μ N) (h9 : N + 96 ≤ 100000) {H : Heap} {locs : List Loc} {cells slots : Nat} {Q : State → Prop} {ls : Array Slot} (hc : cells + 1 ≤ 1051) (hs : slots + 6 ≤ 9112) (hP : va_P (dC, dI) vwCl (LW cI cL h g o κ μ out) H) (hD : va_D (fun q : Nat => s.heap.size ≤ q) (LW cI cL h g o κ μ out)) (hS : va_S (fun q : Nat => s.heap.size ≤ q) s.heap H locs) (hl : lv_has ls 7 [(0, .ref b), (1, .ref (h 0)), (2, .ref (g 0)), (3, .ref o), (4, .int (nI i))])
    (K : ∀ (κ2 : KS) (μ2 : MS) (out2 : Nat → Int64) (H2 : Heap) (locs2 : List Loc) (ls2 : Array Slot), RQ κ2 μ2 (N + 96) → va_P (dC, dI) vwCl (LW cI cL h g o κ2 μ2 out2) H2 → va_D (fun q : Nat => s.heap.size ≤ q) (LW cI cL h g o κ2 μ2 out2) → va_S (fun q : Nat => s.heap.size ≤ q) s.heap H2 locs2 → lv_has ls2 7 [(0, .ref b), (1, .ref (h 0)), (2, .ref (g 0)), (3, .ref o), (4, .int (nI i))] → W p l e room_1 s m #[Value.ref b] below meth c H2 locs2 (cells + 1) (slots + 6) Q (F0 m 1005 ls2 [])) : W p l e room_1 s m #[Value.ref b] below meth c H locs cells slots Q (F0 m 563 ls []) := by
  obtain ⟨hx, hb, hml, hown, hts, hX, hbl, hK, hZ, hNc, hL⟩ := C0
  have hA : ∀ q : Nat, s.heap.size ≤ q → (fun q : Nat => s.heap.size ≤ q) q := fun _ h => h
  have hbA : ¬ (fun q : Nat => s.heap.size ≤ q) b := Nat.not_le.mpr hbl
  have hKc := hK.sub (tys' := [(cI, .int)]) [0] rfl
  have hsim := sim_checkpoint hq h9
  have sK := hsim.1
  have sM := hsim.2.1
  refine lv_aload_n hx hb dL_law_563 rfl (lv_at hl 1 rfl) ?_
  refine lv_aload_n hx hb dL_law_564 rfl (lv_at hl 3 rfl) ?_
  have hPc := hP.sub (ws' := wL cI cL h o κ out) [0, 1, 2, 3, 4, 5, 6, 7, 8, 9, 16] rfl
  have hDc := hD.sub (ws' := wL cI cL h o κ out) [0, 1, 2, 3, 4, 5, 6, 7, 8, 9, 16] (by decide) rfl
  have hFc := va_free (wc := wL cI cL h o κ out) hD hS hA [0, 1, 2, 3, 4, 5, 6, 7, 8, 9, 16] rfl
  refine rcI (W2 := fun u => LW cI cL h g o u.1 μ u.2) (vx_runSW (As := [.ref (h 0), .ref o]) (rest := []) ⟨hx, hb, hml, hown, hts⟩ (w_checkpoint l hlt dC dI cI cL h o H.size κ out sK) (vx_cwSW 2 hts gL_law_L_checkpoint rfl rfl rfl (by decide +kernel) ⟨Nat.le_of_ble_eq_true rfl, Nat.le_of_ble_eq_true rfl⟩) (pL_S hPc hK hDc hZ hS hFc hNc) rfl rfl hl.1 rfl (lv_room (Nat.le_of_ble_eq_true rfl)) dL_law_565 ⟨hc, hs⟩) hP hD hS hA [0, 1, 2, 3, 4, 5, 6, 7, 8, 9, 16] [10, 11, 12, 13, 14, 15] [6, 7, 8, 9, 10, 11, 12, 13, 14, 15, 0, 1, 2, 3, 4, 5, 16] rfl rfl (by decide) (fun _ => rfl) (fun r5 u5 H locs hw hP hD hS => ?_)
  obtain ⟨κ2, out2⟩ := u5
  dsimp only at hw hP hD
  refine lv_istore (lv' := [(5, .int r5), (0, .ref b), (1, .ref (h 0)), (2, .ref (g 0)), (3, .ref o), (4, .int (nI i))]) hx hb dL_law_568 hl (by decide) rfl (fun ls hl => ?_)
  refine lv_aload_n hx hb dL_law_570 rfl (lv_at hl 3 rfl) ?_
  have hPc := hP.sub (ws' := mW cI g μ) [10, 11, 12, 13, 14, 15] rfl
  have hDc := hD.sub (ws' := mW cI g μ) [10, 11, 12, 13, 14, 15] (by decide) rfl
  refine rcI (W2 := fun u => LW cI cL h g o κ2 u out2) (va_runV (As := []) (rest := []) ⟨hx, hb, hml, hown, hts⟩ (c_X3_checkpoint l dC dI cI g H.size μ sM) (cwV 0 hts gL_law_X3_checkpoint rfl rfl rfl (by decide +kernel) ⟨Nat.le_of_ble_eq_true rfl, Nat.le_of_ble_eq_true rfl⟩) (pW_V hPc hKc hDc (ci := 3) (q0 := 0) rfl rfl) rfl rfl hl.1 rfl (lv_room (Nat.le_of_ble_eq_true rfl)) dL_law_571 ⟨hc, hs⟩) hP hD hS hA [10, 11, 12, 13, 14, 15] [0, 1, 2, 3, 4, 5, 6, 7, 8, 9, 16] [0, 1, 2, 3, 4, 5, 6, 7, 8, 9, 11, 12, 13, 14, 15, 16, 10] rfl rfl (by decide) (fun _ => rfl) (fun r6 μ2 H locs hv hP hD hS => ?_)
  obtain ⟨hv, hv2, hz6⟩ := hv
  refine lv_istore (lv' := [(6, .int r6), (5, .int r5), (0, .ref b), (1, .ref (h 0)), (2, .ref (g 0)), (3, .ref o), (4, .int (nI i))]) hx hb dL_law_574 hl (by decide) rfl (fun ls hl => ?_)
  refine lv_aload_n hx hb dL_law_576 rfl (lv_at hl 4 rfl) ?_
  have hPc := hP.sub (ws' := mW cI g μ2) [10, 11, 12, 13, 14, 15] rfl
  have hDc := hD.sub (ws' := mW cI g μ2) [10, 11, 12, 13, 14, 15] (by decide) rfl
  refine rcI (W2 := fun _ => LW cI cL h g o κ2 μ2 out2) (va_runV (As := []) (rest := []) ⟨hx, hb, hml, hown, hts⟩ (c_X3_thrown l dC dI cI g H.size μ2) (cwV 0 hts gL_law_X3_thrown rfl rfl rfl (by decide +kernel) ⟨Nat.le_of_ble_eq_true rfl, Nat.le_of_ble_eq_true rfl⟩) (pW_V hPc hKc hDc (ci := 3) (q0 := 0) rfl rfl) rfl rfl hl.1 rfl (lv_room (Nat.le_of_ble_eq_true rfl)) dL_law_577 ⟨hc, hs⟩) hP hD hS hA [10, 11, 12, 13, 14, 15] [0, 1, 2, 3, 4, 5, 6, 7, 8, 9, 16] [0, 1, 2, 3, 4, 5, 6, 7, 8, 9, 11, 12, 13, 14, 15, 16, 10] rfl rfl (by decide) (fun _ => rfl) (fun r7 u7 H locs hv7 hP hD hS => ?_)
  obtain ⟨e75, hO, hR⟩ := fin_z hsim kc_c0 hw hv hv2 hv7
  refine lv_iload hx hb dL_law_580 (lv_at hl 1 rfl) ?_
  refine lv_icmp_eq (tgt := 587) hx hb dL_law_582 (by decide) (fun c_1 => ?_) (fun c_1 => absurd e75 c_1)
  refine lv_iload hx hb dL_law_587 (lv_at hl 1 rfl) ?_
  refine lv_if_ne (tgt := 611) hx hb dL_law_589 (by decide) (fun c_2 => ?_) (fun c_2 => ?_)
  · refine lv_goto (tgt := 1005) hx hb dL_law_611 (by decide) ?_
    exact K κ2 μ2 out2 H locs ls hR hP hD hS (lv_sub hl [2, 3, 4, 5, 6] rfl)
  · refine lv_aload_n hx hb dL_law_592 rfl (lv_at hl 5 rfl) ?_
    refine lv_iconst (v := 0) hx hb dL_law_593 (by decide) ?_
    refine va_lald hx hb hK hP 16 1 rfl rfl in01 dL_law_594 ?_
    refine lv_iload hx hb dL_law_595 (lv_at hl 0 rfl) ?_
    refine lv_if_eq (tgt := 604) hx hb dL_law_597 (by decide) (fun c_4 => ?_) (fun c_4 => ?_)
    · refine lv_lconst (v := (out2 (0 : Int32).toNatClampNeg)) hx hb dL_law_604 (by rw [show (0 : Int32).toNatClampNeg = 0 by decide, hO c_2, if_pos c_4]; rfl) ?_
      refine lv_lcmpE hx hb dL_law_605 ?_
      refine lv_if_eq (tgt := 611) hx hb dL_law_606 (by decide) (fun c_3 => ?_) (fun c_3 => absurd rfl c_3)
      refine lv_goto (tgt := 1005) hx hb dL_law_611 (by decide) ?_
      exact K κ2 μ2 out2 H locs ls hR hP hD hS (lv_sub hl [2, 3, 4, 5, 6] rfl)
    · refine lv_lconst (v := (out2 (0 : Int32).toNatClampNeg)) hx hb dL_law_600 (by rw [show (0 : Int32).toNatClampNeg = 0 by decide, hO c_2, if_neg c_4]; rfl) ?_
      refine lv_goto (tgt := 605) hx hb dL_law_601 (by decide) ?_
      refine lv_lcmpE hx hb dL_law_605 ?_
      refine lv_if_eq (tgt := 611) hx hb dL_law_606 (by decide) (fun c_3 => ?_) (fun c_3 => absurd rfl c_3)
      refine lv_goto (tgt := 1005) hx hb dL_law_611 (by decide) ?_
      exact K κ2 μ2 out2 H locs ls hR hP hD hS (lv_sub hl [2, 3, 4, 5, 6] rfl)
set_option maxHeartbeats 1000000 in
set_option maxRecDepth 100000 in
theorem arm_collect {p : Program} {l : Launch} {e : Env} {s : State} {m : MethodId} {below : List Frame} {meth : Method} {c : Code} {b L : Nat} {xs : Nat → Int32} {dC : Nat → ClassId} {dI : Nat → Nat → Nat} {cI cL : ClassId} (hlt : l.stackTraces = false) (C0 : LC p s m c b L xs dC dI cI cL) {h g : Nat → Nat} {o i N : Nat} {κ : KS} {μ : MS} {out : Nat → Int64} (hi : i + 3 ≤ L) (hq : RQ κ μ N) (h9 : N + 96 ≤ 100000) {H : Heap} {locs : List Loc} {cells slots : Nat} {Q : State → Prop} {ls : Array Slot} (hc : cells + 1 ≤ 1051) (hs : slots + 6 ≤ 9112) (hP : va_P (dC, dI) vwCl (LW cI cL h g o κ μ out) H) (hD : va_D (fun q : Nat => s.heap.size ≤ q) (LW cI cL h g o κ μ out)) (hS : va_S (fun q : Nat => s.heap.size ≤ q) s.heap H locs) (hl : lv_has ls 7 [(0, .ref b), (1, .ref (h 0)), (2, .ref (g 0)), (3, .ref o), (4, .int (nI i))])
    (K : ∀ (κ2 : KS) (μ2 : MS) (out2 : Nat → Int64) (H2 : Heap) (locs2 : List Loc) (ls2 : Array Slot), RQ κ2 μ2 (N + 96) → va_P (dC, dI) vwCl (LW cI cL h g o κ2 μ2 out2) H2 → va_D (fun q : Nat => s.heap.size ≤ q) (LW cI cL h g o κ2 μ2 out2) → va_S (fun q : Nat => s.heap.size ≤ q) s.heap H2 locs2 → lv_has ls2 7 [(0, .ref b), (1, .ref (h 0)), (2, .ref (g 0)), (3, .ref o), (4, .int (nI i))] → W p l e room_1 s m #[Value.ref b] below meth c H2 locs2 (cells + 1) (slots + 6) Q (F0 m 1005 ls2 [])) : W p l e room_1 s m #[Value.ref b] below meth c H locs cells slots Q (F0 m 614 ls []) := by
  obtain ⟨hx, hb, hml, hown, hts, hX, hbl, hK, hZ, hNc, hL⟩ := C0
  have hA : ∀ q : Nat, s.heap.size ≤ q → (fun q : Nat => s.heap.size ≤ q) q := fun _ h => h
  have hbA : ¬ (fun q : Nat => s.heap.size ≤ q) b := Nat.not_le.mpr hbl
  have hKc := hK.sub (tys' := [(cI, .int)]) [0] rfl
  obtain ⟨P1, eP1⟩ : ∃ y : Int32, xs (nI i + 1).toNatClampNeg = y := ⟨_, rfl⟩
  have hsim := sim_collect hq h9 P1
  have sK := hsim.1
  have sM := hsim.2.1
  refine lv_aload_n hx hb dL_law_614 rfl (lv_at hl 1 rfl) ?_
  refine lv_aload_n hx hb dL_law_615 rfl (lv_at hl 0 rfl) ?_
  refine lv_iload hx hb dL_law_616 (lv_at hl 4 rfl) ?_
  refine lv_iconst (v := 1) hx hb dL_law_618 (by decide) ?_
  refine lv_iadd hx hb dL_law_619 ?_
  refine va_sld hx hb hX hbl hbA hS (in_1 hi hL) dL_law_620 ?_
  rw [eP1]
  refine lv_aload_n hx hb dL_law_621 rfl (lv_at hl 3 rfl) ?_
  have hPc := hP.sub (ws' := wL cI cL h o κ out) [0, 1, 2, 3, 4, 5, 6, 7, 8, 9, 16] rfl
  have hDc := hD.sub (ws' := wL cI cL h o κ out) [0, 1, 2, 3, 4, 5, 6, 7, 8, 9, 16] (by decide) rfl
  have hFc := va_free (wc := wL cI cL h o κ out) hD hS hA [0, 1, 2, 3, 4, 5, 6, 7, 8, 9, 16] rfl
  refine rcI (W2 := fun u => LW cI cL h g o u.1 μ u.2) (vx_runSW (As := [.ref (h 0), .int P1, .ref o]) (rest := []) ⟨hx, hb, hml, hown, hts⟩ (w_collect l hlt dC dI cI cL h o H.size κ out P1 sK) (vx_cwSW 3 hts gL_law_L_collect rfl rfl rfl (by decide +kernel) ⟨Nat.le_of_ble_eq_true rfl, Nat.le_of_ble_eq_true rfl⟩) (pL_S hPc hK hDc hZ hS hFc hNc) rfl rfl hl.1 rfl (lv_room (Nat.le_of_ble_eq_true rfl)) dL_law_622 ⟨hc, hs⟩) hP hD hS hA [0, 1, 2, 3, 4, 5, 6, 7, 8, 9, 16] [10, 11, 12, 13, 14, 15] [6, 7, 8, 9, 10, 11, 12, 13, 14, 15, 0, 1, 2, 3, 4, 5, 16] rfl rfl (by decide) (fun _ => rfl) (fun r5 u5 H locs hw hP hD hS => ?_)
  obtain ⟨κ2, out2⟩ := u5
  dsimp only at hw hP hD
  refine lv_istore (lv' := [(5, .int r5), (0, .ref b), (1, .ref (h 0)), (2, .ref (g 0)), (3, .ref o), (4, .int (nI i))]) hx hb dL_law_625 hl (by decide) rfl (fun ls hl => ?_)
  refine lv_aload_n hx hb dL_law_627 rfl (lv_at hl 3 rfl) ?_
  refine lv_aload_n hx hb dL_law_628 rfl (lv_at hl 1 rfl) ?_
  refine lv_iload hx hb dL_law_629 (lv_at hl 5 rfl) ?_
  refine lv_iconst (v := 1) hx hb dL_law_631 (by decide) ?_
  refine lv_iadd hx hb dL_law_632 ?_
  refine va_sld hx hb hX hbl hbA hS (in_1 hi hL) dL_law_633 ?_
  rw [eP1]
  have hPc := hP.sub (ws' := mW cI g μ) [10, 11, 12, 13, 14, 15] rfl
  have hDc := hD.sub (ws' := mW cI g μ) [10, 11, 12, 13, 14, 15] (by decide) rfl
  refine rcI (W2 := fun u => LW cI cL h g o κ2 u out2) (va_runV (As := [.int P1]) (rest := []) ⟨hx, hb, hml, hown, hts⟩ (c_X3_collect l dC dI cI g H.size μ P1 sM) (cwV 1 hts gL_law_X3_collect rfl rfl rfl (by decide +kernel) ⟨Nat.le_of_ble_eq_true rfl, Nat.le_of_ble_eq_true rfl⟩) (pW_V hPc hKc hDc (ci := 3) (q0 := 0) rfl rfl) rfl rfl hl.1 rfl (lv_room (Nat.le_of_ble_eq_true rfl)) dL_law_634 ⟨hc, hs⟩) hP hD hS hA [10, 11, 12, 13, 14, 15] [0, 1, 2, 3, 4, 5, 6, 7, 8, 9, 16] [0, 1, 2, 3, 4, 5, 6, 7, 8, 9, 11, 12, 13, 14, 15, 16, 10] rfl rfl (by decide) (fun _ => rfl) (fun r6 μ2 H locs hv hP hD hS => ?_)
  obtain ⟨hv, hv2, hz6⟩ := hv
  refine lv_istore (lv' := [(6, .int r6), (5, .int r5), (0, .ref b), (1, .ref (h 0)), (2, .ref (g 0)), (3, .ref o), (4, .int (nI i))]) hx hb dL_law_637 hl (by decide) rfl (fun ls hl => ?_)
  refine lv_aload_n hx hb dL_law_639 rfl (lv_at hl 4 rfl) ?_
  have hPc := hP.sub (ws' := mW cI g μ2) [10, 11, 12, 13, 14, 15] rfl
  have hDc := hD.sub (ws' := mW cI g μ2) [10, 11, 12, 13, 14, 15] (by decide) rfl
  refine rcI (W2 := fun _ => LW cI cL h g o κ2 μ2 out2) (va_runV (As := []) (rest := []) ⟨hx, hb, hml, hown, hts⟩ (c_X3_thrown l dC dI cI g H.size μ2) (cwV 0 hts gL_law_X3_thrown rfl rfl rfl (by decide +kernel) ⟨Nat.le_of_ble_eq_true rfl, Nat.le_of_ble_eq_true rfl⟩) (pW_V hPc hKc hDc (ci := 3) (q0 := 0) rfl rfl) rfl rfl hl.1 rfl (lv_room (Nat.le_of_ble_eq_true rfl)) dL_law_640 ⟨hc, hs⟩) hP hD hS hA [10, 11, 12, 13, 14, 15] [0, 1, 2, 3, 4, 5, 6, 7, 8, 9, 16] [0, 1, 2, 3, 4, 5, 6, 7, 8, 9, 11, 12, 13, 14, 15, 16, 10] rfl rfl (by decide) (fun _ => rfl) (fun r7 u7 H locs hv7 hP hD hS => ?_)
  obtain ⟨e75, hO, hR⟩ := fin_z hsim nI_c0 hw hv hv2 hv7
  refine lv_iload hx hb dL_law_643 (lv_at hl 1 rfl) ?_
  refine lv_icmp_eq (tgt := 650) hx hb dL_law_645 (by decide) (fun c_1 => ?_) (fun c_1 => absurd e75 c_1)
  refine lv_iload hx hb dL_law_650 (lv_at hl 1 rfl) ?_
  refine lv_if_ne (tgt := 674) hx hb dL_law_652 (by decide) (fun c_2 => ?_) (fun c_2 => ?_)
  · refine lv_goto (tgt := 1005) hx hb dL_law_674 (by decide) ?_
    exact K κ2 μ2 out2 H locs ls hR hP hD hS (lv_sub hl [2, 3, 4, 5, 6] rfl)
  · refine lv_aload_n hx hb dL_law_655 rfl (lv_at hl 5 rfl) ?_
    refine lv_iconst (v := 0) hx hb dL_law_656 (by decide) ?_
    refine va_lald hx hb hK hP 16 1 rfl rfl in01 dL_law_657 ?_
    refine lv_iload hx hb dL_law_658 (lv_at hl 0 rfl) ?_
    refine lv_if_eq (tgt := 667) hx hb dL_law_660 (by decide) (fun c_4 => ?_) (fun c_4 => ?_)
    · refine lv_lconst (v := (out2 (0 : Int32).toNatClampNeg)) hx hb dL_law_667 (by rw [show (0 : Int32).toNatClampNeg = 0 by decide, hO c_2, if_pos c_4]; rfl) ?_
      refine lv_lcmpE hx hb dL_law_668 ?_
      refine lv_if_eq (tgt := 674) hx hb dL_law_669 (by decide) (fun c_3 => ?_) (fun c_3 => absurd rfl c_3)
      refine lv_goto (tgt := 1005) hx hb dL_law_674 (by decide) ?_
      exact K κ2 μ2 out2 H locs ls hR hP hD hS (lv_sub hl [2, 3, 4, 5, 6] rfl)
    · refine lv_lconst (v := (out2 (0 : Int32).toNatClampNeg)) hx hb dL_law_663 (by rw [show (0 : Int32).toNatClampNeg = 0 by decide, hO c_2, if_neg c_4]; rfl) ?_
      refine lv_goto (tgt := 668) hx hb dL_law_664 (by decide) ?_
      refine lv_lcmpE hx hb dL_law_668 ?_
      refine lv_if_eq (tgt := 674) hx hb dL_law_669 (by decide) (fun c_3 => ?_) (fun c_3 => absurd rfl c_3)
      refine lv_goto (tgt := 1005) hx hb dL_law_674 (by decide) ?_
      exact K κ2 μ2 out2 H locs ls hR hP hD hS (lv_sub hl [2, 3, 4, 5, 6] rfl)
set_option maxHeartbeats 1000000 in
set_option maxRecDepth 100000 in
theorem arm_failAfter {p : Program} {l : Launch} {e : Env} {s : State} {m : MethodId} {below : List Frame} {meth : Method} {c : Code} {b L : Nat} {xs : Nat → Int32} {dC : Nat → ClassId} {dI : Nat → Nat → Nat} {cI cL : ClassId} (hlt : l.stackTraces = false) (C0 : LC p s m c b L xs dC dI cI cL) {h g : Nat → Nat} {o i N : Nat} {κ : KS} {μ : MS} {out : Nat → Int64} (hi : i + 3 ≤ L) (hq : RQ κ μ N) (h9 : N + 96 ≤ 100000) {H : Heap} {locs : List Loc} {cells slots : Nat} {Q : State → Prop} {ls : Array Slot} (hc : cells + 1 ≤ 1051) (hs : slots + 6 ≤ 9112) (hP : va_P (dC, dI) vwCl (LW cI cL h g o κ μ out) H) (hD : va_D (fun q : Nat => s.heap.size ≤ q) (LW cI cL h g o κ μ out)) (hS : va_S (fun q : Nat => s.heap.size ≤ q) s.heap H locs) (hl : lv_has ls 7 [(0, .ref b), (1, .ref (h 0)), (2, .ref (g 0)), (3, .ref o), (4, .int (nI i))])
    (K : ∀ (κ2 : KS) (μ2 : MS) (out2 : Nat → Int64) (H2 : Heap) (locs2 : List Loc) (ls2 : Array Slot), RQ κ2 μ2 (N + 96) → va_P (dC, dI) vwCl (LW cI cL h g o κ2 μ2 out2) H2 → va_D (fun q : Nat => s.heap.size ≤ q) (LW cI cL h g o κ2 μ2 out2) → va_S (fun q : Nat => s.heap.size ≤ q) s.heap H2 locs2 → lv_has ls2 7 [(0, .ref b), (1, .ref (h 0)), (2, .ref (g 0)), (3, .ref o), (4, .int (nI i))] → W p l e room_1 s m #[Value.ref b] below meth c H2 locs2 (cells + 1) (slots + 6) Q (F0 m 1005 ls2 [])) : W p l e room_1 s m #[Value.ref b] below meth c H locs cells slots Q (F0 m 677 ls []) := by
  obtain ⟨hx, hb, hml, hown, hts, hX, hbl, hK, hZ, hNc, hL⟩ := C0
  have hA : ∀ q : Nat, s.heap.size ≤ q → (fun q : Nat => s.heap.size ≤ q) q := fun _ h => h
  have hbA : ¬ (fun q : Nat => s.heap.size ≤ q) b := Nat.not_le.mpr hbl
  have hKc := hK.sub (tys' := [(cI, .int)]) [0] rfl
  obtain ⟨P1, eP1⟩ : ∃ y : Int32, xs (nI i + 1).toNatClampNeg = y := ⟨_, rfl⟩
  have hsim := sim_failAfter hq h9 P1
  have sK := hsim.1
  have sM := hsim.2.1
  refine lv_aload_n hx hb dL_law_677 rfl (lv_at hl 1 rfl) ?_
  refine lv_aload_n hx hb dL_law_678 rfl (lv_at hl 0 rfl) ?_
  refine lv_iload hx hb dL_law_679 (lv_at hl 4 rfl) ?_
  refine lv_iconst (v := 1) hx hb dL_law_681 (by decide) ?_
  refine lv_iadd hx hb dL_law_682 ?_
  refine va_sld hx hb hX hbl hbA hS (in_1 hi hL) dL_law_683 ?_
  rw [eP1]
  have hPc := hP.sub (ws' := kW cI h κ) [0, 1, 2, 3, 4, 5, 6, 7, 8, 9] rfl
  have hDc := hD.sub (ws' := kW cI h κ) [0, 1, 2, 3, 4, 5, 6, 7, 8, 9] (by decide) rfl
  have hFc := va_free (wc := kW cI h κ) hD hS hA [0, 1, 2, 3, 4, 5, 6, 7, 8, 9] rfl
  refine rcI (W2 := fun u => LW cI cL h g o u μ out) (vx_runSW (As := [.ref (h 0), .int P1]) (rest := []) ⟨hx, hb, hml, hown, hts⟩ (w_failAfter l hlt dC dI cI h H.size κ P1) (vx_cwSW 2 hts gL_law_L_failAfter rfl rfl rfl (by decide +kernel) ⟨Nat.le_of_ble_eq_true rfl, Nat.le_of_ble_eq_true rfl⟩) (pL_S hPc hKc hDc hZ hS hFc hNc) rfl rfl hl.1 rfl (lv_room (Nat.le_of_ble_eq_true rfl)) dL_law_684 ⟨hc, hs⟩) hP hD hS hA [0, 1, 2, 3, 4, 5, 6, 7, 8, 9] [10, 11, 12, 13, 14, 15, 16] [7, 8, 9, 10, 11, 12, 13, 14, 15, 16, 0, 1, 2, 3, 4, 5, 6] rfl rfl (by decide) (fun _ => rfl) (fun r5 κ2 H locs hw hP hD hS => ?_)
  refine lv_istore (lv' := [(5, .int r5), (0, .ref b), (1, .ref (h 0)), (2, .ref (g 0)), (3, .ref o), (4, .int (nI i))]) hx hb dL_law_687 hl (by decide) rfl (fun ls hl => ?_)
  refine lv_aload_n hx hb dL_law_689 rfl (lv_at hl 3 rfl) ?_
  refine lv_aload_n hx hb dL_law_690 rfl (lv_at hl 1 rfl) ?_
  refine lv_iload hx hb dL_law_691 (lv_at hl 5 rfl) ?_
  refine lv_iconst (v := 1) hx hb dL_law_693 (by decide) ?_
  refine lv_iadd hx hb dL_law_694 ?_
  refine va_sld hx hb hX hbl hbA hS (in_1 hi hL) dL_law_695 ?_
  rw [eP1]
  have hPc := hP.sub (ws' := mW cI g μ) [10, 11, 12, 13, 14, 15] rfl
  have hDc := hD.sub (ws' := mW cI g μ) [10, 11, 12, 13, 14, 15] (by decide) rfl
  refine rcV (W2 := fun u => LW cI cL h g o κ2 u out) (va_runV (As := [.int P1]) (rest := []) ⟨hx, hb, hml, hown, hts⟩ (c_X3_failAfter l dC dI cI g H.size μ P1) (cwV 1 hts gL_law_X3_failAfter rfl rfl rfl (by decide +kernel) ⟨Nat.le_of_ble_eq_true rfl, Nat.le_of_ble_eq_true rfl⟩) (pW_V hPc hKc hDc (ci := 3) (q0 := 0) rfl rfl) rfl rfl hl.1 rfl (lv_room (Nat.le_of_ble_eq_true rfl)) dL_law_696 ⟨hc, hs⟩) hP hD hS hA [10, 11, 12, 13, 14, 15] [0, 1, 2, 3, 4, 5, 6, 7, 8, 9, 16] [0, 1, 2, 3, 4, 5, 6, 7, 8, 9, 11, 12, 13, 14, 15, 16, 10] rfl rfl (by decide) (fun _ => rfl) (fun μ2 H locs hv2 hP hD hS => ?_)
  refine lv_aload_n hx hb dL_law_699 rfl (lv_at hl 3 rfl) ?_
  have hPc := hP.sub (ws' := mW cI g μ2) [10, 11, 12, 13, 14, 15] rfl
  have hDc := hD.sub (ws' := mW cI g μ2) [10, 11, 12, 13, 14, 15] (by decide) rfl
  refine rcI (W2 := fun _ => LW cI cL h g o κ2 μ2 out) (va_runV (As := []) (rest := []) ⟨hx, hb, hml, hown, hts⟩ (c_X3_thrown l dC dI cI g H.size μ2) (cwV 0 hts gL_law_X3_thrown rfl rfl rfl (by decide +kernel) ⟨Nat.le_of_ble_eq_true rfl, Nat.le_of_ble_eq_true rfl⟩) (pW_V hPc hKc hDc (ci := 3) (q0 := 0) rfl rfl) rfl rfl hl.1 rfl (lv_room (Nat.le_of_ble_eq_true rfl)) dL_law_700 ⟨hc, hs⟩) hP hD hS hA [10, 11, 12, 13, 14, 15] [0, 1, 2, 3, 4, 5, 6, 7, 8, 9, 16] [0, 1, 2, 3, 4, 5, 6, 7, 8, 9, 11, 12, 13, 14, 15, 16, 10] rfl rfl (by decide) (fun _ => rfl) (fun r7 u7 H locs hv7 hP hD hS => ?_)
  obtain ⟨e75, hR⟩ := fin_x hsim nI_c0 hw.1 (fun h => ⟨(hw.2 h).1, (hw.2 h).2.2⟩) hv2 hv7
  refine lv_iload hx hb dL_law_703 (lv_at hl 0 rfl) ?_
  refine lv_icmp_eq (tgt := 710) hx hb dL_law_705 (by decide) (fun c_1 => ?_) (fun c_1 => absurd e75 c_1)
  refine lv_goto (tgt := 1005) hx hb dL_law_710 (by decide) ?_
  exact K κ2 μ2 out H locs ls hR hP hD hS (lv_sub hl [1, 2, 3, 4, 5] rfl)
set_option maxHeartbeats 1000000 in
set_option maxRecDepth 100000 in
theorem arm_crash {p : Program} {l : Launch} {e : Env} {s : State} {m : MethodId} {below : List Frame} {meth : Method} {c : Code} {b L : Nat} {xs : Nat → Int32} {dC : Nat → ClassId} {dI : Nat → Nat → Nat} {cI cL : ClassId} (hlt : l.stackTraces = false) (C0 : LC p s m c b L xs dC dI cI cL) {h g : Nat → Nat} {o i N : Nat} {κ : KS} {μ : MS} {out : Nat → Int64} (hi : i + 3 ≤ L) (hq : RQ κ μ N) (h9 : N + 96 ≤ 100000) {H : Heap} {locs : List Loc} {cells slots : Nat} {Q : State → Prop} {ls : Array Slot} (hc : cells + 1 ≤ 1051) (hs : slots + 6 ≤ 9112) (hP : va_P (dC, dI) vwCl (LW cI cL h g o κ μ out) H) (hD : va_D (fun q : Nat => s.heap.size ≤ q) (LW cI cL h g o κ μ out)) (hS : va_S (fun q : Nat => s.heap.size ≤ q) s.heap H locs) (hl : lv_has ls 7 [(0, .ref b), (1, .ref (h 0)), (2, .ref (g 0)), (3, .ref o), (4, .int (nI i))])
    (K : ∀ (κ2 : KS) (μ2 : MS) (out2 : Nat → Int64) (H2 : Heap) (locs2 : List Loc) (ls2 : Array Slot), RQ κ2 μ2 (N + 96) → va_P (dC, dI) vwCl (LW cI cL h g o κ2 μ2 out2) H2 → va_D (fun q : Nat => s.heap.size ≤ q) (LW cI cL h g o κ2 μ2 out2) → va_S (fun q : Nat => s.heap.size ≤ q) s.heap H2 locs2 → lv_has ls2 7 [(0, .ref b), (1, .ref (h 0)), (2, .ref (g 0)), (3, .ref o), (4, .int (nI i))] → W p l e room_1 s m #[Value.ref b] below meth c H2 locs2 (cells + 1) (slots + 6) Q (F0 m 1005 ls2 [])) : W p l e room_1 s m #[Value.ref b] below meth c H locs cells slots Q (F0 m 713 ls []) := by
  obtain ⟨hx, hb, hml, hown, hts, hX, hbl, hK, hZ, hNc, hL⟩ := C0
  have hA : ∀ q : Nat, s.heap.size ≤ q → (fun q : Nat => s.heap.size ≤ q) q := fun _ h => h
  have hbA : ¬ (fun q : Nat => s.heap.size ≤ q) b := Nat.not_le.mpr hbl
  have hKc := hK.sub (tys' := [(cI, .int)]) [0] rfl
  have hsim := sim_crash hq h9
  have sK := hsim.1
  have sM := hsim.2.1
  refine lv_aload_n hx hb dL_law_713 rfl (lv_at hl 1 rfl) ?_
  refine lv_aload_n hx hb dL_law_714 rfl (lv_at hl 3 rfl) ?_
  have hPc := hP.sub (ws' := wL cI cL h o κ out) [0, 1, 2, 3, 4, 5, 6, 7, 8, 9, 16] rfl
  have hDc := hD.sub (ws' := wL cI cL h o κ out) [0, 1, 2, 3, 4, 5, 6, 7, 8, 9, 16] (by decide) rfl
  have hFc := va_free (wc := wL cI cL h o κ out) hD hS hA [0, 1, 2, 3, 4, 5, 6, 7, 8, 9, 16] rfl
  refine rcI (W2 := fun u => LW cI cL h g o u.1 μ u.2) (vx_runSW (As := [.ref (h 0), .ref o]) (rest := []) ⟨hx, hb, hml, hown, hts⟩ (w_crash l hlt dC dI cI cL h o H.size κ out) (vx_cwSW 2 hts gL_law_L_crash rfl rfl rfl (by decide +kernel) ⟨Nat.le_of_ble_eq_true rfl, Nat.le_of_ble_eq_true rfl⟩) (pL_S hPc hK hDc hZ hS hFc hNc) rfl rfl hl.1 rfl (lv_room (Nat.le_of_ble_eq_true rfl)) dL_law_715 ⟨hc, hs⟩) hP hD hS hA [0, 1, 2, 3, 4, 5, 6, 7, 8, 9, 16] [10, 11, 12, 13, 14, 15] [6, 7, 8, 9, 10, 11, 12, 13, 14, 15, 0, 1, 2, 3, 4, 5, 16] rfl rfl (by decide) (fun _ => rfl) (fun r5 u5 H locs hw hP hD hS => ?_)
  obtain ⟨κ2, out2⟩ := u5
  dsimp only at hw hP hD
  refine lv_istore (lv' := [(5, .int r5), (0, .ref b), (1, .ref (h 0)), (2, .ref (g 0)), (3, .ref o), (4, .int (nI i))]) hx hb dL_law_718 hl (by decide) rfl (fun ls hl => ?_)
  refine lv_aload_n hx hb dL_law_720 rfl (lv_at hl 3 rfl) ?_
  have hPc := hP.sub (ws' := mW cI g μ) [10, 11, 12, 13, 14, 15] rfl
  have hDc := hD.sub (ws' := mW cI g μ) [10, 11, 12, 13, 14, 15] (by decide) rfl
  refine rcI (W2 := fun u => LW cI cL h g o κ2 u out2) (va_runV (As := []) (rest := []) ⟨hx, hb, hml, hown, hts⟩ (c_X3_crash l dC dI cI g H.size μ) (cwV 0 hts gL_law_X3_crash rfl rfl rfl (by decide +kernel) ⟨Nat.le_of_ble_eq_true rfl, Nat.le_of_ble_eq_true rfl⟩) (pW_V hPc hKc hDc (ci := 3) (q0 := 0) rfl rfl) rfl rfl hl.1 rfl (lv_room (Nat.le_of_ble_eq_true rfl)) dL_law_721 ⟨hc, hs⟩) hP hD hS hA [10, 11, 12, 13, 14, 15] [0, 1, 2, 3, 4, 5, 6, 7, 8, 9, 16] [0, 1, 2, 3, 4, 5, 6, 7, 8, 9, 11, 12, 13, 14, 15, 16, 10] rfl rfl (by decide) (fun _ => rfl) (fun r6 μ2 H locs hv hP hD hS => ?_)
  obtain ⟨hv, hv2⟩ := hv
  refine lv_istore (lv' := [(6, .int r6), (5, .int r5), (0, .ref b), (1, .ref (h 0)), (2, .ref (g 0)), (3, .ref o), (4, .int (nI i))]) hx hb dL_law_724 hl (by decide) rfl (fun ls hl => ?_)
  refine lv_aload_n hx hb dL_law_726 rfl (lv_at hl 4 rfl) ?_
  have hPc := hP.sub (ws' := mW cI g μ2) [10, 11, 12, 13, 14, 15] rfl
  have hDc := hD.sub (ws' := mW cI g μ2) [10, 11, 12, 13, 14, 15] (by decide) rfl
  refine rcI (W2 := fun _ => LW cI cL h g o κ2 μ2 out2) (va_runV (As := []) (rest := []) ⟨hx, hb, hml, hown, hts⟩ (c_X3_thrown l dC dI cI g H.size μ2) (cwV 0 hts gL_law_X3_thrown rfl rfl rfl (by decide +kernel) ⟨Nat.le_of_ble_eq_true rfl, Nat.le_of_ble_eq_true rfl⟩) (pW_V hPc hKc hDc (ci := 3) (q0 := 0) rfl rfl) rfl rfl hl.1 rfl (lv_room (Nat.le_of_ble_eq_true rfl)) dL_law_727 ⟨hc, hs⟩) hP hD hS hA [10, 11, 12, 13, 14, 15] [0, 1, 2, 3, 4, 5, 6, 7, 8, 9, 16] [0, 1, 2, 3, 4, 5, 6, 7, 8, 9, 11, 12, 13, 14, 15, 16, 10] rfl rfl (by decide) (fun _ => rfl) (fun r7 u7 H locs hv7 hP hD hS => ?_)
  obtain ⟨e75, hO, hR⟩ := fin_i hsim kc_c0 hw hv hv2 hv7
  refine lv_iload hx hb dL_law_730 (lv_at hl 1 rfl) ?_
  refine lv_icmp_eq (tgt := 737) hx hb dL_law_732 (by decide) (fun c_1 => ?_) (fun c_1 => absurd e75 c_1)
  refine lv_iload hx hb dL_law_737 (lv_at hl 1 rfl) ?_
  refine lv_if_ne (tgt := 754) hx hb dL_law_739 (by decide) (fun c_2 => ?_) (fun c_2 => ?_)
  · refine lv_goto (tgt := 1005) hx hb dL_law_754 (by decide) ?_
    exact K κ2 μ2 out2 H locs ls hR hP hD hS (lv_sub hl [2, 3, 4, 5, 6] rfl)
  · refine lv_aload_n hx hb dL_law_742 rfl (lv_at hl 5 rfl) ?_
    refine lv_iconst (v := 0) hx hb dL_law_743 (by decide) ?_
    refine va_lald hx hb hK hP 16 1 rfl rfl in01 dL_law_744 ?_
    refine lv_iload hx hb dL_law_745 (lv_at hl 0 rfl) ?_
    refine lv_i2l (v := (out2 (0 : Int32).toNatClampNeg)) hx hb dL_law_747 ((hO c_2).trans (congrArg out2 (by decide))) ?_
    refine lv_lcmpE hx hb dL_law_748 ?_
    refine lv_if_eq (tgt := 754) hx hb dL_law_749 (by decide) (fun c_3 => ?_) (fun c_3 => absurd rfl c_3)
    refine lv_goto (tgt := 1005) hx hb dL_law_754 (by decide) ?_
    exact K κ2 μ2 out2 H locs ls hR hP hD hS (lv_sub hl [2, 3, 4, 5, 6] rfl)
set_option maxHeartbeats 1000000 in
set_option maxRecDepth 100000 in
theorem arm_start {p : Program} {l : Launch} {e : Env} {s : State} {m : MethodId} {below : List Frame} {meth : Method} {c : Code} {b L : Nat} {xs : Nat → Int32} {dC : Nat → ClassId} {dI : Nat → Nat → Nat} {cI cL : ClassId} (hlt : l.stackTraces = false) (C0 : LC p s m c b L xs dC dI cI cL) {h g : Nat → Nat} {o i N : Nat} {κ : KS} {μ : MS} {out : Nat → Int64} (hi : i + 3 ≤ L) (hq : RQ κ μ N) (h9 : N + 96 ≤ 100000) {H : Heap} {locs : List Loc} {cells slots : Nat} {Q : State → Prop} {ls : Array Slot} (hc : cells + 1 ≤ 1051) (hs : slots + 6 ≤ 9112) (hP : va_P (dC, dI) vwCl (LW cI cL h g o κ μ out) H) (hD : va_D (fun q : Nat => s.heap.size ≤ q) (LW cI cL h g o κ μ out)) (hS : va_S (fun q : Nat => s.heap.size ≤ q) s.heap H locs) (hl : lv_has ls 7 [(0, .ref b), (1, .ref (h 0)), (2, .ref (g 0)), (3, .ref o), (4, .int (nI i))])
    (K : ∀ (κ2 : KS) (μ2 : MS) (out2 : Nat → Int64) (H2 : Heap) (locs2 : List Loc) (ls2 : Array Slot), RQ κ2 μ2 (N + 96) → va_P (dC, dI) vwCl (LW cI cL h g o κ2 μ2 out2) H2 → va_D (fun q : Nat => s.heap.size ≤ q) (LW cI cL h g o κ2 μ2 out2) → va_S (fun q : Nat => s.heap.size ≤ q) s.heap H2 locs2 → lv_has ls2 7 [(0, .ref b), (1, .ref (h 0)), (2, .ref (g 0)), (3, .ref o), (4, .int (nI i))] → W p l e room_1 s m #[Value.ref b] below meth c H2 locs2 (cells + 1) (slots + 6) Q (F0 m 1005 ls2 [])) : W p l e room_1 s m #[Value.ref b] below meth c H locs cells slots Q (F0 m 757 ls []) := by
  obtain ⟨hx, hb, hml, hown, hts, hX, hbl, hK, hZ, hNc, hL⟩ := C0
  have hA : ∀ q : Nat, s.heap.size ≤ q → (fun q : Nat => s.heap.size ≤ q) q := fun _ h => h
  have hbA : ¬ (fun q : Nat => s.heap.size ≤ q) b := Nat.not_le.mpr hbl
  have hKc := hK.sub (tys' := [(cI, .int)]) [0] rfl
  have hsim := sim_start hq h9
  have sK := hsim.1
  have sM := hsim.2.1
  refine lv_aload_n hx hb dL_law_757 rfl (lv_at hl 1 rfl) ?_
  refine lv_aload_n hx hb dL_law_758 rfl (lv_at hl 3 rfl) ?_
  have hPc := hP.sub (ws' := wL cI cL h o κ out) [0, 1, 2, 3, 4, 5, 6, 7, 8, 9, 16] rfl
  have hDc := hD.sub (ws' := wL cI cL h o κ out) [0, 1, 2, 3, 4, 5, 6, 7, 8, 9, 16] (by decide) rfl
  have hFc := va_free (wc := wL cI cL h o κ out) hD hS hA [0, 1, 2, 3, 4, 5, 6, 7, 8, 9, 16] rfl
  refine rcI (W2 := fun u => LW cI cL h g o u.1 μ u.2) (vx_runSW (As := [.ref (h 0), .ref o]) (rest := []) ⟨hx, hb, hml, hown, hts⟩ (w_start l hlt dC dI cI cL h o H.size κ out sK) (vx_cwSW 2 hts gL_law_L_start rfl rfl rfl (by decide +kernel) ⟨Nat.le_of_ble_eq_true rfl, Nat.le_of_ble_eq_true rfl⟩) (pL_S hPc hK hDc hZ hS hFc hNc) rfl rfl hl.1 rfl (lv_room (Nat.le_of_ble_eq_true rfl)) dL_law_759 ⟨hc, hs⟩) hP hD hS hA [0, 1, 2, 3, 4, 5, 6, 7, 8, 9, 16] [10, 11, 12, 13, 14, 15] [6, 7, 8, 9, 10, 11, 12, 13, 14, 15, 0, 1, 2, 3, 4, 5, 16] rfl rfl (by decide) (fun _ => rfl) (fun r5 u5 H locs hw hP hD hS => ?_)
  obtain ⟨κ2, out2⟩ := u5
  dsimp only at hw hP hD
  refine lv_istore (lv' := [(5, .int r5), (0, .ref b), (1, .ref (h 0)), (2, .ref (g 0)), (3, .ref o), (4, .int (nI i))]) hx hb dL_law_762 hl (by decide) rfl (fun ls hl => ?_)
  refine lv_aload_n hx hb dL_law_764 rfl (lv_at hl 3 rfl) ?_
  have hPc := hP.sub (ws' := mW cI g μ) [10, 11, 12, 13, 14, 15] rfl
  have hDc := hD.sub (ws' := mW cI g μ) [10, 11, 12, 13, 14, 15] (by decide) rfl
  refine rcI (W2 := fun u => LW cI cL h g o κ2 u out2) (va_runV (As := []) (rest := []) ⟨hx, hb, hml, hown, hts⟩ (c_X3_start l dC dI cI g H.size μ sM) (cwV 0 hts gL_law_X3_start rfl rfl rfl (by decide +kernel) ⟨Nat.le_of_ble_eq_true rfl, Nat.le_of_ble_eq_true rfl⟩) (pW_V hPc hKc hDc (ci := 3) (q0 := 0) rfl rfl) rfl rfl hl.1 rfl (lv_room (Nat.le_of_ble_eq_true rfl)) dL_law_765 ⟨hc, hs⟩) hP hD hS hA [10, 11, 12, 13, 14, 15] [0, 1, 2, 3, 4, 5, 6, 7, 8, 9, 16] [0, 1, 2, 3, 4, 5, 6, 7, 8, 9, 11, 12, 13, 14, 15, 16, 10] rfl rfl (by decide) (fun _ => rfl) (fun r6 μ2 H locs hv hP hD hS => ?_)
  obtain ⟨hv, hv2⟩ := hv
  refine lv_istore (lv' := [(6, .int r6), (5, .int r5), (0, .ref b), (1, .ref (h 0)), (2, .ref (g 0)), (3, .ref o), (4, .int (nI i))]) hx hb dL_law_768 hl (by decide) rfl (fun ls hl => ?_)
  refine lv_aload_n hx hb dL_law_770 rfl (lv_at hl 4 rfl) ?_
  have hPc := hP.sub (ws' := mW cI g μ2) [10, 11, 12, 13, 14, 15] rfl
  have hDc := hD.sub (ws' := mW cI g μ2) [10, 11, 12, 13, 14, 15] (by decide) rfl
  refine rcI (W2 := fun _ => LW cI cL h g o κ2 μ2 out2) (va_runV (As := []) (rest := []) ⟨hx, hb, hml, hown, hts⟩ (c_X3_thrown l dC dI cI g H.size μ2) (cwV 0 hts gL_law_X3_thrown rfl rfl rfl (by decide +kernel) ⟨Nat.le_of_ble_eq_true rfl, Nat.le_of_ble_eq_true rfl⟩) (pW_V hPc hKc hDc (ci := 3) (q0 := 0) rfl rfl) rfl rfl hl.1 rfl (lv_room (Nat.le_of_ble_eq_true rfl)) dL_law_771 ⟨hc, hs⟩) hP hD hS hA [10, 11, 12, 13, 14, 15] [0, 1, 2, 3, 4, 5, 6, 7, 8, 9, 16] [0, 1, 2, 3, 4, 5, 6, 7, 8, 9, 11, 12, 13, 14, 15, 16, 10] rfl rfl (by decide) (fun _ => rfl) (fun r7 u7 H locs hv7 hP hD hS => ?_)
  obtain ⟨e75, hO, hR⟩ := fin_i hsim kc_c0 hw hv hv2 hv7
  refine lv_iload hx hb dL_law_774 (lv_at hl 1 rfl) ?_
  refine lv_icmp_eq (tgt := 781) hx hb dL_law_776 (by decide) (fun c_1 => ?_) (fun c_1 => absurd e75 c_1)
  refine lv_iload hx hb dL_law_781 (lv_at hl 1 rfl) ?_
  refine lv_if_ne (tgt := 798) hx hb dL_law_783 (by decide) (fun c_2 => ?_) (fun c_2 => ?_)
  · refine lv_goto (tgt := 1005) hx hb dL_law_798 (by decide) ?_
    exact K κ2 μ2 out2 H locs ls hR hP hD hS (lv_sub hl [2, 3, 4, 5, 6] rfl)
  · refine lv_aload_n hx hb dL_law_786 rfl (lv_at hl 5 rfl) ?_
    refine lv_iconst (v := 0) hx hb dL_law_787 (by decide) ?_
    refine va_lald hx hb hK hP 16 1 rfl rfl in01 dL_law_788 ?_
    refine lv_iload hx hb dL_law_789 (lv_at hl 0 rfl) ?_
    refine lv_i2l (v := (out2 (0 : Int32).toNatClampNeg)) hx hb dL_law_791 ((hO c_2).trans (congrArg out2 (by decide))) ?_
    refine lv_lcmpE hx hb dL_law_792 ?_
    refine lv_if_eq (tgt := 798) hx hb dL_law_793 (by decide) (fun c_3 => ?_) (fun c_3 => absurd rfl c_3)
    refine lv_goto (tgt := 1005) hx hb dL_law_798 (by decide) ?_
    exact K κ2 μ2 out2 H locs ls hR hP hD hS (lv_sub hl [2, 3, 4, 5, 6] rfl)
set_option maxHeartbeats 1000000 in
set_option maxRecDepth 100000 in
theorem arm_isUp {p : Program} {l : Launch} {e : Env} {s : State} {m : MethodId} {below : List Frame} {meth : Method} {c : Code} {b L : Nat} {xs : Nat → Int32} {dC : Nat → ClassId} {dI : Nat → Nat → Nat} {cI cL : ClassId} (hlt : l.stackTraces = false) (C0 : LC p s m c b L xs dC dI cI cL) {h g : Nat → Nat} {o i N : Nat} {κ : KS} {μ : MS} {out : Nat → Int64} (hi : i + 3 ≤ L) (hq : RQ κ μ N) (h9 : N + 96 ≤ 100000) {H : Heap} {locs : List Loc} {cells slots : Nat} {Q : State → Prop} {ls : Array Slot} (hc : cells + 1 ≤ 1051) (hs : slots + 6 ≤ 9112) (hP : va_P (dC, dI) vwCl (LW cI cL h g o κ μ out) H) (hD : va_D (fun q : Nat => s.heap.size ≤ q) (LW cI cL h g o κ μ out)) (hS : va_S (fun q : Nat => s.heap.size ≤ q) s.heap H locs) (hl : lv_has ls 7 [(0, .ref b), (1, .ref (h 0)), (2, .ref (g 0)), (3, .ref o), (4, .int (nI i))])
    (K : ∀ (κ2 : KS) (μ2 : MS) (out2 : Nat → Int64) (H2 : Heap) (locs2 : List Loc) (ls2 : Array Slot), RQ κ2 μ2 (N + 96) → va_P (dC, dI) vwCl (LW cI cL h g o κ2 μ2 out2) H2 → va_D (fun q : Nat => s.heap.size ≤ q) (LW cI cL h g o κ2 μ2 out2) → va_S (fun q : Nat => s.heap.size ≤ q) s.heap H2 locs2 → lv_has ls2 7 [(0, .ref b), (1, .ref (h 0)), (2, .ref (g 0)), (3, .ref o), (4, .int (nI i))] → W p l e room_1 s m #[Value.ref b] below meth c H2 locs2 (cells + 1) (slots + 6) Q (F0 m 1005 ls2 [])) : W p l e room_1 s m #[Value.ref b] below meth c H locs cells slots Q (F0 m 801 ls []) := by
  obtain ⟨hx, hb, hml, hown, hts, hX, hbl, hK, hZ, hNc, hL⟩ := C0
  have hA : ∀ q : Nat, s.heap.size ≤ q → (fun q : Nat => s.heap.size ≤ q) q := fun _ h => h
  have hbA : ¬ (fun q : Nat => s.heap.size ≤ q) b := Nat.not_le.mpr hbl
  have hKc := hK.sub (tys' := [(cI, .int)]) [0] rfl
  refine W.widen (k := cells + 1) (n := slots + 6) (by omega) (by omega) ?_
  obtain ⟨hz0, sK, sM, hr, hR⟩ := sim_isUp hq h9
  refine lv_aload_n hx hb dL_law_801 rfl (lv_at hl 1 rfl) ?_
  have hPc := hP.sub (ws' := kW cI h κ) [0, 1, 2, 3, 4, 5, 6, 7, 8, 9] rfl
  have hDc := hD.sub (ws' := kW cI h κ) [0, 1, 2, 3, 4, 5, 6, 7, 8, 9] (by decide) rfl
  refine rcI (W2 := fun _ => LW cI cL h g o κ μ out) (va_runV (As := []) (rest := []) ⟨hx, hb, hml, hown, hts⟩ (c_X2_isUp l dC dI cI h H.size κ hz0) (cwV 0 hts gL_law_X2_isUp rfl rfl rfl (by decide +kernel) ⟨Nat.le_of_ble_eq_true rfl, Nat.le_of_ble_eq_true rfl⟩) (pW_V hPc hKc hDc (ci := 2) (q0 := 0) rfl rfl) rfl rfl hl.1 rfl (lv_room (Nat.le_of_ble_eq_true rfl)) dL_law_802 ⟨hc, hs⟩) hP hD hS hA [0, 1, 2, 3, 4, 5, 6, 7, 8, 9] [10, 11, 12, 13, 14, 15, 16] [7, 8, 9, 10, 11, 12, 13, 14, 15, 16, 0, 1, 2, 3, 4, 5, 6] rfl rfl (by decide) (fun _ => rfl) (fun r5 u5 H locs hw hP hD hS => ?_)
  obtain ⟨hw, hz5⟩ := hw
  refine lv_aload_n hx hb dL_law_805 rfl (lv_at hl 2 rfl) ?_
  have hPc := hP.sub (ws' := mW cI g μ) [10, 11, 12, 13, 14, 15] rfl
  have hDc := hD.sub (ws' := mW cI g μ) [10, 11, 12, 13, 14, 15] (by decide) rfl
  refine rcI (W2 := fun u => LW cI cL h g o κ u out) (va_runV (As := []) (rest := [.int r5]) ⟨hx, hb, hml, hown, hts⟩ (c_X3_isUp l dC dI cI g H.size μ) (cwV 0 hts gL_law_X3_isUp rfl rfl rfl (by decide +kernel) ⟨Nat.le_of_ble_eq_true rfl, Nat.le_of_ble_eq_true rfl⟩) (pW_V hPc hKc hDc (ci := 3) (q0 := 0) rfl rfl) rfl rfl hl.1 rfl (lv_room (Nat.le_of_ble_eq_true rfl)) dL_law_806 ⟨hc, hs⟩) hP hD hS hA [10, 11, 12, 13, 14, 15] [0, 1, 2, 3, 4, 5, 6, 7, 8, 9, 16] [0, 1, 2, 3, 4, 5, 6, 7, 8, 9, 11, 12, 13, 14, 15, 16, 10] rfl rfl (by decide) (fun _ => rfl) (fun r6 μ2 H locs hv hP hD hS => ?_)
  obtain ⟨hv, hv2, hz6⟩ := hv
  refine lv_icmp_eq (tgt := 1005) hx hb dL_law_809 (by decide) (fun c_1 => ?_) (fun c_1 => absurd (by rw [hw, hv]; exact hr) c_1)
  rw [← hv2] at hR
  exact K κ μ2 out H locs ls hR hP hD hS (lv_sub hl [0, 1, 2, 3, 4] rfl)
set_option maxHeartbeats 1000000 in
set_option maxRecDepth 100000 in
theorem arm_head {p : Program} {l : Launch} {e : Env} {s : State} {m : MethodId} {below : List Frame} {meth : Method} {c : Code} {b L : Nat} {xs : Nat → Int32} {dC : Nat → ClassId} {dI : Nat → Nat → Nat} {cI cL : ClassId} (hlt : l.stackTraces = false) (C0 : LC p s m c b L xs dC dI cI cL) {h g : Nat → Nat} {o i N : Nat} {κ : KS} {μ : MS} {out : Nat → Int64} (hi : i + 3 ≤ L) (hq : RQ κ μ N) (h9 : N + 96 ≤ 100000) {H : Heap} {locs : List Loc} {cells slots : Nat} {Q : State → Prop} {ls : Array Slot} (hc : cells + 1 ≤ 1051) (hs : slots + 6 ≤ 9112) (hP : va_P (dC, dI) vwCl (LW cI cL h g o κ μ out) H) (hD : va_D (fun q : Nat => s.heap.size ≤ q) (LW cI cL h g o κ μ out)) (hS : va_S (fun q : Nat => s.heap.size ≤ q) s.heap H locs) (hl : lv_has ls 7 [(0, .ref b), (1, .ref (h 0)), (2, .ref (g 0)), (3, .ref o), (4, .int (nI i))])
    (K : ∀ (κ2 : KS) (μ2 : MS) (out2 : Nat → Int64) (H2 : Heap) (locs2 : List Loc) (ls2 : Array Slot), RQ κ2 μ2 (N + 96) → va_P (dC, dI) vwCl (LW cI cL h g o κ2 μ2 out2) H2 → va_D (fun q : Nat => s.heap.size ≤ q) (LW cI cL h g o κ2 μ2 out2) → va_S (fun q : Nat => s.heap.size ≤ q) s.heap H2 locs2 → lv_has ls2 7 [(0, .ref b), (1, .ref (h 0)), (2, .ref (g 0)), (3, .ref o), (4, .int (nI i))] → W p l e room_1 s m #[Value.ref b] below meth c H2 locs2 (cells + 1) (slots + 6) Q (F0 m 1005 ls2 [])) : W p l e room_1 s m #[Value.ref b] below meth c H locs cells slots Q (F0 m 814 ls []) := by
  obtain ⟨hx, hb, hml, hown, hts, hX, hbl, hK, hZ, hNc, hL⟩ := C0
  have hA : ∀ q : Nat, s.heap.size ≤ q → (fun q : Nat => s.heap.size ≤ q) q := fun _ h => h
  have hbA : ¬ (fun q : Nat => s.heap.size ≤ q) b := Nat.not_le.mpr hbl
  have hKc := hK.sub (tys' := [(cI, .int)]) [0] rfl
  refine W.widen (k := cells + 1) (n := slots + 6) (by omega) (by omega) ?_
  obtain ⟨sK, sM, hr, hR⟩ := sim_head hq h9
  refine lv_aload_n hx hb dL_law_814 rfl (lv_at hl 1 rfl) ?_
  have hPc := hP.sub (ws' := kW cI h κ) [0, 1, 2, 3, 4, 5, 6, 7, 8, 9] rfl
  have hDc := hD.sub (ws' := kW cI h κ) [0, 1, 2, 3, 4, 5, 6, 7, 8, 9] (by decide) rfl
  refine rcI (W2 := fun _ => LW cI cL h g o κ μ out) (va_runV (As := []) (rest := []) ⟨hx, hb, hml, hown, hts⟩ (c_X2_head l dC dI cI h H.size κ) (cwV 0 hts gL_law_X2_head rfl rfl rfl (by decide +kernel) ⟨Nat.le_of_ble_eq_true rfl, Nat.le_of_ble_eq_true rfl⟩) (pW_V hPc hKc hDc (ci := 2) (q0 := 0) rfl rfl) rfl rfl hl.1 rfl (lv_room (Nat.le_of_ble_eq_true rfl)) dL_law_815 ⟨hc, hs⟩) hP hD hS hA [0, 1, 2, 3, 4, 5, 6, 7, 8, 9] [10, 11, 12, 13, 14, 15, 16] [7, 8, 9, 10, 11, 12, 13, 14, 15, 16, 0, 1, 2, 3, 4, 5, 6] rfl rfl (by decide) (fun _ => rfl) (fun r5 u5 H locs hw hP hD hS => ?_)
  refine lv_aload_n hx hb dL_law_818 rfl (lv_at hl 2 rfl) ?_
  have hPc := hP.sub (ws' := mW cI g μ) [10, 11, 12, 13, 14, 15] rfl
  have hDc := hD.sub (ws' := mW cI g μ) [10, 11, 12, 13, 14, 15] (by decide) rfl
  refine rcI (W2 := fun u => LW cI cL h g o κ u out) (va_runV (As := []) (rest := [.int r5]) ⟨hx, hb, hml, hown, hts⟩ (c_X3_head l dC dI cI g H.size μ) (cwV 0 hts gL_law_X3_head rfl rfl rfl (by decide +kernel) ⟨Nat.le_of_ble_eq_true rfl, Nat.le_of_ble_eq_true rfl⟩) (pW_V hPc hKc hDc (ci := 3) (q0 := 0) rfl rfl) rfl rfl hl.1 rfl (lv_room (Nat.le_of_ble_eq_true rfl)) dL_law_819 ⟨hc, hs⟩) hP hD hS hA [10, 11, 12, 13, 14, 15] [0, 1, 2, 3, 4, 5, 6, 7, 8, 9, 16] [0, 1, 2, 3, 4, 5, 6, 7, 8, 9, 11, 12, 13, 14, 15, 16, 10] rfl rfl (by decide) (fun _ => rfl) (fun r6 μ2 H locs hv hP hD hS => ?_)
  obtain ⟨hv, hv2⟩ := hv
  refine lv_icmp_eq (tgt := 1005) hx hb dL_law_822 (by decide) (fun c_1 => ?_) (fun c_1 => absurd (by rw [hw, hv]; exact hr) c_1)
  rw [← hv2] at hR
  exact K κ μ2 out H locs ls hR hP hD hS (lv_sub hl [0, 1, 2, 3, 4] rfl)
set_option maxHeartbeats 1000000 in
set_option maxRecDepth 100000 in
theorem arm_tail {p : Program} {l : Launch} {e : Env} {s : State} {m : MethodId} {below : List Frame} {meth : Method} {c : Code} {b L : Nat} {xs : Nat → Int32} {dC : Nat → ClassId} {dI : Nat → Nat → Nat} {cI cL : ClassId} (hlt : l.stackTraces = false) (C0 : LC p s m c b L xs dC dI cI cL) {h g : Nat → Nat} {o i N : Nat} {κ : KS} {μ : MS} {out : Nat → Int64} (hi : i + 3 ≤ L) (hq : RQ κ μ N) (h9 : N + 96 ≤ 100000) {H : Heap} {locs : List Loc} {cells slots : Nat} {Q : State → Prop} {ls : Array Slot} (hc : cells + 1 ≤ 1051) (hs : slots + 6 ≤ 9112) (hP : va_P (dC, dI) vwCl (LW cI cL h g o κ μ out) H) (hD : va_D (fun q : Nat => s.heap.size ≤ q) (LW cI cL h g o κ μ out)) (hS : va_S (fun q : Nat => s.heap.size ≤ q) s.heap H locs) (hl : lv_has ls 7 [(0, .ref b), (1, .ref (h 0)), (2, .ref (g 0)), (3, .ref o), (4, .int (nI i))])
    (K : ∀ (κ2 : KS) (μ2 : MS) (out2 : Nat → Int64) (H2 : Heap) (locs2 : List Loc) (ls2 : Array Slot), RQ κ2 μ2 (N + 96) → va_P (dC, dI) vwCl (LW cI cL h g o κ2 μ2 out2) H2 → va_D (fun q : Nat => s.heap.size ≤ q) (LW cI cL h g o κ2 μ2 out2) → va_S (fun q : Nat => s.heap.size ≤ q) s.heap H2 locs2 → lv_has ls2 7 [(0, .ref b), (1, .ref (h 0)), (2, .ref (g 0)), (3, .ref o), (4, .int (nI i))] → W p l e room_1 s m #[Value.ref b] below meth c H2 locs2 (cells + 1) (slots + 6) Q (F0 m 1005 ls2 [])) : W p l e room_1 s m #[Value.ref b] below meth c H locs cells slots Q (F0 m 827 ls []) := by
  obtain ⟨hx, hb, hml, hown, hts, hX, hbl, hK, hZ, hNc, hL⟩ := C0
  have hA : ∀ q : Nat, s.heap.size ≤ q → (fun q : Nat => s.heap.size ≤ q) q := fun _ h => h
  have hbA : ¬ (fun q : Nat => s.heap.size ≤ q) b := Nat.not_le.mpr hbl
  have hKc := hK.sub (tys' := [(cI, .int)]) [0] rfl
  refine W.widen (k := cells + 1) (n := slots + 6) (by omega) (by omega) ?_
  obtain ⟨sK, sM, hr, hR⟩ := sim_tail hq h9
  refine lv_aload_n hx hb dL_law_827 rfl (lv_at hl 1 rfl) ?_
  have hPc := hP.sub (ws' := kW cI h κ) [0, 1, 2, 3, 4, 5, 6, 7, 8, 9] rfl
  have hDc := hD.sub (ws' := kW cI h κ) [0, 1, 2, 3, 4, 5, 6, 7, 8, 9] (by decide) rfl
  refine rcI (W2 := fun _ => LW cI cL h g o κ μ out) (va_runV (As := []) (rest := []) ⟨hx, hb, hml, hown, hts⟩ (c_X2_tail l dC dI cI h H.size κ) (cwV 0 hts gL_law_X2_tail rfl rfl rfl (by decide +kernel) ⟨Nat.le_of_ble_eq_true rfl, Nat.le_of_ble_eq_true rfl⟩) (pW_V hPc hKc hDc (ci := 2) (q0 := 0) rfl rfl) rfl rfl hl.1 rfl (lv_room (Nat.le_of_ble_eq_true rfl)) dL_law_828 ⟨hc, hs⟩) hP hD hS hA [0, 1, 2, 3, 4, 5, 6, 7, 8, 9] [10, 11, 12, 13, 14, 15, 16] [7, 8, 9, 10, 11, 12, 13, 14, 15, 16, 0, 1, 2, 3, 4, 5, 6] rfl rfl (by decide) (fun _ => rfl) (fun r5 u5 H locs hw hP hD hS => ?_)
  refine lv_aload_n hx hb dL_law_831 rfl (lv_at hl 2 rfl) ?_
  have hPc := hP.sub (ws' := mW cI g μ) [10, 11, 12, 13, 14, 15] rfl
  have hDc := hD.sub (ws' := mW cI g μ) [10, 11, 12, 13, 14, 15] (by decide) rfl
  refine rcI (W2 := fun u => LW cI cL h g o κ u out) (va_runV (As := []) (rest := [.int r5]) ⟨hx, hb, hml, hown, hts⟩ (c_X3_tail l dC dI cI g H.size μ) (cwV 0 hts gL_law_X3_tail rfl rfl rfl (by decide +kernel) ⟨Nat.le_of_ble_eq_true rfl, Nat.le_of_ble_eq_true rfl⟩) (pW_V hPc hKc hDc (ci := 3) (q0 := 0) rfl rfl) rfl rfl hl.1 rfl (lv_room (Nat.le_of_ble_eq_true rfl)) dL_law_832 ⟨hc, hs⟩) hP hD hS hA [10, 11, 12, 13, 14, 15] [0, 1, 2, 3, 4, 5, 6, 7, 8, 9, 16] [0, 1, 2, 3, 4, 5, 6, 7, 8, 9, 11, 12, 13, 14, 15, 16, 10] rfl rfl (by decide) (fun _ => rfl) (fun r6 μ2 H locs hv hP hD hS => ?_)
  obtain ⟨hv, hv2⟩ := hv
  refine lv_icmp_eq (tgt := 1005) hx hb dL_law_835 (by decide) (fun c_1 => ?_) (fun c_1 => absurd (by rw [hw, hv]; exact hr) c_1)
  rw [← hv2] at hR
  exact K κ μ2 out H locs ls hR hP hD hS (lv_sub hl [0, 1, 2, 3, 4] rfl)
set_option maxHeartbeats 1000000 in
set_option maxRecDepth 100000 in
theorem arm_written {p : Program} {l : Launch} {e : Env} {s : State} {m : MethodId} {below : List Frame} {meth : Method} {c : Code} {b L : Nat} {xs : Nat → Int32} {dC : Nat → ClassId} {dI : Nat → Nat → Nat} {cI cL : ClassId} (hlt : l.stackTraces = false) (C0 : LC p s m c b L xs dC dI cI cL) {h g : Nat → Nat} {o i N : Nat} {κ : KS} {μ : MS} {out : Nat → Int64} (hi : i + 3 ≤ L) (hq : RQ κ μ N) (h9 : N + 96 ≤ 100000) {H : Heap} {locs : List Loc} {cells slots : Nat} {Q : State → Prop} {ls : Array Slot} (hc : cells + 1 ≤ 1051) (hs : slots + 6 ≤ 9112) (hP : va_P (dC, dI) vwCl (LW cI cL h g o κ μ out) H) (hD : va_D (fun q : Nat => s.heap.size ≤ q) (LW cI cL h g o κ μ out)) (hS : va_S (fun q : Nat => s.heap.size ≤ q) s.heap H locs) (hl : lv_has ls 7 [(0, .ref b), (1, .ref (h 0)), (2, .ref (g 0)), (3, .ref o), (4, .int (nI i))])
    (K : ∀ (κ2 : KS) (μ2 : MS) (out2 : Nat → Int64) (H2 : Heap) (locs2 : List Loc) (ls2 : Array Slot), RQ κ2 μ2 (N + 96) → va_P (dC, dI) vwCl (LW cI cL h g o κ2 μ2 out2) H2 → va_D (fun q : Nat => s.heap.size ≤ q) (LW cI cL h g o κ2 μ2 out2) → va_S (fun q : Nat => s.heap.size ≤ q) s.heap H2 locs2 → lv_has ls2 7 [(0, .ref b), (1, .ref (h 0)), (2, .ref (g 0)), (3, .ref o), (4, .int (nI i))] → W p l e room_1 s m #[Value.ref b] below meth c H2 locs2 (cells + 1) (slots + 6) Q (F0 m 1005 ls2 [])) : W p l e room_1 s m #[Value.ref b] below meth c H locs cells slots Q (F0 m 840 ls []) := by
  obtain ⟨hx, hb, hml, hown, hts, hX, hbl, hK, hZ, hNc, hL⟩ := C0
  have hA : ∀ q : Nat, s.heap.size ≤ q → (fun q : Nat => s.heap.size ≤ q) q := fun _ h => h
  have hbA : ¬ (fun q : Nat => s.heap.size ≤ q) b := Nat.not_le.mpr hbl
  have hKc := hK.sub (tys' := [(cI, .int)]) [0] rfl
  refine W.widen (k := cells + 1) (n := slots + 6) (by omega) (by omega) ?_
  obtain ⟨sK, sM, hr, hR⟩ := sim_written hq h9
  refine lv_aload_n hx hb dL_law_840 rfl (lv_at hl 1 rfl) ?_
  have hPc := hP.sub (ws' := kW cI h κ) [0, 1, 2, 3, 4, 5, 6, 7, 8, 9] rfl
  have hDc := hD.sub (ws' := kW cI h κ) [0, 1, 2, 3, 4, 5, 6, 7, 8, 9] (by decide) rfl
  refine rcI (W2 := fun _ => LW cI cL h g o κ μ out) (va_runV (As := []) (rest := []) ⟨hx, hb, hml, hown, hts⟩ (c_X2_written l dC dI cI h H.size κ) (cwV 0 hts gL_law_X2_written rfl rfl rfl (by decide +kernel) ⟨Nat.le_of_ble_eq_true rfl, Nat.le_of_ble_eq_true rfl⟩) (pW_V hPc hKc hDc (ci := 2) (q0 := 0) rfl rfl) rfl rfl hl.1 rfl (lv_room (Nat.le_of_ble_eq_true rfl)) dL_law_841 ⟨hc, hs⟩) hP hD hS hA [0, 1, 2, 3, 4, 5, 6, 7, 8, 9] [10, 11, 12, 13, 14, 15, 16] [7, 8, 9, 10, 11, 12, 13, 14, 15, 16, 0, 1, 2, 3, 4, 5, 6] rfl rfl (by decide) (fun _ => rfl) (fun r5 u5 H locs hw hP hD hS => ?_)
  refine lv_aload_n hx hb dL_law_844 rfl (lv_at hl 2 rfl) ?_
  have hPc := hP.sub (ws' := mW cI g μ) [10, 11, 12, 13, 14, 15] rfl
  have hDc := hD.sub (ws' := mW cI g μ) [10, 11, 12, 13, 14, 15] (by decide) rfl
  refine rcI (W2 := fun u => LW cI cL h g o κ u out) (va_runV (As := []) (rest := [.int r5]) ⟨hx, hb, hml, hown, hts⟩ (c_X3_written l dC dI cI g H.size μ) (cwV 0 hts gL_law_X3_written rfl rfl rfl (by decide +kernel) ⟨Nat.le_of_ble_eq_true rfl, Nat.le_of_ble_eq_true rfl⟩) (pW_V hPc hKc hDc (ci := 3) (q0 := 0) rfl rfl) rfl rfl hl.1 rfl (lv_room (Nat.le_of_ble_eq_true rfl)) dL_law_845 ⟨hc, hs⟩) hP hD hS hA [10, 11, 12, 13, 14, 15] [0, 1, 2, 3, 4, 5, 6, 7, 8, 9, 16] [0, 1, 2, 3, 4, 5, 6, 7, 8, 9, 11, 12, 13, 14, 15, 16, 10] rfl rfl (by decide) (fun _ => rfl) (fun r6 μ2 H locs hv hP hD hS => ?_)
  obtain ⟨hv, hv2⟩ := hv
  refine lv_icmp_eq (tgt := 1005) hx hb dL_law_848 (by decide) (fun c_1 => ?_) (fun c_1 => absurd (by rw [hw, hv]; exact hr) c_1)
  rw [← hv2] at hR
  exact K κ μ2 out H locs ls hR hP hD hS (lv_sub hl [0, 1, 2, 3, 4] rfl)
set_option maxHeartbeats 1000000 in
set_option maxRecDepth 100000 in
theorem arm_checkpointAt {p : Program} {l : Launch} {e : Env} {s : State} {m : MethodId} {below : List Frame} {meth : Method} {c : Code} {b L : Nat} {xs : Nat → Int32} {dC : Nat → ClassId} {dI : Nat → Nat → Nat} {cI cL : ClassId} (hlt : l.stackTraces = false) (C0 : LC p s m c b L xs dC dI cI cL) {h g : Nat → Nat} {o i N : Nat} {κ : KS} {μ : MS} {out : Nat → Int64} (hi : i + 3 ≤ L) (hq : RQ κ μ N) (h9 : N + 96 ≤ 100000) {H : Heap} {locs : List Loc} {cells slots : Nat} {Q : State → Prop} {ls : Array Slot} (hc : cells + 1 ≤ 1051) (hs : slots + 6 ≤ 9112) (hP : va_P (dC, dI) vwCl (LW cI cL h g o κ μ out) H) (hD : va_D (fun q : Nat => s.heap.size ≤ q) (LW cI cL h g o κ μ out)) (hS : va_S (fun q : Nat => s.heap.size ≤ q) s.heap H locs) (hl : lv_has ls 7 [(0, .ref b), (1, .ref (h 0)), (2, .ref (g 0)), (3, .ref o), (4, .int (nI i))])
    (K : ∀ (κ2 : KS) (μ2 : MS) (out2 : Nat → Int64) (H2 : Heap) (locs2 : List Loc) (ls2 : Array Slot), RQ κ2 μ2 (N + 96) → va_P (dC, dI) vwCl (LW cI cL h g o κ2 μ2 out2) H2 → va_D (fun q : Nat => s.heap.size ≤ q) (LW cI cL h g o κ2 μ2 out2) → va_S (fun q : Nat => s.heap.size ≤ q) s.heap H2 locs2 → lv_has ls2 7 [(0, .ref b), (1, .ref (h 0)), (2, .ref (g 0)), (3, .ref o), (4, .int (nI i))] → W p l e room_1 s m #[Value.ref b] below meth c H2 locs2 (cells + 1) (slots + 6) Q (F0 m 1005 ls2 [])) : W p l e room_1 s m #[Value.ref b] below meth c H locs cells slots Q (F0 m 853 ls []) := by
  obtain ⟨hx, hb, hml, hown, hts, hX, hbl, hK, hZ, hNc, hL⟩ := C0
  have hA : ∀ q : Nat, s.heap.size ≤ q → (fun q : Nat => s.heap.size ≤ q) q := fun _ h => h
  have hbA : ¬ (fun q : Nat => s.heap.size ≤ q) b := Nat.not_le.mpr hbl
  have hKc := hK.sub (tys' := [(cI, .int)]) [0] rfl
  refine W.widen (k := cells + 1) (n := slots + 6) (by omega) (by omega) ?_
  obtain ⟨sK, sM, hr, hR⟩ := sim_checkpointAt hq h9
  refine lv_aload_n hx hb dL_law_853 rfl (lv_at hl 1 rfl) ?_
  have hPc := hP.sub (ws' := kW cI h κ) [0, 1, 2, 3, 4, 5, 6, 7, 8, 9] rfl
  have hDc := hD.sub (ws' := kW cI h κ) [0, 1, 2, 3, 4, 5, 6, 7, 8, 9] (by decide) rfl
  refine rcI (W2 := fun _ => LW cI cL h g o κ μ out) (va_runV (As := []) (rest := []) ⟨hx, hb, hml, hown, hts⟩ (c_X2_checkpointAt l dC dI cI h H.size κ) (cwV 0 hts gL_law_X2_checkpointAt rfl rfl rfl (by decide +kernel) ⟨Nat.le_of_ble_eq_true rfl, Nat.le_of_ble_eq_true rfl⟩) (pW_V hPc hKc hDc (ci := 2) (q0 := 0) rfl rfl) rfl rfl hl.1 rfl (lv_room (Nat.le_of_ble_eq_true rfl)) dL_law_854 ⟨hc, hs⟩) hP hD hS hA [0, 1, 2, 3, 4, 5, 6, 7, 8, 9] [10, 11, 12, 13, 14, 15, 16] [7, 8, 9, 10, 11, 12, 13, 14, 15, 16, 0, 1, 2, 3, 4, 5, 6] rfl rfl (by decide) (fun _ => rfl) (fun r5 u5 H locs hw hP hD hS => ?_)
  refine lv_aload_n hx hb dL_law_857 rfl (lv_at hl 2 rfl) ?_
  have hPc := hP.sub (ws' := mW cI g μ) [10, 11, 12, 13, 14, 15] rfl
  have hDc := hD.sub (ws' := mW cI g μ) [10, 11, 12, 13, 14, 15] (by decide) rfl
  refine rcI (W2 := fun u => LW cI cL h g o κ u out) (va_runV (As := []) (rest := [.int r5]) ⟨hx, hb, hml, hown, hts⟩ (c_X3_checkpointAt l dC dI cI g H.size μ) (cwV 0 hts gL_law_X3_checkpointAt rfl rfl rfl (by decide +kernel) ⟨Nat.le_of_ble_eq_true rfl, Nat.le_of_ble_eq_true rfl⟩) (pW_V hPc hKc hDc (ci := 3) (q0 := 0) rfl rfl) rfl rfl hl.1 rfl (lv_room (Nat.le_of_ble_eq_true rfl)) dL_law_858 ⟨hc, hs⟩) hP hD hS hA [10, 11, 12, 13, 14, 15] [0, 1, 2, 3, 4, 5, 6, 7, 8, 9, 16] [0, 1, 2, 3, 4, 5, 6, 7, 8, 9, 11, 12, 13, 14, 15, 16, 10] rfl rfl (by decide) (fun _ => rfl) (fun r6 μ2 H locs hv hP hD hS => ?_)
  obtain ⟨hv, hv2⟩ := hv
  refine lv_icmp_eq (tgt := 1005) hx hb dL_law_861 (by decide) (fun c_1 => ?_) (fun c_1 => absurd (by rw [hw, hv]; exact hr) c_1)
  rw [← hv2] at hR
  exact K κ μ2 out H locs ls hR hP hD hS (lv_sub hl [0, 1, 2, 3, 4] rfl)
set_option maxHeartbeats 1000000 in
set_option maxRecDepth 100000 in
theorem arm_positionOf {p : Program} {l : Launch} {e : Env} {s : State} {m : MethodId} {below : List Frame} {meth : Method} {c : Code} {b L : Nat} {xs : Nat → Int32} {dC : Nat → ClassId} {dI : Nat → Nat → Nat} {cI cL : ClassId} (hlt : l.stackTraces = false) (C0 : LC p s m c b L xs dC dI cI cL) {h g : Nat → Nat} {o i N : Nat} {κ : KS} {μ : MS} {out : Nat → Int64} (hi : i + 3 ≤ L) (hq : RQ κ μ N) (h9 : N + 96 ≤ 100000) {H : Heap} {locs : List Loc} {cells slots : Nat} {Q : State → Prop} {ls : Array Slot} (hc : cells + 1 ≤ 1051) (hs : slots + 6 ≤ 9112) (hP : va_P (dC, dI) vwCl (LW cI cL h g o κ μ out) H) (hD : va_D (fun q : Nat => s.heap.size ≤ q) (LW cI cL h g o κ μ out)) (hS : va_S (fun q : Nat => s.heap.size ≤ q) s.heap H locs) (hl : lv_has ls 7 [(0, .ref b), (1, .ref (h 0)), (2, .ref (g 0)), (3, .ref o), (4, .int (nI i))])
    (K : ∀ (κ2 : KS) (μ2 : MS) (out2 : Nat → Int64) (H2 : Heap) (locs2 : List Loc) (ls2 : Array Slot), RQ κ2 μ2 (N + 96) → va_P (dC, dI) vwCl (LW cI cL h g o κ2 μ2 out2) H2 → va_D (fun q : Nat => s.heap.size ≤ q) (LW cI cL h g o κ2 μ2 out2) → va_S (fun q : Nat => s.heap.size ≤ q) s.heap H2 locs2 → lv_has ls2 7 [(0, .ref b), (1, .ref (h 0)), (2, .ref (g 0)), (3, .ref o), (4, .int (nI i))] → W p l e room_1 s m #[Value.ref b] below meth c H2 locs2 (cells + 1) (slots + 6) Q (F0 m 1005 ls2 [])) : W p l e room_1 s m #[Value.ref b] below meth c H locs cells slots Q (F0 m 866 ls []) := by
  obtain ⟨hx, hb, hml, hown, hts, hX, hbl, hK, hZ, hNc, hL⟩ := C0
  have hA : ∀ q : Nat, s.heap.size ≤ q → (fun q : Nat => s.heap.size ≤ q) q := fun _ h => h
  have hbA : ¬ (fun q : Nat => s.heap.size ≤ q) b := Nat.not_le.mpr hbl
  have hKc := hK.sub (tys' := [(cI, .int)]) [0] rfl
  obtain ⟨P1, eP1⟩ : ∃ y : Int32, xs (nI i + 1).toNatClampNeg = y := ⟨_, rfl⟩
  have hsim := sim_positionOf hq h9 P1
  have sK := hsim.1
  have sM := hsim.2.1
  refine lv_aload_n hx hb dL_law_866 rfl (lv_at hl 1 rfl) ?_
  refine lv_aload_n hx hb dL_law_867 rfl (lv_at hl 0 rfl) ?_
  refine lv_iload hx hb dL_law_868 (lv_at hl 4 rfl) ?_
  refine lv_iconst (v := 1) hx hb dL_law_870 (by decide) ?_
  refine lv_iadd hx hb dL_law_871 ?_
  refine va_sld hx hb hX hbl hbA hS (in_1 hi hL) dL_law_872 ?_
  rw [eP1]
  refine lv_aload_n hx hb dL_law_873 rfl (lv_at hl 3 rfl) ?_
  have hPc := hP.sub (ws' := wL cI cL h o κ out) [0, 1, 2, 3, 4, 5, 6, 7, 8, 9, 16] rfl
  have hDc := hD.sub (ws' := wL cI cL h o κ out) [0, 1, 2, 3, 4, 5, 6, 7, 8, 9, 16] (by decide) rfl
  have hFc := va_free (wc := wL cI cL h o κ out) hD hS hA [0, 1, 2, 3, 4, 5, 6, 7, 8, 9, 16] rfl
  refine rcI (W2 := fun u => LW cI cL h g o u.1 μ u.2) (vx_runSW (As := [.ref (h 0), .int P1, .ref o]) (rest := []) ⟨hx, hb, hml, hown, hts⟩ (w_positionOf l hlt dC dI cI cL h o H.size κ out P1) (vx_cwSW 3 hts gL_law_L_positionOf rfl rfl rfl (by decide +kernel) ⟨Nat.le_of_ble_eq_true rfl, Nat.le_of_ble_eq_true rfl⟩) (pL_S hPc hK hDc hZ hS hFc hNc) rfl rfl hl.1 rfl (lv_room (Nat.le_of_ble_eq_true rfl)) dL_law_874 ⟨hc, hs⟩) hP hD hS hA [0, 1, 2, 3, 4, 5, 6, 7, 8, 9, 16] [10, 11, 12, 13, 14, 15] [6, 7, 8, 9, 10, 11, 12, 13, 14, 15, 0, 1, 2, 3, 4, 5, 16] rfl rfl (by decide) (fun _ => rfl) (fun r5 u5 H locs hw hP hD hS => ?_)
  obtain ⟨κ2, out2⟩ := u5
  dsimp only at hw hP hD
  refine lv_istore (lv' := [(5, .int r5), (0, .ref b), (1, .ref (h 0)), (2, .ref (g 0)), (3, .ref o), (4, .int (nI i))]) hx hb dL_law_877 hl (by decide) rfl (fun ls hl => ?_)
  refine lv_aload_n hx hb dL_law_879 rfl (lv_at hl 3 rfl) ?_
  refine lv_aload_n hx hb dL_law_880 rfl (lv_at hl 1 rfl) ?_
  refine lv_iload hx hb dL_law_881 (lv_at hl 5 rfl) ?_
  refine lv_iconst (v := 1) hx hb dL_law_883 (by decide) ?_
  refine lv_iadd hx hb dL_law_884 ?_
  refine va_sld hx hb hX hbl hbA hS (in_1 hi hL) dL_law_885 ?_
  rw [eP1]
  have hPc := hP.sub (ws' := mW cI g μ) [10, 11, 12, 13, 14, 15] rfl
  have hDc := hD.sub (ws' := mW cI g μ) [10, 11, 12, 13, 14, 15] (by decide) rfl
  refine rcI (W2 := fun u => LW cI cL h g o κ2 u out2) (va_runV (As := [.int P1]) (rest := []) ⟨hx, hb, hml, hown, hts⟩ (c_X3_positionOf l dC dI cI g H.size μ P1 sM) (cwV 1 hts gL_law_X3_positionOf rfl rfl rfl (by decide +kernel) ⟨Nat.le_of_ble_eq_true rfl, Nat.le_of_ble_eq_true rfl⟩) (pW_V hPc hKc hDc (ci := 3) (q0 := 0) rfl rfl) rfl rfl hl.1 rfl (lv_room (Nat.le_of_ble_eq_true rfl)) dL_law_886 ⟨hc, hs⟩) hP hD hS hA [10, 11, 12, 13, 14, 15] [0, 1, 2, 3, 4, 5, 6, 7, 8, 9, 16] [0, 1, 2, 3, 4, 5, 6, 7, 8, 9, 11, 12, 13, 14, 15, 16, 10] rfl rfl (by decide) (fun _ => rfl) (fun r6 μ2 H locs hv hP hD hS => ?_)
  obtain ⟨hv, hv2⟩ := hv
  refine lv_istore (lv' := [(6, .int r6), (5, .int r5), (0, .ref b), (1, .ref (h 0)), (2, .ref (g 0)), (3, .ref o), (4, .int (nI i))]) hx hb dL_law_889 hl (by decide) rfl (fun ls hl => ?_)
  refine lv_aload_n hx hb dL_law_891 rfl (lv_at hl 4 rfl) ?_
  have hPc := hP.sub (ws' := mW cI g μ2) [10, 11, 12, 13, 14, 15] rfl
  have hDc := hD.sub (ws' := mW cI g μ2) [10, 11, 12, 13, 14, 15] (by decide) rfl
  refine rcI (W2 := fun _ => LW cI cL h g o κ2 μ2 out2) (va_runV (As := []) (rest := []) ⟨hx, hb, hml, hown, hts⟩ (c_X3_thrown l dC dI cI g H.size μ2) (cwV 0 hts gL_law_X3_thrown rfl rfl rfl (by decide +kernel) ⟨Nat.le_of_ble_eq_true rfl, Nat.le_of_ble_eq_true rfl⟩) (pW_V hPc hKc hDc (ci := 3) (q0 := 0) rfl rfl) rfl rfl hl.1 rfl (lv_room (Nat.le_of_ble_eq_true rfl)) dL_law_892 ⟨hc, hs⟩) hP hD hS hA [10, 11, 12, 13, 14, 15] [0, 1, 2, 3, 4, 5, 6, 7, 8, 9, 16] [0, 1, 2, 3, 4, 5, 6, 7, 8, 9, 11, 12, 13, 14, 15, 16, 10] rfl rfl (by decide) (fun _ => rfl) (fun r7 u7 H locs hv7 hP hD hS => ?_)
  obtain ⟨e75, hO, hR⟩ := fin_i hsim nI_c0 hw hv hv2 hv7
  refine lv_iload hx hb dL_law_895 (lv_at hl 1 rfl) ?_
  refine lv_icmp_eq (tgt := 902) hx hb dL_law_897 (by decide) (fun c_1 => ?_) (fun c_1 => absurd e75 c_1)
  refine lv_iload hx hb dL_law_902 (lv_at hl 1 rfl) ?_
  refine lv_if_ne (tgt := 919) hx hb dL_law_904 (by decide) (fun c_2 => ?_) (fun c_2 => ?_)
  · refine lv_goto (tgt := 1005) hx hb dL_law_919 (by decide) ?_
    exact K κ2 μ2 out2 H locs ls hR hP hD hS (lv_sub hl [2, 3, 4, 5, 6] rfl)
  · refine lv_aload_n hx hb dL_law_907 rfl (lv_at hl 5 rfl) ?_
    refine lv_iconst (v := 0) hx hb dL_law_908 (by decide) ?_
    refine va_lald hx hb hK hP 16 1 rfl rfl in01 dL_law_909 ?_
    refine lv_iload hx hb dL_law_910 (lv_at hl 0 rfl) ?_
    refine lv_i2l (v := (out2 (0 : Int32).toNatClampNeg)) hx hb dL_law_912 ((hO c_2).trans (congrArg out2 (by decide))) ?_
    refine lv_lcmpE hx hb dL_law_913 ?_
    refine lv_if_eq (tgt := 919) hx hb dL_law_914 (by decide) (fun c_3 => ?_) (fun c_3 => absurd rfl c_3)
    refine lv_goto (tgt := 1005) hx hb dL_law_919 (by decide) ?_
    exact K κ2 μ2 out2 H locs ls hR hP hD hS (lv_sub hl [2, 3, 4, 5, 6] rfl)
set_option maxHeartbeats 1000000 in
set_option maxRecDepth 100000 in
theorem arm_segments {p : Program} {l : Launch} {e : Env} {s : State} {m : MethodId} {below : List Frame} {meth : Method} {c : Code} {b L : Nat} {xs : Nat → Int32} {dC : Nat → ClassId} {dI : Nat → Nat → Nat} {cI cL : ClassId} (hlt : l.stackTraces = false) (C0 : LC p s m c b L xs dC dI cI cL) {h g : Nat → Nat} {o i N : Nat} {κ : KS} {μ : MS} {out : Nat → Int64} (hi : i + 3 ≤ L) (hq : RQ κ μ N) (h9 : N + 96 ≤ 100000) {H : Heap} {locs : List Loc} {cells slots : Nat} {Q : State → Prop} {ls : Array Slot} (hc : cells + 1 ≤ 1051) (hs : slots + 6 ≤ 9112) (hP : va_P (dC, dI) vwCl (LW cI cL h g o κ μ out) H) (hD : va_D (fun q : Nat => s.heap.size ≤ q) (LW cI cL h g o κ μ out)) (hS : va_S (fun q : Nat => s.heap.size ≤ q) s.heap H locs) (hl : lv_has ls 7 [(0, .ref b), (1, .ref (h 0)), (2, .ref (g 0)), (3, .ref o), (4, .int (nI i))])
    (K : ∀ (κ2 : KS) (μ2 : MS) (out2 : Nat → Int64) (H2 : Heap) (locs2 : List Loc) (ls2 : Array Slot), RQ κ2 μ2 (N + 96) → va_P (dC, dI) vwCl (LW cI cL h g o κ2 μ2 out2) H2 → va_D (fun q : Nat => s.heap.size ≤ q) (LW cI cL h g o κ2 μ2 out2) → va_S (fun q : Nat => s.heap.size ≤ q) s.heap H2 locs2 → lv_has ls2 7 [(0, .ref b), (1, .ref (h 0)), (2, .ref (g 0)), (3, .ref o), (4, .int (nI i))] → W p l e room_1 s m #[Value.ref b] below meth c H2 locs2 (cells + 1) (slots + 6) Q (F0 m 1005 ls2 [])) : W p l e room_1 s m #[Value.ref b] below meth c H locs cells slots Q (F0 m 922 ls []) := by
  obtain ⟨hx, hb, hml, hown, hts, hX, hbl, hK, hZ, hNc, hL⟩ := C0
  have hA : ∀ q : Nat, s.heap.size ≤ q → (fun q : Nat => s.heap.size ≤ q) q := fun _ h => h
  have hbA : ¬ (fun q : Nat => s.heap.size ≤ q) b := Nat.not_le.mpr hbl
  have hKc := hK.sub (tys' := [(cI, .int)]) [0] rfl
  refine W.widen (k := cells + 1) (n := slots + 6) (by omega) (by omega) ?_
  obtain ⟨sK, sM, hr, hR⟩ := sim_segments hq h9
  refine lv_aload_n hx hb dL_law_922 rfl (lv_at hl 1 rfl) ?_
  have hPc := hP.sub (ws' := kW cI h κ) [0, 1, 2, 3, 4, 5, 6, 7, 8, 9] rfl
  have hDc := hD.sub (ws' := kW cI h κ) [0, 1, 2, 3, 4, 5, 6, 7, 8, 9] (by decide) rfl
  refine rcI (W2 := fun _ => LW cI cL h g o κ μ out) (va_runV (As := []) (rest := []) ⟨hx, hb, hml, hown, hts⟩ (c_X2_segments l dC dI cI h H.size κ) (cwV 0 hts gL_law_X2_segments rfl rfl rfl (by decide +kernel) ⟨Nat.le_of_ble_eq_true rfl, Nat.le_of_ble_eq_true rfl⟩) (pW_V hPc hKc hDc (ci := 2) (q0 := 0) rfl rfl) rfl rfl hl.1 rfl (lv_room (Nat.le_of_ble_eq_true rfl)) dL_law_923 ⟨hc, hs⟩) hP hD hS hA [0, 1, 2, 3, 4, 5, 6, 7, 8, 9] [10, 11, 12, 13, 14, 15, 16] [7, 8, 9, 10, 11, 12, 13, 14, 15, 16, 0, 1, 2, 3, 4, 5, 6] rfl rfl (by decide) (fun _ => rfl) (fun r5 u5 H locs hw hP hD hS => ?_)
  refine lv_aload_n hx hb dL_law_926 rfl (lv_at hl 2 rfl) ?_
  have hPc := hP.sub (ws' := mW cI g μ) [10, 11, 12, 13, 14, 15] rfl
  have hDc := hD.sub (ws' := mW cI g μ) [10, 11, 12, 13, 14, 15] (by decide) rfl
  refine rcI (W2 := fun u => LW cI cL h g o κ u out) (va_runV (As := []) (rest := [.int r5]) ⟨hx, hb, hml, hown, hts⟩ (c_X3_segments l dC dI cI g H.size μ) (cwV 0 hts gL_law_X3_segments rfl rfl rfl (by decide +kernel) ⟨Nat.le_of_ble_eq_true rfl, Nat.le_of_ble_eq_true rfl⟩) (pW_V hPc hKc hDc (ci := 3) (q0 := 0) rfl rfl) rfl rfl hl.1 rfl (lv_room (Nat.le_of_ble_eq_true rfl)) dL_law_927 ⟨hc, hs⟩) hP hD hS hA [10, 11, 12, 13, 14, 15] [0, 1, 2, 3, 4, 5, 6, 7, 8, 9, 16] [0, 1, 2, 3, 4, 5, 6, 7, 8, 9, 11, 12, 13, 14, 15, 16, 10] rfl rfl (by decide) (fun _ => rfl) (fun r6 μ2 H locs hv hP hD hS => ?_)
  obtain ⟨hv, hv2⟩ := hv
  refine lv_icmp_eq (tgt := 1005) hx hb dL_law_930 (by decide) (fun c_1 => ?_) (fun c_1 => absurd (by rw [hw, hv]; exact hr) c_1)
  rw [← hv2] at hR
  exact K κ μ2 out H locs ls hR hP hD hS (lv_sub hl [0, 1, 2, 3, 4] rfl)
set_option maxHeartbeats 1000000 in
set_option maxRecDepth 100000 in
theorem arm_live {p : Program} {l : Launch} {e : Env} {s : State} {m : MethodId} {below : List Frame} {meth : Method} {c : Code} {b L : Nat} {xs : Nat → Int32} {dC : Nat → ClassId} {dI : Nat → Nat → Nat} {cI cL : ClassId} (hlt : l.stackTraces = false) (C0 : LC p s m c b L xs dC dI cI cL) {h g : Nat → Nat} {o i N : Nat} {κ : KS} {μ : MS} {out : Nat → Int64} (hi : i + 3 ≤ L) (hq : RQ κ μ N) (h9 : N + 96 ≤ 100000) {H : Heap} {locs : List Loc} {cells slots : Nat} {Q : State → Prop} {ls : Array Slot} (hc : cells + 1 ≤ 1051) (hs : slots + 6 ≤ 9112) (hP : va_P (dC, dI) vwCl (LW cI cL h g o κ μ out) H) (hD : va_D (fun q : Nat => s.heap.size ≤ q) (LW cI cL h g o κ μ out)) (hS : va_S (fun q : Nat => s.heap.size ≤ q) s.heap H locs) (hl : lv_has ls 7 [(0, .ref b), (1, .ref (h 0)), (2, .ref (g 0)), (3, .ref o), (4, .int (nI i))])
    (K : ∀ (κ2 : KS) (μ2 : MS) (out2 : Nat → Int64) (H2 : Heap) (locs2 : List Loc) (ls2 : Array Slot), RQ κ2 μ2 (N + 96) → va_P (dC, dI) vwCl (LW cI cL h g o κ2 μ2 out2) H2 → va_D (fun q : Nat => s.heap.size ≤ q) (LW cI cL h g o κ2 μ2 out2) → va_S (fun q : Nat => s.heap.size ≤ q) s.heap H2 locs2 → lv_has ls2 7 [(0, .ref b), (1, .ref (h 0)), (2, .ref (g 0)), (3, .ref o), (4, .int (nI i))] → W p l e room_1 s m #[Value.ref b] below meth c H2 locs2 (cells + 1) (slots + 6) Q (F0 m 1005 ls2 [])) : W p l e room_1 s m #[Value.ref b] below meth c H locs cells slots Q (F0 m 935 ls []) := by
  obtain ⟨hx, hb, hml, hown, hts, hX, hbl, hK, hZ, hNc, hL⟩ := C0
  have hA : ∀ q : Nat, s.heap.size ≤ q → (fun q : Nat => s.heap.size ≤ q) q := fun _ h => h
  have hbA : ¬ (fun q : Nat => s.heap.size ≤ q) b := Nat.not_le.mpr hbl
  have hKc := hK.sub (tys' := [(cI, .int)]) [0] rfl
  have hsim := sim_live hq h9
  have sK := hsim.1
  have sM := hsim.2.1
  refine lv_aload_n hx hb dL_law_935 rfl (lv_at hl 1 rfl) ?_
  refine lv_aload_n hx hb dL_law_936 rfl (lv_at hl 3 rfl) ?_
  have hPc := hP.sub (ws' := wL cI cL h o κ out) [0, 1, 2, 3, 4, 5, 6, 7, 8, 9, 16] rfl
  have hDc := hD.sub (ws' := wL cI cL h o κ out) [0, 1, 2, 3, 4, 5, 6, 7, 8, 9, 16] (by decide) rfl
  have hFc := va_free (wc := wL cI cL h o κ out) hD hS hA [0, 1, 2, 3, 4, 5, 6, 7, 8, 9, 16] rfl
  refine rcI (W2 := fun u => LW cI cL h g o u.1 μ u.2) (vx_runSW (As := [.ref (h 0), .ref o]) (rest := []) ⟨hx, hb, hml, hown, hts⟩ (w_live l hlt dC dI cI cL h o H.size κ out sK) (vx_cwSW 2 hts gL_law_L_live rfl rfl rfl (by decide +kernel) ⟨Nat.le_of_ble_eq_true rfl, Nat.le_of_ble_eq_true rfl⟩) (pL_S hPc hK hDc hZ hS hFc hNc) rfl rfl hl.1 rfl (lv_room (Nat.le_of_ble_eq_true rfl)) dL_law_937 ⟨hc, hs⟩) hP hD hS hA [0, 1, 2, 3, 4, 5, 6, 7, 8, 9, 16] [10, 11, 12, 13, 14, 15] [6, 7, 8, 9, 10, 11, 12, 13, 14, 15, 0, 1, 2, 3, 4, 5, 16] rfl rfl (by decide) (fun _ => rfl) (fun r5 u5 H locs hw hP hD hS => ?_)
  obtain ⟨κ2, out2⟩ := u5
  dsimp only at hw hP hD
  refine lv_istore (lv' := [(5, .int r5), (0, .ref b), (1, .ref (h 0)), (2, .ref (g 0)), (3, .ref o), (4, .int (nI i))]) hx hb dL_law_940 hl (by decide) rfl (fun ls hl => ?_)
  refine lv_aload_n hx hb dL_law_942 rfl (lv_at hl 3 rfl) ?_
  have hPc := hP.sub (ws' := mW cI g μ) [10, 11, 12, 13, 14, 15] rfl
  have hDc := hD.sub (ws' := mW cI g μ) [10, 11, 12, 13, 14, 15] (by decide) rfl
  refine rcI (W2 := fun u => LW cI cL h g o κ2 u out2) (va_runV (As := []) (rest := []) ⟨hx, hb, hml, hown, hts⟩ (c_X3_live l dC dI cI g H.size μ sM) (cwV 0 hts gL_law_X3_live rfl rfl rfl (by decide +kernel) ⟨Nat.le_of_ble_eq_true rfl, Nat.le_of_ble_eq_true rfl⟩) (pW_V hPc hKc hDc (ci := 3) (q0 := 0) rfl rfl) rfl rfl hl.1 rfl (lv_room (Nat.le_of_ble_eq_true rfl)) dL_law_943 ⟨hc, hs⟩) hP hD hS hA [10, 11, 12, 13, 14, 15] [0, 1, 2, 3, 4, 5, 6, 7, 8, 9, 16] [0, 1, 2, 3, 4, 5, 6, 7, 8, 9, 11, 12, 13, 14, 15, 16, 10] rfl rfl (by decide) (fun _ => rfl) (fun r6 μ2 H locs hv hP hD hS => ?_)
  obtain ⟨hv, hv2⟩ := hv
  refine lv_istore (lv' := [(6, .int r6), (5, .int r5), (0, .ref b), (1, .ref (h 0)), (2, .ref (g 0)), (3, .ref o), (4, .int (nI i))]) hx hb dL_law_946 hl (by decide) rfl (fun ls hl => ?_)
  refine lv_aload_n hx hb dL_law_948 rfl (lv_at hl 4 rfl) ?_
  have hPc := hP.sub (ws' := mW cI g μ2) [10, 11, 12, 13, 14, 15] rfl
  have hDc := hD.sub (ws' := mW cI g μ2) [10, 11, 12, 13, 14, 15] (by decide) rfl
  refine rcI (W2 := fun _ => LW cI cL h g o κ2 μ2 out2) (va_runV (As := []) (rest := []) ⟨hx, hb, hml, hown, hts⟩ (c_X3_thrown l dC dI cI g H.size μ2) (cwV 0 hts gL_law_X3_thrown rfl rfl rfl (by decide +kernel) ⟨Nat.le_of_ble_eq_true rfl, Nat.le_of_ble_eq_true rfl⟩) (pW_V hPc hKc hDc (ci := 3) (q0 := 0) rfl rfl) rfl rfl hl.1 rfl (lv_room (Nat.le_of_ble_eq_true rfl)) dL_law_949 ⟨hc, hs⟩) hP hD hS hA [10, 11, 12, 13, 14, 15] [0, 1, 2, 3, 4, 5, 6, 7, 8, 9, 16] [0, 1, 2, 3, 4, 5, 6, 7, 8, 9, 11, 12, 13, 14, 15, 16, 10] rfl rfl (by decide) (fun _ => rfl) (fun r7 u7 H locs hv7 hP hD hS => ?_)
  obtain ⟨e75, hO, hR⟩ := fin_i hsim kc_c0 hw hv hv2 hv7
  refine lv_iload hx hb dL_law_952 (lv_at hl 1 rfl) ?_
  refine lv_icmp_eq (tgt := 959) hx hb dL_law_954 (by decide) (fun c_1 => ?_) (fun c_1 => absurd e75 c_1)
  refine lv_iload hx hb dL_law_959 (lv_at hl 1 rfl) ?_
  refine lv_if_ne (tgt := 976) hx hb dL_law_961 (by decide) (fun c_2 => ?_) (fun c_2 => ?_)
  · refine lv_goto (tgt := 1005) hx hb dL_law_976 (by decide) ?_
    exact K κ2 μ2 out2 H locs ls hR hP hD hS (lv_sub hl [2, 3, 4, 5, 6] rfl)
  · refine lv_aload_n hx hb dL_law_964 rfl (lv_at hl 5 rfl) ?_
    refine lv_iconst (v := 0) hx hb dL_law_965 (by decide) ?_
    refine va_lald hx hb hK hP 16 1 rfl rfl in01 dL_law_966 ?_
    refine lv_iload hx hb dL_law_967 (lv_at hl 0 rfl) ?_
    refine lv_i2l (v := (out2 (0 : Int32).toNatClampNeg)) hx hb dL_law_969 ((hO c_2).trans (congrArg out2 (by decide))) ?_
    refine lv_lcmpE hx hb dL_law_970 ?_
    refine lv_if_eq (tgt := 976) hx hb dL_law_971 (by decide) (fun c_3 => ?_) (fun c_3 => absurd rfl c_3)
    refine lv_goto (tgt := 1005) hx hb dL_law_976 (by decide) ?_
    exact K κ2 μ2 out2 H locs ls hR hP hD hS (lv_sub hl [2, 3, 4, 5, 6] rfl)
set_option maxHeartbeats 1000000 in
set_option maxRecDepth 100000 in
theorem arm_toFree {p : Program} {l : Launch} {e : Env} {s : State} {m : MethodId} {below : List Frame} {meth : Method} {c : Code} {b L : Nat} {xs : Nat → Int32} {dC : Nat → ClassId} {dI : Nat → Nat → Nat} {cI cL : ClassId} (hlt : l.stackTraces = false) (C0 : LC p s m c b L xs dC dI cI cL) {h g : Nat → Nat} {o i N : Nat} {κ : KS} {μ : MS} {out : Nat → Int64} (hi : i + 3 ≤ L) (hq : RQ κ μ N) (h9 : N + 96 ≤ 100000) {H : Heap} {locs : List Loc} {cells slots : Nat} {Q : State → Prop} {ls : Array Slot} (hc : cells + 1 ≤ 1051) (hs : slots + 6 ≤ 9112) (hP : va_P (dC, dI) vwCl (LW cI cL h g o κ μ out) H) (hD : va_D (fun q : Nat => s.heap.size ≤ q) (LW cI cL h g o κ μ out)) (hS : va_S (fun q : Nat => s.heap.size ≤ q) s.heap H locs) (hl : lv_has ls 7 [(0, .ref b), (1, .ref (h 0)), (2, .ref (g 0)), (3, .ref o), (4, .int (nI i))])
    (K : ∀ (κ2 : KS) (μ2 : MS) (out2 : Nat → Int64) (H2 : Heap) (locs2 : List Loc) (ls2 : Array Slot), RQ κ2 μ2 (N + 96) → va_P (dC, dI) vwCl (LW cI cL h g o κ2 μ2 out2) H2 → va_D (fun q : Nat => s.heap.size ≤ q) (LW cI cL h g o κ2 μ2 out2) → va_S (fun q : Nat => s.heap.size ≤ q) s.heap H2 locs2 → lv_has ls2 7 [(0, .ref b), (1, .ref (h 0)), (2, .ref (g 0)), (3, .ref o), (4, .int (nI i))] → W p l e room_1 s m #[Value.ref b] below meth c H2 locs2 (cells + 1) (slots + 6) Q (F0 m 1005 ls2 [])) : W p l e room_1 s m #[Value.ref b] below meth c H locs cells slots Q (F0 m 979 ls []) := by
  obtain ⟨hx, hb, hml, hown, hts, hX, hbl, hK, hZ, hNc, hL⟩ := C0
  have hA : ∀ q : Nat, s.heap.size ≤ q → (fun q : Nat => s.heap.size ≤ q) q := fun _ h => h
  have hbA : ¬ (fun q : Nat => s.heap.size ≤ q) b := Nat.not_le.mpr hbl
  have hKc := hK.sub (tys' := [(cI, .int)]) [0] rfl
  refine W.widen (k := cells + 1) (n := slots + 6) (by omega) (by omega) ?_
  obtain ⟨sK, sM, hr, hR⟩ := sim_toFree hq h9
  refine lv_aload_n hx hb dL_law_979 rfl (lv_at hl 1 rfl) ?_
  have hPc := hP.sub (ws' := kW cI h κ) [0, 1, 2, 3, 4, 5, 6, 7, 8, 9] rfl
  have hDc := hD.sub (ws' := kW cI h κ) [0, 1, 2, 3, 4, 5, 6, 7, 8, 9] (by decide) rfl
  refine rcI (W2 := fun _ => LW cI cL h g o κ μ out) (va_runV (As := []) (rest := []) ⟨hx, hb, hml, hown, hts⟩ (c_X2_toFree l dC dI cI h H.size κ) (cwV 0 hts gL_law_X2_toFree rfl rfl rfl (by decide +kernel) ⟨Nat.le_of_ble_eq_true rfl, Nat.le_of_ble_eq_true rfl⟩) (pW_V hPc hKc hDc (ci := 2) (q0 := 0) rfl rfl) rfl rfl hl.1 rfl (lv_room (Nat.le_of_ble_eq_true rfl)) dL_law_980 ⟨hc, hs⟩) hP hD hS hA [0, 1, 2, 3, 4, 5, 6, 7, 8, 9] [10, 11, 12, 13, 14, 15, 16] [7, 8, 9, 10, 11, 12, 13, 14, 15, 16, 0, 1, 2, 3, 4, 5, 6] rfl rfl (by decide) (fun _ => rfl) (fun r5 u5 H locs hw hP hD hS => ?_)
  refine lv_aload_n hx hb dL_law_983 rfl (lv_at hl 2 rfl) ?_
  have hPc := hP.sub (ws' := mW cI g μ) [10, 11, 12, 13, 14, 15] rfl
  have hDc := hD.sub (ws' := mW cI g μ) [10, 11, 12, 13, 14, 15] (by decide) rfl
  refine rcI (W2 := fun u => LW cI cL h g o κ u out) (va_runV (As := []) (rest := [.int r5]) ⟨hx, hb, hml, hown, hts⟩ (c_X3_toFree l dC dI cI g H.size μ) (cwV 0 hts gL_law_X3_toFree rfl rfl rfl (by decide +kernel) ⟨Nat.le_of_ble_eq_true rfl, Nat.le_of_ble_eq_true rfl⟩) (pW_V hPc hKc hDc (ci := 3) (q0 := 0) rfl rfl) rfl rfl hl.1 rfl (lv_room (Nat.le_of_ble_eq_true rfl)) dL_law_984 ⟨hc, hs⟩) hP hD hS hA [10, 11, 12, 13, 14, 15] [0, 1, 2, 3, 4, 5, 6, 7, 8, 9, 16] [0, 1, 2, 3, 4, 5, 6, 7, 8, 9, 11, 12, 13, 14, 15, 16, 10] rfl rfl (by decide) (fun _ => rfl) (fun r6 μ2 H locs hv hP hD hS => ?_)
  obtain ⟨hv, hv2⟩ := hv
  refine lv_icmp_eq (tgt := 1005) hx hb dL_law_987 (by decide) (fun c_1 => ?_) (fun c_1 => absurd (by rw [hw, hv]; exact hr) c_1)
  rw [← hv2] at hR
  exact K κ μ2 out H locs ls hR hP hD hS (lv_sub hl [0, 1, 2, 3, 4] rfl)
set_option maxHeartbeats 1000000 in
set_option maxRecDepth 100000 in
theorem arm_wouldHave {p : Program} {l : Launch} {e : Env} {s : State} {m : MethodId} {below : List Frame} {meth : Method} {c : Code} {b L : Nat} {xs : Nat → Int32} {dC : Nat → ClassId} {dI : Nat → Nat → Nat} {cI cL : ClassId} (hlt : l.stackTraces = false) (C0 : LC p s m c b L xs dC dI cI cL) {h g : Nat → Nat} {o i N : Nat} {κ : KS} {μ : MS} {out : Nat → Int64} (hi : i + 3 ≤ L) (hq : RQ κ μ N) (h9 : N + 96 ≤ 100000) {H : Heap} {locs : List Loc} {cells slots : Nat} {Q : State → Prop} {ls : Array Slot} (hc : cells + 1 ≤ 1051) (hs : slots + 6 ≤ 9112) (hP : va_P (dC, dI) vwCl (LW cI cL h g o κ μ out) H) (hD : va_D (fun q : Nat => s.heap.size ≤ q) (LW cI cL h g o κ μ out)) (hS : va_S (fun q : Nat => s.heap.size ≤ q) s.heap H locs) (hl : lv_has ls 7 [(0, .ref b), (1, .ref (h 0)), (2, .ref (g 0)), (3, .ref o), (4, .int (nI i))])
    (K : ∀ (κ2 : KS) (μ2 : MS) (out2 : Nat → Int64) (H2 : Heap) (locs2 : List Loc) (ls2 : Array Slot), RQ κ2 μ2 (N + 96) → va_P (dC, dI) vwCl (LW cI cL h g o κ2 μ2 out2) H2 → va_D (fun q : Nat => s.heap.size ≤ q) (LW cI cL h g o κ2 μ2 out2) → va_S (fun q : Nat => s.heap.size ≤ q) s.heap H2 locs2 → lv_has ls2 7 [(0, .ref b), (1, .ref (h 0)), (2, .ref (g 0)), (3, .ref o), (4, .int (nI i))] → W p l e room_1 s m #[Value.ref b] below meth c H2 locs2 (cells + 1) (slots + 6) Q (F0 m 1005 ls2 [])) : W p l e room_1 s m #[Value.ref b] below meth c H locs cells slots Q (F0 m 992 ls []) := by
  obtain ⟨hx, hb, hml, hown, hts, hX, hbl, hK, hZ, hNc, hL⟩ := C0
  have hA : ∀ q : Nat, s.heap.size ≤ q → (fun q : Nat => s.heap.size ≤ q) q := fun _ h => h
  have hbA : ¬ (fun q : Nat => s.heap.size ≤ q) b := Nat.not_le.mpr hbl
  have hKc := hK.sub (tys' := [(cI, .int)]) [0] rfl
  refine W.widen (k := cells + 1) (n := slots + 6) (by omega) (by omega) ?_
  obtain ⟨sK, sM, hr, hR⟩ := sim_wouldHave hq h9
  refine lv_aload_n hx hb dL_law_992 rfl (lv_at hl 1 rfl) ?_
  have hPc := hP.sub (ws' := kW cI h κ) [0, 1, 2, 3, 4, 5, 6, 7, 8, 9] rfl
  have hDc := hD.sub (ws' := kW cI h κ) [0, 1, 2, 3, 4, 5, 6, 7, 8, 9] (by decide) rfl
  refine rcI (W2 := fun u => LW cI cL h g o u μ out) (va_runV (As := []) (rest := []) ⟨hx, hb, hml, hown, hts⟩ (c_X2_wouldHave l dC dI cI h H.size κ sK) (cwV 0 hts gL_law_X2_wouldHave rfl rfl rfl (by decide +kernel) ⟨Nat.le_of_ble_eq_true rfl, Nat.le_of_ble_eq_true rfl⟩) (pW_V hPc hKc hDc (ci := 2) (q0 := 0) rfl rfl) rfl rfl hl.1 rfl (lv_room (Nat.le_of_ble_eq_true rfl)) dL_law_993 ⟨hc, hs⟩) hP hD hS hA [0, 1, 2, 3, 4, 5, 6, 7, 8, 9] [10, 11, 12, 13, 14, 15, 16] [7, 8, 9, 10, 11, 12, 13, 14, 15, 16, 0, 1, 2, 3, 4, 5, 6] rfl rfl (by decide) (fun _ => rfl) (fun r5 u5 H locs hw hP hD hS => ?_)
  obtain ⟨hw, hw2⟩ := hw
  refine lv_aload_n hx hb dL_law_996 rfl (lv_at hl 2 rfl) ?_
  have hPc := hP.sub (ws' := mW cI g μ) [10, 11, 12, 13, 14, 15] rfl
  have hDc := hD.sub (ws' := mW cI g μ) [10, 11, 12, 13, 14, 15] (by decide) rfl
  refine rcI (W2 := fun u => LW cI cL h g o u5 u out) (va_runV (As := []) (rest := [.int r5]) ⟨hx, hb, hml, hown, hts⟩ (c_X3_wouldHave l dC dI cI g H.size μ sM) (cwV 0 hts gL_law_X3_wouldHave rfl rfl rfl (by decide +kernel) ⟨Nat.le_of_ble_eq_true rfl, Nat.le_of_ble_eq_true rfl⟩) (pW_V hPc hKc hDc (ci := 3) (q0 := 0) rfl rfl) rfl rfl hl.1 rfl (lv_room (Nat.le_of_ble_eq_true rfl)) dL_law_997 ⟨hc, hs⟩) hP hD hS hA [10, 11, 12, 13, 14, 15] [0, 1, 2, 3, 4, 5, 6, 7, 8, 9, 16] [0, 1, 2, 3, 4, 5, 6, 7, 8, 9, 11, 12, 13, 14, 15, 16, 10] rfl rfl (by decide) (fun _ => rfl) (fun r6 μ2 H locs hv hP hD hS => ?_)
  obtain ⟨hv, hv2⟩ := hv
  refine lv_icmp_eq (tgt := 1005) hx hb dL_law_1000 (by decide) (fun c_1 => ?_) (fun c_1 => absurd (by rw [hw, hv]; exact hr) c_1)
  rw [← hv2, ← hw2] at hR
  exact K u5 μ2 out H locs ls hR hP hD hS (lv_sub hl [0, 1, 2, 3, 4] rfl)
