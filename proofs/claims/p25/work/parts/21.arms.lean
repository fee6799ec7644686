/-- the law's world: the class, what is due, what is due after a failure of power -/
def LW (cI : ClassId) (h : Nat → Nat) (ad aq : Nat) (κ : KS) (d sf : Nat → Int32) : va_W := kW cI h κ ++ [(ad, .inl (cI, 64, .inl d)), (aq, .inl (cI, 64, .inl sf))]
def LC (p : Program) (s : State) (m : MethodId) (c : Code) (b L : Nat) (xs : Nat → Int32) (dC : Nat → ClassId) (dI : Nat → Nat → Nat) (cI : ClassId) : Prop :=
  p.tables.exec = Jvm.exec ∧ c.code = cL_law ∧ c.maxLocals = 15 ∧ s.vm.findClass RL = some m.cls ∧ (∀ w ∈ wsL_law, w.before #[Value.ref b] s = true) ∧ va_X b L xs s s.heap ∧ b < s.heap.size ∧ va_K (dC, dI) vwCl [(cI, .int)] s ∧ zZ (fun q : Nat => s.heap.size ≤ q) s ∧ zNc s ∧ L ≤ 260
theorem m103 {p : Nat} (h : p < 2 ^ 31) : ¬ (-103 : Int32) = nI p := fun e => nI_pos h (by rw [← e]; decide)
theorem due_103 {κ : KS} {d sf : Nat → Int32} {N H T W C : Nat} (h : IN κ d sf N H T W C) {k : Nat} (hk : k < 64) : ¬ (-103 : Int32) = d k := by
  rcases h.two hk with ⟨-, e⟩ | ⟨p, v, -, -, -, -, e1, e2⟩
  · rw [e]; decide
  · rw [e2]; exact m103 (by omega)
theorem upd_same {d : Nat → Int32} {q : Nat} : ∀ k, k < 64 → upd d q (d q) k = d k := fun k _ => by
  by_cases e : k = q
  · subst e; exact pk_us
  · exact pk_un e
theorem rem_n (d : Nat) {a : Nat} (h0 : 0 < d) (hd : d < 2 ^ 31) (h : a < 2 ^ 31) : nI a - nI a / nI d * nI d = nI (a % d) := pk_rem h h0 hd
theorem div_n (d : Nat) {a : Nat} (h0 : 0 < d) (hd : d < 2 ^ 31) (h : a < 2 ^ 31) : nI a / nI d = nI (a / d) := pk_div h h0 hd
theorem if1 {x : Int32} (h : x = 1) : (if x = 0 then (0 : Int32) else 1) = 1 := if_neg (by rw [h]; decide)
theorem one_plus (a : Nat) : (1 : Int32) + nI a = nI (1 + a) := nI_add 1 a
set_option maxHeartbeats 2000000 in
set_option maxRecDepth 100000 in
theorem arm_put {p : Program} {l : Launch} {e : Env} {s : State} {m : MethodId} {below : List Frame} {meth : Method} {c : Code} {b L : Nat} {xs : Nat → Int32} {dC : Nat → ClassId} {dI : Nat → Nat → Nat} {cI : ClassId} (hlt : l.stackTraces = false) (C0 : LC p s m c b L xs dC dI cI) {h : Nat → Nat} {ad aq i N xH xT xW xC q v0 kd : Nat} {κ : KS} {d sf : Nat → Int32} (hq : IN κ d sf N xH xT xW xC) (h9 : N + 96 ≤ 100000) (hqk : q < 64) (hv0 : v0 < 2 ^ 31) {H : Heap} {locs : List Loc} {cells slots : Nat} {Q : State → Prop} {ls : Array Slot} (hc : cells + 1 ≤ 193) (hs : slots + 6 ≤ 1957) (hP : va_P (dC, dI) vwCl (LW cI h ad aq κ d sf) H) (hD : va_D (fun q : Nat => s.heap.size ≤ q) (LW cI h ad aq κ d sf)) (hS : va_S (fun q : Nat => s.heap.size ≤ q) s.heap H locs) (hl : lv_has ls 15 [(11, .int (nI xH)), (10, .int (nI kd)), (9, .int (nI v0)), (8, .int (nI q)), (5, .int (nI i)), (0, .ref b), (1, .ref (h 0)), (2, .ref ad), (3, .ref aq)])
    (K : ∀ (κ2 : KS) (d2 sf2 : Nat → Int32) (yH yT yW yC : Nat) (H2 : Heap) (locs2 : List Loc) (ls2 : Array Slot), IN κ2 d2 sf2 (N + 96) yH yT yW yC → va_P (dC, dI) vwCl (LW cI h ad aq κ2 d2 sf2) H2 → va_D (fun q : Nat => s.heap.size ≤ q) (LW cI h ad aq κ2 d2 sf2) → va_S (fun q : Nat => s.heap.size ≤ q) s.heap H2 locs2 → lv_has ls2 15 [(4, .int 1), (5, .int (nI i)), (0, .ref b), (1, .ref (h 0)), (2, .ref ad), (3, .ref aq)] → W p l e room_1 s m #[Value.ref b] below meth c H2 locs2 (cells + 1) (slots + 6) Q (F0 m 596 ls2 [])) : W p l e room_1 s m #[Value.ref b] below meth c H locs cells slots Q (F0 m 127 ls []) := by
  obtain ⟨hx, hb, hml, hown, hts, hX, hbl, hK, hZ, hNc, hL⟩ := C0
  have hA : ∀ q : Nat, s.heap.size ≤ q → (fun q : Nat => s.heap.size ≤ q) q := fun _ h => h
  have hbA : ¬ (fun q : Nat => s.heap.size ≤ q) b := Nat.not_le.mpr hbl
  have n10 : ¬ (1 : Int32) = 0 := by decide
  obtain ⟨-, ⟨q1, q2, q3, q4, q5, q6⟩, -⟩ := id hq
  refine lv_aload_n hx hb dL_law_127 rfl (lv_at hl 6 rfl) ?_
  refine lv_iload hx hb dL_law_128 (lv_at hl 3 rfl) ?_
  refine lv_iload hx hb dL_law_130 (lv_at hl 2 rfl) ?_
  refine lv_sipush (v := 10000) hx hb dL_law_132 (by decide) ?_
  refine lv_irem hx hb dL_law_135 (by decide) ?_
  rw [show ((nI v0) - (nI v0) / 10000 * 10000 : Int32) = (nI (v0 % 10000)) from rem_n 10000 (by decide) (by decide) hv0]
  rcases put_v hq h9 hqk (Nat.mod_lt v0 (show 0 < 10000 by decide)) with ⟨sP, ⟨xP, vP, hI2⟩ | xP⟩
  · refine W.widen (k := cells + 1) (n := slots + 6) (by omega) (by omega) ?_
    have hPc := hP.sub (ws' := kW cI h κ) [0, 1, 2, 3, 4, 5, 6, 7, 8, 9] rfl
    have hDc := hD.sub (ws' := kW cI h κ) [0, 1, 2, 3, 4, 5, 6, 7, 8, 9] (by decide) rfl
    refine rcI (wc := kW cI h κ) (W2 := fun u => LW cI h ad aq u d sf) (vx_runSW (As := [.ref (h 0), .int (nI q), .int (nI (v0 % 10000))]) (rest := []) ⟨hx, hb, hml, hown, hts⟩ (w_put l dC dI cI h H.size κ (nI q) (nI (v0 % 10000)) xP sP) (vx_cwSW 3 hts gL_law_L_put rfl rfl rfl (by decide +kernel) ⟨Nat.le_of_ble_eq_true rfl, Nat.le_of_ble_eq_true rfl⟩) (pW_S hPc hK hDc) rfl rfl hl.1 rfl (lv_room (Nat.le_of_ble_eq_true rfl)) dL_law_136 ⟨(by show _ ≤ 193; omega), (by show _ ≤ 1957; omega)⟩) hP hD hS hA [0, 1, 2, 3, 4, 5, 6, 7, 8, 9] [10, 11] [2, 3, 4, 5, 6, 7, 8, 9, 10, 11, 0, 1] rfl rfl (by decide) (fun _ => rfl) (fun r u H locs hw hP hD hS => ?_)
    obtain ⟨hw, hw2⟩ := hw
    obtain rfl : r = (nI xH) := hw.trans (congrArg Prod.fst vP)
    have hI : IN u (upd d q (nI (v0 % 10000))) sf (N + 96) (xH + 1) xT xW xC := by rw [hw2, vP]; exact hI2
    refine lv_istore (lv' := [(12, .int (nI xH)), (11, .int (nI xH)), (10, .int (nI kd)), (9, .int (nI v0)), (8, .int (nI q)), (5, .int (nI i)), (0, .ref b), (1, .ref (h 0)), (2, .ref ad), (3, .ref aq)]) hx hb dL_law_139 hl (by decide) rfl (fun ls hl => ?_)
    refine lv_iload hx hb dL_law_141 (lv_at hl 0 rfl) ?_
    refine lv_iload hx hb dL_law_143 (lv_at hl 1 rfl) ?_
    refine lv_icmp_ne (tgt := 159) hx hb dL_law_145 (by decide) (fun c_ => absurd (rfl) c_) (fun c_ => ?_)
    refine lv_aload_n hx hb dL_law_148 rfl (lv_at hl 7 rfl) ?_
    have hPc := hP.sub (ws' := kW cI h u) [0, 1, 2, 3, 4, 5, 6, 7, 8, 9] rfl
    have hDc := hD.sub (ws' := kW cI h u) [0, 1, 2, 3, 4, 5, 6, 7, 8, 9] (by decide) rfl
    refine rcI (wc := kW cI h u) (W2 := fun _ => LW cI h ad aq u d sf) (va_runV (As := []) (rest := []) ⟨hx, hb, hml, hown, hts⟩ (c_X2_head l dC dI cI h H.size u) (cwV 0 hts gL_law_X2_head rfl rfl rfl (by decide +kernel) ⟨Nat.le_of_ble_eq_true rfl, Nat.le_of_ble_eq_true rfl⟩) (pW_V hPc hK hDc (ci := 2) (q0 := 0) rfl rfl) rfl rfl hl.1 rfl (lv_room (Nat.le_of_ble_eq_true rfl)) dL_law_149 ⟨(by show _ ≤ 193; omega), (by show _ ≤ 1957; omega)⟩) hP hD hS hA [0, 1, 2, 3, 4, 5, 6, 7, 8, 9] [10, 11] [2, 3, 4, 5, 6, 7, 8, 9, 10, 11, 0, 1] rfl rfl (by decide) (fun _ => rfl) (fun r u9 H locs hw hP hD hS => ?_)
    obtain rfl : r = (nI (xH + 1)) := hw.trans (head_v hI)
    refine lv_iload hx hb dL_law_152 (lv_at hl 1 rfl) ?_
    refine lv_iconst (v := 1) hx hb dL_law_154 (by decide) ?_
    refine lv_iadd hx hb dL_law_155 ?_
    rw [show ((nI xH) + 1 : Int32) = (nI (xH + 1)) from nI_1 xH]
    refine lv_icmp_eq (tgt := 175) hx hb dL_law_156 (by decide) (fun c_ => ?_) (fun c_ => absurd (rfl) c_)
    refine lv_iconst (v := 1) hx hb dL_law_175 (by decide) ?_
    refine lv_goto (tgt := 180) hx hb dL_law_176 (by decide) ?_
    refine lv_istore (lv' := [(4, .int 1), (12, .int (nI xH)), (11, .int (nI xH)), (10, .int (nI kd)), (9, .int (nI v0)), (8, .int (nI q)), (5, .int (nI i)), (0, .ref b), (1, .ref (h 0)), (2, .ref ad), (3, .ref aq)]) hx hb dL_law_180 hl (by decide) rfl (fun ls hl => ?_)
    refine lv_aload_n hx hb dL_law_182 rfl (lv_at hl 9 rfl) ?_
    refine lv_iload hx hb dL_law_183 (lv_at hl 5 rfl) ?_
    refine lv_iload hx hb dL_law_185 (lv_at hl 1 rfl) ?_
    refine lv_if_lt (tgt := 199) hx hb dL_law_187 (by decide) (fun c_ => absurd c_ (nI_pos (by omega))) (fun c_ => ?_)
    refine lv_iload hx hb dL_law_190 (lv_at hl 4 rfl) ?_
    refine lv_sipush (v := 10000) hx hb dL_law_192 (by decide) ?_
    refine lv_irem hx hb dL_law_195 (by decide) ?_
    rw [show ((nI v0) - (nI v0) / 10000 * 10000 : Int32) = (nI (v0 % 10000)) from rem_n 10000 (by decide) (by decide) hv0]
    refine lv_goto (tgt := 203) hx hb dL_law_196 (by decide) ?_
    refine va_iast hx hb hK hP hD hS 10 0 rfl rfl (vp_in_nI (by omega) (by decide)) dL_law_203 (fun H locs hP hD hS => ?_)
    rw [nI_clamp (show q < 2 ^ 31 by omega)] at hP hD
    have hP : va_P (dC, dI) vwCl (LW cI h ad aq u (upd d q (nI (v0 % 10000))) sf) H := hP
    have hD : va_D (fun q : Nat => s.heap.size ≤ q) (LW cI h ad aq u (upd d q (nI (v0 % 10000))) sf) := hD
    refine lv_goto (tgt := 596) hx hb dL_law_204 (by decide) ?_
    exact K u (upd d q (nI (v0 % 10000))) sf _ _ _ _ H locs ls hI hP hD hS (lv_sub hl [0, 6, 7, 8, 9, 10] rfl)
  · have hPc := hP.sub (ws' := kW cI h κ) [0, 1, 2, 3, 4, 5, 6, 7, 8, 9] rfl
    have hDc := hD.sub (ws' := kW cI h κ) [0, 1, 2, 3, 4, 5, 6, 7, 8, 9] (by decide) rfl
    have hFc := va_free (wc := kW cI h κ) hD hS hA [0, 1, 2, 3, 4, 5, 6, 7, 8, 9] rfl
    refine rcI (wc := kW cI h κ) (W2 := fun _ => LW cI h ad aq κ d sf) (vx_runSW (As := [.ref (h 0), .int (nI q), .int (nI (v0 % 10000))]) (rest := []) ⟨hx, hb, hml, hown, hts⟩ (y_put l hlt dC dI cI h H.size κ (nI q) (nI (v0 % 10000)) xP sP) (vx_cwSW 3 hts gL_law_L_put rfl rfl rfl (by decide +kernel) ⟨Nat.le_of_ble_eq_true rfl, Nat.le_of_ble_eq_true rfl⟩) (pL_S hPc hK hDc hZ hS hFc hNc) rfl rfl hl.1 rfl (lv_room (Nat.le_of_ble_eq_true rfl)) dL_law_136 ⟨(by show _ ≤ 193; omega), (by show _ ≤ 1957; omega)⟩) hP hD hS hA [0, 1, 2, 3, 4, 5, 6, 7, 8, 9] [10, 11] [2, 3, 4, 5, 6, 7, 8, 9, 10, 11, 0, 1] rfl rfl (by decide) (fun _ => rfl) (fun r u9 H locs hw hP hD hS => ?_)
    obtain rfl : r = (-103) := hw
    refine lv_istore (lv' := [(12, .int (-103)), (11, .int (nI xH)), (10, .int (nI kd)), (9, .int (nI v0)), (8, .int (nI q)), (5, .int (nI i)), (0, .ref b), (1, .ref (h 0)), (2, .ref ad), (3, .ref aq)]) hx hb dL_law_139 hl (by decide) rfl (fun ls hl => ?_)
    refine lv_iload hx hb dL_law_141 (lv_at hl 0 rfl) ?_
    refine lv_iload hx hb dL_law_143 (lv_at hl 1 rfl) ?_
    refine lv_icmp_ne (tgt := 159) hx hb dL_law_145 (by decide) (fun c_ => ?_) (fun c_ => absurd c_ (m103 (by omega)))
    refine lv_iload hx hb dL_law_159 (lv_at hl 0 rfl) ?_
    refine lv_bipush (v := (-103)) hx hb dL_law_161 (by decide) ?_
    refine lv_icmp_ne (tgt := 179) hx hb dL_law_163 (by decide) (fun c_ => absurd (rfl) c_) (fun c_ => ?_)
    refine lv_aload_n hx hb dL_law_166 rfl (lv_at hl 7 rfl) ?_
    have hPc := hP.sub (ws' := kW cI h κ) [0, 1, 2, 3, 4, 5, 6, 7, 8, 9] rfl
    have hDc := hD.sub (ws' := kW cI h κ) [0, 1, 2, 3, 4, 5, 6, 7, 8, 9] (by decide) rfl
    refine rcI (wc := kW cI h κ) (W2 := fun _ => LW cI h ad aq κ d sf) (va_runV (As := []) (rest := []) ⟨hx, hb, hml, hown, hts⟩ (c_X2_head l dC dI cI h H.size κ) (cwV 0 hts gL_law_X2_head rfl rfl rfl (by decide +kernel) ⟨Nat.le_of_ble_eq_true rfl, Nat.le_of_ble_eq_true rfl⟩) (pW_V hPc hK hDc (ci := 2) (q0 := 0) rfl rfl) rfl rfl hl.1 rfl (lv_room (Nat.le_of_ble_eq_true rfl)) dL_law_167 ⟨(by show _ ≤ 193; omega), (by show _ ≤ 1957; omega)⟩) hP hD hS hA [0, 1, 2, 3, 4, 5, 6, 7, 8, 9] [10, 11] [2, 3, 4, 5, 6, 7, 8, 9, 10, 11, 0, 1] rfl rfl (by decide) (fun _ => rfl) (fun r u9 H locs hw hP hD hS => ?_)
    obtain rfl : r = (nI xH) := hw.trans (head_v hq)
    refine lv_iload hx hb dL_law_170 (lv_at hl 1 rfl) ?_
    refine lv_icmp_ne (tgt := 179) hx hb dL_law_172 (by decide) (fun c_ => absurd (rfl) c_) (fun c_ => ?_)
    refine lv_iconst (v := 1) hx hb dL_law_175 (by decide) ?_
    refine lv_goto (tgt := 180) hx hb dL_law_176 (by decide) ?_
    refine lv_istore (lv' := [(4, .int 1), (12, .int (-103)), (11, .int (nI xH)), (10, .int (nI kd)), (9, .int (nI v0)), (8, .int (nI q)), (5, .int (nI i)), (0, .ref b), (1, .ref (h 0)), (2, .ref ad), (3, .ref aq)]) hx hb dL_law_180 hl (by decide) rfl (fun ls hl => ?_)
    refine lv_aload_n hx hb dL_law_182 rfl (lv_at hl 9 rfl) ?_
    refine lv_iload hx hb dL_law_183 (lv_at hl 5 rfl) ?_
    refine lv_iload hx hb dL_law_185 (lv_at hl 1 rfl) ?_
    refine lv_if_lt (tgt := 199) hx hb dL_law_187 (by decide) (fun c_ => ?_) (fun c_ => absurd (by decide) c_)
    refine lv_aload_n hx hb dL_law_199 rfl (lv_at hl 9 rfl) ?_
    refine lv_iload hx hb dL_law_200 (lv_at hl 5 rfl) ?_
    refine va_iald hx hb hK hP 10 0 rfl rfl (vp_in_nI (by omega) (by decide)) dL_law_202 ?_
    rw [nI_clamp (show q < 2 ^ 31 by omega)]
    refine va_iast hx hb hK hP hD hS 10 0 rfl rfl (vp_in_nI (by omega) (by decide)) dL_law_203 (fun H locs hP hD hS => ?_)
    rw [nI_clamp (show q < 2 ^ 31 by omega)] at hP hD
    have hP : va_P (dC, dI) vwCl (LW cI h ad aq κ (upd d q (d q)) sf) H := hP
    have hD : va_D (fun q : Nat => s.heap.size ≤ q) (LW cI h ad aq κ (upd d q (d q)) sf) := hD
    refine lv_goto (tgt := 596) hx hb dL_law_204 (by decide) ?_
    exact K κ (upd d q (d q)) sf _ _ _ _ H locs ls ((hq.cgd upd_same).mono (by omega) h9) hP hD hS (lv_sub hl [0, 6, 7, 8, 9, 10] rfl)
set_option maxHeartbeats 2000000 in
set_option maxRecDepth 100000 in
theorem arm_del {p : Program} {l : Launch} {e : Env} {s : State} {m : MethodId} {below : List Frame} {meth : Method} {c : Code} {b L : Nat} {xs : Nat → Int32} {dC : Nat → ClassId} {dI : Nat → Nat → Nat} {cI : ClassId} (hlt : l.stackTraces = false) (C0 : LC p s m c b L xs dC dI cI) {h : Nat → Nat} {ad aq i N xH xT xW xC q v0 kd : Nat} {κ : KS} {d sf : Nat → Int32} (hq : IN κ d sf N xH xT xW xC) (h9 : N + 96 ≤ 100000) (hqk : q < 64) (hv0 : v0 < 2 ^ 31) {H : Heap} {locs : List Loc} {cells slots : Nat} {Q : State → Prop} {ls : Array Slot} (hc : cells + 1 ≤ 193) (hs : slots + 6 ≤ 1957) (hP : va_P (dC, dI) vwCl (LW cI h ad aq κ d sf) H) (hD : va_D (fun q : Nat => s.heap.size ≤ q) (LW cI h ad aq κ d sf)) (hS : va_S (fun q : Nat => s.heap.size ≤ q) s.heap H locs) (hl : lv_has ls 15 [(11, .int (nI xH)), (10, .int (nI kd)), (9, .int (nI v0)), (8, .int (nI q)), (5, .int (nI i)), (0, .ref b), (1, .ref (h 0)), (2, .ref ad), (3, .ref aq)])
    (K : ∀ (κ2 : KS) (d2 sf2 : Nat → Int32) (yH yT yW yC : Nat) (H2 : Heap) (locs2 : List Loc) (ls2 : Array Slot), IN κ2 d2 sf2 (N + 96) yH yT yW yC → va_P (dC, dI) vwCl (LW cI h ad aq κ2 d2 sf2) H2 → va_D (fun q : Nat => s.heap.size ≤ q) (LW cI h ad aq κ2 d2 sf2) → va_S (fun q : Nat => s.heap.size ≤ q) s.heap H2 locs2 → lv_has ls2 15 [(4, .int 1), (5, .int (nI i)), (0, .ref b), (1, .ref (h 0)), (2, .ref ad), (3, .ref aq)] → W p l e room_1 s m #[Value.ref b] below meth c H2 locs2 (cells + 1) (slots + 6) Q (F0 m 596 ls2 [])) : W p l e room_1 s m #[Value.ref b] below meth c H locs cells slots Q (F0 m 214 ls []) := by
  obtain ⟨hx, hb, hml, hown, hts, hX, hbl, hK, hZ, hNc, hL⟩ := C0
  have hA : ∀ q : Nat, s.heap.size ≤ q → (fun q : Nat => s.heap.size ≤ q) q := fun _ h => h
  have hbA : ¬ (fun q : Nat => s.heap.size ≤ q) b := Nat.not_le.mpr hbl
  have n10 : ¬ (1 : Int32) = 0 := by decide
  obtain ⟨-, ⟨q1, q2, q3, q4, q5, q6⟩, -⟩ := id hq
  refine lv_aload_n hx hb dL_law_214 rfl (lv_at hl 6 rfl) ?_
  refine lv_iload hx hb dL_law_215 (lv_at hl 3 rfl) ?_
  rcases delete_v hq h9 hqk with ⟨sP, ⟨xP, u0, hu0, hdq, vP, hI2⟩ | xP⟩
  · refine W.widen (k := cells + 1) (n := slots + 6) (by omega) (by omega) ?_
    have hPc := hP.sub (ws' := kW cI h κ) [0, 1, 2, 3, 4, 5, 6, 7, 8, 9] rfl
    have hDc := hD.sub (ws' := kW cI h κ) [0, 1, 2, 3, 4, 5, 6, 7, 8, 9] (by decide) rfl
    refine rcI (wc := kW cI h κ) (W2 := fun u => LW cI h ad aq u d sf) (vx_runSW (As := [.ref (h 0), .int (nI q)]) (rest := []) ⟨hx, hb, hml, hown, hts⟩ (w_delete l dC dI cI h H.size κ (nI q) xP sP) (vx_cwSW 2 hts gL_law_L_delete rfl rfl rfl (by decide +kernel) ⟨Nat.le_of_ble_eq_true rfl, Nat.le_of_ble_eq_true rfl⟩) (pW_S hPc hK hDc) rfl rfl hl.1 rfl (lv_room (Nat.le_of_ble_eq_true rfl)) dL_law_217 ⟨(by show _ ≤ 193; omega), (by show _ ≤ 1957; omega)⟩) hP hD hS hA [0, 1, 2, 3, 4, 5, 6, 7, 8, 9] [10, 11] [2, 3, 4, 5, 6, 7, 8, 9, 10, 11, 0, 1] rfl rfl (by decide) (fun _ => rfl) (fun r u H locs hw hP hD hS => ?_)
    obtain ⟨hw, hw2⟩ := hw
    obtain rfl : r = (nI u0) := hw.trans (congrArg Prod.fst vP)
    have hI : IN u (upd d q (-1)) sf (N + 96) (xH + 1) xT xW xC := by rw [hw2, vP]; exact hI2
    refine lv_istore (lv' := [(12, .int (nI u0)), (11, .int (nI xH)), (10, .int (nI kd)), (9, .int (nI v0)), (8, .int (nI q)), (5, .int (nI i)), (0, .ref b), (1, .ref (h 0)), (2, .ref ad), (3, .ref aq)]) hx hb dL_law_220 hl (by decide) rfl (fun ls hl => ?_)
    refine lv_iload hx hb dL_law_222 (lv_at hl 0 rfl) ?_
    refine lv_aload_n hx hb dL_law_224 rfl (lv_at hl 8 rfl) ?_
    refine lv_iload hx hb dL_law_225 (lv_at hl 4 rfl) ?_
    refine va_iald hx hb hK hP 10 0 rfl rfl (vp_in_nI (by omega) (by decide)) dL_law_227 ?_
    rw [nI_clamp (show q < 2 ^ 31 by omega)]
    refine lv_icmp_ne (tgt := 247) hx hb dL_law_228 (by decide) (fun c_ => absurd (hdq.symm) c_) (fun c_ => ?_)
    refine lv_iload hx hb dL_law_231 (lv_at hl 0 rfl) ?_
    refine lv_if_lt (tgt := 247) hx hb dL_law_233 (by decide) (fun c_ => absurd c_ (nI_pos (by omega))) (fun c_ => ?_)
    refine lv_aload_n hx hb dL_law_236 rfl (lv_at hl 7 rfl) ?_
    have hPc := hP.sub (ws' := kW cI h u) [0, 1, 2, 3, 4, 5, 6, 7, 8, 9] rfl
    have hDc := hD.sub (ws' := kW cI h u) [0, 1, 2, 3, 4, 5, 6, 7, 8, 9] (by decide) rfl
    refine rcI (wc := kW cI h u) (W2 := fun _ => LW cI h ad aq u d sf) (va_runV (As := []) (rest := []) ⟨hx, hb, hml, hown, hts⟩ (c_X2_head l dC dI cI h H.size u) (cwV 0 hts gL_law_X2_head rfl rfl rfl (by decide +kernel) ⟨Nat.le_of_ble_eq_true rfl, Nat.le_of_ble_eq_true rfl⟩) (pW_V hPc hK hDc (ci := 2) (q0 := 0) rfl rfl) rfl rfl hl.1 rfl (lv_room (Nat.le_of_ble_eq_true rfl)) dL_law_237 ⟨(by show _ ≤ 193; omega), (by show _ ≤ 1957; omega)⟩) hP hD hS hA [0, 1, 2, 3, 4, 5, 6, 7, 8, 9] [10, 11] [2, 3, 4, 5, 6, 7, 8, 9, 10, 11, 0, 1] rfl rfl (by decide) (fun _ => rfl) (fun r u9 H locs hw hP hD hS => ?_)
    obtain rfl : r = (nI (xH + 1)) := hw.trans (head_v hI)
    refine lv_iload hx hb dL_law_240 (lv_at hl 1 rfl) ?_
    refine lv_iconst (v := 1) hx hb dL_law_242 (by decide) ?_
    refine lv_iadd hx hb dL_law_243 ?_
    rw [show ((nI xH) + 1 : Int32) = (nI (xH + 1)) from nI_1 xH]
    refine lv_icmp_eq (tgt := 263) hx hb dL_law_244 (by decide) (fun c_ => ?_) (fun c_ => absurd (rfl) c_)
    refine lv_iconst (v := 1) hx hb dL_law_263 (by decide) ?_
    refine lv_goto (tgt := 268) hx hb dL_law_264 (by decide) ?_
    refine lv_istore (lv' := [(4, .int 1), (12, .int (nI u0)), (11, .int (nI xH)), (10, .int (nI kd)), (9, .int (nI v0)), (8, .int (nI q)), (5, .int (nI i)), (0, .ref b), (1, .ref (h 0)), (2, .ref ad), (3, .ref aq)]) hx hb dL_law_268 hl (by decide) rfl (fun ls hl => ?_)
    refine lv_aload_n hx hb dL_law_270 rfl (lv_at hl 9 rfl) ?_
    refine lv_iload hx hb dL_law_271 (lv_at hl 5 rfl) ?_
    refine lv_iload hx hb dL_law_273 (lv_at hl 1 rfl) ?_
    refine lv_if_lt (tgt := 282) hx hb dL_law_275 (by decide) (fun c_ => absurd c_ (nI_pos (by omega))) (fun c_ => ?_)
    refine lv_iconst (v := (-1)) hx hb dL_law_278 (by decide) ?_
    refine lv_goto (tgt := 286) hx hb dL_law_279 (by decide) ?_
    refine va_iast hx hb hK hP hD hS 10 0 rfl rfl (vp_in_nI (by omega) (by decide)) dL_law_286 (fun H locs hP hD hS => ?_)
    rw [nI_clamp (show q < 2 ^ 31 by omega)] at hP hD
    have hP : va_P (dC, dI) vwCl (LW cI h ad aq u (upd d q (-1)) sf) H := hP
    have hD : va_D (fun q : Nat => s.heap.size ≤ q) (LW cI h ad aq u (upd d q (-1)) sf) := hD
    refine lv_goto (tgt := 596) hx hb dL_law_287 (by decide) ?_
    exact K u (upd d q (-1)) sf _ _ _ _ H locs ls hI hP hD hS (lv_sub hl [0, 6, 7, 8, 9, 10] rfl)
  · have hPc := hP.sub (ws' := kW cI h κ) [0, 1, 2, 3, 4, 5, 6, 7, 8, 9] rfl
    have hDc := hD.sub (ws' := kW cI h κ) [0, 1, 2, 3, 4, 5, 6, 7, 8, 9] (by decide) rfl
    have hFc := va_free (wc := kW cI h κ) hD hS hA [0, 1, 2, 3, 4, 5, 6, 7, 8, 9] rfl
    refine rcI (wc := kW cI h κ) (W2 := fun _ => LW cI h ad aq κ d sf) (vx_runSW (As := [.ref (h 0), .int (nI q)]) (rest := []) ⟨hx, hb, hml, hown, hts⟩ (y_delete l hlt dC dI cI h H.size κ (nI q) xP sP) (vx_cwSW 2 hts gL_law_L_delete rfl rfl rfl (by decide +kernel) ⟨Nat.le_of_ble_eq_true rfl, Nat.le_of_ble_eq_true rfl⟩) (pL_S hPc hK hDc hZ hS hFc hNc) rfl rfl hl.1 rfl (lv_room (Nat.le_of_ble_eq_true rfl)) dL_law_217 ⟨(by show _ ≤ 193; omega), (by show _ ≤ 1957; omega)⟩) hP hD hS hA [0, 1, 2, 3, 4, 5, 6, 7, 8, 9] [10, 11] [2, 3, 4, 5, 6, 7, 8, 9, 10, 11, 0, 1] rfl rfl (by decide) (fun _ => rfl) (fun r u9 H locs hw hP hD hS => ?_)
    obtain rfl : r = (-103) := hw
    refine lv_istore (lv' := [(12, .int (-103)), (11, .int (nI xH)), (10, .int (nI kd)), (9, .int (nI v0)), (8, .int (nI q)), (5, .int (nI i)), (0, .ref b), (1, .ref (h 0)), (2, .ref ad), (3, .ref aq)]) hx hb dL_law_220 hl (by decide) rfl (fun ls hl => ?_)
    refine lv_iload hx hb dL_law_222 (lv_at hl 0 rfl) ?_
    refine lv_aload_n hx hb dL_law_224 rfl (lv_at hl 8 rfl) ?_
    refine lv_iload hx hb dL_law_225 (lv_at hl 4 rfl) ?_
    refine va_iald hx hb hK hP 10 0 rfl rfl (vp_in_nI (by omega) (by decide)) dL_law_227 ?_
    rw [nI_clamp (show q < 2 ^ 31 by omega)]
    refine lv_icmp_ne (tgt := 247) hx hb dL_law_228 (by decide) (fun c_ => ?_) (fun c_ => absurd c_ (due_103 hq hqk))
    refine lv_iload hx hb dL_law_247 (lv_at hl 0 rfl) ?_
    refine lv_bipush (v := (-103)) hx hb dL_law_249 (by decide) ?_
    refine lv_icmp_ne (tgt := 267) hx hb dL_law_251 (by decide) (fun c_ => absurd (rfl) c_) (fun c_ => ?_)
    refine lv_aload_n hx hb dL_law_254 rfl (lv_at hl 7 rfl) ?_
    have hPc := hP.sub (ws' := kW cI h κ) [0, 1, 2, 3, 4, 5, 6, 7, 8, 9] rfl
    have hDc := hD.sub (ws' := kW cI h κ) [0, 1, 2, 3, 4, 5, 6, 7, 8, 9] (by decide) rfl
    refine rcI (wc := kW cI h κ) (W2 := fun _ => LW cI h ad aq κ d sf) (va_runV (As := []) (rest := []) ⟨hx, hb, hml, hown, hts⟩ (c_X2_head l dC dI cI h H.size κ) (cwV 0 hts gL_law_X2_head rfl rfl rfl (by decide +kernel) ⟨Nat.le_of_ble_eq_true rfl, Nat.le_of_ble_eq_true rfl⟩) (pW_V hPc hK hDc (ci := 2) (q0 := 0) rfl rfl) rfl rfl hl.1 rfl (lv_room (Nat.le_of_ble_eq_true rfl)) dL_law_255 ⟨(by show _ ≤ 193; omega), (by show _ ≤ 1957; omega)⟩) hP hD hS hA [0, 1, 2, 3, 4, 5, 6, 7, 8, 9] [10, 11] [2, 3, 4, 5, 6, 7, 8, 9, 10, 11, 0, 1] rfl rfl (by decide) (fun _ => rfl) (fun r u9 H locs hw hP hD hS => ?_)
    obtain rfl : r = (nI xH) := hw.trans (head_v hq)
    refine lv_iload hx hb dL_law_258 (lv_at hl 1 rfl) ?_
    refine lv_icmp_ne (tgt := 267) hx hb dL_law_260 (by decide) (fun c_ => absurd (rfl) c_) (fun c_ => ?_)
    refine lv_iconst (v := 1) hx hb dL_law_263 (by decide) ?_
    refine lv_goto (tgt := 268) hx hb dL_law_264 (by decide) ?_
    refine lv_istore (lv' := [(4, .int 1), (12, .int (-103)), (11, .int (nI xH)), (10, .int (nI kd)), (9, .int (nI v0)), (8, .int (nI q)), (5, .int (nI i)), (0, .ref b), (1, .ref (h 0)), (2, .ref ad), (3, .ref aq)]) hx hb dL_law_268 hl (by decide) rfl (fun ls hl => ?_)
    refine lv_aload_n hx hb dL_law_270 rfl (lv_at hl 9 rfl) ?_
    refine lv_iload hx hb dL_law_271 (lv_at hl 5 rfl) ?_
    refine lv_iload hx hb dL_law_273 (lv_at hl 1 rfl) ?_
    refine lv_if_lt (tgt := 282) hx hb dL_law_275 (by decide) (fun c_ => ?_) (fun c_ => absurd (by decide) c_)
    refine lv_aload_n hx hb dL_law_282 rfl (lv_at hl 9 rfl) ?_
    refine lv_iload hx hb dL_law_283 (lv_at hl 5 rfl) ?_
    refine va_iald hx hb hK hP 10 0 rfl rfl (vp_in_nI (by omega) (by decide)) dL_law_285 ?_
    rw [nI_clamp (show q < 2 ^ 31 by omega)]
    refine va_iast hx hb hK hP hD hS 10 0 rfl rfl (vp_in_nI (by omega) (by decide)) dL_law_286 (fun H locs hP hD hS => ?_)
    rw [nI_clamp (show q < 2 ^ 31 by omega)] at hP hD
    have hP : va_P (dC, dI) vwCl (LW cI h ad aq κ (upd d q (d q)) sf) H := hP
    have hD : va_D (fun q : Nat => s.heap.size ≤ q) (LW cI h ad aq κ (upd d q (d q)) sf) := hD
    refine lv_goto (tgt := 596) hx hb dL_law_287 (by decide) ?_
    exact K κ (upd d q (d q)) sf _ _ _ _ H locs ls ((hq.cgd upd_same).mono (by omega) h9) hP hD hS (lv_sub hl [0, 6, 7, 8, 9, 10] rfl)
set_option maxHeartbeats 2000000 in
set_option maxRecDepth 100000 in
theorem arm_log {p : Program} {l : Launch} {e : Env} {s : State} {m : MethodId} {below : List Frame} {meth : Method} {c : Code} {b L : Nat} {xs : Nat → Int32} {dC : Nat → ClassId} {dI : Nat → Nat → Nat} {cI : ClassId} (hlt : l.stackTraces = false) (C0 : LC p s m c b L xs dC dI cI) {h : Nat → Nat} {ad aq i N xH xT xW xC q v0 kd : Nat} {κ : KS} {d sf : Nat → Int32} (hq : IN κ d sf N xH xT xW xC) (h9 : N + 96 ≤ 100000) (hqk : q < 64) (hv0 : v0 < 2 ^ 31) (kd1 : 9 ≤ kd) (kd2 : kd < 14) {H : Heap} {locs : List Loc} {cells slots : Nat} {Q : State → Prop} {ls : Array Slot} (hc : cells + 1 ≤ 193) (hs : slots + 6 ≤ 1957) (hP : va_P (dC, dI) vwCl (LW cI h ad aq κ d sf) H) (hD : va_D (fun q : Nat => s.heap.size ≤ q) (LW cI h ad aq κ d sf)) (hS : va_S (fun q : Nat => s.heap.size ≤ q) s.heap H locs) (hl : lv_has ls 15 [(11, .int (nI xH)), (10, .int (nI kd)), (9, .int (nI v0)), (8, .int (nI q)), (5, .int (nI i)), (0, .ref b), (1, .ref (h 0)), (2, .ref ad), (3, .ref aq)])
    (K : ∀ (κ2 : KS) (d2 sf2 : Nat → Int32) (yH yT yW yC : Nat) (H2 : Heap) (locs2 : List Loc) (ls2 : Array Slot), IN κ2 d2 sf2 (N + 96) yH yT yW yC → va_P (dC, dI) vwCl (LW cI h ad aq κ2 d2 sf2) H2 → va_D (fun q : Nat => s.heap.size ≤ q) (LW cI h ad aq κ2 d2 sf2) → va_S (fun q : Nat => s.heap.size ≤ q) s.heap H2 locs2 → lv_has ls2 15 [(4, .int 1), (5, .int (nI i)), (0, .ref b), (1, .ref (h 0)), (2, .ref ad), (3, .ref aq)] → W p l e room_1 s m #[Value.ref b] below meth c H2 locs2 (cells + 1) (slots + 6) Q (F0 m 596 ls2 [])) : W p l e room_1 s m #[Value.ref b] below meth c H locs cells slots Q (F0 m 297 ls []) := by
  obtain ⟨hx, hb, hml, hown, hts, hX, hbl, hK, hZ, hNc, hL⟩ := C0
  have hA : ∀ q : Nat, s.heap.size ≤ q → (fun q : Nat => s.heap.size ≤ q) q := fun _ h => h
  have hbA : ¬ (fun q : Nat => s.heap.size ≤ q) b := Nat.not_le.mpr hbl
  have n10 : ¬ (1 : Int32) = 0 := by decide
  obtain ⟨-, ⟨q1, q2, q3, q4, q5, q6⟩, -⟩ := id hq
  refine lv_aload_n hx hb dL_law_297 rfl (lv_at hl 6 rfl) ?_
  have hPc := hP.sub (ws' := kW cI h κ) [0, 1, 2, 3, 4, 5, 6, 7, 8, 9] rfl
  have hDc := hD.sub (ws' := kW cI h κ) [0, 1, 2, 3, 4, 5, 6, 7, 8, 9] (by decide) rfl
  refine rcI (wc := kW cI h κ) (W2 := fun _ => LW cI h ad aq κ d sf) (va_runV (As := []) (rest := []) ⟨hx, hb, hml, hown, hts⟩ (c_X2_toFree l dC dI cI h H.size κ) (cwV 0 hts gL_law_X2_toFree rfl rfl rfl (by decide +kernel) ⟨Nat.le_of_ble_eq_true rfl, Nat.le_of_ble_eq_true rfl⟩) (pW_V hPc hK hDc (ci := 2) (q0 := 0) rfl rfl) rfl rfl hl.1 rfl (lv_room (Nat.le_of_ble_eq_true rfl)) dL_law_298 ⟨(by show _ ≤ 193; omega), (by show _ ≤ 1957; omega)⟩) hP hD hS hA [0, 1, 2, 3, 4, 5, 6, 7, 8, 9] [10, 11] [2, 3, 4, 5, 6, 7, 8, 9, 10, 11, 0, 1] rfl rfl (by decide) (fun _ => rfl) (fun F u H locs hw hP hD hS => ?_)
  have hF := free_op hq
  rw [← hw] at hF
  refine lv_istore (lv' := [(12, .int F), (11, .int (nI xH)), (10, .int (nI kd)), (9, .int (nI v0)), (8, .int (nI q)), (5, .int (nI i)), (0, .ref b), (1, .ref (h 0)), (2, .ref ad), (3, .ref aq)]) hx hb dL_law_301 hl (by decide) rfl (fun ls hl => ?_)
  have K359 : ∀ (κ2 : KS) (yH yT yC : Nat), IN κ2 d d (N + 96) yH yT yH yC → (kd = 10 → yC = yH) → ∀ (H : Heap) (locs : List Loc) (ls : Array Slot), va_P (dC, dI) vwCl (LW cI h ad aq κ2 d sf) H → va_D (fun q : Nat => s.heap.size ≤ q) (LW cI h ad aq κ2 d sf) → va_S (fun q : Nat => s.heap.size ≤ q) s.heap H locs → lv_has ls 15 [(12, .int F), (11, .int (nI xH)), (10, .int (nI kd)), (9, .int (nI v0)), (8, .int (nI q)), (5, .int (nI i)), (0, .ref b), (1, .ref (h 0)), (2, .ref ad), (3, .ref aq)] → W p l e room_1 s m #[Value.ref b] below meth c H locs (cells + 1) (slots + 6) Q (F0 m 359 ls [.int 1]) := by
    intro κ2 yH yT yC hI hkC H locs ls hP hD hS hl
    have lp433 : ∀ (j k : Nat), k + j = 64 → ∀ (f : Nat → Int32), (∀ i, i < k → f i = d i) → ∀ (H : Heap) (locs : List Loc) (ls : Array Slot), va_P (dC, dI) vwCl (LW cI h ad aq κ2 d f) H → va_D (fun q : Nat => s.heap.size ≤ q) (LW cI h ad aq κ2 d f) → va_S (fun q : Nat => s.heap.size ≤ q) s.heap H locs → lv_has ls 15 [(14, .int (nI k)), (4, .int 1), (5, .int (nI i)), (0, .ref b), (1, .ref (h 0)), (2, .ref ad), (3, .ref aq)] → W p l e room_1 s m #[Value.ref b] below meth c H locs (cells + 1) (slots + 6) Q (F0 m 433 ls []) := by
      intro j
      induction j with
      | zero =>
        intro k hk f hf H locs ls hP hD hS hl
        have e64 : k = 64 := by omega
        subst e64
        refine lv_iload hx hb dL_law_433 (lv_at hl 0 rfl) ?_
        refine lv_bipush (v := 64) hx hb dL_law_435 (by decide) ?_
        refine lv_icmp_ge (tgt := 454) hx hb dL_law_437 (by decide) (fun c_ => ?_) (fun c_ => absurd ((le64 (by omega)).mpr (by omega)) c_)
        refine lv_goto (tgt := 596) hx hb dL_law_454 (by decide) ?_
        exact K κ2 d f _ _ _ _ H locs ls (hI.cgs (fun i hi => hf i hi)) hP hD hS (lv_sub hl [1, 2, 3, 4, 5, 6] rfl)
      | succ j ih =>
        intro k hk f hf H locs ls hP hD hS hl
        have h64 : k < 64 := by omega
        refine lv_iload hx hb dL_law_433 (lv_at hl 0 rfl) ?_
        refine lv_bipush (v := 64) hx hb dL_law_435 (by decide) ?_
        refine lv_icmp_ge (tgt := 454) hx hb dL_law_437 (by decide) (fun c_ => absurd c_ (fun e => absurd ((le64 (by omega)).mp e) (by omega))) (fun c_ => ?_)
        refine lv_aload_n hx hb dL_law_440 rfl (lv_at hl 6 rfl) ?_
        refine lv_iload hx hb dL_law_441 (lv_at hl 0 rfl) ?_
        refine lv_aload_n hx hb dL_law_443 rfl (lv_at hl 5 rfl) ?_
        refine lv_iload hx hb dL_law_444 (lv_at hl 0 rfl) ?_
        refine va_iald hx hb hK hP 10 0 rfl rfl (vp_in_nI (by omega) (by decide)) dL_law_446 ?_
        rw [nI_clamp (show k < 2 ^ 31 by omega)]
        refine va_iast hx hb hK hP hD hS 11 0 rfl rfl (vp_in_nI (by omega) (by decide)) dL_law_447 (fun H locs hP hD hS => ?_)
        rw [nI_clamp (show k < 2 ^ 31 by omega)] at hP hD
        have hP : va_P (dC, dI) vwCl (LW cI h ad aq κ2 d (upd f k (d k))) H := hP
        have hD : va_D (fun q : Nat => s.heap.size ≤ q) (LW cI h ad aq κ2 d (upd f k (d k))) := hD
        refine lv_iinc (v := nI (k + 1)) (lv' := [(14, .int (nI (k + 1))), (4, .int 1), (5, .int (nI i)), (0, .ref b), (1, .ref (h 0)), (2, .ref ad), (3, .ref aq)]) hx hb dL_law_448 hl (k := 0) rfl (by rw [← nI_1]; rfl) (by decide) rfl (fun ls hl => ?_)
        refine lv_goto (tgt := 433) hx hb dL_law_451 (by decide) ?_
        exact ih (k + 1) (by omega) (upd f k (d k)) (fun i hi => by
          by_cases e : i = k
          · subst e; exact pk_us
          · rw [pk_un e]; exact hf i (by omega)) H locs ls hP hD hS (lv_sub hl [0, 1, 2, 3, 4, 5, 6] rfl)
    have K423 : ∀ (H : Heap) (locs : List Loc) (ls : Array Slot), va_P (dC, dI) vwCl (LW cI h ad aq κ2 d sf) H → va_D (fun q : Nat => s.heap.size ≤ q) (LW cI h ad aq κ2 d sf) → va_S (fun q : Nat => s.heap.size ≤ q) s.heap H locs → lv_has ls 15 [(4, .int 1), (5, .int (nI i)), (0, .ref b), (1, .ref (h 0)), (2, .ref ad), (3, .ref aq)] → W p l e room_1 s m #[Value.ref b] below meth c H locs (cells + 1) (slots + 6) Q (F0 m 423 ls []) := by
      intro H locs ls hP hD hS hl
      refine lv_iconst (v := 1) hx hb dL_law_423 (by decide) ?_
      refine lv_goto (tgt := 428) hx hb dL_law_424 (by decide) ?_
      refine lv_istore (lv' := [(4, .int 1), (5, .int (nI i)), (0, .ref b), (1, .ref (h 0)), (2, .ref ad), (3, .ref aq)]) hx hb dL_law_428 hl (by decide) rfl (fun ls hl => ?_)
      refine lv_iconst (v := 0) hx hb dL_law_430 (by decide) ?_
      refine lv_istore (lv' := [(14, .int 0), (4, .int 1), (5, .int (nI i)), (0, .ref b), (1, .ref (h 0)), (2, .ref ad), (3, .ref aq)]) hx hb dL_law_431 hl (by decide) rfl (fun ls hl => ?_)
      exact lp433 64 0 rfl sf (fun i hi => absurd hi (Nat.not_lt_zero i)) H locs ls hP hD hS (by rw [nI_0]; exact (lv_sub hl [0, 1, 2, 3, 4, 5, 6] rfl))
    refine lv_istore (lv' := [(13, .int 1), (12, .int F), (11, .int (nI xH)), (10, .int (nI kd)), (9, .int (nI v0)), (8, .int (nI q)), (5, .int (nI i)), (0, .ref b), (1, .ref (h 0)), (2, .ref ad), (3, .ref aq)]) hx hb dL_law_359 hl (by decide) rfl (fun ls hl => ?_)
    refine lv_iload hx hb dL_law_361 (lv_at hl 0 rfl) ?_
    refine lv_iconst (v := 1) hx hb dL_law_363 (by decide) ?_
    refine lv_icmp_eq (tgt := 381) hx hb dL_law_364 (by decide) (fun c_ => ?_) (fun c_ => absurd (rfl) c_)
    refine lv_iconst (v := 1) hx hb dL_law_381 (by decide) ?_
    refine lv_goto (tgt := 386) hx hb dL_law_382 (by decide) ?_
    refine lv_istore (lv' := [(4, .int 1), (13, .int 1), (12, .int F), (11, .int (nI xH)), (10, .int (nI kd)), (9, .int (nI v0)), (8, .int (nI q)), (5, .int (nI i)), (0, .ref b), (1, .ref (h 0)), (2, .ref ad), (3, .ref aq)]) hx hb dL_law_386 hl (by decide) rfl (fun ls hl => ?_)
    refine lv_iload hx hb dL_law_388 (lv_at hl 1 rfl) ?_
    refine lv_iconst (v := 1) hx hb dL_law_390 (by decide) ?_
    refine lv_icmp_ne (tgt := 454) hx hb dL_law_391 (by decide) (fun c_ => absurd (rfl) c_) (fun c_ => ?_)
    refine lv_aload_n hx hb dL_law_394 rfl (lv_at hl 9 rfl) ?_
    have hPc := hP.sub (ws' := kW cI h κ2) [0, 1, 2, 3, 4, 5, 6, 7, 8, 9] rfl
    have hDc := hD.sub (ws' := kW cI h κ2) [0, 1, 2, 3, 4, 5, 6, 7, 8, 9] (by decide) rfl
    refine rcI (wc := kW cI h κ2) (W2 := fun _ => LW cI h ad aq κ2 d sf) (va_runV (As := []) (rest := []) ⟨hx, hb, hml, hown, hts⟩ (c_X2_written l dC dI cI h H.size κ2) (cwV 0 hts gL_law_X2_written rfl rfl rfl (by decide +kernel) ⟨Nat.le_of_ble_eq_true rfl, Nat.le_of_ble_eq_true rfl⟩) (pW_V hPc hK hDc (ci := 2) (q0 := 0) rfl rfl) rfl rfl hl.1 rfl (lv_room (Nat.le_of_ble_eq_true rfl)) dL_law_395 ⟨(by show _ ≤ 193; omega), (by show _ ≤ 1957; omega)⟩) hP hD hS hA [0, 1, 2, 3, 4, 5, 6, 7, 8, 9] [10, 11] [2, 3, 4, 5, 6, 7, 8, 9, 10, 11, 0, 1] rfl rfl (by decide) (fun _ => rfl) (fun r u9 H locs hw hP hD hS => ?_)
    obtain rfl : r = (nI yH) := hw.trans (writ_v hI)
    refine lv_aload_n hx hb dL_law_398 rfl (lv_at hl 9 rfl) ?_
    have hPc := hP.sub (ws' := kW cI h κ2) [0, 1, 2, 3, 4, 5, 6, 7, 8, 9] rfl
    have hDc := hD.sub (ws' := kW cI h κ2) [0, 1, 2, 3, 4, 5, 6, 7, 8, 9] (by decide) rfl
    refine rcI (wc := kW cI h κ2) (W2 := fun _ => LW cI h ad aq κ2 d sf) (va_runV (As := []) (rest := [.int (nI yH)]) ⟨hx, hb, hml, hown, hts⟩ (c_X2_head l dC dI cI h H.size κ2) (cwV 0 hts gL_law_X2_head rfl rfl rfl (by decide +kernel) ⟨Nat.le_of_ble_eq_true rfl, Nat.le_of_ble_eq_true rfl⟩) (pW_V hPc hK hDc (ci := 2) (q0 := 0) rfl rfl) rfl rfl hl.1 rfl (lv_room (Nat.le_of_ble_eq_true rfl)) dL_law_399 ⟨(by show _ ≤ 193; omega), (by show _ ≤ 1957; omega)⟩) hP hD hS hA [0, 1, 2, 3, 4, 5, 6, 7, 8, 9] [10, 11] [2, 3, 4, 5, 6, 7, 8, 9, 10, 11, 0, 1] rfl rfl (by decide) (fun _ => rfl) (fun r u9 H locs hw hP hD hS => ?_)
    obtain rfl : r = (nI yH) := hw.trans (head_v hI)
    refine lv_icmp_ne (tgt := 427) hx hb dL_law_402 (by decide) (fun c_ => absurd (rfl) c_) (fun c_ => ?_)
    refine lv_iload hx hb dL_law_405 (lv_at hl 4 rfl) ?_
    refine lv_bipush (v := 10) hx hb dL_law_407 (by decide) ?_
    refine lv_icmp_ne (tgt := 423) hx hb dL_law_409 (by decide) (fun c_1 => ?_) (fun c_1 => ?_)
    · exact K423 H locs ls hP hD hS (lv_sub hl [0, 7, 8, 9, 10, 11] rfl)
    · have k10 : kd = 10 := (nI_eq (a := kd) (b := 10) (by omega) (by decide)).mp c_1
      refine lv_aload_n hx hb dL_law_412 rfl (lv_at hl 9 rfl) ?_
      have hPc := hP.sub (ws' := kW cI h κ2) [0, 1, 2, 3, 4, 5, 6, 7, 8, 9] rfl
      have hDc := hD.sub (ws' := kW cI h κ2) [0, 1, 2, 3, 4, 5, 6, 7, 8, 9] (by decide) rfl
      refine rcI (wc := kW cI h κ2) (W2 := fun _ => LW cI h ad aq κ2 d sf) (va_runV (As := []) (rest := []) ⟨hx, hb, hml, hown, hts⟩ (c_X2_checkpointAt l dC dI cI h H.size κ2) (cwV 0 hts gL_law_X2_checkpointAt rfl rfl rfl (by decide +kernel) ⟨Nat.le_of_ble_eq_true rfl, Nat.le_of_ble_eq_true rfl⟩) (pW_V hPc hK hDc (ci := 2) (q0 := 0) rfl rfl) rfl rfl hl.1 rfl (lv_room (Nat.le_of_ble_eq_true rfl)) dL_law_413 ⟨(by show _ ≤ 193; omega), (by show _ ≤ 1957; omega)⟩) hP hD hS hA [0, 1, 2, 3, 4, 5, 6, 7, 8, 9] [10, 11] [2, 3, 4, 5, 6, 7, 8, 9, 10, 11, 0, 1] rfl rfl (by decide) (fun _ => rfl) (fun r u9 H locs hw hP hD hS => ?_)
      obtain rfl : r = (nI yC) := hw.trans (cpat_v hI)
      refine lv_aload_n hx hb dL_law_416 rfl (lv_at hl 9 rfl) ?_
      have hPc := hP.sub (ws' := kW cI h κ2) [0, 1, 2, 3, 4, 5, 6, 7, 8, 9] rfl
      have hDc := hD.sub (ws' := kW cI h κ2) [0, 1, 2, 3, 4, 5, 6, 7, 8, 9] (by decide) rfl
      refine rcI (wc := kW cI h κ2) (W2 := fun _ => LW cI h ad aq κ2 d sf) (va_runV (As := []) (rest := [.int (nI yC)]) ⟨hx, hb, hml, hown, hts⟩ (c_X2_head l dC dI cI h H.size κ2) (cwV 0 hts gL_law_X2_head rfl rfl rfl (by decide +kernel) ⟨Nat.le_of_ble_eq_true rfl, Nat.le_of_ble_eq_true rfl⟩) (pW_V hPc hK hDc (ci := 2) (q0 := 0) rfl rfl) rfl rfl hl.1 rfl (lv_room (Nat.le_of_ble_eq_true rfl)) dL_law_417 ⟨(by show _ ≤ 193; omega), (by show _ ≤ 1957; omega)⟩) hP hD hS hA [0, 1, 2, 3, 4, 5, 6, 7, 8, 9] [10, 11] [2, 3, 4, 5, 6, 7, 8, 9, 10, 11, 0, 1] rfl rfl (by decide) (fun _ => rfl) (fun r u9 H locs hw hP hD hS => ?_)
      obtain rfl : r = (nI yH) := hw.trans (head_v hI)
      refine lv_icmp_ne (tgt := 427) hx hb dL_law_420 (by decide) (fun c_ => absurd (by rw [hkC k10]) c_) (fun c_ => ?_)
      exact K423 H locs ls hP hD hS (lv_sub hl [0, 7, 8, 9, 10, 11] rfl)
  have K360 : 11 ≤ kd → ∀ (H : Heap) (locs : List Loc) (ls : Array Slot), va_P (dC, dI) vwCl (LW cI h ad aq κ d sf) H → va_D (fun q : Nat => s.heap.size ≤ q) (LW cI h ad aq κ d sf) → va_S (fun q : Nat => s.heap.size ≤ q) s.heap H locs → lv_has ls 15 [(12, .int F), (11, .int (nI xH)), (10, .int (nI kd)), (9, .int (nI v0)), (8, .int (nI q)), (5, .int (nI i)), (0, .ref b), (1, .ref (h 0)), (2, .ref ad), (3, .ref aq)] → W p l e room_1 s m #[Value.ref b] below meth c H locs (cells + 1) (slots + 6) Q (F0 m 359 ls [.int (-103)]) := by
    intro k11 H locs ls hP hD hS hl
    refine lv_istore (lv' := [(13, .int (-103)), (12, .int F), (11, .int (nI xH)), (10, .int (nI kd)), (9, .int (nI v0)), (8, .int (nI q)), (5, .int (nI i)), (0, .ref b), (1, .ref (h 0)), (2, .ref ad), (3, .ref aq)]) hx hb dL_law_359 hl (by decide) rfl (fun ls hl => ?_)
    refine lv_iload hx hb dL_law_361 (lv_at hl 0 rfl) ?_
    refine lv_iconst (v := 1) hx hb dL_law_363 (by decide) ?_
    refine lv_icmp_eq (tgt := 381) hx hb dL_law_364 (by decide) (fun c_ => absurd c_ (by decide)) (fun c_ => ?_)
    refine lv_iload hx hb dL_law_367 (lv_at hl 3 rfl) ?_
    refine lv_bipush (v := 10) hx hb dL_law_369 (by decide) ?_
    refine lv_icmp_le (tgt := 385) hx hb dL_law_371 (by decide) (fun c_ => absurd c_ (fun e => absurd ((nI_leI (a := kd) (b := 10) (by omega) (by decide)).mp e) (by omega))) (fun c_ => ?_)
    refine lv_iload hx hb dL_law_374 (lv_at hl 0 rfl) ?_
    refine lv_bipush (v := (-103)) hx hb dL_law_376 (by decide) ?_
    refine lv_icmp_ne (tgt := 385) hx hb dL_law_378 (by decide) (fun c_ => absurd (rfl) c_) (fun c_ => ?_)
    refine lv_iconst (v := 1) hx hb dL_law_381 (by decide) ?_
    refine lv_goto (tgt := 386) hx hb dL_law_382 (by decide) ?_
    refine lv_istore (lv' := [(4, .int 1), (13, .int (-103)), (12, .int F), (11, .int (nI xH)), (10, .int (nI kd)), (9, .int (nI v0)), (8, .int (nI q)), (5, .int (nI i)), (0, .ref b), (1, .ref (h 0)), (2, .ref ad), (3, .ref aq)]) hx hb dL_law_386 hl (by decide) rfl (fun ls hl => ?_)
    refine lv_iload hx hb dL_law_388 (lv_at hl 1 rfl) ?_
    refine lv_iconst (v := 1) hx hb dL_law_390 (by decide) ?_
    refine lv_icmp_ne (tgt := 454) hx hb dL_law_391 (by decide) (fun c_ => ?_) (fun c_ => absurd c_ (by decide))
    refine lv_goto (tgt := 596) hx hb dL_law_454 (by decide) ?_
    exact K κ d sf _ _ _ _ H locs ls (hq.mono (by omega) h9) hP hD hS (lv_sub hl [0, 7, 8, 9, 10, 11] rfl)
  have K356 : 11 ≤ kd → ∀ (n : Nat), 1 ≤ n → n ≤ 96 → ∀ (H : Heap) (locs : List Loc) (ls : Array Slot), va_P (dC, dI) vwCl (LW cI h ad aq κ d sf) H → va_D (fun q : Nat => s.heap.size ≤ q) (LW cI h ad aq κ d sf) → va_S (fun q : Nat => s.heap.size ≤ q) s.heap H locs → lv_has ls 15 [(12, .int F), (11, .int (nI xH)), (10, .int (nI kd)), (9, .int (nI v0)), (8, .int (nI q)), (5, .int (nI i)), (0, .ref b), (1, .ref (h 0)), (2, .ref ad), (3, .ref aq)] → W p l e room_1 s m #[Value.ref b] below meth c H locs cells slots Q (F0 m 356 ls [.int (nI n), .ref (h 0)]) := by
    intro k11 n n1 n2 H locs ls hP hD hS hl
    rcases coll_op hq h9 n1 n2 with ⟨sP, ⟨xP, κ', yH, vP, hI2⟩ | xP⟩
    · refine W.widen (k := cells + 1) (n := slots + 6) (by omega) (by omega) ?_
      have hPc := hP.sub (ws' := kW cI h κ) [0, 1, 2, 3, 4, 5, 6, 7, 8, 9] rfl
      have hDc := hD.sub (ws' := kW cI h κ) [0, 1, 2, 3, 4, 5, 6, 7, 8, 9] (by decide) rfl
      refine rcI (wc := kW cI h κ) (W2 := fun u => LW cI h ad aq u d sf) (vx_runSW (As := [.ref (h 0), .int (nI n)]) (rest := []) ⟨hx, hb, hml, hown, hts⟩ (w_collect l dC dI cI h H.size κ (nI n) xP sP) (vx_cwSW 2 hts gL_law_L_collect rfl rfl rfl (by decide +kernel) ⟨Nat.le_of_ble_eq_true rfl, Nat.le_of_ble_eq_true rfl⟩) (pW_S hPc hK hDc) rfl rfl hl.1 rfl (lv_room (Nat.le_of_ble_eq_true rfl)) dL_law_356 ⟨(by show _ ≤ 193; omega), (by show _ ≤ 1957; omega)⟩) hP hD hS hA [0, 1, 2, 3, 4, 5, 6, 7, 8, 9] [10, 11] [2, 3, 4, 5, 6, 7, 8, 9, 10, 11, 0, 1] rfl rfl (by decide) (fun _ => rfl) (fun r u H locs hw hP hD hS => ?_)
      obtain ⟨hw, hw2⟩ := hw
      obtain rfl : r = 1 := hw.trans (if1 (congrArg Prod.fst vP))
      have hI : IN u d d (N + 96) yH (xT + n) yH xC := by rw [hw2, vP]; exact hI2
      exact K359 u yH (xT + n) xC hI (fun z => by omega) H locs ls hP hD hS hl
    · have hPc := hP.sub (ws' := kW cI h κ) [0, 1, 2, 3, 4, 5, 6, 7, 8, 9] rfl
      have hDc := hD.sub (ws' := kW cI h κ) [0, 1, 2, 3, 4, 5, 6, 7, 8, 9] (by decide) rfl
      have hFc := va_free (wc := kW cI h κ) hD hS hA [0, 1, 2, 3, 4, 5, 6, 7, 8, 9] rfl
      refine rcI (wc := kW cI h κ) (W2 := fun _ => LW cI h ad aq κ d sf) (vx_runSW (As := [.ref (h 0), .int (nI n)]) (rest := []) ⟨hx, hb, hml, hown, hts⟩ (y_collect l hlt dC dI cI h H.size κ (nI n) xP sP) (vx_cwSW 2 hts gL_law_L_collect rfl rfl rfl (by decide +kernel) ⟨Nat.le_of_ble_eq_true rfl, Nat.le_of_ble_eq_true rfl⟩) (pL_S hPc hK hDc hZ hS hFc hNc) rfl rfl hl.1 rfl (lv_room (Nat.le_of_ble_eq_true rfl)) dL_law_356 ⟨(by show _ ≤ 193; omega), (by show _ ≤ 1957; omega)⟩) hP hD hS hA [0, 1, 2, 3, 4, 5, 6, 7, 8, 9] [10, 11] [2, 3, 4, 5, 6, 7, 8, 9, 10, 11, 0, 1] rfl rfl (by decide) (fun _ => rfl) (fun r u9 H locs hw hP hD hS => ?_)
      obtain rfl : r = (-103) := hw
      exact K360 k11 H locs ls hP hD hS hl
  have K349 : 11 ≤ kd → ∀ (H : Heap) (locs : List Loc) (ls : Array Slot), va_P (dC, dI) vwCl (LW cI h ad aq κ d sf) H → va_D (fun q : Nat => s.heap.size ≤ q) (LW cI h ad aq κ d sf) → va_S (fun q : Nat => s.heap.size ≤ q) s.heap H locs → lv_has ls 15 [(12, .int F), (11, .int (nI xH)), (10, .int (nI kd)), (9, .int (nI v0)), (8, .int (nI q)), (5, .int (nI i)), (0, .ref b), (1, .ref (h 0)), (2, .ref ad), (3, .ref aq)] → W p l e room_1 s m #[Value.ref b] below meth c H locs cells slots Q (F0 m 349 ls [.ref (h 0)]) := by
    intro k11 H locs ls hP hD hS hl
    refine lv_iconst (v := 1) hx hb dL_law_349 (by decide) ?_
    refine lv_iload hx hb dL_law_350 (lv_at hl 3 rfl) ?_
    refine lv_bipush (v := 9) hx hb dL_law_352 (by decide) ?_
    refine lv_irem hx hb dL_law_354 (by decide) ?_
    rw [show ((nI v0) - (nI v0) / 9 * 9 : Int32) = (nI (v0 % 9)) from rem_n 9 (by decide) (by decide) hv0]
    refine lv_iadd hx hb dL_law_355 ?_
    rw [show (1 + ((nI (v0 % 9))) : Int32) = (nI (1 + v0 % 9)) from one_plus (v0 % 9)]
    exact K356 k11 (1 + v0 % 9) (by omega) (by have := Nat.mod_lt v0 (show 0 < 9 by decide); omega) H locs ls hP hD hS hl
  refine lv_iload hx hb dL_law_303 (lv_at hl 2 rfl) ?_
  refine lv_bipush (v := 9) hx hb dL_law_305 (by decide) ?_
  refine lv_icmp_ne (tgt := 317) hx hb dL_law_307 (by decide) (fun c_1 => ?_) (fun c_1 => ?_)
  · have k9 : ¬ kd = 9 := fun z => c_1 (congrArg nI z)
    refine lv_iload hx hb dL_law_317 (lv_at hl 2 rfl) ?_
    refine lv_bipush (v := 10) hx hb dL_law_319 (by decide) ?_
    refine lv_icmp_ne (tgt := 331) hx hb dL_law_321 (by decide) (fun c_2 => ?_) (fun c_2 => ?_)
    · have k10 : ¬ kd = 10 := fun z => c_2 (congrArg nI z)
      refine lv_aload_n hx hb dL_law_331 rfl (lv_at hl 7 rfl) ?_
      refine lv_iload hx hb dL_law_332 (lv_at hl 2 rfl) ?_
      refine lv_bipush (v := 13) hx hb dL_law_334 (by decide) ?_
      refine lv_icmp_ge (tgt := 349) hx hb dL_law_336 (by decide) (fun c_3 => ?_) (fun c_3 => ?_)
      · exact K349 (by omega) H locs ls hP hD hS hl
      · refine lv_iload hx hb dL_law_339 (lv_at hl 0 rfl) ?_
        refine lv_if_le (tgt := 349) hx hb dL_law_341 (by decide) (fun c_4 => ?_) (fun c_4 => ?_)
        · exact K349 (by omega) H locs ls hP hD hS hl
        · rcases hF with hF | ⟨f, hF, y1, y2, -⟩
          · exact absurd (by rw [hF]; decide) c_4
          · subst hF
            refine lv_iload hx hb dL_law_344 (lv_at hl 0 rfl) ?_
            refine lv_goto (tgt := 356) hx hb dL_law_346 (by decide) ?_
            exact K356 (by omega) f y1 (by omega) H locs ls hP hD hS hl
    · have k10 : kd = 10 := (nI_eq (a := kd) (b := 10) (by omega) (by decide)).mp c_2
      refine lv_aload_n hx hb dL_law_324 rfl (lv_at hl 7 rfl) ?_
      obtain ⟨sP, xP, κ', vP, hI2⟩ := ckpt_op hq
      refine W.widen (k := cells + 1) (n := slots + 6) (by omega) (by omega) ?_
      have hPc := hP.sub (ws' := kW cI h κ) [0, 1, 2, 3, 4, 5, 6, 7, 8, 9] rfl
      have hDc := hD.sub (ws' := kW cI h κ) [0, 1, 2, 3, 4, 5, 6, 7, 8, 9] (by decide) rfl
      refine rcI (wc := kW cI h κ) (W2 := fun u => LW cI h ad aq u d sf) (vx_runSW (As := [.ref (h 0)]) (rest := []) ⟨hx, hb, hml, hown, hts⟩ (w_check l dC dI cI h H.size κ xP sP) (vx_cwSW 1 hts gL_law_L_check rfl rfl rfl (by decide +kernel) ⟨Nat.le_of_ble_eq_true rfl, Nat.le_of_ble_eq_true rfl⟩) (pW_S hPc hK hDc) rfl rfl hl.1 rfl (lv_room (Nat.le_of_ble_eq_true rfl)) dL_law_325 ⟨(by show _ ≤ 193; omega), (by show _ ≤ 1957; omega)⟩) hP hD hS hA [0, 1, 2, 3, 4, 5, 6, 7, 8, 9] [10, 11] [2, 3, 4, 5, 6, 7, 8, 9, 10, 11, 0, 1] rfl rfl (by decide) (fun _ => rfl) (fun r u H locs hw hP hD hS => ?_)
      obtain ⟨hw, hw2⟩ := hw
      obtain rfl : r = 1 := hw.trans (if1 (congrArg Prod.fst vP))
      have hI : IN u d d (N + 96) xH xT xH xH := by rw [hw2, vP]; exact hI2.mono (by omega) h9
      refine lv_goto (tgt := 359) hx hb dL_law_328 (by decide) ?_
      exact K359 u xH xT xH hI (fun z => rfl) H locs ls hP hD hS hl
  · have k9 : kd = 9 := (nI_eq (a := kd) (b := 9) (by omega) (by decide)).mp c_1
    refine lv_aload_n hx hb dL_law_310 rfl (lv_at hl 7 rfl) ?_
    obtain ⟨sP, xP, vP⟩ := sync_op hq
    refine W.widen (k := cells + 1) (n := slots + 6) (by omega) (by omega) ?_
    have hPc := hP.sub (ws' := kW cI h κ) [0, 1, 2, 3, 4, 5, 6, 7, 8, 9] rfl
    have hDc := hD.sub (ws' := kW cI h κ) [0, 1, 2, 3, 4, 5, 6, 7, 8, 9] (by decide) rfl
    refine rcI (wc := kW cI h κ) (W2 := fun u => LW cI h ad aq u d sf) (vx_runSW (As := [.ref (h 0)]) (rest := []) ⟨hx, hb, hml, hown, hts⟩ (w_sync l dC dI cI h H.size κ xP sP) (vx_cwSW 1 hts gL_law_L_sync rfl rfl rfl (by decide +kernel) ⟨Nat.le_of_ble_eq_true rfl, Nat.le_of_ble_eq_true rfl⟩) (pW_S hPc hK hDc) rfl rfl hl.1 rfl (lv_room (Nat.le_of_ble_eq_true rfl)) dL_law_311 ⟨(by show _ ≤ 193; omega), (by show _ ≤ 1957; omega)⟩) hP hD hS hA [0, 1, 2, 3, 4, 5, 6, 7, 8, 9] [10, 11] [2, 3, 4, 5, 6, 7, 8, 9, 10, 11, 0, 1] rfl rfl (by decide) (fun _ => rfl) (fun r u H locs hw hP hD hS => ?_)
    obtain ⟨hw, hw2⟩ := hw
    obtain rfl : r = 1 := hw.trans (if1 (congrArg Prod.fst vP))
    have hI : IN u d d (N + 96) xH xT xH xC := by rw [hw2, vP]; exact hq.sync.mono (by omega) h9
    refine lv_goto (tgt := 359) hx hb dL_law_314 (by decide) ?_
    exact K359 u xH xT xC hI (fun z => by omega) H locs ls hP hD hS hl
set_option maxHeartbeats 2000000 in
set_option maxRecDepth 100000 in
theorem arm_crash {p : Program} {l : Launch} {e : Env} {s : State} {m : MethodId} {below : List Frame} {meth : Method} {c : Code} {b L : Nat} {xs : Nat → Int32} {dC : Nat → ClassId} {dI : Nat → Nat → Nat} {cI : ClassId} (hlt : l.stackTraces = false) (C0 : LC p s m c b L xs dC dI cI) {h : Nat → Nat} {ad aq i N xH xT xW xC q v0 kd : Nat} {κ : KS} {d sf : Nat → Int32} (hq : IN κ d sf N xH xT xW xC) (h9 : N + 96 ≤ 100000) (hqk : q < 64) (hv0 : v0 < 2 ^ 31) {H : Heap} {locs : List Loc} {cells slots : Nat} {Q : State → Prop} {ls : Array Slot} (hc : cells + 1 ≤ 193) (hs : slots + 6 ≤ 1957) (hP : va_P (dC, dI) vwCl (LW cI h ad aq κ d sf) H) (hD : va_D (fun q : Nat => s.heap.size ≤ q) (LW cI h ad aq κ d sf)) (hS : va_S (fun q : Nat => s.heap.size ≤ q) s.heap H locs) (hl : lv_has ls 15 [(11, .int (nI xH)), (10, .int (nI kd)), (9, .int (nI v0)), (8, .int (nI q)), (5, .int (nI i)), (0, .ref b), (1, .ref (h 0)), (2, .ref ad), (3, .ref aq)])
    (K : ∀ (κ2 : KS) (d2 sf2 : Nat → Int32) (yH yT yW yC : Nat) (H2 : Heap) (locs2 : List Loc) (ls2 : Array Slot), IN κ2 d2 sf2 (N + 96) yH yT yW yC → va_P (dC, dI) vwCl (LW cI h ad aq κ2 d2 sf2) H2 → va_D (fun q : Nat => s.heap.size ≤ q) (LW cI h ad aq κ2 d2 sf2) → va_S (fun q : Nat => s.heap.size ≤ q) s.heap H2 locs2 → lv_has ls2 15 [(4, .int 1), (5, .int (nI i)), (0, .ref b), (1, .ref (h 0)), (2, .ref ad), (3, .ref aq)] → W p l e room_1 s m #[Value.ref b] below meth c H2 locs2 (cells + 1) (slots + 6) Q (F0 m 596 ls2 [])) : W p l e room_1 s m #[Value.ref b] below meth c H locs cells slots Q (F0 m 457 ls []) := by
  obtain ⟨hx, hb, hml, hown, hts, hX, hbl, hK, hZ, hNc, hL⟩ := C0
  have hA : ∀ q : Nat, s.heap.size ≤ q → (fun q : Nat => s.heap.size ≤ q) q := fun _ h => h
  have hbA : ¬ (fun q : Nat => s.heap.size ≤ q) b := Nat.not_le.mpr hbl
  have n10 : ¬ (1 : Int32) = 0 := by decide
  obtain ⟨-, ⟨q1, q2, q3, q4, q5, q6⟩, -⟩ := id hq
  have K493 : ∀ (H : Heap) (locs : List Loc) (ls : Array Slot), va_P (dC, dI) vwCl (LW cI h ad aq κ d sf) H → va_D (fun q : Nat => s.heap.size ≤ q) (LW cI h ad aq κ d sf) → va_S (fun q : Nat => s.heap.size ≤ q) s.heap H locs → lv_has ls 15 [(12, .int (nI (MN sf 64))), (11, .int (nI xH)), (10, .int (nI kd)), (9, .int (nI v0)), (8, .int (nI q)), (5, .int (nI i)), (0, .ref b), (1, .ref (h 0)), (2, .ref ad), (3, .ref aq)] → W p l e room_1 s m #[Value.ref b] below meth c H locs (cells) (slots) Q (F0 m 493 ls []) := by
    intro H locs ls hP hD hS hl
    refine lv_aload_n hx hb dL_law_493 rfl (lv_at hl 7 rfl) ?_
    have hPc := hP.sub (ws' := kW cI h κ) [0, 1, 2, 3, 4, 5, 6, 7, 8, 9] rfl
    have hDc := hD.sub (ws' := kW cI h κ) [0, 1, 2, 3, 4, 5, 6, 7, 8, 9] (by decide) rfl
    refine rcI (wc := kW cI h κ) (W2 := fun _ => LW cI h ad aq κ d sf) (va_runV (As := []) (rest := []) ⟨hx, hb, hml, hown, hts⟩ (c_X2_written l dC dI cI h H.size κ) (cwV 0 hts gL_law_X2_written rfl rfl rfl (by decide +kernel) ⟨Nat.le_of_ble_eq_true rfl, Nat.le_of_ble_eq_true rfl⟩) (pW_V hPc hK hDc (ci := 2) (q0 := 0) rfl rfl) rfl rfl hl.1 rfl (lv_room (Nat.le_of_ble_eq_true rfl)) dL_law_494 ⟨(by show _ ≤ 193; omega), (by show _ ≤ 1957; omega)⟩) hP hD hS hA [0, 1, 2, 3, 4, 5, 6, 7, 8, 9] [10, 11] [2, 3, 4, 5, 6, 7, 8, 9, 10, 11, 0, 1] rfl rfl (by decide) (fun _ => rfl) (fun r u9 H locs hw hP hD hS => ?_)
    obtain rfl : r = (nI xW) := hw.trans (writ_v hq)
    refine lv_istore (lv' := [(13, .int (nI xW)), (12, .int (nI (MN sf 64))), (11, .int (nI xH)), (10, .int (nI kd)), (9, .int (nI v0)), (8, .int (nI q)), (5, .int (nI i)), (0, .ref b), (1, .ref (h 0)), (2, .ref ad), (3, .ref aq)]) hx hb dL_law_497 hl (by decide) rfl (fun ls hl => ?_)
    refine lv_aload_n hx hb dL_law_499 rfl (lv_at hl 8 rfl) ?_
    obtain ⟨sW, f1, vW⟩ := would_op hq.ir
    have hPc := hP.sub (ws' := kW cI h κ) [0, 1, 2, 3, 4, 5, 6, 7, 8, 9] rfl
    have hDc := hD.sub (ws' := kW cI h κ) [0, 1, 2, 3, 4, 5, 6, 7, 8, 9] (by decide) rfl
    refine rcI (wc := kW cI h κ) (W2 := fun u => LW cI h ad aq u d sf) (va_runV (As := []) (rest := []) ⟨hx, hb, hml, hown, hts⟩ (c_X2_wouldHave l dC dI cI h H.size κ sW) (cwV 0 hts gL_law_X2_wouldHave rfl rfl rfl (by decide +kernel) ⟨Nat.le_of_ble_eq_true rfl, Nat.le_of_ble_eq_true rfl⟩) (pW_V hPc hK hDc (ci := 2) (q0 := 0) rfl rfl) rfl rfl hl.1 rfl (lv_room (Nat.le_of_ble_eq_true rfl)) dL_law_500 ⟨(by show _ ≤ 193; omega), (by show _ ≤ 1957; omega)⟩) hP hD hS hA [0, 1, 2, 3, 4, 5, 6, 7, 8, 9] [10, 11] [2, 3, 4, 5, 6, 7, 8, 9, 10, 11, 0, 1] rfl rfl (by decide) (fun _ => rfl) (fun r u1 H locs hw hP hD hS => ?_)
    obtain ⟨hw, hw2⟩ := hw
    obtain rfl : r = (nI (MN sf 64)) := hw.trans (congrArg Prod.fst vW)
    have hI1 : IN u1 d sf N xH xT xW xC := by rw [hw2, vW]; exact hq.tr f1
    refine lv_iload hx hb dL_law_503 (lv_at hl 1 rfl) ?_
    refine lv_icmp_ne (tgt := 569) hx hb dL_law_505 (by decide) (fun c_ => absurd (rfl) c_) (fun c_ => ?_)
    refine lv_aload_n hx hb dL_law_508 rfl (lv_at hl 8 rfl) ?_
    obtain ⟨xC1, vC1⟩ := crash_op hI1
    have hPc := hP.sub (ws' := kW cI h u1) [0, 1, 2, 3, 4, 5, 6, 7, 8, 9] rfl
    have hDc := hD.sub (ws' := kW cI h u1) [0, 1, 2, 3, 4, 5, 6, 7, 8, 9] (by decide) rfl
    refine rcI (wc := kW cI h u1) (W2 := fun u => LW cI h ad aq u d sf) (vx_runSW (As := [.ref (h 0)]) (rest := []) ⟨hx, hb, hml, hown, hts⟩ (w_crash l dC dI cI h H.size u1 xC1) (vx_cwSW 1 hts gL_law_L_crash rfl rfl rfl (by decide +kernel) ⟨Nat.le_of_ble_eq_true rfl, Nat.le_of_ble_eq_true rfl⟩) (pW_S hPc hK hDc) rfl rfl hl.1 rfl (lv_room (Nat.le_of_ble_eq_true rfl)) dL_law_509 ⟨(by show _ ≤ 193; omega), (by show _ ≤ 1957; omega)⟩) hP hD hS hA [0, 1, 2, 3, 4, 5, 6, 7, 8, 9] [10, 11] [2, 3, 4, 5, 6, 7, 8, 9, 10, 11, 0, 1] rfl rfl (by decide) (fun _ => rfl) (fun r u2 H locs hw hP hD hS => ?_)
    obtain ⟨hw, hw2⟩ := hw
    obtain rfl : r = (nI (xH - xW)) := hw.trans (congrArg Prod.fst vC1)
    have hI2 : ID u2 sf N xT xW xC := by rw [hw2, vC1]; exact hI1.crash
    refine lv_iload hx hb dL_law_512 (lv_at hl 2 rfl) ?_
    refine lv_iload hx hb dL_law_514 (lv_at hl 0 rfl) ?_
    refine lv_isub hx hb dL_law_516 ?_
    rw [show ((nI xH) - (nI xW) : Int32) = (nI (xH - xW)) from pk_sub (by omega)]
    refine lv_icmp_ne (tgt := 569) hx hb dL_law_517 (by decide) (fun c_ => absurd (rfl) c_) (fun c_ => ?_)
    refine lv_aload_n hx hb dL_law_520 rfl (lv_at hl 8 rfl) ?_
    have hPc := hP.sub (ws' := kW cI h u2) [0, 1, 2, 3, 4, 5, 6, 7, 8, 9] rfl
    have hDc := hD.sub (ws' := kW cI h u2) [0, 1, 2, 3, 4, 5, 6, 7, 8, 9] (by decide) rfl
    refine rcI (wc := kW cI h u2) (W2 := fun _ => LW cI h ad aq u2 d sf) (va_runV (As := []) (rest := []) ⟨hx, hb, hml, hown, hts⟩ (c_X2_isUp l dC dI cI h H.size u2 (isUp_e hI2)) (cwV 0 hts gL_law_X2_isUp rfl rfl rfl (by decide +kernel) ⟨Nat.le_of_ble_eq_true rfl, Nat.le_of_ble_eq_true rfl⟩) (pW_V hPc hK hDc (ci := 2) (q0 := 0) rfl rfl) rfl rfl hl.1 rfl (lv_room (Nat.le_of_ble_eq_true rfl)) dL_law_521 ⟨(by show _ ≤ 193; omega), (by show _ ≤ 1957; omega)⟩) hP hD hS hA [0, 1, 2, 3, 4, 5, 6, 7, 8, 9] [10, 11] [2, 3, 4, 5, 6, 7, 8, 9, 10, 11, 0, 1] rfl rfl (by decide) (fun _ => rfl) (fun r u9 H locs hw hP hD hS => ?_)
    obtain rfl : r = 0 := hw.1.trans (isUp_d hI2)
    refine lv_if_ne (tgt := 569) hx hb dL_law_524 (by decide) (fun c_ => absurd (rfl) c_) (fun c_ => ?_)
    refine lv_aload_n hx hb dL_law_527 rfl (lv_at hl 8 rfl) ?_
    obtain ⟨sW3, f3, vW3⟩ := would_op hI2.ir
    have hPc := hP.sub (ws' := kW cI h u2) [0, 1, 2, 3, 4, 5, 6, 7, 8, 9] rfl
    have hDc := hD.sub (ws' := kW cI h u2) [0, 1, 2, 3, 4, 5, 6, 7, 8, 9] (by decide) rfl
    refine rcI (wc := kW cI h u2) (W2 := fun u => LW cI h ad aq u d sf) (va_runV (As := []) (rest := []) ⟨hx, hb, hml, hown, hts⟩ (c_X2_wouldHave l dC dI cI h H.size u2 sW3) (cwV 0 hts gL_law_X2_wouldHave rfl rfl rfl (by decide +kernel) ⟨Nat.le_of_ble_eq_true rfl, Nat.le_of_ble_eq_true rfl⟩) (pW_V hPc hK hDc (ci := 2) (q0 := 0) rfl rfl) rfl rfl hl.1 rfl (lv_room (Nat.le_of_ble_eq_true rfl)) dL_law_528 ⟨(by show _ ≤ 193; omega), (by show _ ≤ 1957; omega)⟩) hP hD hS hA [0, 1, 2, 3, 4, 5, 6, 7, 8, 9] [10, 11] [2, 3, 4, 5, 6, 7, 8, 9, 10, 11, 0, 1] rfl rfl (by decide) (fun _ => rfl) (fun r u3 H locs hw hP hD hS => ?_)
    obtain ⟨hw, hw2⟩ := hw
    obtain rfl : r = (nI (MN sf 64)) := hw.trans (congrArg Prod.fst vW3)
    have hI3 : ID u3 sf N xT xW xC := by rw [hw2, vW3]; exact hI2.tr f3
    refine lv_iload hx hb dL_law_531 (lv_at hl 1 rfl) ?_
    refine lv_icmp_ne (tgt := 569) hx hb dL_law_533 (by decide) (fun c_ => absurd (rfl) c_) (fun c_ => ?_)
    refine lv_aload_n hx hb dL_law_536 rfl (lv_at hl 8 rfl) ?_
    refine lv_iload hx hb dL_law_537 (lv_at hl 5 rfl) ?_
    obtain ⟨sG, xG⟩ := get_d hI3 hqk
    have hPc := hP.sub (ws' := kW cI h u3) [0, 1, 2, 3, 4, 5, 6, 7, 8, 9] rfl
    have hDc := hD.sub (ws' := kW cI h u3) [0, 1, 2, 3, 4, 5, 6, 7, 8, 9] (by decide) rfl
    have hFc := va_free (wc := kW cI h u3) hD hS hA [0, 1, 2, 3, 4, 5, 6, 7, 8, 9] rfl
    refine rcI (wc := kW cI h u3) (W2 := fun _ => LW cI h ad aq u3 d sf) (vx_runSW (As := [.ref (h 0), .int (nI q)]) (rest := []) ⟨hx, hb, hml, hown, hts⟩ (y_get l hlt dC dI cI h H.size u3 (nI q) xG sG) (vx_cwSW 2 hts gL_law_L_get rfl rfl rfl (by decide +kernel) ⟨Nat.le_of_ble_eq_true rfl, Nat.le_of_ble_eq_true rfl⟩) (pL_S hPc hK hDc hZ hS hFc hNc) rfl rfl hl.1 rfl (lv_room (Nat.le_of_ble_eq_true rfl)) dL_law_539 ⟨(by show _ ≤ 193; omega), (by show _ ≤ 1957; omega)⟩) hP hD hS hA [0, 1, 2, 3, 4, 5, 6, 7, 8, 9] [10, 11] [2, 3, 4, 5, 6, 7, 8, 9, 10, 11, 0, 1] rfl rfl (by decide) (fun _ => rfl) (fun r u9 H locs hw hP hD hS => ?_)
    obtain rfl : r = (-103) := hw
    refine lv_bipush (v := (-103)) hx hb dL_law_542 (by decide) ?_
    refine lv_icmp_ne (tgt := 569) hx hb dL_law_544 (by decide) (fun c_ => absurd (rfl) c_) (fun c_ => ?_)
    refine lv_aload_n hx hb dL_law_547 rfl (lv_at hl 8 rfl) ?_
    obtain ⟨sS, xS, κ', vS, hI4'⟩ := start_op hI3
    have hPc := hP.sub (ws' := kW cI h u3) [0, 1, 2, 3, 4, 5, 6, 7, 8, 9] rfl
    have hDc := hD.sub (ws' := kW cI h u3) [0, 1, 2, 3, 4, 5, 6, 7, 8, 9] (by decide) rfl
    refine rcI (wc := kW cI h u3) (W2 := fun u => LW cI h ad aq u d sf) (vx_runSW (As := [.ref (h 0)]) (rest := []) ⟨hx, hb, hml, hown, hts⟩ (w_start l dC dI cI h H.size u3 xS sS) (vx_cwSW 1 hts gL_law_L_start rfl rfl rfl (by decide +kernel) ⟨Nat.le_of_ble_eq_true rfl, Nat.le_of_ble_eq_true rfl⟩) (pW_S hPc hK hDc) rfl rfl hl.1 rfl (lv_room (Nat.le_of_ble_eq_true rfl)) dL_law_548 ⟨(by show _ ≤ 193; omega), (by show _ ≤ 1957; omega)⟩) hP hD hS hA [0, 1, 2, 3, 4, 5, 6, 7, 8, 9] [10, 11] [2, 3, 4, 5, 6, 7, 8, 9, 10, 11, 0, 1] rfl rfl (by decide) (fun _ => rfl) (fun r u4 H locs hw hP hD hS => ?_)
    obtain ⟨hw, hw2⟩ := hw
    obtain rfl : r = (nI (MN sf 64)) := hw.trans (congrArg Prod.fst vS)
    have hI4 : IN u4 sf sf N xW xT xW xC := by rw [hw2, vS]; exact hI4'
    refine lv_iload hx hb dL_law_551 (lv_at hl 1 rfl) ?_
    refine lv_icmp_ne (tgt := 569) hx hb dL_law_553 (by decide) (fun c_ => absurd (rfl) c_) (fun c_ => ?_)
    refine lv_aload_n hx hb dL_law_556 rfl (lv_at hl 8 rfl) ?_
    have hPc := hP.sub (ws' := kW cI h u4) [0, 1, 2, 3, 4, 5, 6, 7, 8, 9] rfl
    have hDc := hD.sub (ws' := kW cI h u4) [0, 1, 2, 3, 4, 5, 6, 7, 8, 9] (by decide) rfl
    refine rcI (wc := kW cI h u4) (W2 := fun _ => LW cI h ad aq u4 d sf) (va_runV (As := []) (rest := []) ⟨hx, hb, hml, hown, hts⟩ (c_X2_head l dC dI cI h H.size u4) (cwV 0 hts gL_law_X2_head rfl rfl rfl (by decide +kernel) ⟨Nat.le_of_ble_eq_true rfl, Nat.le_of_ble_eq_true rfl⟩) (pW_V hPc hK hDc (ci := 2) (q0 := 0) rfl rfl) rfl rfl hl.1 rfl (lv_room (Nat.le_of_ble_eq_true rfl)) dL_law_557 ⟨(by show _ ≤ 193; omega), (by show _ ≤ 1957; omega)⟩) hP hD hS hA [0, 1, 2, 3, 4, 5, 6, 7, 8, 9] [10, 11] [2, 3, 4, 5, 6, 7, 8, 9, 10, 11, 0, 1] rfl rfl (by decide) (fun _ => rfl) (fun r u9 H locs hw hP hD hS => ?_)
    obtain rfl : r = (nI xW) := hw.trans (head_v hI4)
    refine lv_iload hx hb dL_law_560 (lv_at hl 0 rfl) ?_
    refine lv_icmp_ne (tgt := 569) hx hb dL_law_562 (by decide) (fun c_ => absurd (rfl) c_) (fun c_ => ?_)
    refine lv_iconst (v := 1) hx hb dL_law_565 (by decide) ?_
    refine lv_goto (tgt := 570) hx hb dL_law_566 (by decide) ?_
    refine lv_istore (lv' := [(4, .int 1), (13, .int (nI xW)), (12, .int (nI (MN sf 64))), (11, .int (nI xH)), (10, .int (nI kd)), (9, .int (nI v0)), (8, .int (nI q)), (5, .int (nI i)), (0, .ref b), (1, .ref (h 0)), (2, .ref ad), (3, .ref aq)]) hx hb dL_law_570 hl (by decide) rfl (fun ls hl => ?_)
    refine lv_iconst (v := 0) hx hb dL_law_572 (by decide) ?_
    refine lv_istore (lv' := [(14, .int 0), (4, .int 1), (13, .int (nI xW)), (12, .int (nI (MN sf 64))), (11, .int (nI xH)), (10, .int (nI kd)), (9, .int (nI v0)), (8, .int (nI q)), (5, .int (nI i)), (0, .ref b), (1, .ref (h 0)), (2, .ref ad), (3, .ref aq)]) hx hb dL_law_573 hl (by decide) rfl (fun ls hl => ?_)
    have lp575 : ∀ (j k : Nat), k + j = 64 → ∀ (f : Nat → Int32), (∀ i, i < k → f i = sf i) → ∀ (H : Heap) (locs : List Loc) (ls : Array Slot), va_P (dC, dI) vwCl (LW cI h ad aq u4 f sf) H → va_D (fun q : Nat => s.heap.size ≤ q) (LW cI h ad aq u4 f sf) → va_S (fun q : Nat => s.heap.size ≤ q) s.heap H locs → lv_has ls 15 [(14, .int (nI k)), (4, .int 1), (5, .int (nI i)), (0, .ref b), (1, .ref (h 0)), (2, .ref ad), (3, .ref aq)] → W p l e room_1 s m #[Value.ref b] below meth c H locs (cells + 1) (slots + 6) Q (F0 m 575 ls []) := by
      intro j
      induction j with
      | zero =>
        intro k hk f hf H locs ls hP hD hS hl
        have e64 : k = 64 := by omega
        subst e64
        refine lv_iload hx hb dL_law_575 (lv_at hl 0 rfl) ?_
        refine lv_bipush (v := 64) hx hb dL_law_577 (by decide) ?_
        refine lv_icmp_ge (tgt := 596) hx hb dL_law_579 (by decide) (fun c_ => ?_) (fun c_ => absurd ((le64 (by omega)).mpr (by omega)) c_)
        exact K u4 f sf _ _ _ _ H locs ls ((hI4.cgd (fun i hi => hf i hi)).mono (by omega) h9) hP hD hS (lv_sub hl [1, 2, 3, 4, 5, 6] rfl)
      | succ j ih =>
        intro k hk f hf H locs ls hP hD hS hl
        have h64 : k < 64 := by omega
        refine lv_iload hx hb dL_law_575 (lv_at hl 0 rfl) ?_
        refine lv_bipush (v := 64) hx hb dL_law_577 (by decide) ?_
        refine lv_icmp_ge (tgt := 596) hx hb dL_law_579 (by decide) (fun c_ => absurd c_ (fun e => absurd ((le64 (by omega)).mp e) (by omega))) (fun c_ => ?_)
        refine lv_aload_n hx hb dL_law_582 rfl (lv_at hl 5 rfl) ?_
        refine lv_iload hx hb dL_law_583 (lv_at hl 0 rfl) ?_
        refine lv_aload_n hx hb dL_law_585 rfl (lv_at hl 6 rfl) ?_
        refine lv_iload hx hb dL_law_586 (lv_at hl 0 rfl) ?_
        refine va_iald hx hb hK hP 11 0 rfl rfl (vp_in_nI (by omega) (by decide)) dL_law_588 ?_
        rw [nI_clamp (show k < 2 ^ 31 by omega)]
        refine va_iast hx hb hK hP hD hS 10 0 rfl rfl (vp_in_nI (by omega) (by decide)) dL_law_589 (fun H locs hP hD hS => ?_)
        rw [nI_clamp (show k < 2 ^ 31 by omega)] at hP hD
        have hP : va_P (dC, dI) vwCl (LW cI h ad aq u4 (upd f k (sf k)) sf) H := hP
        have hD : va_D (fun q : Nat => s.heap.size ≤ q) (LW cI h ad aq u4 (upd f k (sf k)) sf) := hD
        refine lv_iinc (v := nI (k + 1)) (lv' := [(14, .int (nI (k + 1))), (4, .int 1), (5, .int (nI i)), (0, .ref b), (1, .ref (h 0)), (2, .ref ad), (3, .ref aq)]) hx hb dL_law_590 hl (k := 0) rfl (by rw [← nI_1]; rfl) (by decide) rfl (fun ls hl => ?_)
        refine lv_goto (tgt := 575) hx hb dL_law_593 (by decide) ?_
        exact ih (k + 1) (by omega) (upd f k (sf k)) (fun i hi => by
          by_cases e : i = k
          · subst e; exact pk_us
          · rw [pk_un e]; exact hf i (by omega)) H locs ls hP hD hS (lv_sub hl [0, 1, 2, 3, 4, 5, 6] rfl)
    exact lp575 64 0 rfl d (fun i hi => absurd hi (Nat.not_lt_zero i)) H locs ls hP hD hS (by rw [nI_0]; exact (lv_sub hl [0, 1, 8, 9, 10, 11, 12] rfl))
  have lp463 : ∀ (j k : Nat), k + j = 64 → ∀ (H : Heap) (locs : List Loc) (ls : Array Slot), va_P (dC, dI) vwCl (LW cI h ad aq κ d sf) H → va_D (fun q : Nat => s.heap.size ≤ q) (LW cI h ad aq κ d sf) → va_S (fun q : Nat => s.heap.size ≤ q) s.heap H locs → lv_has ls 15 [(13, .int (nI k)), (12, .int (nI (MN sf k))), (11, .int (nI xH)), (10, .int (nI kd)), (9, .int (nI v0)), (8, .int (nI q)), (5, .int (nI i)), (0, .ref b), (1, .ref (h 0)), (2, .ref ad), (3, .ref aq)] → W p l e room_1 s m #[Value.ref b] below meth c H locs (cells) (slots) Q (F0 m 463 ls []) := by
    intro j
    induction j with
    | zero =>
      intro k hk H locs ls hP hD hS hl
      have e64 : k = 64 := by omega
      subst e64
      refine lv_iload hx hb dL_law_463 (lv_at hl 0 rfl) ?_
      refine lv_bipush (v := 64) hx hb dL_law_465 (by decide) ?_
      refine lv_icmp_ge (tgt := 493) hx hb dL_law_467 (by decide) (fun c_ => ?_) (fun c_ => absurd ((le64 (by omega)).mpr (by omega)) c_)
      exact K493 H locs ls hP hD hS (lv_sub hl [1, 2, 3, 4, 5, 6, 7, 8, 9, 10] rfl)
    | succ j ih =>
      intro k hk H locs ls hP hD hS hl
      have h64 : k < 64 := by omega
      refine lv_iload hx hb dL_law_463 (lv_at hl 0 rfl) ?_
      refine lv_bipush (v := 64) hx hb dL_law_465 (by decide) ?_
      refine lv_icmp_ge (tgt := 493) hx hb dL_law_467 (by decide) (fun c_ => absurd c_ (fun e => absurd ((le64 (by omega)).mp e) (by omega))) (fun c_ => ?_)
      refine lv_iload hx hb dL_law_470 (lv_at hl 1 rfl) ?_
      refine lv_aload_n hx hb dL_law_472 rfl (lv_at hl 10 rfl) ?_
      refine lv_iload hx hb dL_law_473 (lv_at hl 0 rfl) ?_
      refine va_iald hx hb hK hP 11 0 rfl rfl (vp_in_nI (by omega) (by decide)) dL_law_475 ?_
      rw [nI_clamp (show k < 2 ^ 31 by omega)]
      refine lv_if_lt (tgt := 483) hx hb dL_law_476 (by decide) (fun c_1 => ?_) (fun c_1 => ?_)
      · refine lv_iconst (v := 0) hx hb dL_law_483 (by decide) ?_
        refine lv_iadd hx hb dL_law_484 ?_
        rw [show (((nI (MN sf k))) + 0 : Int32) = (nI (MN sf (k + 1))) from MN_m (fun e => n_lt e c_1)]
        refine lv_istore (lv' := [(12, .int (nI (MN sf (k + 1)))), (13, .int (nI k)), (11, .int (nI xH)), (10, .int (nI kd)), (9, .int (nI v0)), (8, .int (nI q)), (5, .int (nI i)), (0, .ref b), (1, .ref (h 0)), (2, .ref ad), (3, .ref aq)]) hx hb dL_law_485 hl (by decide) rfl (fun ls hl => ?_)
        refine lv_iinc (v := nI (k + 1)) (lv' := [(13, .int (nI (k + 1))), (12, .int (nI (MN sf (k + 1)))), (11, .int (nI xH)), (10, .int (nI kd)), (9, .int (nI v0)), (8, .int (nI q)), (5, .int (nI i)), (0, .ref b), (1, .ref (h 0)), (2, .ref ad), (3, .ref aq)]) hx hb dL_law_487 hl (k := 1) rfl (by rw [← nI_1]; rfl) (by decide) rfl (fun ls hl => ?_)
        refine lv_goto (tgt := 463) hx hb dL_law_490 (by decide) ?_
        exact ih (k + 1) (by omega) H locs ls hP hD hS (lv_sub hl [0, 1, 2, 3, 4, 5, 6, 7, 8, 9, 10] rfl)
      · refine lv_iconst (v := 1) hx hb dL_law_479 (by decide) ?_
        refine lv_goto (tgt := 484) hx hb dL_law_480 (by decide) ?_
        refine lv_iadd hx hb dL_law_484 ?_
        rw [show (((nI (MN sf k))) + 1 : Int32) = (nI (MN sf (k + 1))) from MN_p (n_nlt c_1)]
        refine lv_istore (lv' := [(12, .int (nI (MN sf (k + 1)))), (13, .int (nI k)), (11, .int (nI xH)), (10, .int (nI kd)), (9, .int (nI v0)), (8, .int (nI q)), (5, .int (nI i)), (0, .ref b), (1, .ref (h 0)), (2, .ref ad), (3, .ref aq)]) hx hb dL_law_485 hl (by decide) rfl (fun ls hl => ?_)
        refine lv_iinc (v := nI (k + 1)) (lv' := [(13, .int (nI (k + 1))), (12, .int (nI (MN sf (k + 1)))), (11, .int (nI xH)), (10, .int (nI kd)), (9, .int (nI v0)), (8, .int (nI q)), (5, .int (nI i)), (0, .ref b), (1, .ref (h 0)), (2, .ref ad), (3, .ref aq)]) hx hb dL_law_487 hl (k := 1) rfl (by rw [← nI_1]; rfl) (by decide) rfl (fun ls hl => ?_)
        refine lv_goto (tgt := 463) hx hb dL_law_490 (by decide) ?_
        exact ih (k + 1) (by omega) H locs ls hP hD hS (lv_sub hl [0, 1, 2, 3, 4, 5, 6, 7, 8, 9, 10] rfl)
  refine lv_iconst (v := 0) hx hb dL_law_457 (by decide) ?_
  refine lv_istore (lv' := [(12, .int 0), (11, .int (nI xH)), (10, .int (nI kd)), (9, .int (nI v0)), (8, .int (nI q)), (5, .int (nI i)), (0, .ref b), (1, .ref (h 0)), (2, .ref ad), (3, .ref aq)]) hx hb dL_law_458 hl (by decide) rfl (fun ls hl => ?_)
  refine lv_iconst (v := 0) hx hb dL_law_460 (by decide) ?_
  refine lv_istore (lv' := [(13, .int 0), (12, .int 0), (11, .int (nI xH)), (10, .int (nI kd)), (9, .int (nI v0)), (8, .int (nI q)), (5, .int (nI i)), (0, .ref b), (1, .ref (h 0)), (2, .ref ad), (3, .ref aq)]) hx hb dL_law_461 hl (by decide) rfl (fun ls hl => ?_)
  exact lp463 64 0 rfl H locs ls hP hD hS (by rw [show nI (MN sf 0) = 0 from rfl, nI_0]; exact (lv_sub hl [0, 1, 2, 3, 4, 5, 6, 7, 8, 9, 10] rfl))
