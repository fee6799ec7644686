/-! THE CLAIM OUT OF ONE WALK OF THE LAW'S BODY. Your part is whole_start (and what it stands on); all else here is the same for every law, but numbers. -/
def R_law : String := "KeysapartLaw"
def lw_P (b : Addr) (xs : List Int32) (args : Array Value) (s : State) : Prop := args = #[.ref b] ∧ s.IntsAt b xs ∧ xs.length ≤ 260 ∧ (Jvm.Cond.and given_1 narrow_1).before args s = true
def lw_Q (_ : Array Value) (s : State) (o : Outcome) (t : State) : Prop := o = .returned (some (.int 1)) ∧ Framed s o t [] 193 1957
def lw_Z (below : List Frame) (a : Array Value) (s : State) : State → Prop := fun t => ∃ o, t.status = .running ∧ Ended t below o ∧ lw_Q a s o t
/-- the law's own end, with 1 on the stack, nothing written that was there before, its room as the claim has it -/
theorem lw_ret {p : Program} {l : Launch} {e : Env} {s : State} {m : MethodId} {below : List Frame} {meth : Method} {c : Code} {b : Nat} (hx : p.tables.exec = Jvm.exec) (hb : c.code = code) (hr : meth.sig.returnType = ret) (hlocks : meth.locks = false) {pc : Nat} {H : Heap} {ls : Array Slot} (hdg : decode code pc = .ok (.ireturn, 1)) : W p l e room_1 s m #[Value.ref b] below meth c H [] 193 1957 (lw_Z below #[Value.ref b] s) (F0 m pc ls [.int 1]) := by
  intro T hT X
  obtain ⟨fs, hret, hrun, hended, hW, hframe⟩ := X.leave (v := some (.int 1)) (hlocks := hlocks) (fun h => by rw [hr] at h; cases h)
  have hmeth' : T.vm.method? m = some meth := X.method'
  refine ⟨T.setFrames fs, ?_, .returned (some (.int 1)), hrun, hended, rfl, ⟨_, rfl⟩, hW, hframe⟩
  jvm_step X.here [X.here.top, hx, hb, hdg, hmeth', hr, ret, narrow_b1]
  (try refine ⟨rfl, ?_⟩); (try refine ⟨rfl, ?_⟩)
  first | (intro acts; rw [hret _ acts rfl rfl rfl]) | rw [hret _ _ rfl rfl rfl]
  exact Steps.refl _
/-- what holds at the law's entry: the machine, the code, the tables' words (any of lw_tbl by 'hts w (by decide +kernel)'), the script of L ints xs at the cell b, what the Statement gives of the start (any of its parts by flat_of_before) -/
def lw_At (p : Program) (s : State) (m : MethodId) (meth : Method) (c : Code) (b L : Nat) (xs : Nat → Int32) : Prop :=
  p.tables.exec = Jvm.exec ∧ c.code = code ∧ meth.sig.returnType = ret ∧ c.maxLocals = 15 ∧ s.vm.findClass R_law = some m.cls ∧ (∀ w ∈ lw_tbl, w.before #[Value.ref b] s = true) ∧ va_X b L xs s s.heap ∧ b < s.heap.size ∧ meth.locks = false ∧ (Jvm.Cond.and given_1 narrow_1).before #[Value.ref b] s = true
theorem leN (a : Nat) {k : Nat} (ha : a < 2 ^ 31) (hk : k < 2 ^ 31) : nI a ≤ nI k ↔ a ≤ k := nI_leI ha hk
set_option maxHeartbeats 4000000 in
set_option maxRecDepth 100000 in
/-- THE LAW'S LOOP: at its head, with k calls made, the class stands under the invariant -/
theorem law_loop {p : Program} {l : Launch} {e : Env} {s : State} {m : MethodId} {below : List Frame} {meth : Method} {c : Code} {dC : Nat → ClassId} {dI : Nat → Nat → Nat} {cI : ClassId} {b L : Nat} {xs : Nat → Int32} (hlt : l.stackTraces = false) (hr : meth.sig.returnType = ret) (hlocks : meth.locks = false) (C0 : LC p s m c b L xs dC dI cI) {h : Nat → Nat} {ad aq : Nat} :
    ∀ (n k : Nat), k + n = 48 → ∀ (κ : KS) (d sf : Nat → Int32) (xH xT xW xC : Nat), IN κ d sf (96 * k) xH xT xW xC → ∀ (H : Heap) (locs : List Loc), va_P (dC, dI) vwCl (LW cI h ad aq κ d sf) H → va_D (fun q : Nat => s.heap.size ≤ q) (LW cI h ad aq κ d sf) → va_S (fun q : Nat => s.heap.size ≤ q) s.heap H locs → ∀ (ls : Array Slot), lv_has ls 15 [(4, .int 1), (5, .int (nI k)), (0, .ref b), (1, .ref (h 0)), (2, .ref ad), (3, .ref aq)] → W p l e room_1 s m #[Value.ref b] below meth c H locs (12 + k) (527 + 6 * k) (lw_Z below #[Value.ref b] s) (F0 m 54 ls []) := by
  obtain ⟨hx, hb, hml, hown, hts, hX, hbl, hK, hZ, hNc, hL⟩ := id C0
  have hA : ∀ q : Nat, s.heap.size ≤ q → (fun q : Nat => s.heap.size ≤ q) q := fun _ h => h
  have hbA : ¬ (fun q : Nat => s.heap.size ≤ q) b := Nat.not_le.mpr hbl
  have n10 : ¬ (1 : Int32) = 0 := by decide
  intro n
  induction n with
  | zero =>
    intro k hk κ d sf xH xT xW xC hq H locs hP hD hS ls hl
    have hk0 : k = 48 := hk
    subst hk0
    refine lv_iload hx hb dL_law_54 (lv_at hl 1 rfl) ?_
    refine lv_bipush (v := 48) hx hb dL_law_56 (by decide) ?_
    refine lv_icmp_ge (tgt := 622) hx hb dL_law_58 (by decide) (fun c_ => ?_) (fun c_ => absurd ((leN 48 (by decide) (by decide)).mpr (Nat.le_refl _)) c_)
    refine lv_iload hx hb dL_law_622 (lv_at hl 0 rfl) ?_
    refine va_forget (fun q hq => hS.2.2 q hq) ?_
    refine W.widen (k := 193) (n := 1957) (by omega) (by omega) ?_
    exact lw_ret hx hb hr hlocks dL_law_624
  | succ n ih =>
    intro k hk κ d sf xH xT xW xC hq H locs hP hD hS ls hl
    have h9 : 96 * k + 96 ≤ 100000 := by omega
    have hc : 12 + k + 1 ≤ 193 := by omega
    have hs : 527 + 6 * k + 6 ≤ 1957 := by omega
    have K : ∀ (κ2 : KS) (d2 sf2 : Nat → Int32) (yH yT yW yC : Nat) (H2 : Heap) (locs2 : List Loc) (ls2 : Array Slot), IN κ2 d2 sf2 (96 * k + 96) yH yT yW yC → va_P (dC, dI) vwCl (LW cI h ad aq κ2 d2 sf2) H2 → va_D (fun q : Nat => s.heap.size ≤ q) (LW cI h ad aq κ2 d2 sf2) → va_S (fun q : Nat => s.heap.size ≤ q) s.heap H2 locs2 → lv_has ls2 15 [(4, .int 1), (5, .int (nI k)), (0, .ref b), (1, .ref (h 0)), (2, .ref ad), (3, .ref aq)] → W p l e room_1 s m #[Value.ref b] below meth c H2 locs2 (12 + k + 1) (527 + 6 * k + 6) (lw_Z below #[Value.ref b] s) (F0 m 596 ls2 []) := by
      intro κ2 d2 sf2 yH yT yW yC H locs ls hI hP hD hS hl
      refine lv_iload hx hb dL_law_596 (lv_at hl 0 rfl) ?_
      refine lv_if_eq (tgt := 613) hx hb dL_law_598 (by decide) (fun c_ => absurd c_ (n10)) (fun c_ => ?_)
      refine lv_aload_n hx hb dL_law_601 rfl (lv_at hl 3 rfl) ?_
      refine lv_aload_n hx hb dL_law_602 rfl (lv_at hl 4 rfl) ?_
      have hPc := hP.sub (ws' := hW cI h ad κ2 d2) [0, 1, 2, 3, 4, 5, 6, 7, 8, 9, 10] rfl
      have hDc := hD.sub (ws' := hW cI h ad κ2 d2) [0, 1, 2, 3, 4, 5, 6, 7, 8, 9, 10] (by decide) rfl
      refine rcI (wc := hW cI h ad κ2 d2) (W2 := fun _ => LW cI h ad aq κ2 d2 sf2) (va_runS (As := [.ref (h 0), .ref ad]) (rest := []) ⟨hx, hb, hml, hown, hts⟩ (c_has l dC dI cI h ad H.size κ2 d2 sf2 (96 * k + 96) yH yT yW yC hI) (va_cwS 2 hts gL_law_L_has rfl rfl rfl (by decide +kernel) ⟨Nat.le_of_ble_eq_true rfl, Nat.le_of_ble_eq_true rfl⟩) (pW_S hPc hK hDc) rfl rfl hl.1 rfl (lv_room (Nat.le_of_ble_eq_true rfl)) dL_law_603 ⟨(by show _ ≤ 193; omega), (by show _ ≤ 1957; omega)⟩) hP hD hS hA [0, 1, 2, 3, 4, 5, 6, 7, 8, 9, 10] [11] [1, 2, 3, 4, 5, 6, 7, 8, 9, 10, 11, 0] rfl rfl (by decide) (fun _ => rfl) (fun r u H locs hw hP hD hS => ?_)
      obtain rfl : r = 1 := hw
      refine lv_if_eq (tgt := 613) hx hb dL_law_606 (by decide) (fun c_ => absurd c_ (n10)) (fun c_ => ?_)
      refine lv_iconst (v := 1) hx hb dL_law_609 (by decide) ?_
      refine lv_goto (tgt := 614) hx hb dL_law_610 (by decide) ?_
      refine lv_istore (lv' := [(4, .int 1), (5, .int (nI k)), (0, .ref b), (1, .ref (h 0)), (2, .ref ad), (3, .ref aq)]) hx hb dL_law_614 hl (by decide) rfl (fun ls hl => ?_)
      refine lv_iinc (v := nI (k + 1)) (lv' := [(5, .int (nI (k + 1))), (4, .int 1), (0, .ref b), (1, .ref (h 0)), (2, .ref ad), (3, .ref aq)]) hx hb dL_law_616 hl (k := 1) rfl (by rw [← nI_1]; rfl) (by decide) rfl (fun ls hl => ?_)
      refine lv_goto (tgt := 54) hx hb dL_law_619 (by decide) ?_
      exact ih (k + 1) (by omega) κ2 d2 sf2 yH yT yW yC (by rw [show 96 * (k + 1) = 96 * k + 96 by omega]; exact hI) H locs hP hD hS ls (lv_sub hl [1, 0, 2, 3, 4, 5] rfl)
    refine lv_iload hx hb dL_law_54 (lv_at hl 1 rfl) ?_
    refine lv_bipush (v := 48) hx hb dL_law_56 (by decide) ?_
    refine lv_icmp_ge (tgt := 622) hx hb dL_law_58 (by decide) (fun c_ => absurd c_ (fun e => absurd ((leN 48 (by decide) (by omega)).mp e) (by omega))) (fun c_ => ?_)
    refine lv_iload hx hb dL_law_61 (lv_at hl 0 rfl) ?_
    refine lv_if_eq (tgt := 622) hx hb dL_law_63 (by decide) (fun c_ => absurd c_ (n10)) (fun c_ => ?_)
    refine lv_aload_n hx hb dL_law_66 rfl (lv_at hl 2 rfl) ?_
    refine lv_iload hx hb dL_law_67 (lv_at hl 1 rfl) ?_
    refine rcI (wc := eW) (W2 := fun _ => LW cI h ad aq κ d sf) (va_runS (As := [.ref b, .int (nI k)]) (rest := []) ⟨hx, hb, hml, hown, hts⟩ (c_cell l dC dI b L xs (by omega) k (by omega) H.size) (va_cwS 2 hts gL_law_L_cell rfl rfl rfl (by decide +kernel) ⟨Nat.le_of_ble_eq_true rfl, Nat.le_of_ble_eq_true rfl⟩) (pC_S hX hbl hbA hS) rfl rfl hl.1 rfl (lv_room (Nat.le_of_ble_eq_true rfl)) dL_law_69 ⟨(by show _ ≤ 193; omega), (by show _ ≤ 1957; omega)⟩) hP hD hS hA [] [0, 1, 2, 3, 4, 5, 6, 7, 8, 9, 10, 11] [0, 1, 2, 3, 4, 5, 6, 7, 8, 9, 10, 11] rfl rfl (by decide) (fun _ => rfl) (fun r u H locs hw hP hD hS => ?_)
    obtain ⟨y0, hy0, rfl⟩ := hw
    refine lv_istore (lv' := [(6, .int (nI y0)), (4, .int 1), (5, .int (nI k)), (0, .ref b), (1, .ref (h 0)), (2, .ref ad), (3, .ref aq)]) hx hb dL_law_72 hl (by decide) rfl (fun ls hl => ?_)
    refine lv_iload hx hb dL_law_74 (lv_at hl 0 rfl) ?_
    refine lv_bipush (v := 16) hx hb dL_law_76 (by decide) ?_
    refine lv_idiv hx hb dL_law_78 (by decide) ?_
    rw [show ((nI y0) / 16 : Int32) = (nI (y0 / 16)) from div_n 16 (by decide) (by decide) hy0]
    refine lv_istore (lv' := [(7, .int (nI (y0 / 16))), (6, .int (nI y0)), (4, .int 1), (5, .int (nI k)), (0, .ref b), (1, .ref (h 0)), (2, .ref ad), (3, .ref aq)]) hx hb dL_law_79 hl (by decide) rfl (fun ls hl => ?_)
    refine lv_iload hx hb dL_law_81 (lv_at hl 0 rfl) ?_
    refine lv_iload hx hb dL_law_83 (lv_at hl 1 rfl) ?_
    refine lv_iconst (v := 2) hx hb dL_law_85 (by decide) ?_
    refine lv_irem hx hb dL_law_86 (by decide) ?_
    rw [show ((nI y0) - (nI y0) / 2 * 2 : Int32) = (nI (y0 % 2)) from rem_n 2 (by decide) (by decide) hy0]
    have K98 : ∀ (q : Nat), q < 64 → ∀ (ls : Array Slot), lv_has ls 15 [(7, .int (nI (y0 / 16))), (6, .int (nI y0)), (4, .int 1), (5, .int (nI k)), (0, .ref b), (1, .ref (h 0)), (2, .ref ad), (3, .ref aq)] → W p l e room_1 s m #[Value.ref b] below meth c H locs (12 + k) (527 + 6 * k) (lw_Z below #[Value.ref b] s) (F0 m 98 ls [.int (nI q)]) := by
      intro q hqk ls hl
      refine lv_istore (lv' := [(8, .int (nI q)), (7, .int (nI (y0 / 16))), (6, .int (nI y0)), (4, .int 1), (5, .int (nI k)), (0, .ref b), (1, .ref (h 0)), (2, .ref ad), (3, .ref aq)]) hx hb dL_law_98 hl (by decide) rfl (fun ls hl => ?_)
      refine lv_iload hx hb dL_law_100 (lv_at hl 1 rfl) ?_
      refine lv_bipush (v := 64) hx hb dL_law_102 (by decide) ?_
      refine lv_idiv hx hb dL_law_104 (by decide) ?_
      rw [show (((nI (y0 / 16))) / 64 : Int32) = (nI (y0 / 16 / 64)) from div_n 64 (by decide) (by decide) (by omega)]
      refine lv_istore (lv' := [(9, .int (nI (y0 / 16 / 64))), (8, .int (nI q)), (7, .int (nI (y0 / 16))), (6, .int (nI y0)), (4, .int 1), (5, .int (nI k)), (0, .ref b), (1, .ref (h 0)), (2, .ref ad), (3, .ref aq)]) hx hb dL_law_105 hl (by decide) rfl (fun ls hl => ?_)
      refine lv_iload hx hb dL_law_107 (lv_at hl 3 rfl) ?_
      refine lv_bipush (v := 16) hx hb dL_law_109 (by decide) ?_
      refine lv_irem hx hb dL_law_111 (by decide) ?_
      rw [show ((nI y0) - (nI y0) / 16 * 16 : Int32) = (nI (y0 % 16)) from rem_n 16 (by decide) (by decide) hy0]
      refine lv_istore (lv' := [(10, .int (nI (y0 % 16))), (9, .int (nI (y0 / 16 / 64))), (8, .int (nI q)), (7, .int (nI (y0 / 16))), (6, .int (nI y0)), (4, .int 1), (5, .int (nI k)), (0, .ref b), (1, .ref (h 0)), (2, .ref ad), (3, .ref aq)]) hx hb dL_law_112 hl (by decide) rfl (fun ls hl => ?_)
      refine lv_aload_n hx hb dL_law_114 rfl (lv_at hl 8 rfl) ?_
      have hPc := hP.sub (ws' := kW cI h κ) [0, 1, 2, 3, 4, 5, 6, 7, 8, 9] rfl
      have hDc := hD.sub (ws' := kW cI h κ) [0, 1, 2, 3, 4, 5, 6, 7, 8, 9] (by decide) rfl
      refine rcI (wc := kW cI h κ) (W2 := fun _ => LW cI h ad aq κ d sf) (va_runV (As := []) (rest := []) ⟨hx, hb, hml, hown, hts⟩ (c_X2_head l dC dI cI h H.size κ) (cwV 0 hts gL_law_X2_head rfl rfl rfl (by decide +kernel) ⟨Nat.le_of_ble_eq_true rfl, Nat.le_of_ble_eq_true rfl⟩) (pW_V hPc hK hDc (ci := 2) (q0 := 0) rfl rfl) rfl rfl hl.1 rfl (lv_room (Nat.le_of_ble_eq_true rfl)) dL_law_115 ⟨(by show _ ≤ 193; omega), (by show _ ≤ 1957; omega)⟩) hP hD hS hA [0, 1, 2, 3, 4, 5, 6, 7, 8, 9] [10, 11] [2, 3, 4, 5, 6, 7, 8, 9, 10, 11, 0, 1] rfl rfl (by decide) (fun _ => rfl) (fun r u9 H locs hw hP hD hS => ?_)
      obtain rfl : r = (nI xH) := hw.trans (head_v hq)
      refine lv_istore (lv' := [(11, .int (nI xH)), (10, .int (nI (y0 % 16))), (9, .int (nI (y0 / 16 / 64))), (8, .int (nI q)), (7, .int (nI (y0 / 16))), (6, .int (nI y0)), (4, .int 1), (5, .int (nI k)), (0, .ref b), (1, .ref (h 0)), (2, .ref ad), (3, .ref aq)]) hx hb dL_law_118 hl (by decide) rfl (fun ls hl => ?_)
      refine lv_iload hx hb dL_law_120 (lv_at hl 1 rfl) ?_
      refine lv_bipush (v := 7) hx hb dL_law_122 (by decide) ?_
      have hv0 : y0 / 16 / 64 < 2 ^ 31 := by omega
      have hkd : y0 % 16 < 16 := by omega
      refine lv_icmp_ge (tgt := 207) hx hb dL_law_124 (by decide) (fun c_1 => ?_) (fun c_1 => ?_)
      · refine lv_iload hx hb dL_law_207 (lv_at hl 1 rfl) ?_
        refine lv_bipush (v := 9) hx hb dL_law_209 (by decide) ?_
        refine lv_icmp_ge (tgt := 290) hx hb dL_law_211 (by decide) (fun c_2 => ?_) (fun c_2 => ?_)
        · refine lv_iload hx hb dL_law_290 (lv_at hl 1 rfl) ?_
          refine lv_bipush (v := 14) hx hb dL_law_292 (by decide) ?_
          refine lv_icmp_ge (tgt := 457) hx hb dL_law_294 (by decide) (fun c_3 => ?_) (fun c_3 => ?_)
          · exact arm_crash hlt C0 hq h9 hqk hv0 hc hs hP hD hS (lv_sub hl [0, 1, 2, 3, 7, 8, 9, 10, 11] rfl) K
          · exact arm_log hlt C0 hq h9 hqk hv0 ((leN 9 (by decide) (by omega)).mp c_2) (Nat.not_le.mp fun z => c_3 ((leN 14 (by decide) (by omega)).mpr z)) hc hs hP hD hS (lv_sub hl [0, 1, 2, 3, 7, 8, 9, 10, 11] rfl) K
        · exact arm_del hlt C0 hq h9 hqk hv0 hc hs hP hD hS (lv_sub hl [0, 1, 2, 3, 7, 8, 9, 10, 11] rfl) K
      · exact arm_put hlt C0 hq h9 hqk hv0 hc hs hP hD hS (lv_sub hl [0, 1, 2, 3, 7, 8, 9, 10, 11] rfl) K
    refine lv_if_ne (tgt := 95) hx hb dL_law_87 (by decide) (fun c_1 => ?_) (fun c_1 => ?_)
    · refine lv_bipush (v := 12) hx hb dL_law_95 (by decide) ?_
      refine lv_irem hx hb dL_law_97 (by decide) ?_
      rw [show (((nI (y0 / 16))) - ((nI (y0 / 16))) / 12 * 12 : Int32) = (nI (y0 / 16 % 12)) from rem_n 12 (by decide) (by decide) (by omega)]
      exact K98 (y0 / 16 % 12) (by have := Nat.mod_lt (y0 / 16) (show 0 < 12 by decide); omega) ls hl
    · refine lv_bipush (v := 64) hx hb dL_law_90 (by decide) ?_
      refine lv_goto (tgt := 97) hx hb dL_law_92 (by decide) ?_
      refine lv_irem hx hb dL_law_97 (by decide) ?_
      rw [show (((nI (y0 / 16))) - ((nI (y0 / 16))) / 64 * 64 : Int32) = (nI (y0 / 16 % 64)) from rem_n 64 (by decide) (by decide) (by omega)]
      exact K98 (y0 / 16 % 64) (by have := Nat.mod_lt (y0 / 16) (show 0 < 64 by decide); omega) ls hl
