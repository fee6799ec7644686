/-! THE CLAIM OUT OF ONE WALK OF THE LAW'S BODY. Your part is whole_start (and what it stands on); all else here is the same for every law, but numbers. -/
def R_law : String := "KeysapartLaw"
def lw_P (b : Addr) (xs : List Int32) (args : Array Value) (s : State) : Prop := args = #[.ref b] ∧ s.IntsAt b xs ∧ xs.length ≤ 1536 ∧ (Jvm.Cond.and given_1 narrow_1).before args s = true
def lw_Q (_ : Array Value) (s : State) (o : Outcome) (t : State) : Prop := o = .returned (some (.int 1)) ∧ Framed s o t [] 1051 9112
def lw_Z (below : List Frame) (a : Array Value) (s : State) : State → Prop := fun t => ∃ o, t.status = .running ∧ Ended t below o ∧ lw_Q a s o t
/-- the law's own end, with 1 on the stack, nothing written that was there before, its room as the claim has it -/
theorem lw_ret {p : Program} {l : Launch} {e : Env} {s : State} {m : MethodId} {below : List Frame} {meth : Method} {c : Code} {b : Nat} (hx : p.tables.exec = Jvm.exec) (hb : c.code = code) (hr : meth.sig.returnType = ret) (hlocks : meth.locks = false) {pc : Nat} {H : Heap} {ls : Array Slot} (hdg : decode code pc = .ok (.ireturn, 1)) : W p l e room_1 s m #[Value.ref b] below meth c H [] 1051 9112 (lw_Z below #[Value.ref b] s) (F0 m pc ls [.int 1]) := by
  intro T hT X
  obtain ⟨fs, hret, hrun, hended, hW, hframe⟩ := X.leave (v := some (.int 1)) (hlocks := hlocks) (fun h => by rw [hr] at h; cases h)
  have hmeth' : T.vm.method? m = some meth := X.method'
  refine ⟨T.setFrames fs, ?_, .returned (some (.int 1)), hrun, hended, rfl, ⟨_, rfl⟩, hW, hframe⟩
  jvm_step X.here [X.here.top, hx, hb, hdg, hmeth', hr, ret, narrow_b1]
  (try refine ⟨rfl, ?_⟩); (try refine ⟨rfl, ?_⟩)
  first | (intro acts; rw [hret _ acts rfl rfl rfl]) | rw [hret _ _ rfl rfl rfl]
  exact Steps.refl _
/-- what holds at the law's entry: the machine, the code, the tables' words (any of lw_tbl by 'hts w (by decide +kernel)'), the script of L ints xs at the cell b, what the Statement gives of the start (any of its parts by flat_of_before) -/
def lw_At (p : Program) (s : State) (m : MethodId) (meth : Method) (c : Code) (b L : Nat) (xs : Nat → Int32) : Prop :=
  p.tables.exec = Jvm.exec ∧ c.code = code ∧ meth.sig.returnType = ret ∧ c.maxLocals = 7 ∧ s.vm.findClass R_law = some m.cls ∧ (∀ w ∈ lw_tbl, w.before #[Value.ref b] s = true) ∧ va_X b L xs s s.heap ∧ b < s.heap.size ∧ meth.locks = false ∧ (Jvm.Cond.and given_1 narrow_1).before #[Value.ref b] s = true
theorem and31 (x : Int32) : ∃ j : Nat, j < 32 ∧ x &&& 31 = nI j := by
  refine ⟨(x.toBitVec &&& 31#32).toNat, ?_, ?_⟩
  · rw [BitVec.toNat_and]
    exact Nat.lt_of_le_of_lt Nat.and_le_right (by decide)
  · apply Int32.toBitVec_inj.1
    show x.toBitVec &&& 31#32 = BitVec.ofNat 32 (x.toBitVec &&& 31#32).toNat
    rw [BitVec.ofNat_toNat]
    simp
theorem add3 (i : Nat) : nI i + 3 = nI (i + 3) := nI_add i 3
theorem guard3 {i L : Nat} (hi : i < 3000) (hL : L ≤ 1536) (h : ¬ Int32.ofNat L - 3 < nI i) : i + 3 ≤ L := by
  by_cases h3 : 3 ≤ L
  · have e : Int32.ofNat L - 3 = nI (L - 3) := by
      have e1 : nI (L - 3) + 3 = nI L := by rw [add3]; congr 1; omega
      show nI L - 3 = nI (L - 3)
      rw [← e1, Int32.add_sub_cancel]
    rw [e, nI_ltI (by omega) (by omega)] at h
    omega
  · refine absurd ?_ h
    rw [Int32.lt_iff_toInt_lt, nI_toInt (by omega)]
    rcases (show L = 0 ∨ L = 1 ∨ L = 2 by omega) with rfl | rfl | rfl
    · exact Int.lt_of_lt_of_le (show (Int32.ofNat 0 - 3).toInt < 0 by decide) (Int.natCast_nonneg i)
    · exact Int.lt_of_lt_of_le (show (Int32.ofNat 1 - 3).toInt < 0 by decide) (Int.natCast_nonneg i)
    · exact Int.lt_of_lt_of_le (show (Int32.ofNat 2 - 3).toInt < 0 by decide) (Int.natCast_nonneg i)
theorem rq_start {κ : KS} {μ : MS} (h1 : kUp κ = 1) (h2 : kHd κ = 0) (h3 : kTl κ = 0) (h4 : kWr κ = 0) (h5 : kCt κ = 0) (h6 : kAh κ = -1) (h7 : ∀ k, k < 64 → kIx κ k = -1) (h8 : ∀ k, k < 64 → kCi κ k = -1)
    (g2 : mHd μ = 0) (g3 : mTl μ = 0) (g4 : mWr μ = 0) (g5 : mCp μ = 0) (g6 : mCh μ = -1) (g1 : mDn μ = 0) (g7 : ∀ k, k < 64 → mIx μ k = -1) (g8 : ∀ k, k < 64 → mKp μ k = -1) : RQ κ μ (96 * 0) := by
  refine ⟨0, 0, 0, 0, Or.inl ⟨⟨⟨?_, ?_, ?_, ?_⟩, ⟨?_, ?_, ?_, ?_⟩, by omega, ?_, ?_⟩, h1, g1, ?_, ?_⟩⟩
  · rw [h2, nI_0]
  · rw [h3, nI_0]
  · rw [h4, nI_0]
  · rw [h5, nI_0]
  · rw [g3, nI_0]
  · rw [g4, nI_0]
  · rw [g5, nI_0]
  · rw [h6, g6]
  · exact fun p _ hp => absurd hp (Nat.not_lt_zero p)
  · exact fun k hk => ⟨by rw [h8 k hk, g8 k hk], Or.inl (h8 k hk)⟩
  · rw [g2, nI_0]
  · exact fun k hk => ⟨by rw [h7 k hk, g7 k hk], Or.inl (h7 k hk)⟩
set_option maxHeartbeats 4000000 in
set_option maxRecDepth 100000 in
/-- THE LAW'S LOOP: at its head, with k calls made, the class and the reference stand side by side -/
theorem law_loop {p : Program} {l : Launch} {e : Env} {s : State} {m : MethodId} {below : List Frame} {meth : Method} {c : Code} {dC : Nat → ClassId} {dI : Nat → Nat → Nat} {cI cL : ClassId} {b L : Nat} {xs : Nat → Int32} (hlt : l.stackTraces = false) (hr : meth.sig.returnType = ret) (hlocks : meth.locks = false) (C0 : LC p s m c b L xs dC dI cI cL) {h g : Nat → Nat} {o : Nat} :
    ∀ (n k : Nat), k + n = 513 → ∀ (κ : KS) (μ : MS) (out : Nat → Int64), RQ κ μ (96 * k) → ∀ (H : Heap) (locs : List Loc), va_P (dC, dI) vwCl (LW cI cL h g o κ μ out) H → va_D (fun q : Nat => s.heap.size ≤ q) (LW cI cL h g o κ μ out) → va_S (fun q : Nat => s.heap.size ≤ q) s.heap H locs → ∀ (ls : Array Slot), lv_has ls 7 [(0, .ref b), (1, .ref (h 0)), (2, .ref (g 0)), (3, .ref o), (4, .int (nI (3 * k)))] → W p l e room_1 s m #[Value.ref b] below meth c H locs (17 + k) (860 + 6 * k) (lw_Z below #[Value.ref b] s) (F0 m 23 ls []) := by
  obtain ⟨hx, hb, hml, hown, hts, hX, hbl, hK, hZ, hNc, hL⟩ := id C0
  have hA : ∀ q : Nat, s.heap.size ≤ q → (fun q : Nat => s.heap.size ≤ q) q := fun _ h => h
  have hbA : ¬ (fun q : Nat => s.heap.size ≤ q) b := Nat.not_le.mpr hbl
  intro n
  induction n with
  | zero =>
    intro k hk κ μ out hq H locs hP hD hS ls hl
    have hk0 : k = 513 := hk
    subst hk0
    refine lv_iload hx hb dL_law_23 (lv_at hl 4 rfl) ?_
    refine lv_aload_n hx hb dL_law_25 rfl (lv_at hl 0 rfl) ?_
    refine va_slen hx hb hX hbl hbA hS dL_law_26 ?_
    refine lv_iconst (v := 3) hx hb dL_law_27 (by decide) ?_
    refine lv_isub hx hb dL_law_28 ?_
    refine lv_icmp_gt (tgt := 1011) hx hb dL_law_29 (by decide) (fun c_1 => ?_) (fun c_1 => absurd (guard3 (by omega) hL c_1) (by omega))
    refine lv_iconst (v := 1) hx hb dL_law_1011 (by decide) ?_
    refine va_forget (fun q hq => hS.2.2 q hq) ?_
    refine W.widen (k := 1051) (n := 9112) (by omega) (by omega) ?_
    exact lw_ret hx hb hr hlocks dL_law_1012
  | succ n ih =>
    intro k hk κ μ out hq H locs hP hD hS ls hl
    refine lv_iload hx hb dL_law_23 (lv_at hl 4 rfl) ?_
    refine lv_aload_n hx hb dL_law_25 rfl (lv_at hl 0 rfl) ?_
    refine va_slen hx hb hX hbl hbA hS dL_law_26 ?_
    refine lv_iconst (v := 3) hx hb dL_law_27 (by decide) ?_
    refine lv_isub hx hb dL_law_28 ?_
    refine lv_icmp_gt (tgt := 1011) hx hb dL_law_29 (by decide) (fun c_1 => ?_) (fun c_1 => ?_)
    · refine lv_iconst (v := 1) hx hb dL_law_1011 (by decide) ?_
      refine va_forget (fun q hq => hS.2.2 q hq) ?_
      refine W.widen (k := 1051) (n := 9112) (by omega) (by omega) ?_
      exact lw_ret hx hb hr hlocks dL_law_1012
    · have hi : 3 * k + 3 ≤ L := guard3 (by omega) hL c_1
      have h9 : 96 * k + 96 ≤ 100000 := by omega
      have hc : 17 + k + 1 ≤ 1051 := by omega
      have hs : 860 + 6 * k + 6 ≤ 9112 := by omega
      have hq9 : RQ κ μ (96 * k + 96) := hq.mono (by omega) h9
      have K : ∀ (κ2 : KS) (μ2 : MS) (out2 : Nat → Int64) (H2 : Heap) (locs2 : List Loc) (ls2 : Array Slot), RQ κ2 μ2 (96 * k + 96) → va_P (dC, dI) vwCl (LW cI cL h g o κ2 μ2 out2) H2 → va_D (fun q : Nat => s.heap.size ≤ q) (LW cI cL h g o κ2 μ2 out2) → va_S (fun q : Nat => s.heap.size ≤ q) s.heap H2 locs2 → lv_has ls2 7 [(0, .ref b), (1, .ref (h 0)), (2, .ref (g 0)), (3, .ref o), (4, .int (nI (3 * k)))] → W p l e room_1 s m #[Value.ref b] below meth c H2 locs2 (17 + k + 1) (860 + 6 * k + 6) (lw_Z below #[Value.ref b] s) (F0 m 1005 ls2 []) := by
        intro κ2 μ2 out2 H2 locs2 ls2 hq2 hP hD hS hl
        refine lv_iinc (v := nI (3 * (k + 1))) (lv' := [(4, .int (nI (3 * (k + 1)))), (0, .ref b), (1, .ref (h 0)), (2, .ref (g 0)), (3, .ref o)]) hx hb dL_law_1005 hl (k := 4) rfl (by rw [show 3 * (k + 1) = 3 * k + 3 by omega, ← add3]; rfl) (by decide) rfl (fun ls hl => ?_)
        refine lv_goto (tgt := 23) hx hb dL_law_1008 (by decide) ?_
        rw [show 17 + k + 1 = 17 + (k + 1) by omega, show 860 + 6 * k + 6 = 860 + 6 * (k + 1) by omega]
        rw [show 96 * k + 96 = 96 * (k + 1) by omega] at hq2
        exact ih (k + 1) (by omega) κ2 μ2 out2 hq2 H2 locs2 hP hD hS ls (lv_sub hl [1, 2, 3, 4, 0] rfl)
      refine lv_aload_n hx hb dL_law_32 rfl (lv_at hl 0 rfl) ?_
      refine lv_iload hx hb dL_law_33 (lv_at hl 4 rfl) ?_
      refine va_sld hx hb hX hbl hbA hS (vp_in_nI (by omega) (by omega)) dL_law_35 ?_
      refine lv_bipush (v := 31) hx hb dL_law_36 (by decide) ?_
      refine lv_iand hx hb dL_law_38 ?_
      obtain ⟨j, hj, ej⟩ := and31 (xs (nI (3 * k)).toNatClampNeg)
      rw [ej]
      rcases (show j = 0 ∨ j = 1 ∨ j = 2 ∨ j = 3 ∨ j = 4 ∨ j = 5 ∨ j = 6 ∨ j = 7 ∨ j = 8 ∨ j = 9 ∨ j = 10 ∨ j = 11 ∨ j = 12 ∨ j = 13 ∨ j = 14 ∨ j = 15 ∨ j = 16 ∨ j = 17 ∨ j = 18 ∨ j = 19 ∨ j = 20 ∨ j = 21 ∨ j = 22 ∨ j = 23 ∨ j = 24 ∨ j = 25 ∨ j = 26 ∨ j = 27 ∨ j = 28 ∨ j = 29 ∨ j = 30 ∨ j = 31 by omega) with rfl | rfl | rfl | rfl | rfl | rfl | rfl | rfl | rfl | rfl | rfl | rfl | rfl | rfl | rfl | rfl | rfl | rfl | rfl | rfl | rfl | rfl | rfl | rfl | rfl | rfl | rfl | rfl | rfl | rfl | rfl | rfl
      · refine lv_tableIn (off := 101) (tgt := 140) hx hb dL_law_39 (by decide) (by decide) (by decide) (by decide) ?_
        exact arm_put hlt C0 hi hq h9 hc hs hP hD hS hl K
      · refine lv_tableIn (off := 169) (tgt := 208) hx hb dL_law_39 (by decide) (by decide) (by decide) (by decide) ?_
        exact arm_delete hlt C0 hi hq h9 hc hs hP hD hS hl K
      · refine lv_tableIn (off := 225) (tgt := 264) hx hb dL_law_39 (by decide) (by decide) (by decide) (by decide) ?_
        exact arm_get hlt C0 hi hq h9 hc hs hP hD hS hl K
      · refine lv_tableIn (off := 281) (tgt := 320) hx hb dL_law_39 (by decide) (by decide) (by decide) (by decide) ?_
        exact arm_next hlt C0 hi hq h9 hc hs hP hD hS hl K
      · refine lv_tableIn (off := 337) (tgt := 376) hx hb dL_law_39 (by decide) (by decide) (by decide) (by decide) ?_
        exact arm_sum hlt C0 hi hq h9 hc hs hP hD hS hl K
      · refine lv_tableIn (off := 405) (tgt := 444) hx hb dL_law_39 (by decide) (by decide) (by decide) (by decide) ?_
        exact arm_fetches hlt C0 hi hq h9 hc hs hP hD hS hl K
      · refine lv_tableIn (off := 473) (tgt := 512) hx hb dL_law_39 (by decide) (by decide) (by decide) (by decide) ?_
        exact arm_synchronize hlt C0 hi hq h9 hc hs hP hD hS hl K
      · refine lv_tableIn (off := 524) (tgt := 563) hx hb dL_law_39 (by decide) (by decide) (by decide) (by decide) ?_
        exact arm_checkpoint hlt C0 hi hq h9 hc hs hP hD hS hl K
      · refine lv_tableIn (off := 575) (tgt := 614) hx hb dL_law_39 (by decide) (by decide) (by decide) (by decide) ?_
        exact arm_collect hlt C0 hi hq h9 hc hs hP hD hS hl K
      · refine lv_tableIn (off := 638) (tgt := 677) hx hb dL_law_39 (by decide) (by decide) (by decide) (by decide) ?_
        exact arm_failAfter hlt C0 hi hq h9 hc hs hP hD hS hl K
      · refine lv_tableIn (off := 674) (tgt := 713) hx hb dL_law_39 (by decide) (by decide) (by decide) (by decide) ?_
        exact arm_crash hlt C0 hi hq h9 hc hs hP hD hS hl K
      · refine lv_tableIn (off := 718) (tgt := 757) hx hb dL_law_39 (by decide) (by decide) (by decide) (by decide) ?_
        exact arm_start hlt C0 hi hq h9 hc hs hP hD hS hl K
      · refine lv_tableIn (off := 762) (tgt := 801) hx hb dL_law_39 (by decide) (by decide) (by decide) (by decide) ?_
        exact arm_isUp hlt C0 hi hq h9 hc hs hP hD hS hl K
      · refine lv_tableIn (off := 775) (tgt := 814) hx hb dL_law_39 (by decide) (by decide) (by decide) (by decide) ?_
        exact arm_head hlt C0 hi hq h9 hc hs hP hD hS hl K
      · refine lv_tableIn (off := 788) (tgt := 827) hx hb dL_law_39 (by decide) (by decide) (by decide) (by decide) ?_
        exact arm_tail hlt C0 hi hq h9 hc hs hP hD hS hl K
      · refine lv_tableIn (off := 801) (tgt := 840) hx hb dL_law_39 (by decide) (by decide) (by decide) (by decide) ?_
        exact arm_written hlt C0 hi hq h9 hc hs hP hD hS hl K
      · refine lv_tableIn (off := 814) (tgt := 853) hx hb dL_law_39 (by decide) (by decide) (by decide) (by decide) ?_
        exact arm_checkpointAt hlt C0 hi hq h9 hc hs hP hD hS hl K
      · refine lv_tableIn (off := 827) (tgt := 866) hx hb dL_law_39 (by decide) (by decide) (by decide) (by decide) ?_
        exact arm_positionOf hlt C0 hi hq h9 hc hs hP hD hS hl K
      · refine lv_tableIn (off := 883) (tgt := 922) hx hb dL_law_39 (by decide) (by decide) (by decide) (by decide) ?_
        exact arm_segments hlt C0 hi hq h9 hc hs hP hD hS hl K
      · refine lv_tableIn (off := 896) (tgt := 935) hx hb dL_law_39 (by decide) (by decide) (by decide) (by decide) ?_
        exact arm_live hlt C0 hi hq h9 hc hs hP hD hS hl K
      · refine lv_tableIn (off := 940) (tgt := 979) hx hb dL_law_39 (by decide) (by decide) (by decide) (by decide) ?_
        exact arm_toFree hlt C0 hi hq h9 hc hs hP hD hS hl K
      · refine lv_tableIn (off := 953) (tgt := 992) hx hb dL_law_39 (by decide) (by decide) (by decide) (by decide) ?_
        exact arm_wouldHave hlt C0 hi hq h9 hc hs hP hD hS hl K
      · refine lv_tableOut (tgt := 1005) hx hb dL_law_39 (Or.inr (by decide)) (by decide) ?_
        exact W.widen (k := 17 + k + 1) (n := 860 + 6 * k + 6) (by omega) (by omega) (K κ μ out H locs ls hq9 hP hD hS hl)
      · refine lv_tableOut (tgt := 1005) hx hb dL_law_39 (Or.inr (by decide)) (by decide) ?_
        exact W.widen (k := 17 + k + 1) (n := 860 + 6 * k + 6) (by omega) (by omega) (K κ μ out H locs ls hq9 hP hD hS hl)
      · refine lv_tableOut (tgt := 1005) hx hb dL_law_39 (Or.inr (by decide)) (by decide) ?_
        exact W.widen (k := 17 + k + 1) (n := 860 + 6 * k + 6) (by omega) (by omega) (K κ μ out H locs ls hq9 hP hD hS hl)
      · refine lv_tableOut (tgt := 1005) hx hb dL_law_39 (Or.inr (by decide)) (by decide) ?_
        exact W.widen (k := 17 + k + 1) (n := 860 + 6 * k + 6) (by omega) (by omega) (K κ μ out H locs ls hq9 hP hD hS hl)
      · refine lv_tableOut (tgt := 1005) hx hb dL_law_39 (Or.inr (by decide)) (by decide) ?_
        exact W.widen (k := 17 + k + 1) (n := 860 + 6 * k + 6) (by omega) (by omega) (K κ μ out H locs ls hq9 hP hD hS hl)
      · refine lv_tableOut (tgt := 1005) hx hb dL_law_39 (Or.inr (by decide)) (by decide) ?_
        exact W.widen (k := 17 + k + 1) (n := 860 + 6 * k + 6) (by omega) (by omega) (K κ μ out H locs ls hq9 hP hD hS hl)
      · refine lv_tableOut (tgt := 1005) hx hb dL_law_39 (Or.inr (by decide)) (by decide) ?_
        exact W.widen (k := 17 + k + 1) (n := 860 + 6 * k + 6) (by omega) (by omega) (K κ μ out H locs ls hq9 hP hD hS hl)
      · refine lv_tableOut (tgt := 1005) hx hb dL_law_39 (Or.inr (by decide)) (by decide) ?_
        exact W.widen (k := 17 + k + 1) (n := 860 + 6 * k + 6) (by omega) (by omega) (K κ μ out H locs ls hq9 hP hD hS hl)
      · refine lv_tableOut (tgt := 1005) hx hb dL_law_39 (Or.inr (by decide)) (by decide) ?_
        exact W.widen (k := 17 + k + 1) (n := 860 + 6 * k + 6) (by omega) (by omega) (K κ μ out H locs ls hq9 hP hD hS hl)
      · refine lv_tableOut (tgt := 1005) hx hb dL_law_39 (Or.inr (by decide)) (by decide) ?_
        exact W.widen (k := 17 + k + 1) (n := 860 + 6 * k + 6) (by omega) (by omega) (K κ μ out H locs ls hq9 hP hD hS hl)
