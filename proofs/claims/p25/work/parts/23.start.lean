theorem zB_in : ∀ w ∈ zB, w ∈ lw_tbl := by decide +kernel
theorem zTx_in : ∀ q ∈ zTx, Cond.stringRef RX2 q.1 q.2 ∈ lw_tbl := by decide +kernel
set_option maxHeartbeats 4000000 in
set_option maxRecDepth 100000 in
theorem whole_start {p : Program} {e : Env} {s : State} {m : MethodId} {below : List Frame} {meth : Method} {c : Code} (l : Launch) (hflags : l.flags = flags0) {b L : Nat} {xs : Nat → Int32} (hL : L ≤ 260) (C0 : lw_At p s m meth c b L xs) : W p l e room_1 s m #[Value.ref b] below meth c s.heap [] 0 0 (lw_Z below #[Value.ref b] s) (entryFrame m ([Value.ref b] : List Value).toArray 15) := by
  obtain ⟨hx, hb, hr, hml, hown, htT, hX, hbl, hlocks, hgv⟩ := id C0
  have hts : ∀ w ∈ wsL_law, w.before #[Value.ref b] s = true := fun w h => htT w (wsL_law_in w h)
  have hlt : l.stackTraces = false := by
    show (!l.flags.contains noTraceFlag) = false
    rw [hflags]
    decide +kernel
  have hn := flat_of_before _ hgv
  have n10 : ¬ (1 : Int32) = 0 := by decide
  have hA : ∀ q : Nat, s.heap.size ≤ q → (fun q : Nat => s.heap.size ≤ q) q := fun _ h => h
  have hbA : ¬ (fun q : Nat => s.heap.size ≤ q) b := Nat.not_le.mpr hbl
  have hnA : ∀ a : Nat, a < s.heap.size → ¬ (fun q : Nat => s.heap.size ≤ q) a := fun a h => Nat.not_le.mpr h
  have hZ : zZ (fun q : Nat => s.heap.size ≤ q) s := by
    refine ⟨vx_Zqof (htT _ (by decide +kernel)) (htT _ (by decide +kernel)) (hn _ (by decide +kernel)) hnA, vx_Zqof (htT _ (by decide +kernel)) (htT _ (by decide +kernel)) (hn _ (by decide +kernel)) hnA, ?_, fun w hw => va_Nw.of (List.all_eq_true.mp zB_on w hw) (htT w (zB_in w hw))⟩
    intro q hq
    have hex : (Cond.exactly (.string RX2 q.1) "java/lang/String").before #[Value.ref b] s = true := by
      have hq1 := hq
      simp only [zTx, List.mem_cons, List.not_mem_nil, or_false] at hq1
      rcases hq1 with rfl | rfl | rfl | rfl | rfl | rfl | rfl | rfl | rfl <;> exact hn _ (by decide +kernel)
    obtain ⟨a, cx, cell, kx, he, -⟩ := Cond.exactly_spec hex
    exact ⟨a, vk_R.of (htT _ (zTx_in q hq)) he⟩
  have hNc : zNc s := va_Nc.of (hn _ (by decide +kernel))
  obtain ⟨c0, iS0, hKn0⟩ := u_known (C := RX0) (T := TX0) (N := 1) (n := 1) htT inX0 (htT (.instantiable RX0 1) (by decide +kernel))
  obtain ⟨c1, iS1, hKn1⟩ := u_known (C := RX1) (T := TX1) (N := 2) (n := 2) htT inX1 (htT (.instantiable RX1 2) (by decide +kernel))
  obtain ⟨c2, iS2, hKn2⟩ := u_known (C := RX2) (T := TX2) (N := 10) (n := 10) htT inX2 (htT (.instantiable RX2 10) (by decide +kernel))
  obtain ⟨dC, dI, hKc⟩ : ∃ (dC : Nat → ClassId) (dI : Nat → Nat → Nat), ∀ (k : Nat) (q : vw_C), vwCl[k]? = some q → u_Kn s q.1 q.2.1 q.2.2 (dC k) (dI k) := by
    refine ⟨fun k => if k = 0 then c0 else if k = 1 then c1 else c2, fun k => if k = 0 then iS0 else if k = 1 then iS1 else iS2, ?_⟩
    intro k q hq
    match k, hq with
    | 0, hq => cases hq; exact hKn0
    | 1, hq => cases hq; exact hKn1
    | 2, hq => cases hq; exact hKn2
    | k + 3, hq => simp at hq
  have hS : va_S (fun q : Nat => s.heap.size ≤ q) s.heap s.heap [] := va_S.rf
  have hK0 : va_K (dC, dI) vwCl [] s := ⟨hKc, fun k q h => by simp at h⟩
  obtain ⟨cI, hK⟩ := kI hK0 (hts (.arrayClass .int) (by decide +kernel))
  have hP : va_P (dC, dI) vwCl [] s.heap := fun k q h => by simp at h
  have hD : va_D (fun q : Nat => s.heap.size ≤ q) [] := ⟨fun i j p q h => by simp at h, fun k q h => by simp at h⟩
  have hl := lv_entry ([.ref b]) (n := 15) (Nat.le_of_ble_eq_true rfl)
  rw [lg_entry_eq]
  generalize (lg_sl ([.ref b]) ++ List.replicate (15 - (lg_sl ([.ref b])).length) Slot.unset).toArray = ls at hl ⊢
  have hl : lv_has ls 15 [(0, .ref b)] := hl
  have hinX2 : ∀ w ∈ wsX20, w ∈ wsL_law := inlX2
  refine va_new (ci := 2) (fs := [.null, .null, .null, .null, .int 0, .int 0, .int 0, .int 0, .int 0, .int 0]) (C := RX2) (T := TX2) (N := 10) hx hb hts hinX2 tyX2 tyX2_ok hown (hts (.classLink RL 10 RX2) (by decide +kernel)) (hts (.instantiable RX2 10) (by decide +kernel)) (hts (.initialized RX2) (by decide +kernel)) hK hP hD hS hA rfl (fun j hj => by rcases (show j = 0 ∨ j = 1 ∨ j = 2 ∨ j = 3 ∨ j = 4 ∨ j = 5 ∨ j = 6 ∨ j = 7 ∨ j = 8 ∨ j = 9 by omega) with rfl | rfl | rfl | rfl | rfl | rfl | rfl | rfl | rfl | rfl <;> rfl) (Nat.le_of_ble_eq_true rfl) (Nat.le_of_ble_eq_true rfl) dL_law_0 (fun q2 H hP hD hS => ?_)
  have hP : va_P (dC, dI) vwCl ([(q2, .inr (2, [.null, .null, .null, .null, .int 0, .int 0, .int 0, .int 0, .int 0, .int 0]))]) H := hP
  have hD : va_D (fun q : Nat => s.heap.size ≤ q) ([(q2, .inr (2, [.null, .null, .null, .null, .int 0, .int 0, .int 0, .int 0, .int 0, .int 0]))]) := hD
  refine lv_dup hx hb dL_law_3 rfl ?_
  have hPc := hP.sub (ws' := [(q2, .inr (2, [.null, .null, .null, .null, .int 0, .int 0, .int 0, .int 0, .int 0, .int 0]))]) [0] rfl
  have hDc := hD.sub (ws' := [(q2, .inr (2, [.null, .null, .null, .null, .int 0, .int 0, .int 0, .int 0, .int 0, .int 0]))]) [0] (by decide) rfl
  refine rcV (W2 := fun u => kW cI u.1 u.2) (va_runI (As := []) (rest := [.ref q2]) ⟨hx, hb, hml, hown, hts⟩ (c_X2_init l dC dI cI q2 H.size) (cwI 0 hts gL_law_X2_init rfl rfl rfl (hts (.initialized RX2) (by decide +kernel)) (hts (.methodLink RL 95 yX2_init) (by decide +kernel)) (hts (.instanceMethod yX2_init) (by decide +kernel)) rfl (by decide +kernel) ⟨Nat.le_of_ble_eq_true rfl, Nat.le_of_ble_eq_true rfl⟩) (pW_S hPc hK hDc) rfl rfl hl.1 rfl (lv_room (Nat.le_of_ble_eq_true rfl)) dL_law_4 ⟨Nat.le_of_ble_eq_true rfl, Nat.le_of_ble_eq_true rfl⟩) hP hD hS hA [0] [] [0, 1, 2, 3, 4, 5, 6, 7, 8, 9] rfl rfl (by decide) (fun _ => rfl) (fun u H locs hw hP hD hS => ?_)
  obtain ⟨h, κ⟩ := u
  obtain ⟨eh, k1, k2, k3, k4, k5, k6, k7, k8⟩ := hw
  dsimp only at eh k1 k2 k3 k4 k5 k6 k7 k8
  rw [← eh]
  have hP : va_P (dC, dI) vwCl (kW cI h κ) H := hP
  have hD : va_D (fun q : Nat => s.heap.size ≤ q) (kW cI h κ) := hD
  refine lv_astore_n (lv' := [(1, .ref (h 0)), (0, .ref b)]) hx hb dL_law_7 rfl hl (by decide) rfl (fun ls hl => ?_)
  refine lv_bipush (v := 64) hx hb dL_law_8 (by decide) ?_
  refine nwI (N' := 64) hx hb (hts (.arrayClass .int) (by decide +kernel)) hK hP hD hS hA (by decide) (by decide +kernel) (by decide) (Nat.le_of_ble_eq_true rfl) (Nat.le_of_ble_eq_true rfl) dL_law_10 (fun ad H hP hD hS => ?_)
  have hP : va_P (dC, dI) vwCl (kW cI h κ ++ [(ad, .inl (cI, 64, .inl (fun _ => 0)))]) H := hP
  have hD : va_D (fun q : Nat => s.heap.size ≤ q) (kW cI h κ ++ [(ad, .inl (cI, 64, .inl (fun _ => 0)))]) := hD
  refine lv_astore_n (lv' := [(2, .ref ad), (1, .ref (h 0)), (0, .ref b)]) hx hb dL_law_12 rfl hl (by decide) rfl (fun ls hl => ?_)
  refine lv_bipush (v := 64) hx hb dL_law_13 (by decide) ?_
  refine nwI (N' := 64) hx hb (hts (.arrayClass .int) (by decide +kernel)) hK hP hD hS hA (by decide) (by decide +kernel) (by decide) (Nat.le_of_ble_eq_true rfl) (Nat.le_of_ble_eq_true rfl) dL_law_15 (fun aq H hP hD hS => ?_)
  have hP : va_P (dC, dI) vwCl (LW cI h ad aq κ (fun _ => 0) (fun _ => 0)) H := hP
  have hD : va_D (fun q : Nat => s.heap.size ≤ q) (LW cI h ad aq κ (fun _ => 0) (fun _ => 0)) := hD
  refine lv_astore_n (lv' := [(3, .ref aq), (2, .ref ad), (1, .ref (h 0)), (0, .ref b)]) hx hb dL_law_17 rfl hl (by decide) rfl (fun ls hl => ?_)
  refine lv_iconst (v := 0) hx hb dL_law_18 (by decide) ?_
  refine lv_istore (lv' := [(4, .int 0), (3, .ref aq), (2, .ref ad), (1, .ref (h 0)), (0, .ref b)]) hx hb dL_law_19 hl (by decide) rfl (fun ls hl => ?_)
  have fill : ∀ (j k : Nat), k + j = 64 → ∀ (d f : Nat → Int32), (∀ i, i < k → d i = -1) → (∀ i, i < k → f i = -1) → ∀ (H : Heap) (locs : List Loc) (ls : Array Slot), va_P (dC, dI) vwCl (LW cI h ad aq κ d f) H → va_D (fun q : Nat => s.heap.size ≤ q) (LW cI h ad aq κ d f) → va_S (fun q : Nat => s.heap.size ≤ q) s.heap H locs → lv_has ls 15 [(4, .int (nI k)), (0, .ref b), (1, .ref (h 0)), (2, .ref ad), (3, .ref aq)] → W p l e room_1 s m #[Value.ref b] below meth c H locs (0 + 1 + 9 + 1 + 1) (0 + 10 + 389 + 64 + 64) (lw_Z below #[Value.ref b] s) (F0 m 21 ls []) := by
    intro j
    induction j with
    | zero =>
      intro k hk d f hd hf H locs ls hP hD hS hl
      have e64 : k = 64 := by omega
      subst e64
      refine lv_iload hx hb dL_law_21 (lv_at hl 0 rfl) ?_
      refine lv_bipush (v := 64) hx hb dL_law_23 (by decide) ?_
      refine lv_icmp_ge (tgt := 44) hx hb dL_law_25 (by decide) (fun c_ => ?_) (fun c_ => absurd ((le64 (by omega)).mpr (by omega)) c_)
      have hq : IN κ d f 0 0 0 0 0 := IN.new k1 k2 k3 k4 k5 k6 k7 k8 hd hf
      refine lv_aload_n hx hb dL_law_44 rfl (lv_at hl 2 rfl) ?_
      refine lv_aload_n hx hb dL_law_45 rfl (lv_at hl 3 rfl) ?_
      have hPc := hP.sub (ws' := hW cI h ad κ d) [0, 1, 2, 3, 4, 5, 6, 7, 8, 9, 10] rfl
      have hDc := hD.sub (ws' := hW cI h ad κ d) [0, 1, 2, 3, 4, 5, 6, 7, 8, 9, 10] (by decide) rfl
      refine rcI (wc := hW cI h ad κ d) (W2 := fun _ => LW cI h ad aq κ d f) (va_runS (As := [.ref (h 0), .ref ad]) (rest := []) ⟨hx, hb, hml, hown, hts⟩ (c_has l dC dI cI h ad H.size κ d f 0 0 0 0 0 hq) (va_cwS 2 hts gL_law_L_has rfl rfl rfl (by decide +kernel) ⟨Nat.le_of_ble_eq_true rfl, Nat.le_of_ble_eq_true rfl⟩) (pW_S hPc hK hDc) rfl rfl hl.1 rfl (lv_room (Nat.le_of_ble_eq_true rfl)) dL_law_46 ⟨(by show _ ≤ 193; omega), (by show _ ≤ 1957; omega)⟩) hP hD hS hA [0, 1, 2, 3, 4, 5, 6, 7, 8, 9, 10] [11] [1, 2, 3, 4, 5, 6, 7, 8, 9, 10, 11, 0] rfl rfl (by decide) (fun _ => rfl) (fun r u H locs hw hP hD hS => ?_)
      obtain rfl : r = 1 := hw
      refine lv_istore (lv' := [(4, .int 1), (0, .ref b), (1, .ref (h 0)), (2, .ref ad), (3, .ref aq)]) hx hb dL_law_49 hl (by decide) rfl (fun ls hl => ?_)
      refine lv_iconst (v := 0) hx hb dL_law_51 (by decide) ?_
      refine lv_istore (lv' := [(5, .int 0), (4, .int 1), (0, .ref b), (1, .ref (h 0)), (2, .ref ad), (3, .ref aq)]) hx hb dL_law_52 hl (by decide) rfl (fun ls hl => ?_)
      exact law_loop hlt hr hlocks ⟨hx, hb, hml, hown, hts, hX, hbl, hK, hZ, hNc, hL⟩ 48 0 rfl κ d f 0 0 0 0 hq H locs hP hD hS ls (by rw [nI_0]; exact (lv_sub hl [1, 0, 2, 3, 4, 5] rfl))
    | succ j ih =>
      intro k hk d f hd hf H locs ls hP hD hS hl
      have h64 : k < 64 := by omega
      refine lv_iload hx hb dL_law_21 (lv_at hl 0 rfl) ?_
      refine lv_bipush (v := 64) hx hb dL_law_23 (by decide) ?_
      refine lv_icmp_ge (tgt := 44) hx hb dL_law_25 (by decide) (fun c_ => absurd c_ (fun e => absurd ((le64 (by omega)).mp e) (by omega))) (fun c_ => ?_)
      refine lv_aload_n hx hb dL_law_28 rfl (lv_at hl 3 rfl) ?_
      refine lv_iload hx hb dL_law_29 (lv_at hl 0 rfl) ?_
      refine lv_iconst (v := (-1)) hx hb dL_law_31 (by decide) ?_
      refine va_iast hx hb hK hP hD hS 10 0 rfl rfl (vp_in_nI (by omega) (by decide)) dL_law_32 (fun H locs hP hD hS => ?_)
      rw [nI_clamp (show k < 2 ^ 31 by omega)] at hP hD
      have hP : va_P (dC, dI) vwCl (LW cI h ad aq κ (upd d k (-1)) f) H := hP
      have hD : va_D (fun q : Nat => s.heap.size ≤ q) (LW cI h ad aq κ (upd d k (-1)) f) := hD
      refine lv_aload_n hx hb dL_law_33 rfl (lv_at hl 4 rfl) ?_
      refine lv_iload hx hb dL_law_34 (lv_at hl 0 rfl) ?_
      refine lv_iconst (v := (-1)) hx hb dL_law_36 (by decide) ?_
      refine va_iast hx hb hK hP hD hS 11 0 rfl rfl (vp_in_nI (by omega) (by decide)) dL_law_37 (fun H locs hP hD hS => ?_)
      rw [nI_clamp (show k < 2 ^ 31 by omega)] at hP hD
      have hP : va_P (dC, dI) vwCl (LW cI h ad aq κ (upd d k (-1)) (upd f k (-1))) H := hP
      have hD : va_D (fun q : Nat => s.heap.size ≤ q) (LW cI h ad aq κ (upd d k (-1)) (upd f k (-1))) := hD
      refine lv_iinc (v := nI (k + 1)) (lv' := [(4, .int (nI (k + 1))), (0, .ref b), (1, .ref (h 0)), (2, .ref ad), (3, .ref aq)]) hx hb dL_law_38 hl (k := 0) rfl (by rw [← nI_1]; rfl) (by decide) rfl (fun ls hl => ?_)
      refine lv_goto (tgt := 21) hx hb dL_law_41 (by decide) ?_
      have hd2 : ∀ i, i < k + 1 → upd d k (-1) i = -1 := fun i hi => by
        by_cases e : i = k
        · subst e; exact pk_us
        · rw [pk_un e]; exact hd i (by omega)
      have hf2 : ∀ i, i < k + 1 → upd f k (-1) i = -1 := fun i hi => by
        by_cases e : i = k
        · subst e; exact pk_us
        · rw [pk_un e]; exact hf i (by omega)
      exact ih (k + 1) (by omega) _ _ hd2 hf2 H locs ls hP hD hS (lv_sub hl [0, 1, 2, 3, 4] rfl)
  exact fill 64 0 rfl _ _ (fun i hi => absurd hi (Nat.not_lt_zero i)) (fun i hi => absurd hi (Nat.not_lt_zero i)) H _ ls hP hD hS (by rw [nI_0]; exact (lv_sub hl [0, 4, 3, 2, 1] rfl))
