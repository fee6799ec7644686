theorem kI {D : va_G} {s : State} {args : Array Value} (hK : va_K D vwCl [] s) (h : (Cond.arrayClass .int).before args s = true) : ∃ cI : ClassId, va_K D vwCl [(cI, .int)] s := by
  obtain ⟨cA, kA, comp, h1, h2, h3⟩ := Cond.arrayClass_spec h
  refine ⟨cA, hK.1, fun k q hq => ?_⟩
  have hz : k < 1 := (List.getElem?_eq_some_iff.mp hq).1
  rw [show k = 0 by omega] at hq
  cases hq
  exact ⟨fun n z => ⟨fun k h => (by cases h), kA, h2, comp, h3⟩, h1⟩
section NEWI
variable {p : Program} {l : Launch} {e : Env} {R : Room} {s : State} {m : MethodId} {args : Array Value} {below : List Frame} {meth : Method} {c : Code} {H : Heap} {locs : List Loc} {cells slots : Nat} {Q : State → Prop}
variable {A : Nat → Prop} {H0 : Heap} {pc : Nat} {ls : Array Slot} {rest : List Value} {D : va_G} {ws : va_W} {cc : ByteArray} {cI : ClassId}
theorem nwI (hexec : p.tables.exec = Jvm.exec) (hb : c.code = cc) (harr : (Cond.arrayClass .int).before args s = true) (hK : va_K D vwCl [(cI, .int)] s) (hP : va_P D vwCl ws H) (hD : va_D A ws) (hS : va_S A H0 H locs) (hA : ∀ q, H0.size ≤ q → A q)
    {n : Int32} {N' : Nat} (hn : ¬ n < 0) (hN : n.toNatClampNeg = N') (hbytes : N' * componentBytes .int ≤ 536870912) (hcells : cells + 1 ≤ R.cells) (hslots : slots + N' ≤ R.slots) (hdg : decode cc pc = .ok (.newarray .int, 2))
    (kk : ∀ (q : Nat) (H1 : Heap), va_P D vwCl (ws ++ [(q, .inl (cI, N', .inl (fun _ => 0)))]) H1 → va_D A (ws ++ [(q, .inl (cI, N', .inl (fun _ => 0)))]) → va_S A H0 H1 locs →
      W p l e R s m args below meth c H1 locs (cells + 1) (slots + N') Q (F0 m (pc + 2) ls (.ref q :: rest))) : W p l e R s m args below meth c H locs cells slots Q (F0 m pc ls (.int n :: rest)) := by
  refine va_newa (a0 := (N', .inl (fun _ => 0))) (ty := .int) hexec hb (atype := .int) harr rfl hK hP hD hS hA (fun cA => rfl) hn hN hbytes hcells hslots hdg (fun q cA H1 hK1 hP1 hD1 hS1 => ?_)
  have e : cA = cI := by
    have e1 := va_nm_int (hK1.2 1 (cA, .int) rfl).2
    have e2 := va_nm_int (hK.2 0 (cI, .int) rfl).2
    exact Option.some.inj (e1.symm.trans e2)
  subst e
  exact kk q H1 hP1 hD1 hS1
end NEWI
theorem fill_l (v : Int32) : ∀ (j n i : Nat) (f : Nat → Int32), i + j = 64 → j < n → (∀ k, k < i → f k = v) → sl_J7_fill_53178_5 64 v n f (nI i) ∧ ∀ k, k < 64 → (l_J7_fill_53178_5 64 v n f (nI i)).1 k = v := by
  intro j
  induction j with
  | zero =>
    intro n i f hi hn hf
    obtain ⟨n, rfl⟩ := sc hn
    have h64 : (64 : Int32) ≤ nI i := (le64 (by omega)).mpr (by omega)
    rw [sl_J7_fill_53178_5_s, l_J7_fill_53178_5_s, if_pos h64]
    exact ⟨⟨fun _ => trivial, fun h => absurd h64 h⟩, fun k hk => hf k (by omega)⟩
  | succ j ih =>
    intro n i f hi hn hf
    obtain ⟨n, rfl⟩ := sc hn
    have h64 : ¬ (64 : Int32) ≤ nI i := fun e => absurd ((le64 (by omega)).mp e) (by omega)
    have hin : vp_in (nI i) 64 := vp_in_nI (by omega) (by decide)
    rw [sl_J7_fill_53178_5_s, l_J7_fill_53178_5_s, if_neg h64, nI_clamp (by omega), nI_1]
    have h1 := ih n (i + 1) (upd f i v) (by omega) (by omega) (fun k hk => by
      by_cases e : k = i
      · subst e; exact pk_us
      · rw [pk_un e]; exact hf k (by omega))
    exact ⟨⟨fun h => absurd h h64, fun _ => ⟨hin, h1.1⟩⟩, h1.2⟩
theorem fill_n (v : Int32) (f : Nat → Int32) : s_J7_fill_53178 f v ∧ ∀ k, k < 64 → v_J7_fill_53178 f v k = v := by
  have h := fill_l v 64 100 0 f rfl (by decide) (fun k hk => absurd hk (Nat.not_lt_zero k))
  rw [nI_0] at h
  exact ⟨⟨h.1, trivial⟩, h.2⟩
set_option maxHeartbeats 2000000 in
set_option maxRecDepth 100000 in
/-- an index: 64 times -1 -/
theorem c_X0_init (l : Launch) (dC : Nat → ClassId) (dI : Nat → Nat → Nat) (cI : ClassId) (a : Nat) (sz : Nat) : Met l yX0_init wsX0_init ({ frames := 1, cells := 1, slots := 64, locals := 23 }) (va_Pc [.ref a] (pW (dC, dI) [(cI, .int)] ([(a, .inr (0, [.null]))]) sz)) (va_Qv (fun (u : Nat × (Nat → Int32)) => ∀ k, k < 64 → u.2 k = -1) (qW (dC, dI) (va_A ([(a, .inr (0, [.null]))]) sz) (fun u => iW cI a u.1 u.2)) (va_A ([(a, .inr (0, [.null]))]) sz)) 1 64 (va_A ([(a, .inr (0, [.null]))]) sz) := by
  refine Met.ofW (cc := cX0_init) (maxL := 1) (ret := none) (by decide) rfl ?_
  intro p e s m args below meth c s₁ B hml hv
  obtain ⟨rfl, hsz, hP, hK, hD0⟩ := hv
  have hx := B.exec
  have hb := B.bytes
  have hr := B.returns
  have hts := atoms_spec (ws := wsX0_init) B.pre
  have hown : s.vm.findClass RX0 = some m.cls := findClass_of_methodNamed B.named
  have hlocks := B.notSynchronized
  have hin : meth.name = "<init>" := (name_of_methodNamed B.named B.method).1
  subst hsz
  have hD := hD0.self (sz := s.heap.size)
  generalize hAe : va_A ([(a, .inr (0, [.null]))]) s.heap.size = A at hD ⊢
  have hA : ∀ q : Nat, s.heap.size ≤ q → A q := fun q h => by rw [← hAe]; exact Or.inr h
  have hl := lv_entry ([.ref a]) (n := 1) (Nat.le_of_ble_eq_true rfl)
  rw [lg_entry_eq]
  generalize (lg_sl ([.ref a]) ++ List.replicate (1 - (lg_sl ([.ref a])).length) Slot.unset).toArray = ls at hl ⊢
  have hl : lv_has ls 1 [(0, .ref a)] := hl
  generalize hHe : s.heap = H at hP ⊢
  generalize hLe : ([] : List Loc) = locs
  have hS : va_S A s.heap H locs := by
    rw [← hLe, ← hHe]
    exact va_S.rf
  have hinX0 : ∀ w ∈ wsX00, w ∈ wsX0_init := by decide +kernel
  refine lv_aload_n hx hb dX0_init_0 rfl (lv_at hl 0 rfl) ?_
  refine W.objInit hx hb hown (hts (.methodLink RX0 3 objectInit) (by decide +kernel)) (hts (.instanceMethod objectInit) (by decide +kernel)) (hts (.code objectInit ⟨#[0xb1]⟩ 1 none) (by decide +kernel)) rfl (by rw [hml]; exact hl.1) rfl dX0_init_1 (Nat.le_of_ble_eq_true rfl) (Nat.le_of_ble_eq_true rfl) ?_
  refine W.eq (g2 := F0 m 4 ls []) rfl ?_
  refine lv_aload_n hx hb dX0_init_4 rfl (lv_at hl 0 rfl) ?_
  refine lv_bipush (v := 64) hx hb dX0_init_5 (by decide) ?_
  refine nwI (N' := 64) hx hb (hts (.arrayClass .int) (by decide +kernel)) hK hP hD hS hA (by decide) (by decide +kernel) (by decide) (Nat.le_of_ble_eq_true rfl) (Nat.le_of_ble_eq_true rfl) dX0_init_7 (fun b H hP hD hS => ?_)
  have hP : va_P (dC, dI) vwCl ([(a, .inr (0, [.null])), (b, .inl (cI, 64, .inl (fun _ => 0)))]) H := hP
  have hD : va_D A ([(a, .inr (0, [.null])), (b, .inl (cI, 64, .inl (fun _ => 0)))]) := hD
  refine va_putF (D := (dC, dI)) (ci := 0) (v := .ref b) (ty := .array .int) (C := RX0) (T := TX0) (N := 1) hx hb hts hinX0 tyX0 tyX0_ok nmX0 hown hK hP hD hS 0 rfl rfl 0 (by decide) (hts (.fieldLink RX0 9 "Keysapart$Index" "positions" "[I") (by decide +kernel)) (fun _ h9 => h9) rfl hin rfl (by decide +kernel) rfl rfl (Nat.le_of_ble_eq_true rfl) dX0_init_9 (fun H locs hP hD hS => ?_)
  have hP : va_P (dC, dI) vwCl ([(a, .inr (0, [.ref b])), (b, .inl (cI, 64, .inl (fun _ => 0)))]) H := hP
  have hD : va_D A ([(a, .inr (0, [.ref b])), (b, .inl (cI, 64, .inl (fun _ => 0)))]) := hD
  refine lv_aload_n hx hb dX0_init_12 rfl (lv_at hl 0 rfl) ?_
  refine va_get (D := (dC, dI)) (ci := 0) (v := .ref b) (C := RX0) (T := TX0) (N := 1) hx hb hts hinX0 hown hK hP 0 rfl rfl 0 (by decide) (hts (.fieldLink RX0 9 "Keysapart$Index" "positions" "[I") (by decide +kernel)) (fun _ h9 => h9) rfl dX0_init_13 ?_
  refine lv_iconst (v := (-1)) hx hb dX0_init_16 (by decide) ?_
  have hPc := hP.sub (ws' := [(b, .inl (cI, 64, .inl (fun _ => 0)))]) [1] rfl
  have hDc := hD.sub (ws' := [(b, .inl (cI, 64, .inl (fun _ => 0)))]) [1] (by decide) rfl
  refine rcV (W2 := fun u => iW cI a b u) (va_runS (As := [.ref b, .int (-1)]) (rest := []) ⟨hx, hb, hml, hown, hts⟩ (c_J7_fill_53178 l dC dI cI b H.size (fun _ => 0) (-1) (fill_n _ _).1) (va_cwS 2 hts gX0_init_J7_fill_53178 rfl rfl rfl (by decide +kernel) ⟨Nat.le_of_ble_eq_true rfl, Nat.le_of_ble_eq_true rfl⟩) (pW_S hPc hK hDc) rfl rfl hl.1 rfl (lv_room (Nat.le_of_ble_eq_true rfl)) dX0_init_17 ⟨Nat.le_of_ble_eq_true rfl, Nat.le_of_ble_eq_true rfl⟩) hP hD hS hA [1] [0] [0, 1] rfl rfl (by decide) (fun _ => rfl) (fun u H locs hw hP hD hS => ?_)
  exact rV (w := fun (u : Nat × (Nat → Int32)) => iW cI a u.1 u.2) (b, u) hx hb hr hlocks hP hD hS (Nat.le_of_ble_eq_true rfl) (Nat.le_of_ble_eq_true rfl) dX0_init_20 (by exact fun k hk => by rw [hw]; exact (fill_n _ _).2 k hk)
set_option maxHeartbeats 2000000 in
set_option maxRecDepth 100000 in
/-- the log -/
theorem c_X1_init (l : Launch) (dC : Nat → ClassId) (dI : Nat → Nat → Nat) (cI : ClassId) (a : Nat) (sz : Nat) : Met l yX1_init wsX1_init ({ frames := 1, cells := 2, slots := 192, locals := 12 }) (va_Pc [.ref a] (pW (dC, dI) [(cI, .int)] ([(a, .inr (1, [.null, .null]))]) sz)) (va_Qv (fun (u : Nat × Nat × (Nat → Int32) × (Nat → Int32)) => True) (qW (dC, dI) (va_A ([(a, .inr (1, [.null, .null]))]) sz) (fun u => gW cI a u.1 u.2.1 u.2.2)) (va_A ([(a, .inr (1, [.null, .null]))]) sz)) 2 192 (va_A ([(a, .inr (1, [.null, .null]))]) sz) := by
  refine Met.ofW (cc := cX1_init) (maxL := 1) (ret := none) (by decide) rfl ?_
  intro p e s m args below meth c s₁ B hml hv
  obtain ⟨rfl, hsz, hP, hK, hD0⟩ := hv
  have hx := B.exec
  have hb := B.bytes
  have hr := B.returns
  have hts := atoms_spec (ws := wsX1_init) B.pre
  have hown : s.vm.findClass RX1 = some m.cls := findClass_of_methodNamed B.named
  have hlocks := B.notSynchronized
  have hin : meth.name = "<init>" := (name_of_methodNamed B.named B.method).1
  subst hsz
  have hD := hD0.self (sz := s.heap.size)
  generalize hAe : va_A ([(a, .inr (1, [.null, .null]))]) s.heap.size = A at hD ⊢
  have hA : ∀ q : Nat, s.heap.size ≤ q → A q := fun q h => by rw [← hAe]; exact Or.inr h
  have hl := lv_entry ([.ref a]) (n := 1) (Nat.le_of_ble_eq_true rfl)
  rw [lg_entry_eq]
  generalize (lg_sl ([.ref a]) ++ List.replicate (1 - (lg_sl ([.ref a])).length) Slot.unset).toArray = ls at hl ⊢
  have hl : lv_has ls 1 [(0, .ref a)] := hl
  generalize hHe : s.heap = H at hP ⊢
  generalize hLe : ([] : List Loc) = locs
  have hS : va_S A s.heap H locs := by
    rw [← hLe, ← hHe]
    exact va_S.rf
  have hinX1 : ∀ w ∈ wsX10, w ∈ wsX1_init := by decide +kernel
  refine lv_aload_n hx hb dX1_init_0 rfl (lv_at hl 0 rfl) ?_
  refine W.objInit hx hb hown (hts (.methodLink RX1 3 objectInit) (by decide +kernel)) (hts (.instanceMethod objectInit) (by decide +kernel)) (hts (.code objectInit ⟨#[0xb1]⟩ 1 none) (by decide +kernel)) rfl (by rw [hml]; exact hl.1) rfl dX1_init_1 (Nat.le_of_ble_eq_true rfl) (Nat.le_of_ble_eq_true rfl) ?_
  refine W.eq (g2 := F0 m 4 ls []) rfl ?_
  refine lv_aload_n hx hb dX1_init_4 rfl (lv_at hl 0 rfl) ?_
  refine lv_bipush (v := 96) hx hb dX1_init_5 (by decide) ?_
  refine nwI (N' := 96) hx hb (hts (.arrayClass .int) (by decide +kernel)) hK hP hD hS hA (by decide) (by decide +kernel) (by decide) (Nat.le_of_ble_eq_true rfl) (Nat.le_of_ble_eq_true rfl) dX1_init_7 (fun b H hP hD hS => ?_)
  have hP : va_P (dC, dI) vwCl ([(a, .inr (1, [.null, .null])), (b, .inl (cI, 96, .inl (fun _ => 0)))]) H := hP
  have hD : va_D A ([(a, .inr (1, [.null, .null])), (b, .inl (cI, 96, .inl (fun _ => 0)))]) := hD
  refine va_putF (D := (dC, dI)) (ci := 1) (v := .ref b) (ty := .array .int) (C := RX1) (T := TX1) (N := 2) hx hb hts hinX1 tyX1 tyX1_ok nmX1 hown hK hP hD hS 0 rfl rfl 0 (by decide) (hts (.fieldLink RX1 9 "Keysapart$Log" "keys" "[I") (by decide +kernel)) (fun _ h9 => h9) rfl hin rfl (by decide +kernel) rfl rfl (Nat.le_of_ble_eq_true rfl) dX1_init_9 (fun H locs hP hD hS => ?_)
  have hP : va_P (dC, dI) vwCl ([(a, .inr (1, [.ref b, .null])), (b, .inl (cI, 96, .inl (fun _ => 0)))]) H := hP
  have hD : va_D A ([(a, .inr (1, [.ref b, .null])), (b, .inl (cI, 96, .inl (fun _ => 0)))]) := hD
  refine lv_aload_n hx hb dX1_init_12 rfl (lv_at hl 0 rfl) ?_
  refine lv_bipush (v := 96) hx hb dX1_init_13 (by decide) ?_
  refine nwI (N' := 96) hx hb (hts (.arrayClass .int) (by decide +kernel)) hK hP hD hS hA (by decide) (by decide +kernel) (by decide) (Nat.le_of_ble_eq_true rfl) (Nat.le_of_ble_eq_true rfl) dX1_init_15 (fun c9 H hP hD hS => ?_)
  have hP : va_P (dC, dI) vwCl ([(a, .inr (1, [.ref b, .null])), (b, .inl (cI, 96, .inl (fun _ => 0))), (c9, .inl (cI, 96, .inl (fun _ => 0)))]) H := hP
  have hD : va_D A ([(a, .inr (1, [.ref b, .null])), (b, .inl (cI, 96, .inl (fun _ => 0))), (c9, .inl (cI, 96, .inl (fun _ => 0)))]) := hD
  refine va_putF (D := (dC, dI)) (ci := 1) (v := .ref c9) (ty := .array .int) (C := RX1) (T := TX1) (N := 2) hx hb hts hinX1 tyX1 tyX1_ok nmX1 hown hK hP hD hS 0 rfl rfl 1 (by decide) (hts (.fieldLink RX1 15 "Keysapart$Log" "values" "[I") (by decide +kernel)) (fun _ h9 => h9) rfl hin rfl (by decide +kernel) rfl rfl (Nat.le_of_ble_eq_true rfl) dX1_init_17 (fun H locs hP hD hS => ?_)
  have hP : va_P (dC, dI) vwCl ([(a, .inr (1, [.ref b, .ref c9])), (b, .inl (cI, 96, .inl (fun _ => 0))), (c9, .inl (cI, 96, .inl (fun _ => 0)))]) H := hP
  have hD : va_D A ([(a, .inr (1, [.ref b, .ref c9])), (b, .inl (cI, 96, .inl (fun _ => 0))), (c9, .inl (cI, 96, .inl (fun _ => 0)))]) := hD
  exact rV (w := fun (u : Nat × Nat × (Nat → Int32) × (Nat → Int32)) => gW cI a u.1 u.2.1 u.2.2) (b, c9, (fun _ => 0), (fun _ => 0)) hx hb hr hlocks hP hD hS (Nat.le_of_ble_eq_true rfl) (Nat.le_of_ble_eq_true rfl) dX1_init_20 (by exact trivial)
set_option maxHeartbeats 2000000 in
set_option maxRecDepth 100000 in
/-- the class: its log, its three indices -/
theorem c_X2_init (l : Launch) (dC : Nat → ClassId) (dI : Nat → Nat → Nat) (cI : ClassId) (a : Nat) (sz : Nat) : Met l yX2_init wsX2_init ({ frames := 2, cells := 9, slots := 389, locals := 43 }) (va_Pc [.ref a] (pW (dC, dI) [(cI, .int)] ([(a, .inr (2, [.null, .null, .null, .null, .int 0, .int 0, .int 0, .int 0, .int 0, .int 0]))]) sz)) (va_Qv (fun (u : (Nat → Nat) × KS) => u.1 0 = a ∧ kUp u.2 = 1 ∧ kHd u.2 = 0 ∧ kTl u.2 = 0 ∧ kWr u.2 = 0 ∧ kCt u.2 = 0 ∧ kAh u.2 = -1 ∧ (∀ k, k < 64 → kIx u.2 k = -1) ∧ (∀ k, k < 64 → kCi u.2 k = -1)) (qW (dC, dI) (va_A ([(a, .inr (2, [.null, .null, .null, .null, .int 0, .int 0, .int 0, .int 0, .int 0, .int 0]))]) sz) (fun u => kW cI u.1 u.2)) (va_A ([(a, .inr (2, [.null, .null, .null, .null, .int 0, .int 0, .int 0, .int 0, .int 0, .int 0]))]) sz)) 9 389 (va_A ([(a, .inr (2, [.null, .null, .null, .null, .int 0, .int 0, .int 0, .int 0, .int 0, .int 0]))]) sz) := by
  refine Met.ofW (cc := cX2_init) (maxL := 1) (ret := none) (by decide) rfl ?_
  intro p e s m args below meth c s₁ B hml hv
  obtain ⟨rfl, hsz, hP, hK, hD0⟩ := hv
  have hx := B.exec
  have hb := B.bytes
  have hr := B.returns
  have hts := atoms_spec (ws := wsX2_init) B.pre
  have hown : s.vm.findClass RX2 = some m.cls := findClass_of_methodNamed B.named
  have hlocks := B.notSynchronized
  have hin : meth.name = "<init>" := (name_of_methodNamed B.named B.method).1
  subst hsz
  have hD := hD0.self (sz := s.heap.size)
  generalize hAe : va_A ([(a, .inr (2, [.null, .null, .null, .null, .int 0, .int 0, .int 0, .int 0, .int 0, .int 0]))]) s.heap.size = A at hD ⊢
  have hA : ∀ q : Nat, s.heap.size ≤ q → A q := fun q h => by rw [← hAe]; exact Or.inr h
  have hl := lv_entry ([.ref a]) (n := 1) (Nat.le_of_ble_eq_true rfl)
  rw [lg_entry_eq]
  generalize (lg_sl ([.ref a]) ++ List.replicate (1 - (lg_sl ([.ref a])).length) Slot.unset).toArray = ls at hl ⊢
  have hl : lv_has ls 1 [(0, .ref a)] := hl
  generalize hHe : s.heap = H at hP ⊢
  generalize hLe : ([] : List Loc) = locs
  have hS : va_S A s.heap H locs := by
    rw [← hLe, ← hHe]
    exact va_S.rf
  have hinX2 : ∀ w ∈ wsX20, w ∈ wsX2_init := by decide +kernel
  have hinX0 : ∀ w ∈ wsX00, w ∈ wsX2_init := by decide +kernel
  have hinX1 : ∀ w ∈ wsX10, w ∈ wsX2_init := by decide +kernel
  refine lv_aload_n hx hb dX2_init_0 rfl (lv_at hl 0 rfl) ?_
  refine W.objInit hx hb hown (hts (.methodLink RX2 3 objectInit) (by decide +kernel)) (hts (.instanceMethod objectInit) (by decide +kernel)) (hts (.code objectInit ⟨#[0xb1]⟩ 1 none) (by decide +kernel)) rfl (by rw [hml]; exact hl.1) rfl dX2_init_1 (Nat.le_of_ble_eq_true rfl) (Nat.le_of_ble_eq_true rfl) ?_
  refine W.eq (g2 := F0 m 4 ls []) rfl ?_
  refine lv_aload_n hx hb dX2_init_4 rfl (lv_at hl 0 rfl) ?_
  refine va_new (ci := 1) (fs := [.null, .null]) (C := RX1) (T := TX1) (N := 2) hx hb hts hinX1 tyX1 tyX1_ok hown (hts (.classLink RX2 9 RX1) (by decide +kernel)) (hts (.instantiable RX1 2) (by decide +kernel)) (hts (.initialized RX1) (by decide +kernel)) hK hP hD hS hA rfl (fun j hj => by rcases (show j = 0 ∨ j = 1 by omega) with rfl | rfl <;> rfl) (Nat.le_of_ble_eq_true rfl) (Nat.le_of_ble_eq_true rfl) dX2_init_5 (fun qg H hP hD hS => ?_)
  have hP : va_P (dC, dI) vwCl ([(a, .inr (2, [.null, .null, .null, .null, .int 0, .int 0, .int 0, .int 0, .int 0, .int 0])), (qg, .inr (1, [.null, .null]))]) H := hP
  have hD : va_D A ([(a, .inr (2, [.null, .null, .null, .null, .int 0, .int 0, .int 0, .int 0, .int 0, .int 0])), (qg, .inr (1, [.null, .null]))]) := hD
  refine lv_dup hx hb dX2_init_8 rfl ?_
  have hPc := hP.sub (ws' := [(qg, .inr (1, [.null, .null]))]) [1] rfl
  have hDc := hD.sub (ws' := [(qg, .inr (1, [.null, .null]))]) [1] (by decide) rfl
  refine rcV (W2 := fun u => [(a, .inr (2, [.null, .null, .null, .null, .int 0, .int 0, .int 0, .int 0, .int 0, .int 0])), (qg, .inr (1, [.ref u.1, .ref u.2.1])), (u.1, .inl (cI, 96, .inl u.2.2.1)), (u.2.1, .inl (cI, 96, .inl u.2.2.2))]) (va_runI (As := []) (rest := [.ref qg, .ref a]) ⟨hx, hb, hml, hown, hts⟩ (c_X1_init l dC dI cI qg H.size) (cwI 0 hts gX2_init_X1_init rfl rfl rfl (hts (.initialized RX1) (by decide +kernel)) (hts (.methodLink RX2 11 yX1_init) (by decide +kernel)) (hts (.instanceMethod yX1_init) (by decide +kernel)) rfl (by decide +kernel) ⟨Nat.le_of_ble_eq_true rfl, Nat.le_of_ble_eq_true rfl⟩) (pW_S hPc hK hDc) rfl rfl hl.1 rfl (lv_room (Nat.le_of_ble_eq_true rfl)) dX2_init_9 ⟨Nat.le_of_ble_eq_true rfl, Nat.le_of_ble_eq_true rfl⟩) hP hD hS hA [1] [0] [0, 1, 2, 3] rfl rfl (by decide) (fun _ => rfl) (fun u H locs hwg hP hD hS => ?_)
  obtain ⟨qk, qv, fk, fv⟩ := u
  have hP : va_P (dC, dI) vwCl ([(a, .inr (2, [.null, .null, .null, .null, .int 0, .int 0, .int 0, .int 0, .int 0, .int 0])), (qg, .inr (1, [.ref qk, .ref qv])), (qk, .inl (cI, 96, .inl fk)), (qv, .inl (cI, 96, .inl fv))]) H := hP
  have hD : va_D A ([(a, .inr (2, [.null, .null, .null, .null, .int 0, .int 0, .int 0, .int 0, .int 0, .int 0])), (qg, .inr (1, [.ref qk, .ref qv])), (qk, .inl (cI, 96, .inl fk)), (qv, .inl (cI, 96, .inl fv))]) := hD
  refine va_putF (D := (dC, dI)) (ci := 2) (v := .ref qg) (ty := .object "Keysapart$Log") (C := RX2) (T := TX2) (N := 10) hx hb hts hinX2 tyX2 tyX2_ok nmX2 hown hK hP hD hS 0 rfl rfl 0 (by decide) (hts (.fieldLink RX2 12 "Keysapart" "log" "LKeysapart$Log;") (by decide +kernel)) (fun _ h9 => h9) rfl hin rfl (by decide +kernel) rfl rfl (Nat.le_of_ble_eq_true rfl) dX2_init_12 (fun H locs hP hD hS => ?_)
  have hP : va_P (dC, dI) vwCl ([(a, .inr (2, [.ref qg, .null, .null, .null, .int 0, .int 0, .int 0, .int 0, .int 0, .int 0])), (qg, .inr (1, [.ref qk, .ref qv])), (qk, .inl (cI, 96, .inl fk)), (qv, .inl (cI, 96, .inl fv))]) H := hP
  have hD : va_D A ([(a, .inr (2, [.ref qg, .null, .null, .null, .int 0, .int 0, .int 0, .int 0, .int 0, .int 0])), (qg, .inr (1, [.ref qk, .ref qv])), (qk, .inl (cI, 96, .inl fk)), (qv, .inl (cI, 96, .inl fv))]) := hD
  refine lv_aload_n hx hb dX2_init_15 rfl (lv_at hl 0 rfl) ?_
  refine va_new (ci := 0) (fs := [.null]) (C := RX0) (T := TX0) (N := 1) hx hb hts hinX0 tyX0 tyX0_ok hown (hts (.classLink RX2 16 RX0) (by decide +kernel)) (hts (.instantiable RX0 1) (by decide +kernel)) (hts (.initialized RX0) (by decide +kernel)) hK hP hD hS hA rfl (fun j hj => by rcases (show j = 0 by omega) with rfl <;> rfl) (Nat.le_of_ble_eq_true rfl) (Nat.le_of_ble_eq_true rfl) dX2_init_16 (fun qi H hP hD hS => ?_)
  have hP : va_P (dC, dI) vwCl ([(a, .inr (2, [.ref qg, .null, .null, .null, .int 0, .int 0, .int 0, .int 0, .int 0, .int 0])), (qg, .inr (1, [.ref qk, .ref qv])), (qk, .inl (cI, 96, .inl fk)), (qv, .inl (cI, 96, .inl fv)), (qi, .inr (0, [.null]))]) H := hP
  have hD : va_D A ([(a, .inr (2, [.ref qg, .null, .null, .null, .int 0, .int 0, .int 0, .int 0, .int 0, .int 0])), (qg, .inr (1, [.ref qk, .ref qv])), (qk, .inl (cI, 96, .inl fk)), (qv, .inl (cI, 96, .inl fv)), (qi, .inr (0, [.null]))]) := hD
  refine lv_dup hx hb dX2_init_19 rfl ?_
  have hPc := hP.sub (ws' := [(qi, .inr (0, [.null]))]) [4] rfl
  have hDc := hD.sub (ws' := [(qi, .inr (0, [.null]))]) [4] (by decide) rfl
  refine rcV (W2 := fun u => [(a, .inr (2, [.ref qg, .null, .null, .null, .int 0, .int 0, .int 0, .int 0, .int 0, .int 0])), (qg, .inr (1, [.ref qk, .ref qv])), (qk, .inl (cI, 96, .inl fk)), (qv, .inl (cI, 96, .inl fv)), (qi, .inr (0, [.ref u.1])), (u.1, .inl (cI, 64, .inl u.2))]) (va_runI (As := []) (rest := [.ref qi, .ref a]) ⟨hx, hb, hml, hown, hts⟩ (c_X0_init l dC dI cI qi H.size) (cwI 0 hts gX2_init_X0_init rfl rfl rfl (hts (.initialized RX0) (by decide +kernel)) (hts (.methodLink RX2 18 yX0_init) (by decide +kernel)) (hts (.instanceMethod yX0_init) (by decide +kernel)) rfl (by decide +kernel) ⟨Nat.le_of_ble_eq_true rfl, Nat.le_of_ble_eq_true rfl⟩) (pW_S hPc hK hDc) rfl rfl hl.1 rfl (lv_room (Nat.le_of_ble_eq_true rfl)) dX2_init_20 ⟨Nat.le_of_ble_eq_true rfl, Nat.le_of_ble_eq_true rfl⟩) hP hD hS hA [4] [0, 1, 2, 3] [0, 1, 2, 3, 4, 5] rfl rfl (by decide) (fun _ => rfl) (fun u H locs hwi hP hD hS => ?_)
  obtain ⟨ri, fi⟩ := u
  have hP : va_P (dC, dI) vwCl ([(a, .inr (2, [.ref qg, .null, .null, .null, .int 0, .int 0, .int 0, .int 0, .int 0, .int 0])), (qg, .inr (1, [.ref qk, .ref qv])), (qk, .inl (cI, 96, .inl fk)), (qv, .inl (cI, 96, .inl fv)), (qi, .inr (0, [.ref ri])), (ri, .inl (cI, 64, .inl fi))]) H := hP
  have hD : va_D A ([(a, .inr (2, [.ref qg, .null, .null, .null, .int 0, .int 0, .int 0, .int 0, .int 0, .int 0])), (qg, .inr (1, [.ref qk, .ref qv])), (qk, .inl (cI, 96, .inl fk)), (qv, .inl (cI, 96, .inl fv)), (qi, .inr (0, [.ref ri])), (ri, .inl (cI, 64, .inl fi))]) := hD
  refine va_putF (D := (dC, dI)) (ci := 2) (v := .ref qi) (ty := .object "Keysapart$Index") (C := RX2) (T := TX2) (N := 10) hx hb hts hinX2 tyX2 tyX2_ok nmX2 hown hK hP hD hS 0 rfl rfl 1 (by decide) (hts (.fieldLink RX2 19 "Keysapart" "index" "LKeysapart$Index;") (by decide +kernel)) (fun _ h9 => h9) rfl hin rfl (by decide +kernel) rfl rfl (Nat.le_of_ble_eq_true rfl) dX2_init_23 (fun H locs hP hD hS => ?_)
  have hP : va_P (dC, dI) vwCl ([(a, .inr (2, [.ref qg, .ref qi, .null, .null, .int 0, .int 0, .int 0, .int 0, .int 0, .int 0])), (qg, .inr (1, [.ref qk, .ref qv])), (qk, .inl (cI, 96, .inl fk)), (qv, .inl (cI, 96, .inl fv)), (qi, .inr (0, [.ref ri])), (ri, .inl (cI, 64, .inl fi))]) H := hP
  have hD : va_D A ([(a, .inr (2, [.ref qg, .ref qi, .null, .null, .int 0, .int 0, .int 0, .int 0, .int 0, .int 0])), (qg, .inr (1, [.ref qk, .ref qv])), (qk, .inl (cI, 96, .inl fk)), (qv, .inl (cI, 96, .inl fv)), (qi, .inr (0, [.ref ri])), (ri, .inl (cI, 64, .inl fi))]) := hD
  refine lv_aload_n hx hb dX2_init_26 rfl (lv_at hl 0 rfl) ?_
  refine va_new (ci := 0) (fs := [.null]) (C := RX0) (T := TX0) (N := 1) hx hb hts hinX0 tyX0 tyX0_ok hown (hts (.classLink RX2 16 RX0) (by decide +kernel)) (hts (.instantiable RX0 1) (by decide +kernel)) (hts (.initialized RX0) (by decide +kernel)) hK hP hD hS hA rfl (fun j hj => by rcases (show j = 0 by omega) with rfl <;> rfl) (Nat.le_of_ble_eq_true rfl) (Nat.le_of_ble_eq_true rfl) dX2_init_27 (fun qc H hP hD hS => ?_)
  have hP : va_P (dC, dI) vwCl ([(a, .inr (2, [.ref qg, .ref qi, .null, .null, .int 0, .int 0, .int 0, .int 0, .int 0, .int 0])), (qg, .inr (1, [.ref qk, .ref qv])), (qk, .inl (cI, 96, .inl fk)), (qv, .inl (cI, 96, .inl fv)), (qi, .inr (0, [.ref ri])), (ri, .inl (cI, 64, .inl fi)), (qc, .inr (0, [.null]))]) H := hP
  have hD : va_D A ([(a, .inr (2, [.ref qg, .ref qi, .null, .null, .int 0, .int 0, .int 0, .int 0, .int 0, .int 0])), (qg, .inr (1, [.ref qk, .ref qv])), (qk, .inl (cI, 96, .inl fk)), (qv, .inl (cI, 96, .inl fv)), (qi, .inr (0, [.ref ri])), (ri, .inl (cI, 64, .inl fi)), (qc, .inr (0, [.null]))]) := hD
  refine lv_dup hx hb dX2_init_30 rfl ?_
  have hPc := hP.sub (ws' := [(qc, .inr (0, [.null]))]) [6] rfl
  have hDc := hD.sub (ws' := [(qc, .inr (0, [.null]))]) [6] (by decide) rfl
  refine rcV (W2 := fun u => [(a, .inr (2, [.ref qg, .ref qi, .null, .null, .int 0, .int 0, .int 0, .int 0, .int 0, .int 0])), (qg, .inr (1, [.ref qk, .ref qv])), (qk, .inl (cI, 96, .inl fk)), (qv, .inl (cI, 96, .inl fv)), (qi, .inr (0, [.ref ri])), (ri, .inl (cI, 64, .inl fi)), (qc, .inr (0, [.ref u.1])), (u.1, .inl (cI, 64, .inl u.2))]) (va_runI (As := []) (rest := [.ref qc, .ref a]) ⟨hx, hb, hml, hown, hts⟩ (c_X0_init l dC dI cI qc H.size) (cwI 0 hts gX2_init_X0_init rfl rfl rfl (hts (.initialized RX0) (by decide +kernel)) (hts (.methodLink RX2 18 yX0_init) (by decide +kernel)) (hts (.instanceMethod yX0_init) (by decide +kernel)) rfl (by decide +kernel) ⟨Nat.le_of_ble_eq_true rfl, Nat.le_of_ble_eq_true rfl⟩) (pW_S hPc hK hDc) rfl rfl hl.1 rfl (lv_room (Nat.le_of_ble_eq_true rfl)) dX2_init_31 ⟨Nat.le_of_ble_eq_true rfl, Nat.le_of_ble_eq_true rfl⟩) hP hD hS hA [6] [0, 1, 2, 3, 4, 5] [0, 1, 2, 3, 4, 5, 6, 7] rfl rfl (by decide) (fun _ => rfl) (fun u H locs hwc hP hD hS => ?_)
  obtain ⟨rc, fc⟩ := u
  have hP : va_P (dC, dI) vwCl ([(a, .inr (2, [.ref qg, .ref qi, .null, .null, .int 0, .int 0, .int 0, .int 0, .int 0, .int 0])), (qg, .inr (1, [.ref qk, .ref qv])), (qk, .inl (cI, 96, .inl fk)), (qv, .inl (cI, 96, .inl fv)), (qi, .inr (0, [.ref ri])), (ri, .inl (cI, 64, .inl fi)), (qc, .inr (0, [.ref rc])), (rc, .inl (cI, 64, .inl fc))]) H := hP
  have hD : va_D A ([(a, .inr (2, [.ref qg, .ref qi, .null, .null, .int 0, .int 0, .int 0, .int 0, .int 0, .int 0])), (qg, .inr (1, [.ref qk, .ref qv])), (qk, .inl (cI, 96, .inl fk)), (qv, .inl (cI, 96, .inl fv)), (qi, .inr (0, [.ref ri])), (ri, .inl (cI, 64, .inl fi)), (qc, .inr (0, [.ref rc])), (rc, .inl (cI, 64, .inl fc))]) := hD
  refine va_putF (D := (dC, dI)) (ci := 2) (v := .ref qc) (ty := .object "Keysapart$Index") (C := RX2) (T := TX2) (N := 10) hx hb hts hinX2 tyX2 tyX2_ok nmX2 hown hK hP hD hS 0 rfl rfl 2 (by decide) (hts (.fieldLink RX2 23 "Keysapart" "checkpointIndex" "LKeysapart$Index;") (by decide +kernel)) (fun _ h9 => h9) rfl hin rfl (by decide +kernel) rfl rfl (Nat.le_of_ble_eq_true rfl) dX2_init_34 (fun H locs hP hD hS => ?_)
  have hP : va_P (dC, dI) vwCl ([(a, .inr (2, [.ref qg, .ref qi, .ref qc, .null, .int 0, .int 0, .int 0, .int 0, .int 0, .int 0])), (qg, .inr (1, [.ref qk, .ref qv])), (qk, .inl (cI, 96, .inl fk)), (qv, .inl (cI, 96, .inl fv)), (qi, .inr (0, [.ref ri])), (ri, .inl (cI, 64, .inl fi)), (qc, .inr (0, [.ref rc])), (rc, .inl (cI, 64, .inl fc))]) H := hP
  have hD : va_D A ([(a, .inr (2, [.ref qg, .ref qi, .ref qc, .null, .int 0, .int 0, .int 0, .int 0, .int 0, .int 0])), (qg, .inr (1, [.ref qk, .ref qv])), (qk, .inl (cI, 96, .inl fk)), (qv, .inl (cI, 96, .inl fv)), (qi, .inr (0, [.ref ri])), (ri, .inl (cI, 64, .inl fi)), (qc, .inr (0, [.ref rc])), (rc, .inl (cI, 64, .inl fc))]) := hD
  refine lv_aload_n hx hb dX2_init_37 rfl (lv_at hl 0 rfl) ?_
  refine va_new (ci := 0) (fs := [.null]) (C := RX0) (T := TX0) (N := 1) hx hb hts hinX0 tyX0 tyX0_ok hown (hts (.classLink RX2 16 RX0) (by decide +kernel)) (hts (.instantiable RX0 1) (by decide +kernel)) (hts (.initialized RX0) (by decide +kernel)) hK hP hD hS hA rfl (fun j hj => by rcases (show j = 0 by omega) with rfl <;> rfl) (Nat.le_of_ble_eq_true rfl) (Nat.le_of_ble_eq_true rfl) dX2_init_38 (fun qt H hP hD hS => ?_)
  have hP : va_P (dC, dI) vwCl ([(a, .inr (2, [.ref qg, .ref qi, .ref qc, .null, .int 0, .int 0, .int 0, .int 0, .int 0, .int 0])), (qg, .inr (1, [.ref qk, .ref qv])), (qk, .inl (cI, 96, .inl fk)), (qv, .inl (cI, 96, .inl fv)), (qi, .inr (0, [.ref ri])), (ri, .inl (cI, 64, .inl fi)), (qc, .inr (0, [.ref rc])), (rc, .inl (cI, 64, .inl fc)), (qt, .inr (0, [.null]))]) H := hP
  have hD : va_D A ([(a, .inr (2, [.ref qg, .ref qi, .ref qc, .null, .int 0, .int 0, .int 0, .int 0, .int 0, .int 0])), (qg, .inr (1, [.ref qk, .ref qv])), (qk, .inl (cI, 96, .inl fk)), (qv, .inl (cI, 96, .inl fv)), (qi, .inr (0, [.ref ri])), (ri, .inl (cI, 64, .inl fi)), (qc, .inr (0, [.ref rc])), (rc, .inl (cI, 64, .inl fc)), (qt, .inr (0, [.null]))]) := hD
  refine lv_dup hx hb dX2_init_41 rfl ?_
  have hPc := hP.sub (ws' := [(qt, .inr (0, [.null]))]) [8] rfl
  have hDc := hD.sub (ws' := [(qt, .inr (0, [.null]))]) [8] (by decide) rfl
  refine rcV (W2 := fun u => [(a, .inr (2, [.ref qg, .ref qi, .ref qc, .null, .int 0, .int 0, .int 0, .int 0, .int 0, .int 0])), (qg, .inr (1, [.ref qk, .ref qv])), (qk, .inl (cI, 96, .inl fk)), (qv, .inl (cI, 96, .inl fv)), (qi, .inr (0, [.ref ri])), (ri, .inl (cI, 64, .inl fi)), (qc, .inr (0, [.ref rc])), (rc, .inl (cI, 64, .inl fc)), (qt, .inr (0, [.ref u.1])), (u.1, .inl (cI, 64, .inl u.2))]) (va_runI (As := []) (rest := [.ref qt, .ref a]) ⟨hx, hb, hml, hown, hts⟩ (c_X0_init l dC dI cI qt H.size) (cwI 0 hts gX2_init_X0_init rfl rfl rfl (hts (.initialized RX0) (by decide +kernel)) (hts (.methodLink RX2 18 yX0_init) (by decide +kernel)) (hts (.instanceMethod yX0_init) (by decide +kernel)) rfl (by decide +kernel) ⟨Nat.le_of_ble_eq_true rfl, Nat.le_of_ble_eq_true rfl⟩) (pW_S hPc hK hDc) rfl rfl hl.1 rfl (lv_room (Nat.le_of_ble_eq_true rfl)) dX2_init_42 ⟨Nat.le_of_ble_eq_true rfl, Nat.le_of_ble_eq_true rfl⟩) hP hD hS hA [8] [0, 1, 2, 3, 4, 5, 6, 7] [0, 1, 2, 3, 4, 5, 6, 7, 8, 9] rfl rfl (by decide) (fun _ => rfl) (fun u H locs hwt hP hD hS => ?_)
  obtain ⟨rt, ft⟩ := u
  have hP : va_P (dC, dI) vwCl ([(a, .inr (2, [.ref qg, .ref qi, .ref qc, .null, .int 0, .int 0, .int 0, .int 0, .int 0, .int 0])), (qg, .inr (1, [.ref qk, .ref qv])), (qk, .inl (cI, 96, .inl fk)), (qv, .inl (cI, 96, .inl fv)), (qi, .inr (0, [.ref ri])), (ri, .inl (cI, 64, .inl fi)), (qc, .inr (0, [.ref rc])), (rc, .inl (cI, 64, .inl fc)), (qt, .inr (0, [.ref rt])), (rt, .inl (cI, 64, .inl ft))]) H := hP
  have hD : va_D A ([(a, .inr (2, [.ref qg, .ref qi, .ref qc, .null, .int 0, .int 0, .int 0, .int 0, .int 0, .int 0])), (qg, .inr (1, [.ref qk, .ref qv])), (qk, .inl (cI, 96, .inl fk)), (qv, .inl (cI, 96, .inl fv)), (qi, .inr (0, [.ref ri])), (ri, .inl (cI, 64, .inl fi)), (qc, .inr (0, [.ref rc])), (rc, .inl (cI, 64, .inl fc)), (qt, .inr (0, [.ref rt])), (rt, .inl (cI, 64, .inl ft))]) := hD
  refine va_putF (D := (dC, dI)) (ci := 2) (v := .ref qt) (ty := .object "Keysapart$Index") (C := RX2) (T := TX2) (N := 10) hx hb hts hinX2 tyX2 tyX2_ok nmX2 hown hK hP hD hS 0 rfl rfl 3 (by decide) (hts (.fieldLink RX2 26 "Keysapart" "trialIndex" "LKeysapart$Index;") (by decide +kernel)) (fun _ h9 => h9) rfl hin rfl (by decide +kernel) rfl rfl (Nat.le_of_ble_eq_true rfl) dX2_init_45 (fun H locs hP hD hS => ?_)
  have hP : va_P (dC, dI) vwCl ([(a, .inr (2, [.ref qg, .ref qi, .ref qc, .ref qt, .int 0, .int 0, .int 0, .int 0, .int 0, .int 0])), (qg, .inr (1, [.ref qk, .ref qv])), (qk, .inl (cI, 96, .inl fk)), (qv, .inl (cI, 96, .inl fv)), (qi, .inr (0, [.ref ri])), (ri, .inl (cI, 64, .inl fi)), (qc, .inr (0, [.ref rc])), (rc, .inl (cI, 64, .inl fc)), (qt, .inr (0, [.ref rt])), (rt, .inl (cI, 64, .inl ft))]) H := hP
  have hD : va_D A ([(a, .inr (2, [.ref qg, .ref qi, .ref qc, .ref qt, .int 0, .int 0, .int 0, .int 0, .int 0, .int 0])), (qg, .inr (1, [.ref qk, .ref qv])), (qk, .inl (cI, 96, .inl fk)), (qv, .inl (cI, 96, .inl fv)), (qi, .inr (0, [.ref ri])), (ri, .inl (cI, 64, .inl fi)), (qc, .inr (0, [.ref rc])), (rc, .inl (cI, 64, .inl fc)), (qt, .inr (0, [.ref rt])), (rt, .inl (cI, 64, .inl ft))]) := hD
  refine lv_aload_n hx hb dX2_init_48 rfl (lv_at hl 0 rfl) ?_
  refine lv_iconst (v := 1) hx hb dX2_init_49 (by decide) ?_
  refine va_put (D := (dC, dI)) (ci := 2) (v := .int 1) (ty := .boolean) (C := RX2) (T := TX2) (N := 10) hx hb hts hinX2 tyX2 tyX2_ok nmX2 hown hK hP hD hS 0 rfl rfl 4 (by decide) (hts (.fieldLink RX2 29 "Keysapart" "up" "Z") (by decide +kernel)) (fun _ h9 => h9) rfl (by decide +kernel) rfl rfl (Nat.le_of_ble_eq_true rfl) dX2_init_50 (fun H locs hP hD hS => ?_)
  have hP : va_P (dC, dI) vwCl ([(a, .inr (2, [.ref qg, .ref qi, .ref qc, .ref qt, .int 1, .int 0, .int 0, .int 0, .int 0, .int 0])), (qg, .inr (1, [.ref qk, .ref qv])), (qk, .inl (cI, 96, .inl fk)), (qv, .inl (cI, 96, .inl fv)), (qi, .inr (0, [.ref ri])), (ri, .inl (cI, 64, .inl fi)), (qc, .inr (0, [.ref rc])), (rc, .inl (cI, 64, .inl fc)), (qt, .inr (0, [.ref rt])), (rt, .inl (cI, 64, .inl ft))]) H := hP
  have hD : va_D A ([(a, .inr (2, [.ref qg, .ref qi, .ref qc, .ref qt, .int 1, .int 0, .int 0, .int 0, .int 0, .int 0])), (qg, .inr (1, [.ref qk, .ref qv])), (qk, .inl (cI, 96, .inl fk)), (qv, .inl (cI, 96, .inl fv)), (qi, .inr (0, [.ref ri])), (ri, .inl (cI, 64, .inl fi)), (qc, .inr (0, [.ref rc])), (rc, .inl (cI, 64, .inl fc)), (qt, .inr (0, [.ref rt])), (rt, .inl (cI, 64, .inl ft))]) := hD
  refine lv_aload_n hx hb dX2_init_53 rfl (lv_at hl 0 rfl) ?_
  refine lv_iconst (v := 0) hx hb dX2_init_54 (by decide) ?_
  refine va_put (D := (dC, dI)) (ci := 2) (v := .int 0) (ty := .int) (C := RX2) (T := TX2) (N := 10) hx hb hts hinX2 tyX2 tyX2_ok nmX2 hown hK hP hD hS 0 rfl rfl 5 (by decide) (hts (.fieldLink RX2 33 "Keysapart" "headAt" "I") (by decide +kernel)) (fun _ h9 => h9) rfl (by decide +kernel) rfl rfl (Nat.le_of_ble_eq_true rfl) dX2_init_55 (fun H locs hP hD hS => ?_)
  have hP : va_P (dC, dI) vwCl ([(a, .inr (2, [.ref qg, .ref qi, .ref qc, .ref qt, .int 1, .int 0, .int 0, .int 0, .int 0, .int 0])), (qg, .inr (1, [.ref qk, .ref qv])), (qk, .inl (cI, 96, .inl fk)), (qv, .inl (cI, 96, .inl fv)), (qi, .inr (0, [.ref ri])), (ri, .inl (cI, 64, .inl fi)), (qc, .inr (0, [.ref rc])), (rc, .inl (cI, 64, .inl fc)), (qt, .inr (0, [.ref rt])), (rt, .inl (cI, 64, .inl ft))]) H := hP
  have hD : va_D A ([(a, .inr (2, [.ref qg, .ref qi, .ref qc, .ref qt, .int 1, .int 0, .int 0, .int 0, .int 0, .int 0])), (qg, .inr (1, [.ref qk, .ref qv])), (qk, .inl (cI, 96, .inl fk)), (qv, .inl (cI, 96, .inl fv)), (qi, .inr (0, [.ref ri])), (ri, .inl (cI, 64, .inl fi)), (qc, .inr (0, [.ref rc])), (rc, .inl (cI, 64, .inl fc)), (qt, .inr (0, [.ref rt])), (rt, .inl (cI, 64, .inl ft))]) := hD
  refine lv_aload_n hx hb dX2_init_58 rfl (lv_at hl 0 rfl) ?_
  refine lv_iconst (v := 0) hx hb dX2_init_59 (by decide) ?_
  refine va_put (D := (dC, dI)) (ci := 2) (v := .int 0) (ty := .int) (C := RX2) (T := TX2) (N := 10) hx hb hts hinX2 tyX2 tyX2_ok nmX2 hown hK hP hD hS 0 rfl rfl 6 (by decide) (hts (.fieldLink RX2 37 "Keysapart" "tailAt" "I") (by decide +kernel)) (fun _ h9 => h9) rfl (by decide +kernel) rfl rfl (Nat.le_of_ble_eq_true rfl) dX2_init_60 (fun H locs hP hD hS => ?_)
  have hP : va_P (dC, dI) vwCl ([(a, .inr (2, [.ref qg, .ref qi, .ref qc, .ref qt, .int 1, .int 0, .int 0, .int 0, .int 0, .int 0])), (qg, .inr (1, [.ref qk, .ref qv])), (qk, .inl (cI, 96, .inl fk)), (qv, .inl (cI, 96, .inl fv)), (qi, .inr (0, [.ref ri])), (ri, .inl (cI, 64, .inl fi)), (qc, .inr (0, [.ref rc])), (rc, .inl (cI, 64, .inl fc)), (qt, .inr (0, [.ref rt])), (rt, .inl (cI, 64, .inl ft))]) H := hP
  have hD : va_D A ([(a, .inr (2, [.ref qg, .ref qi, .ref qc, .ref qt, .int 1, .int 0, .int 0, .int 0, .int 0, .int 0])), (qg, .inr (1, [.ref qk, .ref qv])), (qk, .inl (cI, 96, .inl fk)), (qv, .inl (cI, 96, .inl fv)), (qi, .inr (0, [.ref ri])), (ri, .inl (cI, 64, .inl fi)), (qc, .inr (0, [.ref rc])), (rc, .inl (cI, 64, .inl fc)), (qt, .inr (0, [.ref rt])), (rt, .inl (cI, 64, .inl ft))]) := hD
  refine lv_aload_n hx hb dX2_init_63 rfl (lv_at hl 0 rfl) ?_
  refine lv_iconst (v := 0) hx hb dX2_init_64 (by decide) ?_
  refine va_put (D := (dC, dI)) (ci := 2) (v := .int 0) (ty := .int) (C := RX2) (T := TX2) (N := 10) hx hb hts hinX2 tyX2 tyX2_ok nmX2 hown hK hP hD hS 0 rfl rfl 7 (by decide) (hts (.fieldLink RX2 40 "Keysapart" "writtenTo" "I") (by decide +kernel)) (fun _ h9 => h9) rfl (by decide +kernel) rfl rfl (Nat.le_of_ble_eq_true rfl) dX2_init_65 (fun H locs hP hD hS => ?_)
  have hP : va_P (dC, dI) vwCl ([(a, .inr (2, [.ref qg, .ref qi, .ref qc, .ref qt, .int 1, .int 0, .int 0, .int 0, .int 0, .int 0])), (qg, .inr (1, [.ref qk, .ref qv])), (qk, .inl (cI, 96, .inl fk)), (qv, .inl (cI, 96, .inl fv)), (qi, .inr (0, [.ref ri])), (ri, .inl (cI, 64, .inl fi)), (qc, .inr (0, [.ref rc])), (rc, .inl (cI, 64, .inl fc)), (qt, .inr (0, [.ref rt])), (rt, .inl (cI, 64, .inl ft))]) H := hP
  have hD : va_D A ([(a, .inr (2, [.ref qg, .ref qi, .ref qc, .ref qt, .int 1, .int 0, .int 0, .int 0, .int 0, .int 0])), (qg, .inr (1, [.ref qk, .ref qv])), (qk, .inl (cI, 96, .inl fk)), (qv, .inl (cI, 96, .inl fv)), (qi, .inr (0, [.ref ri])), (ri, .inl (cI, 64, .inl fi)), (qc, .inr (0, [.ref rc])), (rc, .inl (cI, 64, .inl fc)), (qt, .inr (0, [.ref rt])), (rt, .inl (cI, 64, .inl ft))]) := hD
  refine lv_aload_n hx hb dX2_init_68 rfl (lv_at hl 0 rfl) ?_
  refine lv_iconst (v := 0) hx hb dX2_init_69 (by decide) ?_
  refine va_put (D := (dC, dI)) (ci := 2) (v := .int 0) (ty := .int) (C := RX2) (T := TX2) (N := 10) hx hb hts hinX2 tyX2 tyX2_ok nmX2 hown hK hP hD hS 0 rfl rfl 8 (by decide) (hts (.fieldLink RX2 43 "Keysapart" "checkpointTo" "I") (by decide +kernel)) (fun _ h9 => h9) rfl (by decide +kernel) rfl rfl (Nat.le_of_ble_eq_true rfl) dX2_init_70 (fun H locs hP hD hS => ?_)
  have hP : va_P (dC, dI) vwCl ([(a, .inr (2, [.ref qg, .ref qi, .ref qc, .ref qt, .int 1, .int 0, .int 0, .int 0, .int 0, .int 0])), (qg, .inr (1, [.ref qk, .ref qv])), (qk, .inl (cI, 96, .inl fk)), (qv, .inl (cI, 96, .inl fv)), (qi, .inr (0, [.ref ri])), (ri, .inl (cI, 64, .inl fi)), (qc, .inr (0, [.ref rc])), (rc, .inl (cI, 64, .inl fc)), (qt, .inr (0, [.ref rt])), (rt, .inl (cI, 64, .inl ft))]) H := hP
  have hD : va_D A ([(a, .inr (2, [.ref qg, .ref qi, .ref qc, .ref qt, .int 1, .int 0, .int 0, .int 0, .int 0, .int 0])), (qg, .inr (1, [.ref qk, .ref qv])), (qk, .inl (cI, 96, .inl fk)), (qv, .inl (cI, 96, .inl fv)), (qi, .inr (0, [.ref ri])), (ri, .inl (cI, 64, .inl fi)), (qc, .inr (0, [.ref rc])), (rc, .inl (cI, 64, .inl fc)), (qt, .inr (0, [.ref rt])), (rt, .inl (cI, 64, .inl ft))]) := hD
  refine lv_aload_n hx hb dX2_init_73 rfl (lv_at hl 0 rfl) ?_
  refine lv_iconst (v := (-1)) hx hb dX2_init_74 (by decide) ?_
  refine va_put (D := (dC, dI)) (ci := 2) (v := .int (-1)) (ty := .int) (C := RX2) (T := TX2) (N := 10) hx hb hts hinX2 tyX2 tyX2_ok nmX2 hown hK hP hD hS 0 rfl rfl 9 (by decide) (hts (.fieldLink RX2 46 "Keysapart" "writesAhead" "I") (by decide +kernel)) (fun _ h9 => h9) rfl (by decide +kernel) rfl rfl (Nat.le_of_ble_eq_true rfl) dX2_init_75 (fun H locs hP hD hS => ?_)
  have hP : va_P (dC, dI) vwCl ([(a, .inr (2, [.ref qg, .ref qi, .ref qc, .ref qt, .int 1, .int 0, .int 0, .int 0, .int 0, .int (-1)])), (qg, .inr (1, [.ref qk, .ref qv])), (qk, .inl (cI, 96, .inl fk)), (qv, .inl (cI, 96, .inl fv)), (qi, .inr (0, [.ref ri])), (ri, .inl (cI, 64, .inl fi)), (qc, .inr (0, [.ref rc])), (rc, .inl (cI, 64, .inl fc)), (qt, .inr (0, [.ref rt])), (rt, .inl (cI, 64, .inl ft))]) H := hP
  have hD : va_D A ([(a, .inr (2, [.ref qg, .ref qi, .ref qc, .ref qt, .int 1, .int 0, .int 0, .int 0, .int 0, .int (-1)])), (qg, .inr (1, [.ref qk, .ref qv])), (qk, .inl (cI, 96, .inl fk)), (qv, .inl (cI, 96, .inl fv)), (qi, .inr (0, [.ref ri])), (ri, .inl (cI, 64, .inl fi)), (qc, .inr (0, [.ref rc])), (rc, .inl (cI, 64, .inl fc)), (qt, .inr (0, [.ref rt])), (rt, .inl (cI, 64, .inl ft))]) := hD
  have hP := hP.sub (ws' := kW cI (fun i => ([a, qg, qi, qc, qt, qk, qv, ri, rc, rt] : List Nat).getD i 0) (fk, fv, fi, fc, ft, 1, 0, 0, 0, 0, -1)) [0, 1, 4, 6, 8, 2, 3, 5, 7, 9] rfl
  have hD := hD.sub (ws' := kW cI (fun i => ([a, qg, qi, qc, qt, qk, qv, ri, rc, rt] : List Nat).getD i 0) (fk, fv, fi, fc, ft, 1, 0, 0, 0, 0, -1)) [0, 1, 4, 6, 8, 2, 3, 5, 7, 9] (by decide) rfl
  exact rV (w := fun (u : (Nat → Nat) × KS) => kW cI u.1 u.2) ((fun i => ([a, qg, qi, qc, qt, qk, qv, ri, rc, rt] : List Nat).getD i 0), (fk, fv, fi, fc, ft, 1, 0, 0, 0, 0, -1)) hx hb hr hlocks hP hD hS (Nat.le_of_ble_eq_true rfl) (Nat.le_of_ble_eq_true rfl) dX2_init_78 (by exact ⟨rfl, rfl, rfl, rfl, rfl, rfl, rfl, hwi, hwc⟩)
