def l_J7_fill_53178_5 (y3 : Int32) (y1 : Int32) : Nat → (Nat → Int32) → Int32 → (Nat → Int32) × Int32
  | 0, f5, x2_5 => (f5, x2_5)
  | n + 1, f5, x2_5 => if y3 ≤ x2_5 then (f5, x2_5) else l_J7_fill_53178_5 y3 y1 n (upd f5 x2_5.toNatClampNeg y1) (x2_5 + 1)
theorem l_J7_fill_53178_5_s (y3 : Int32) (y1 : Int32) (n : Nat) (f5 : (Nat → Int32)) (x2_5 : Int32) : l_J7_fill_53178_5 y3 y1 (n + 1) f5 x2_5 = if y3 ≤ x2_5 then (f5, x2_5) else l_J7_fill_53178_5 y3 y1 n (upd f5 x2_5.toNatClampNeg y1) (x2_5 + 1) := rfl
def sl_J7_fill_53178_5 (y3 : Int32) (y1 : Int32) : Nat → (Nat → Int32) → Int32 → Prop
  | 0, f5, x2_5 => False
  | n + 1, f5, x2_5 => ((y3 ≤ x2_5 → True) ∧ (¬ y3 ≤ x2_5 → (vp_in x2_5 64 ∧ sl_J7_fill_53178_5 y3 y1 n (upd f5 x2_5.toNatClampNeg y1) (x2_5 + 1))))
theorem sl_J7_fill_53178_5_s (y3 : Int32) (y1 : Int32) (n : Nat) (f5 : (Nat → Int32)) (x2_5 : Int32) : sl_J7_fill_53178_5 y3 y1 (n + 1) f5 x2_5 = ((y3 ≤ x2_5 → True) ∧ (¬ y3 ≤ x2_5 → (vp_in x2_5 64 ∧ sl_J7_fill_53178_5 y3 y1 n (upd f5 x2_5.toNatClampNeg y1) (x2_5 + 1)))) := rfl
def v_J7_fill_53178 (f : (Nat → Int32)) (p1 : Int32) : (Nat → Int32) := (l_J7_fill_53178_5 64 p1 100 f 0).1
theorem v_J7_fill_53178_e (f : (Nat → Int32)) (p1 : Int32) : v_J7_fill_53178 f p1 = (l_J7_fill_53178_5 64 p1 100 f 0).1 := rfl
def s_J7_fill_53178 (f : (Nat → Int32)) (p1 : Int32) : Prop := (sl_J7_fill_53178_5 64 p1 100 f 0 ∧ True)
set_option maxHeartbeats 1000000 in
set_option maxRecDepth 100000 in
theorem c_J7_fill_53178 (l : Launch) (dC : Nat → ClassId) (dI : Nat → Nat → Nat) (cI : ClassId) (b : Nat) (sz : Nat) (f : (Nat → Int32)) (p1 : Int32) (hs : s_J7_fill_53178 f p1) : Met l yJ7_fill_53178 wsJ7_fill_53178 ({ frames := 0, cells := 0, slots := 0, locals := 0 }) (va_Pc [.ref b, .int p1] (pW (dC, dI) [(cI, .int)] ([(b, .inl (cI, 64, .inl f))]) sz)) (va_Qv (fun (u : (Nat → Int32)) => u = v_J7_fill_53178 f p1) (qW (dC, dI) (va_A ([(b, .inl (cI, 64, .inl f))]) sz) (fun u => [(b, .inl (cI, 64, .inl u))])) (va_A ([(b, .inl (cI, 64, .inl f))]) sz)) 0 0 (va_A ([(b, .inl (cI, 64, .inl f))]) sz) := by
  refine va_MetF (cc := cJ7_fill_53178) (maxL := 4) (ret := none) (by decide +kernel) rfl ?_
  intro p e s m args below meth c s₁ B hml hv
  obtain ⟨rfl, hsz, hP, hK, hD0⟩ := hv
  have hx := B.exec
  have hb := B.bytes
  have hr := B.returns
  have hts := atoms_spec (ws := wsJ7_fill_53178) B.pre
  have hown : s.vm.findClass RJ7 = some m.cls := findClass_of_methodNamed B.named
  have hlocks := B.notSynchronized
  subst hsz
  have hD := hD0.self (sz := s.heap.size)
  generalize hAe : va_A ([(b, .inl (cI, 64, .inl f))]) s.heap.size = A at hD ⊢
  have hA : ∀ q : Nat, s.heap.size ≤ q → A q := fun q h => by rw [← hAe]; exact Or.inr h
  have hl := lv_entry ([.ref b, .int p1]) (n := 4) (Nat.le_of_ble_eq_true rfl)
  rw [lg_entry_eq]
  generalize (lg_sl ([.ref b, .int p1]) ++ List.replicate (4 - (lg_sl ([.ref b, .int p1])).length) Slot.unset).toArray = ls at hl ⊢
  have hl : lv_has ls 4 [(0, .ref b), (1, .int p1)] := hl
  generalize hHe : s.heap = H at hP ⊢
  generalize hLe : ([] : List Loc) = locs
  have hS : va_S A s.heap H locs := by
    rw [← hLe, ← hHe]
    exact va_S.rf
  unfold s_J7_fill_53178 at hs
  have hV := v_J7_fill_53178_e f p1
  refine lv_iconst (v := 0) hx hb dJ7_fill_53178_0 (by decide) ?_
  refine lv_istore_n (lv' := [(2, .int 0), (0, .ref b), (1, .int p1)]) hx hb dJ7_fill_53178_1 rfl hl (by decide) rfl (fun ls hl => ?_)
  refine lv_aload_n hx hb dJ7_fill_53178_2 rfl (lv_at hl 1 rfl) ?_
  refine va_alen (v := 64) hx hb hK hP 0 0 rfl rfl rfl dJ7_fill_53178_3 ?_
  refine lv_istore_n (lv' := [(3, .int 64), (2, .int 0), (0, .ref b), (1, .int p1)]) hx hb dJ7_fill_53178_4 rfl hl (by decide) rfl (fun ls hl => ?_)
  have o_l5 : sl_J7_fill_53178_5 64 p1 100 f 0 := hs.1
  have hs := hs.2
  have loop_5 : ∀ (n : Nat) (f5 : (Nat → Int32)) (x2_5 : Int32) (H : Heap) (locs : List Loc) (ls : Array Slot) (hs : sl_J7_fill_53178_5 64 p1 n f5 x2_5) (K : ∀ (z : (Nat → Int32) × Int32) (hw : z = l_J7_fill_53178_5 64 p1 n f5 x2_5) (H : Heap) (locs : List Loc) (ls : Array Slot), va_P (dC, dI) vwCl ([(b, .inl (cI, 64, .inl z.1))]) H → va_D A ([(b, .inl (cI, 64, .inl z.1))]) → va_S A s.heap H locs → lv_has ls 4 [(2, .int z.2), (0, .ref b), (3, .int 64), (1, .int p1)] → W p l e (headSpec wsJ7_fill_53178 ({ frames := 0, cells := 0, slots := 0, locals := 0 })).room s m [.ref b, .int p1].toArray below meth c H locs 0 0 (MQ below (va_Qv (fun (u : (Nat → Int32)) => u = v_J7_fill_53178 f p1) (qW (dC, dI) A (fun u => [(b, .inl (cI, 64, .inl u))])) A) [.ref b, .int p1].toArray s 0 0 A) (F0 m 20 ls [])) (hP : va_P (dC, dI) vwCl ([(b, .inl (cI, 64, .inl f5))]) H) (hD : va_D A ([(b, .inl (cI, 64, .inl f5))])) (hS : va_S A s.heap H locs) (hl : lv_has ls 4 [(2, .int x2_5), (0, .ref b), (3, .int 64), (1, .int p1)]), W p l e (headSpec wsJ7_fill_53178 ({ frames := 0, cells := 0, slots := 0, locals := 0 })).room s m [.ref b, .int p1].toArray below meth c H locs 0 0 (MQ below (va_Qv (fun (u : (Nat → Int32)) => u = v_J7_fill_53178 f p1) (qW (dC, dI) A (fun u => [(b, .inl (cI, 64, .inl u))])) A) [.ref b, .int p1].toArray s 0 0 A) (F0 m 5 ls []) := by
    intro n
    induction n with
    | zero => intro f5 x2_5 H locs ls hs; exact False.elim hs
    | succ n ih =>
      intro f5 x2_5 H locs ls hs K hP hD hS hl
      rw [sl_J7_fill_53178_5_s] at hs
      rw [l_J7_fill_53178_5_s] at K
      refine lv_iload_n hx hb dJ7_fill_53178_5 rfl (lv_at hl 0 rfl) ?_
      refine lv_iload_n hx hb dJ7_fill_53178_6 rfl (lv_at hl 2 rfl) ?_
      refine lv_icmp_ge (tgt := 20) hx hb dJ7_fill_53178_7 (by decide) (fun c_7 => ?_) (fun c_7 => ?_)
      · skip
        have hs := hs.1 c_7
        rw [if_pos c_7] at K
        exact K _ rfl H locs ls hP hD hS (lv_sub hl [0, 1, 2, 3] rfl)
      · skip
        have hs := hs.2 c_7
        rw [if_neg c_7] at K
        refine lv_aload_n hx hb dJ7_fill_53178_10 rfl (lv_at hl 1 rfl) ?_
        refine lv_iload_n hx hb dJ7_fill_53178_11 rfl (lv_at hl 0 rfl) ?_
        refine lv_iload_n hx hb dJ7_fill_53178_12 rfl (lv_at hl 3 rfl) ?_
        have o_13 : vp_in x2_5 64 := hs.1
        have hs := hs.2
        refine va_iast hx hb hK hP hD hS 0 0 rfl rfl o_13 dJ7_fill_53178_13 (fun H locs hP hD hS => ?_)
        have hP : va_P (dC, dI) vwCl ([(b, .inl (cI, 64, .inl (upd f5 x2_5.toNatClampNeg p1)))]) H := hP
        have hD : va_D A ([(b, .inl (cI, 64, .inl (upd f5 x2_5.toNatClampNeg p1)))]) := hD
        refine lv_iinc (v := x2_5 + 1) (lv' := [(2, .int (x2_5 + 1)), (0, .ref b), (3, .int 64), (1, .int p1)]) hx hb dJ7_fill_53178_14 hl (k := 0) rfl rfl (by decide) rfl (fun ls hl => ?_)
        refine lv_goto (tgt := 5) hx hb dJ7_fill_53178_17 (by decide) ?_
        exact ih (upd f5 x2_5.toNatClampNeg p1) (x2_5 + 1) H locs ls hs K hP hD hS (lv_sub hl [0, 1, 2, 3] rfl)
  refine loop_5 100 f 0 H locs ls o_l5 (fun z_5 hw H locs ls hP hD hS hl => ?_) hP hD hS (lv_sub hl [1, 2, 0, 3] rfl)
  try rw [← hw] at hV
  exact rV (w := fun u => [(b, .inl (cI, 64, .inl u))]) (z_5.1) hx hb hr hlocks hP hD hS (Nat.le_of_ble_eq_true rfl) (Nat.le_of_ble_eq_true rfl) dJ7_fill_53178_20 (by rw [hV] <;> rfl)
