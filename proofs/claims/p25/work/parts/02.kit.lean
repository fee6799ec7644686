abbrev KS : Type := (Nat → Int32) × (Nat → Int32) × (Nat → Int32) × (Nat → Int32) × (Nat → Int32) × Int32 × Int32 × Int32 × Int32 × Int32 × Int32
def kLk (z : KS) : Nat → Int32 := z.1
def kLv (z : KS) : Nat → Int32 := z.2.1
def kIx (z : KS) : Nat → Int32 := z.2.2.1
def kCi (z : KS) : Nat → Int32 := z.2.2.2.1
def kTr (z : KS) : Nat → Int32 := z.2.2.2.2.1
def kUp (z : KS) : Int32 := z.2.2.2.2.2.1
def kHd (z : KS) : Int32 := z.2.2.2.2.2.2.1
def kTl (z : KS) : Int32 := z.2.2.2.2.2.2.2.1
def kWr (z : KS) : Int32 := z.2.2.2.2.2.2.2.2.1
def kCt (z : KS) : Int32 := z.2.2.2.2.2.2.2.2.2.1
def kAh (z : KS) : Int32 := z.2.2.2.2.2.2.2.2.2.2
def kSLk (z : KS) (v : Nat → Int32) : KS := (v, kLv z, kIx z, kCi z, kTr z, kUp z, kHd z, kTl z, kWr z, kCt z, kAh z)
def kSLv (z : KS) (v : Nat → Int32) : KS := (kLk z, v, kIx z, kCi z, kTr z, kUp z, kHd z, kTl z, kWr z, kCt z, kAh z)
def kSIx (z : KS) (v : Nat → Int32) : KS := (kLk z, kLv z, v, kCi z, kTr z, kUp z, kHd z, kTl z, kWr z, kCt z, kAh z)
def kSCi (z : KS) (v : Nat → Int32) : KS := (kLk z, kLv z, kIx z, v, kTr z, kUp z, kHd z, kTl z, kWr z, kCt z, kAh z)
def kSTr (z : KS) (v : Nat → Int32) : KS := (kLk z, kLv z, kIx z, kCi z, v, kUp z, kHd z, kTl z, kWr z, kCt z, kAh z)
def kSUp (z : KS) (v : Int32) : KS := (kLk z, kLv z, kIx z, kCi z, kTr z, v, kHd z, kTl z, kWr z, kCt z, kAh z)
def kSHd (z : KS) (v : Int32) : KS := (kLk z, kLv z, kIx z, kCi z, kTr z, kUp z, v, kTl z, kWr z, kCt z, kAh z)
def kSTl (z : KS) (v : Int32) : KS := (kLk z, kLv z, kIx z, kCi z, kTr z, kUp z, kHd z, v, kWr z, kCt z, kAh z)
def kSWr (z : KS) (v : Int32) : KS := (kLk z, kLv z, kIx z, kCi z, kTr z, kUp z, kHd z, kTl z, v, kCt z, kAh z)
def kSCt (z : KS) (v : Int32) : KS := (kLk z, kLv z, kIx z, kCi z, kTr z, kUp z, kHd z, kTl z, kWr z, v, kAh z)
def kSAh (z : KS) (v : Int32) : KS := (kLk z, kLv z, kIx z, kCi z, kTr z, kUp z, kHd z, kTl z, kWr z, kCt z, v)
def kSG (z : KS) (v : (Nat → Int32) × (Nat → Int32)) : KS := kSLv (kSLk z v.1) v.2
/-- an index: its object at a, its row at b -/
def iW (cI : ClassId) (a b : Nat) (f : Nat → Int32) : va_W := [(a, .inr (0, [.ref b])), (b, .inl (cI, 64, .inl f))]
/-- two indices -/
def jW (cI : ClassId) (a b a2 b2 : Nat) (g f : Nat → Int32) : va_W := [(a, .inr (0, [.ref b])), (b, .inl (cI, 64, .inl f)), (a2, .inr (0, [.ref b2])), (b2, .inl (cI, 64, .inl g))]
/-- the log: its object at a, keys at b, values at c -/
def gW (cI : ClassId) (a b c : Nat) (f : (Nat → Int32) × (Nat → Int32)) : va_W := [(a, .inr (1, [.ref b, .ref c])), (b, .inl (cI, 96, .inl f.1)), (c, .inl (cI, 96, .inl f.2))]
/-- the class's ten cells -/
def kW (cI : ClassId) (h : Nat → Nat) (z : KS) : va_W := [(h 0, .inr (2, [.ref (h 1), .ref (h 2), .ref (h 3), .ref (h 4), .int (kUp z), .int (kHd z), .int (kTl z), .int (kWr z), .int (kCt z), .int (kAh z)])), (h 1, .inr (1, [.ref (h 5), .ref (h 6)])), (h 2, .inr (0, [.ref (h 7)])), (h 3, .inr (0, [.ref (h 8)])), (h 4, .inr (0, [.ref (h 9)])), (h 5, .inl (cI, 96, .inl (kLk z))), (h 6, .inl (cI, 96, .inl (kLv z))), (h 7, .inl (cI, 64, .inl (kIx z))), (h 8, .inl (cI, 64, .inl (kCi z))), (h 9, .inl (cI, 64, .inl (kTr z)))]
/-- nothing -/
def eW : va_W := []
/-- a boolean's int -/
def bz (v : Int32) : Prop := v = 0 ∨ v = 1
theorem bz0 : bz 0 := Or.inl rfl
theorem bz1 : bz 1 := Or.inr rfl
theorem bz_ite {c : Prop} [Decidable c] {a b : Int32} (h1 : bz a) (h2 : bz b) : bz (if c then a else b) := by
  split
  · exact h1
  · exact h2
theorem bz_nar {v : Int32} (h : bz v) : narrow .boolean (.int v) = .int v := by
  rcases h with rfl | rfl <;> rfl
theorem bz_fit {v : Int32} (h : bz v) : fits .boolean (.int v) = true := by
  rcases h with rfl | rfl <;> rfl
theorem in_guard {x y : Int32} {n : Nat} (hy : y = Int32.ofNat n) (hn : n < 2 ^ 31) (h0 : ¬ x < 0) (h1 : ¬ y ≤ x) : vp_in x n := by
  subst hy
  rcases pk_ix x hn with h | h | ⟨j, hj, rfl⟩
  · exact absurd h h0
  · exact absurd h h1
  · exact vp_in_nI hj hn
def pW (D : va_G) (tys : List (ClassId × FieldType)) (ws : va_W) (sz : Nat) : State → Prop := fun U => U.heap.size = sz ∧ va_P D vwCl ws U.heap ∧ va_K D vwCl tys U ∧ va_D (fun _ => True) ws
def qW (D : va_G) (A : Nat → Prop) {S : Type} (w : S → va_W) : S → State → Prop := fun u t => va_P D vwCl (w u) t.heap ∧ va_D A (w u)
theorem pW_blind {D : va_G} {tys : List (ClassId × FieldType)} {ws : va_W} {sz : Nat} {av : List Value} : FrameBlind (va_Pc av (pW D tys ws sz)) := by
  intro a U g mk q
  obtain ⟨q0, q1, qP, qK, qD⟩ := q
  exact ⟨q0, q1, qP, va_K.moved (u := U) (U := U.calling g mk a) (Vm.Alike.refl U.vm) qK, qD⟩
theorem pW_at {D : va_G} {tys : List (ClassId × FieldType)} {wc : va_W} {s : State} {H : Heap} {B : Nat → Prop} (hP : va_P D vwCl wc H) (hK : va_K D vwCl tys s) (hD : va_D B wc) (As : List Value) : ∀ U : State, U.heap = H → s.WarmedH U.vm → va_Pc As (pW D tys wc H.size) As.toArray U := fun U hU hW => ⟨rfl, by rw [hU], by rw [hU]; exact hP, va_K.moved hW.alike hK, hD.weaken (fun _ _ _ _ => trivial)⟩
theorem pW_S {D : va_G} {tys : List (ClassId × FieldType)} {wc : va_W} {s : State} {H : Heap} {B : Nat → Prop} {As : List Value} (hP : va_P D vwCl wc H) (hK : va_K D vwCl tys s) (hD : va_D B wc) : PreS s H (va_Pc As (pW D tys wc H.size)) As := ⟨pW_blind, pW_at hP hK hD As⟩
theorem pW_V {D : va_G} {tys : List (ClassId × FieldType)} {wc : va_W} {s : State} {H : Heap} {B : Nat → Prop} {As : List Value} {C : String} {T : u_T} {N a q0 ci : Nat} {fs : List Value} (hP : va_P D vwCl wc H) (hK : va_K D vwCl tys s) (hD : va_D B wc) (hc : vwCl[ci]? = some (C, T, N)) (he : wc[q0]? = some (a, .inr (ci, fs))) : PreV s H C a (va_Pc (.ref a :: As) (pW D tys wc H.size)) As := ⟨pW_blind, va_recv hK hP hc he, pW_at hP hK hD (.ref a :: As)⟩
theorem map_fm {α β : Type} {is : List α} {f : α → Option β} {l : List β} (h : is.map f = l.map some) : is.filterMap f = l := by
  have h1 : is.filterMap f = (is.map f).filterMap id := by rw [List.filterMap_map]; rfl
  rw [h1, h, List.filterMap_map]
  show List.filterMap some l = l
  exact List.filterMap_some
section CALLS
variable {p : Program} {l : Launch} {e : Env} {R : Room} {s : State} {m : MethodId} {args : Array Value} {below : List Frame} {meth : Method} {c : Code} {H : Heap} {locs : List Loc} {cells slots : Nat} {Q : State → Prop}
variable {mc ms : Nat} {A : Nat → Prop} {H0 : Heap} {a : Array Value} {pc : Nat} {ls : Array Slot} {st0 rest : List Value} {D : va_G} {tys : List (ClassId × FieldType)} {ws wc : va_W}
theorem rnd {isR pm isC : List Nat} (hn : (va_nd isR && va_nd pm && isR.all (fun i => !isC.contains i)) = true) : va_nd isR = true ∧ va_nd pm = true ∧ ∀ i ∈ isR, i ∉ isC := by
  simp only [Bool.and_eq_true] at hn
  refine ⟨hn.1.1, hn.1.2, fun i hi hc => ?_⟩
  have h := List.all_eq_true.mp hn.2 i hi
  rw [List.contains_iff_mem.mpr hc] at h
  cases h
/-- behind a call that answers an int: the caller's world W2, out of the callee's w1 and the rest wr -/
theorem rcI {S : Type} {post : Int32 → S → Prop} {w1 W2 : S → va_W}
    (hr : va_Run p l e R s m args below meth c H locs cells slots mc ms (F0 m pc ls st0) rest (va_Qi post (qW D (va_A wc H.size) w1) (va_A wc H.size) a) (va_A wc H.size))
    (hP : va_P D vwCl ws H) (hD : va_D A ws) (hS : va_S A H0 H locs) (hA : ∀ q, H0.size ≤ q → A q)
    (isC isR pm : List Nat) (hC : isC.map (fun i => ws[i]?) = wc.map some) (hR : isR.map (fun i => ws[i]?) = (isR.filterMap (fun i => ws[i]?)).map some) (hn : (va_nd isR && va_nd pm && isR.all (fun i => !isC.contains i)) = true)
    (h2 : ∀ u, pm.map (fun i => (isR.filterMap (fun i => ws[i]?) ++ w1 u)[i]?) = (W2 u).map some)
    (kk : ∀ (r : Int32) (u : S) (H1 : Heap) (locs1 : List Loc), post r u → va_P D vwCl (W2 u) H1 → va_D A (W2 u) → va_S A H0 H1 locs1 → W p l e R s m args below meth c H1 locs1 (cells + mc) (slots + ms) Q (F0 m (pc + 3) ls (.int r :: rest))) :
    W p l e R s m args below meth c H locs cells slots Q (F0 m pc ls st0) := by
  obtain ⟨n1, n2, n3⟩ := rnd hn
  have hF := va_free (wc := wc) hD hS hA isC hC
  refine va_calli hr hS (fun q _ h => hF q h) hF (fun r u t H1 locs1 ht hvm hw hB hz hk hS1 => ?_)
  obtain ⟨hP1, hD1⟩ := hB
  rw [ht] at hP1
  obtain ⟨hP2, hD2⟩ := va_join hP hD isC isR hC hR n1 n3 hk hF hP1 hD1
  exact kk r u H1 locs1 hw (hP2.sub pm (map_fm (h2 u))) (hD2.sub pm n2 (h2 u)) hS1
theorem rcV {S : Type} {post : S → Prop} {w1 W2 : S → va_W}
    (hr : va_Run p l e R s m args below meth c H locs cells slots mc ms (F0 m pc ls st0) rest (va_Qv post (qW D (va_A wc H.size) w1) (va_A wc H.size) a) (va_A wc H.size))
    (hP : va_P D vwCl ws H) (hD : va_D A ws) (hS : va_S A H0 H locs) (hA : ∀ q, H0.size ≤ q → A q)
    (isC isR pm : List Nat) (hC : isC.map (fun i => ws[i]?) = wc.map some) (hR : isR.map (fun i => ws[i]?) = (isR.filterMap (fun i => ws[i]?)).map some) (hn : (va_nd isR && va_nd pm && isR.all (fun i => !isC.contains i)) = true)
    (h2 : ∀ u, pm.map (fun i => (isR.filterMap (fun i => ws[i]?) ++ w1 u)[i]?) = (W2 u).map some)
    (kk : ∀ (u : S) (H1 : Heap) (locs1 : List Loc), post u → va_P D vwCl (W2 u) H1 → va_D A (W2 u) → va_S A H0 H1 locs1 → W p l e R s m args below meth c H1 locs1 (cells + mc) (slots + ms) Q (F0 m (pc + 3) ls rest)) :
    W p l e R s m args below meth c H locs cells slots Q (F0 m pc ls st0) := by
  obtain ⟨n1, n2, n3⟩ := rnd hn
  have hF := va_free (wc := wc) hD hS hA isC hC
  refine va_callv hr hS (fun q _ h => hF q h) hF (fun u t H1 locs1 ht hvm hw hB hz hk hS1 => ?_)
  obtain ⟨hP1, hD1⟩ := hB
  rw [ht] at hP1
  obtain ⟨hP2, hD2⟩ := va_join hP hD isC isR hC hR n1 n3 hk hF hP1 hD1
  exact kk u H1 locs1 hw (hP2.sub pm (map_fm (h2 u))) (hD2.sub pm n2 (h2 u)) hS1
/-- the end with an int -/
theorem rI {cc : ByteArray} {S : Type} {post : Int32 → S → Prop} {w : S → va_W} (u : S) {v : Int32} (hexec : p.tables.exec = Jvm.exec) (hb : c.code = cc) (hr : meth.sig.returnType = some .int) (hlocks : meth.locks = false)
    (hP : va_P D vwCl (w u) H) (hD : va_D A (w u)) (hS : va_S A s.heap H locs) (hc : cells ≤ mc) (hs : slots ≤ ms) (hdg : decode cc pc = .ok (.ireturn, 1)) (hpost : post v u) :
    W p l e R s m args below meth c H locs cells slots (MQ below (va_Qi post (qW D A w) A) args s mc ms A) (F0 m pc ls [.int v]) := by
  refine W.widen hc hs ?_
  exact W.iret hexec hb hr (fun t ht hW => ⟨⟨v, u, rfl, hpost, by rw [ht]; exact hP, hD⟩, hS.F ht⟩) hS.2.2 hdg
theorem rZ {cc : ByteArray} {S : Type} {post : Int32 → S → Prop} {w : S → va_W} (u : S) {v : Int32} (hexec : p.tables.exec = Jvm.exec) (hb : c.code = cc) (hr : meth.sig.returnType = some .boolean) (hlocks : meth.locks = false)
    (hP : va_P D vwCl (w u) H) (hD : va_D A (w u)) (hS : va_S A s.heap H locs) (hc : cells ≤ mc) (hs : slots ≤ ms) (hdg : decode cc pc = .ok (.ireturn, 1)) (hz : bz v) (hpost : post v u) :
    W p l e R s m args below meth c H locs cells slots (MQ below (va_Qi post (qW D A w) A) args s mc ms A) (F0 m pc ls [.int v]) := by
  refine W.widen hc hs ?_
  exact W.zret hexec hb hr (bz_nar hz) (fun t ht hW => ⟨⟨v, u, rfl, hpost, by rw [ht]; exact hP, hD⟩, hS.F ht⟩) hS.2.2 hdg
theorem rV {cc : ByteArray} {S : Type} {post : S → Prop} {w : S → va_W} (u : S) (hexec : p.tables.exec = Jvm.exec) (hb : c.code = cc) (hr : meth.sig.returnType = none) (hlocks : meth.locks = false)
    (hP : va_P D vwCl (w u) H) (hD : va_D A (w u)) (hS : va_S A s.heap H locs) (hc : cells ≤ mc) (hs : slots ≤ ms) (hdg : decode cc pc = .ok (.return_, 1)) (hpost : post u) :
    W p l e R s m args below meth c H locs cells slots (MQ below (va_Qv post (qW D A w) A) args s mc ms A) (F0 m pc ls []) := by
  refine W.widen hc hs ?_
  exact W.vret hexec hb hr (fun t ht hW => ⟨⟨u, rfl, hpost, by rw [ht]; exact hP, hD⟩, hS.F ht⟩) hS.2.2 hdg
end CALLS
-- ===== methods that throw =====
def zTx : List (Nat × String) := [(55, "a value is 0 to 9999"), (76, "the key is not there"), (109, "entries are 1 to 96"), (111, "the log has fewer entries"), (124, "the store is up"), (133, "a key is 0 to 63"), (135, "a range ends where it begins or behind it"), (137, "the store is down"), (139, "the log would need a 13th segment")]
def zStr (U : State) : Prop := ∀ q ∈ zTx, ∃ sa : Nat, vk_R RX2 q.1 q.2 sa U
/-- words that the tables decide and a call may not carry by itself -/
def zB : List Cond := [.castable "java/lang/IllegalArgumentException" "java/lang/IllegalArgumentException", .castable "java/lang/IllegalStateException" "java/lang/IllegalStateException", .declares (Bundle.initS "java/lang/RuntimeException"), .declares (Bundle.initS "java/lang/Exception"), .declares (Bundle.initS "java/lang/Throwable")]
def zN (U : State) : Prop := ∀ w ∈ zB, va_Nw w U
theorem zB_on : zB.all Cond.onTables = true := by decide +kernel
def zZ (A : Nat → Prop) (U : State) : Prop := vx_Zq Bundle.tN "UNASSIGNED_STACK" Bundle.steD A U U.heap ∧ vx_Zq Bundle.tN "SUPPRESSED_SENTINEL" Bundle.listD A U U.heap ∧ zStr U ∧ zN U
def pX (D : va_G) (tys : List (ClassId × FieldType)) (ws : va_W) (sz : Nat) : State → Prop := fun U => pW D tys ws sz U ∧ zZ (va_A ws sz) U
def kX (E : String) (n : Nat) : Prop := (n = 1 ∧ E = "java/lang/IllegalArgumentException") ∨ (n = 2 ∧ E = "java/lang/IllegalStateException")
/-- what a throw leaves: everything as it was -/
def xC (D : va_G) (A : Nat → Prop) (ws : va_W) (n : Nat) : String → State → State → Prop := fun E st t => kX E n ∧ va_P D vwCl ws t.heap ∧ va_D A ws ∧ va_F A st t
/-- no return -/
def bQ : Array Value → State → Outcome → State → Prop := fun _ _ _ _ => False
theorem zStr.moved {s U : State} (h : zStr s) (hW : s.WarmedH U.vm) : zStr U := fun q hq => by
  obtain ⟨sa, hsa⟩ := h q hq
  exact ⟨sa, vk_R.warm hW hsa⟩
theorem zStr.call {U : State} {g : JFrame} {mk : MethodId} {a : Array Value} (h : zStr U) : zStr (U.calling g mk a) := fun q hq => by
  obtain ⟨sa, hsa⟩ := h q hq
  exact ⟨sa, vk_R.same (u := U) rfl hsa⟩
theorem zN.moved {s U : State} (h : zN s) (hW : s.WarmedH U.vm) : zN U := by
  intro w hw
  have hw0 := hw
  simp only [zB, List.mem_cons, List.not_mem_nil, or_false] at hw
  rcases hw with rfl | rfl | rfl | rfl | rfl
  · exact va_Nw.warmC hW (h _ hw0)
  · exact va_Nw.warmC hW (h _ hw0)
  · exact va_Nw.warmD hW (h _ hw0)
  · exact va_Nw.warmD hW (h _ hw0)
  · exact va_Nw.warmD hW (h _ hw0)
theorem zN.call {U : State} {g : JFrame} {mk : MethodId} {a : Array Value} (h : zN U) : zN (U.calling g mk a) := fun w hw => va_Nw.same (u := U) (U := U.calling g mk a) (List.all_eq_true.mp zB_on w hw) rfl (h w hw)
theorem zN.use {args : Array Value} {s : State} (h : zN s) : ∀ w ∈ zB, w.before args s = true := fun w hw => va_Nw.use (List.all_eq_true.mp zB_on w hw) (h w hw)
theorem pX_blind {D : va_G} {tys : List (ClassId × FieldType)} {ws : va_W} {sz : Nat} {av : List Value} : FrameBlind (va_Pc av (pX D tys ws sz)) := by
  intro a U g mk q
  obtain ⟨q0, q1, z1, z2, z3, z4⟩ := q
  have h := (pW_blind (D := D) (tys := tys) (ws := ws) (sz := sz) (av := av)) a U g mk ⟨q0, q1⟩
  exact ⟨h.1, h.2, vx_Zq.moved (u := U) (U := U.calling g mk a) (Vm.Alike.refl U.vm) z1, vx_Zq.moved (u := U) (U := U.calling g mk a) (Vm.Alike.refl U.vm) z2, zStr.call z3, zN.call z4⟩
theorem zZ_at {A B : Nat → Prop} {s : State} {H : Heap} {locs : List Loc} (hZ : zZ A s) (hS : va_S A s.heap H locs) (hB : ∀ q, B q → A q) : ∀ U : State, U.heap = H → s.WarmedH U.vm → zZ B U := by
  intro U hU hW
  subst hU
  exact ⟨((vx_Zq.moved hW.alike hZ.1).kept hS.2.1).narrow hB, ((vx_Zq.moved hW.alike hZ.2.1).kept hS.2.1).narrow hB, hZ.2.2.1.moved hW, hZ.2.2.2.moved hW⟩
theorem ats_b57 : ∀ w ∈ (vx_atS RX2 57 "java/lang/IllegalArgumentException" ["java/lang/RuntimeException", "java/lang/Exception"]).filter (fun w => !goodWord w), w ∈ zB := by decide +kernel
theorem ats_b78 : ∀ w ∈ (vx_atS RX2 78 "java/lang/IllegalStateException" ["java/lang/RuntimeException", "java/lang/Exception"]).filter (fun w => !goodWord w), w ∈ zB := by decide +kernel
theorem ats_g57 : (Cond.classLink RX2 53 "java/lang/IllegalArgumentException" :: Cond.initialized "java/lang/IllegalArgumentException" :: vx_atS RX2 57 "java/lang/IllegalArgumentException" ["java/lang/RuntimeException", "java/lang/Exception"]).all vx_ot = true := by decide +kernel
theorem ats_g78 : (Cond.classLink RX2 74 "java/lang/IllegalStateException" :: Cond.initialized "java/lang/IllegalStateException" :: vx_atS RX2 78 "java/lang/IllegalStateException" ["java/lang/RuntimeException", "java/lang/Exception"]).all vx_ot = true := by decide +kernel
theorem x_of {a r : Nat} (h : (if a = 0 then r else a) = 0) : a = 0 ∧ r = 0 := by
  by_cases ha : a = 0
  · rw [if_pos ha] at h
    exact ⟨ha, h⟩
  · rw [if_neg ha] at h
    exact absurd h ha
section XCALLS
variable {p : Program} {l : Launch} {e : Env} {R : Room} {s : State} {m : MethodId} {args : Array Value} {below : List Frame} {meth : Method} {c : Code} {H : Heap} {locs : List Loc} {cells slots : Nat} {Q : State → Prop}
variable {mc ms : Nat} {A : Nat → Prop} {H0 : Heap} {a : Array Value} {pc : Nat} {ls : Array Slot} {st0 rest : List Value} {D : va_G} {tys : List (ClassId × FieldType)} {ws wc : va_W}
theorem pX_S {B : Nat → Prop} {As : List Value} (hP : va_P D vwCl wc H) (hK : va_K D vwCl tys s) (hD : va_D B wc) (hZ : zZ A s) (hS : va_S A s.heap H locs) (hB : ∀ q, va_A wc H.size q → A q) : PreS s H (va_Pc As (pX D tys wc H.size)) As :=
  ⟨pX_blind, fun U hU hW => ⟨rfl, (pW_at hP hK hD As U hU hW).2, zZ_at hZ hS hB U hU hW⟩⟩
theorem pX_V {B : Nat → Prop} {As : List Value} {C : String} {T : u_T} {N b q0 ci : Nat} {fs : List Value} (hP : va_P D vwCl wc H) (hK : va_K D vwCl tys s) (hD : va_D B wc) (hZ : zZ A s) (hS : va_S A s.heap H locs) (hB : ∀ q, va_A wc H.size q → A q) (hc : vwCl[ci]? = some (C, T, N)) (he : wc[q0]? = some (b, .inr (ci, fs))) : PreV s H C b (va_Pc (.ref b :: As) (pX D tys wc H.size)) As :=
  ⟨pX_blind, va_recv hK hP hc he, fun U hU hW => ⟨rfl, (pW_at hP hK hD (.ref b :: As) U hU hW).2, zZ_at hZ hS hB U hU hW⟩⟩
/-- a callee that throws, and never returns: what the caller sees -/
theorem rxC {n : Nat} (hr : vx_Run p l e R s m args below meth c H locs cells slots mc ms (F0 m pc ls st0) rest (bQ a) (xC D (va_A wc H.size) wc n) (va_A wc H.size))
    (hP : va_P D vwCl ws H) (hD : va_D A ws) (hS : va_S A H0 H locs) (hA : ∀ q, H0.size ≤ q → A q)
    (isC isR pm : List Nat) (hC : isC.map (fun i => ws[i]?) = wc.map some) (hR : isR.map (fun i => ws[i]?) = (isR.filterMap (fun i => ws[i]?)).map some) (hn : (va_nd isR && va_nd pm && isR.all (fun i => !isC.contains i)) = true)
    (h2 : pm.map (fun i => (isR.filterMap (fun i => ws[i]?) ++ wc)[i]?) = ws.map some)
    (kx : ∀ (E : String) (ce : Cell) (q9 : Addr) (H1 : Heap) (locs1 : List Loc), kX E n → va_P D vwCl ws H1 → va_S A H0 H1 locs1 → H1[q9]? = some ce → ce.vm = .none → s.vm.findClass E = some ce.cls → vx_W p l e R s m args below meth c H1 locs1 (cells + mc) (slots + ms) Q (F0 m pc ls rest) q9) :
    W p l e R s m args below meth c H locs cells slots Q (F0 m pc ls st0) := by
  obtain ⟨n1, n2, n3⟩ := rnd hn
  have hF := va_free (wc := wc) hD hS hA isC hC
  intro T hT X
  rcases hr T hT X with ⟨v, st₀, t, T', L, h0, X', hL, e1, e2, hF9, st⟩ | ⟨q, st₀, t, T', L, E, ce, h0, X', hL, e1, e2, ⟨hk, hP1, hD1, hFr⟩, hce, hcv, hcl, st⟩
  · exact hF9.elim
  · obtain ⟨k1, k2, k3⟩ := vx_keep h0 e1 hS (fun q _ h => hF q h) hF hL hFr
    obtain ⟨hP2, hD2⟩ := va_join hP hD isC isR hC hR n1 n3 k2 hF (by rw [e1]; exact hP1) hD1
    obtain ⟨t2, a1, b1⟩ := kx E ce q T'.heap (locs ++ L) hk (hP2.sub pm (map_fm h2)) k3 (by rw [e1]; exact hce) hcv hcl T' rfl X'
    exact ⟨t2, st.trans a1, b1⟩
/-- .. and the caller does not catch it -/
theorem rxO {n : Nat} (hr : vx_Run p l e R s m args below meth c H locs cells slots 1 6 (F0 m pc ls st0) rest (bQ a) (xC D (va_A wc H.size) wc n) (va_A wc H.size))
    (hP : va_P D vwCl ws H) (hD : va_D A ws) (hS : va_S A s.heap H locs) (hA : ∀ q, s.heap.size ≤ q → A q)
    (isC isR pm : List Nat) (hC : isC.map (fun i => ws[i]?) = wc.map some) (hR : isR.map (fun i => ws[i]?) = (isR.filterMap (fun i => ws[i]?)).map some) (hn : (va_nd isR && va_nd pm && isR.all (fun i => !isC.contains i)) = true)
    (h2 : pm.map (fun i => (isR.filterMap (fun i => ws[i]?) ++ wc)[i]?) = ws.map some) (ht : ∀ x ∈ c.exceptionTable.toList, False) (hlocks : meth.locks = false) (hc : cells + 1 ≤ 1) (hs : slots + 6 ≤ 6) {n9 : Nat} (e9 : n9 = n) :
    W p l e R s m args below meth c H locs cells slots (vx_MQ below bQ (xC D A ws n9) args s 1 6 A) (F0 m pc ls st0) := by
  subst e9
  refine rxC hr hP hD hS hA isC isR pm hC hR hn h2 (fun E ce q9 H1 locs1 hk hP1 hS1 hce hcv hcl => ?_)
  exact vx_out (fun x hx => (ht x hx).elim) hlocks hce hcv hcl (fun t ht9 _ => ⟨hk, by rw [ht9]; exact hP1, hD, hS1.F ht9⟩) hS1.2.2 hc hs
/-- 'throw new E(text)' of the class -/
theorem rT {cc : ByteArray} {Ts : List Cond} {cls text : String} {ik is ic n : Nat} (hexec : p.tables.exec = Jvm.exec) (hb : c.code = cc) (hl : l.stackTraces = false) (hown : s.vm.findClass RX2 = some m.cls) (hts : ∀ w ∈ Ts, w.before args s = true)
    (hcls : Bundle.fit cls = true) (hk : Cond.classLink RX2 ik cls ∈ Ts) (hini : Cond.initialized cls ∈ Ts)
    (hat : ∀ w ∈ (vx_atS RX2 ic cls ["java/lang/RuntimeException", "java/lang/Exception"]).filter goodWord, w ∈ Ts)
    (hbad : ∀ w ∈ (vx_atS RX2 ic cls ["java/lang/RuntimeException", "java/lang/Exception"]).filter (fun w => !goodWord w), w ∈ zB)
    (hgood : (Cond.classLink RX2 ik cls :: Cond.initialized cls :: vx_atS RX2 ic cls ["java/lang/RuntimeException", "java/lang/Exception"]).all vx_ot = true)
    (hZ : zZ A s) (htx : (is, text) ∈ zTx) (hS : va_S A s.heap H locs) (hD : va_D A ws) (hP : va_P D vwCl ws H) (hsize : ls.size = c.maxLocals)
    (d0 : decode cc pc = .ok (.new ik, 3)) (d3 : decode cc (pc + 3) = .ok (.dup, 1)) (d4 : decode cc (pc + 4) = .ok (.ldc is, 2)) (d6 : decode cc (pc + 6) = .ok (.invokespecial ic, 3)) (d9 : decode cc (pc + 9) = .ok (.athrow, 1))
    (ht : ∀ x ∈ c.exceptionTable.toList, False) (hRf : 5 < R.frames) (hRl : (rest.map fun v => v.category).sum + 82 ≤ R.locals) (hRc : cells + 1 ≤ R.cells) (hRs : slots + 6 ≤ R.slots) (hlocks : meth.locks = false) (hkx : kX cls n) (hc : cells + 1 ≤ 1) (hs : slots + 6 ≤ 6) :
    W p l e R s m args below meth c H locs cells slots (vx_MQ below bQ (xC D A ws n) args s 1 6 A) (F0 m pc ls rest) := by
  obtain ⟨sa, hsa⟩ := hZ.2.2.1 (is, text) htx
  refine vx_throwS (names := ["java/lang/RuntimeException", "java/lang/Exception"]) (sa := sa) hexec hb hl hown hcls (by decide +kernel) (hts _ hk) (hts _ hini) hsa (vx_hat (fun w hw => hts w (hat w hw)) hbad (zN.use hZ.2.2.2)) (fun w hw => List.all_eq_true.mp hgood w hw) hZ.1 hZ.2.1 hS hsize d0 d3 d4 d6 d9 (fun x hx => (ht x hx).elim) hRf hRl hRc hRs hlocks (fun t hal hz hkp => ⟨hkx, ?_, hD, ?_⟩) hS.2.2 hc hs
  · exact hP.kept (fun k q hq => hkp _ (va_at.lt (hP k q hq)))
  · exact ⟨Nat.le_trans hS.1 hz, fun q h1 h2 => by rw [hkp q (Nat.lt_of_lt_of_le h1 hS.1)]; exact hS.2.1 q h1 h2⟩
end XCALLS

