section
-- ===== PART A: goes FIRST, ahead of the names: the tables' words, and 'selects' of the private methods out of them =====
/-- a private method of a class that the tables say can be made, by its rows of tables_1 -/
def lw_okq (q : MethodName × Nat) : Prop := (q.1.cls ≠ "java/lang/invoke/MethodHandle" ∧ q.1.cls ≠ "java/lang/invoke/VarHandle") ∧ Cond.instantiable q.1.cls q.2 ∈ tables_1 ∧ Cond.privateMethod q.1 ∈ tables_1 ∧ Cond.instanceMethod q.1 ∈ tables_1
theorem lw_p0 : lw_okq (⟨"Keysapart", "recover", "(LKeysapart$Index;)V"⟩, 10) := ⟨⟨by decide +kernel, by decide +kernel⟩, List.mem_of_getElem? (i := 14) (by decide +kernel), List.mem_of_getElem? (i := 115) (by decide +kernel), List.mem_of_getElem? (i := 116) (by decide +kernel)⟩
theorem lw_p1 : lw_okq (⟨"Keysapart", "follow", "(LKeysapart$Index;I)V"⟩, 10) := ⟨⟨by decide +kernel, by decide +kernel⟩, List.mem_of_getElem? (i := 14) (by decide +kernel), List.mem_of_getElem? (i := 134) (by decide +kernel), List.mem_of_getElem? (i := 135) (by decide +kernel)⟩
theorem lw_p2 : lw_okq (⟨"java/lang/Throwable", "fillInStackTrace", "(I)Ljava/lang/Throwable;"⟩, 6) := ⟨⟨by decide +kernel, by decide +kernel⟩, List.mem_of_getElem? (i := 206) (by decide +kernel), List.mem_of_getElem? (i := 204) (by decide +kernel), List.mem_of_getElem? (i := 205) (by decide +kernel)⟩
theorem lw_p3 : lw_okq (⟨"Keysapart", "needUp", "()V"⟩, 10) := ⟨⟨by decide +kernel, by decide +kernel⟩, List.mem_of_getElem? (i := 14) (by decide +kernel), List.mem_of_getElem? (i := 237) (by decide +kernel), List.mem_of_getElem? (i := 238) (by decide +kernel)⟩
theorem lw_p4 : lw_okq (⟨"Keysapart", "needRoom", "(I)V"⟩, 10) := ⟨⟨by decide +kernel, by decide +kernel⟩, List.mem_of_getElem? (i := 14) (by decide +kernel), List.mem_of_getElem? (i := 257) (by decide +kernel), List.mem_of_getElem? (i := 258) (by decide +kernel)⟩
theorem lw_p5 : lw_okq (⟨"Keysapart", "append", "(II)I"⟩, 10) := ⟨⟨by decide +kernel, by decide +kernel⟩, List.mem_of_getElem? (i := 14) (by decide +kernel), List.mem_of_getElem? (i := 262) (by decide +kernel), List.mem_of_getElem? (i := 263) (by decide +kernel)⟩
theorem lw_p6 : lw_okq (⟨"Keysapart", "valueOf", "(I)I"⟩, 10) := ⟨⟨by decide +kernel, by decide +kernel⟩, List.mem_of_getElem? (i := 14) (by decide +kernel), List.mem_of_getElem? (i := 282) (by decide +kernel), List.mem_of_getElem? (i := 283) (by decide +kernel)⟩
theorem lw_p7 : lw_okq (⟨"Keysapart", "writeEntries", "()Z"⟩, 10) := ⟨⟨by decide +kernel, by decide +kernel⟩, List.mem_of_getElem? (i := 14) (by decide +kernel), List.mem_of_getElem? (i := 332) (by decide +kernel), List.mem_of_getElem? (i := 333) (by decide +kernel)⟩
theorem lw_p8 : lw_okq (⟨"Keysapart", "writeOnce", "()Z"⟩, 10) := ⟨⟨by decide +kernel, by decide +kernel⟩, List.mem_of_getElem? (i := 14) (by decide +kernel), List.mem_of_getElem? (i := 336) (by decide +kernel), List.mem_of_getElem? (i := 337) (by decide +kernel)⟩
theorem lw_p9 : lw_okq (⟨"Keysapart", "losePower", "()V"⟩, 10) := ⟨⟨by decide +kernel, by decide +kernel⟩, List.mem_of_getElem? (i := 14) (by decide +kernel), List.mem_of_getElem? (i := 340) (by decide +kernel), List.mem_of_getElem? (i := 341) (by decide +kernel)⟩
theorem lw_p10 : lw_okq (⟨"Keysapart", "liveFromTail", "(I)I"⟩, 10) := ⟨⟨by decide +kernel, by decide +kernel⟩, List.mem_of_getElem? (i := 14) (by decide +kernel), List.mem_of_getElem? (i := 360) (by decide +kernel), List.mem_of_getElem? (i := 361) (by decide +kernel)⟩
theorem lw_p11 : lw_okq (⟨"Keysapart", "isLive", "(I)Z"⟩, 10) := ⟨⟨by decide +kernel, by decide +kernel⟩, List.mem_of_getElem? (i := 14) (by decide +kernel), List.mem_of_getElem? (i := 364) (by decide +kernel), List.mem_of_getElem? (i := 365) (by decide +kernel)⟩
theorem lw_p12 : lw_okq (⟨"Keysapart", "appendLiveAgain", "(I)V"⟩, 10) := ⟨⟨by decide +kernel, by decide +kernel⟩, List.mem_of_getElem? (i := 14) (by decide +kernel), List.mem_of_getElem? (i := 368) (by decide +kernel), List.mem_of_getElem? (i := 369) (by decide +kernel)⟩
theorem lw_p13 : lw_okq (⟨"KeysapartModel", "canAppend", "(I)Z"⟩, 12) := ⟨⟨by decide +kernel, by decide +kernel⟩, List.mem_of_getElem? (i := 409) (by decide +kernel), List.mem_of_getElem? (i := 463) (by decide +kernel), List.mem_of_getElem? (i := 464) (by decide +kernel)⟩
theorem lw_p14 : lw_okq (⟨"KeysapartModel", "goes", "(ZZ)Z"⟩, 12) := ⟨⟨by decide +kernel, by decide +kernel⟩, List.mem_of_getElem? (i := 409) (by decide +kernel), List.mem_of_getElem? (i := 470) (by decide +kernel), List.mem_of_getElem? (i := 471) (by decide +kernel)⟩
theorem lw_p15 : lw_okq (⟨"KeysapartModel", "appends", "(II)I"⟩, 12) := ⟨⟨by decide +kernel, by decide +kernel⟩, List.mem_of_getElem? (i := 409) (by decide +kernel), List.mem_of_getElem? (i := 474) (by decide +kernel), List.mem_of_getElem? (i := 475) (by decide +kernel)⟩
def lw_privs_1 : List (MethodName × Nat) := [(⟨"Keysapart", "recover", "(LKeysapart$Index;)V"⟩, 10), (⟨"Keysapart", "follow", "(LKeysapart$Index;I)V"⟩, 10), (⟨"java/lang/Throwable", "fillInStackTrace", "(I)Ljava/lang/Throwable;"⟩, 6), (⟨"Keysapart", "needUp", "()V"⟩, 10), (⟨"Keysapart", "needRoom", "(I)V"⟩, 10), (⟨"Keysapart", "append", "(II)I"⟩, 10), (⟨"Keysapart", "valueOf", "(I)I"⟩, 10), (⟨"Keysapart", "writeEntries", "()Z"⟩, 10), (⟨"Keysapart", "writeOnce", "()Z"⟩, 10), (⟨"Keysapart", "losePower", "()V"⟩, 10), (⟨"Keysapart", "liveFromTail", "(I)I"⟩, 10), (⟨"Keysapart", "isLive", "(I)Z"⟩, 10), (⟨"Keysapart", "appendLiveAgain", "(I)V"⟩, 10), (⟨"KeysapartModel", "canAppend", "(I)Z"⟩, 12), (⟨"KeysapartModel", "goes", "(ZZ)Z"⟩, 12), (⟨"KeysapartModel", "appends", "(II)I"⟩, 12)]
theorem lw_r1 : ∀ q ∈ lw_privs_1, lw_okq q := List.forall_mem_cons.mpr ⟨lw_p0, List.forall_mem_cons.mpr ⟨lw_p1, List.forall_mem_cons.mpr ⟨lw_p2, List.forall_mem_cons.mpr ⟨lw_p3, List.forall_mem_cons.mpr ⟨lw_p4, List.forall_mem_cons.mpr ⟨lw_p5, List.forall_mem_cons.mpr ⟨lw_p6, List.forall_mem_cons.mpr ⟨lw_p7, List.forall_mem_cons.mpr ⟨lw_p8, List.forall_mem_cons.mpr ⟨lw_p9, List.forall_mem_cons.mpr ⟨lw_p10, List.forall_mem_cons.mpr ⟨lw_p11, List.forall_mem_cons.mpr ⟨lw_p12, List.forall_mem_cons.mpr ⟨lw_p13, List.forall_mem_cons.mpr ⟨lw_p14, List.forall_mem_cons.mpr ⟨lw_p15, fun _ h => absurd h List.not_mem_nil⟩⟩⟩⟩⟩⟩⟩⟩⟩⟩⟩⟩⟩⟩⟩⟩
theorem lw_p16 : lw_okq (⟨"KeysapartModel", "valueOf", "(I)I"⟩, 12) := ⟨⟨by decide +kernel, by decide +kernel⟩, List.mem_of_getElem? (i := 409) (by decide +kernel), List.mem_of_getElem? (i := 482) (by decide +kernel), List.mem_of_getElem? (i := 483) (by decide +kernel)⟩
theorem lw_p17 : lw_okq (⟨"KeysapartModel", "synchronizes", "()Z"⟩, 12) := ⟨⟨by decide +kernel, by decide +kernel⟩, List.mem_of_getElem? (i := 409) (by decide +kernel), List.mem_of_getElem? (i := 509) (by decide +kernel), List.mem_of_getElem? (i := 510) (by decide +kernel)⟩
theorem lw_p18 : lw_okq (⟨"KeysapartModel", "writes", "()Z"⟩, 12) := ⟨⟨by decide +kernel, by decide +kernel⟩, List.mem_of_getElem? (i := 409) (by decide +kernel), List.mem_of_getElem? (i := 513) (by decide +kernel), List.mem_of_getElem? (i := 514) (by decide +kernel)⟩
theorem lw_p19 : lw_okq (⟨"KeysapartModel", "liveIn", "(I)I"⟩, 12) := ⟨⟨by decide +kernel, by decide +kernel⟩, List.mem_of_getElem? (i := 409) (by decide +kernel), List.mem_of_getElem? (i := 525) (by decide +kernel), List.mem_of_getElem? (i := 526) (by decide +kernel)⟩
theorem lw_p20 : lw_okq (⟨"KeysapartModel", "recovers", "()I"⟩, 12) := ⟨⟨by decide +kernel, by decide +kernel⟩, List.mem_of_getElem? (i := 409) (by decide +kernel), List.mem_of_getElem? (i := 541) (by decide +kernel), List.mem_of_getElem? (i := 542) (by decide +kernel)⟩
theorem lw_p21 : lw_okq (⟨"KeysapartModel", "headOf", "()I"⟩, 12) := ⟨⟨by decide +kernel, by decide +kernel⟩, List.mem_of_getElem? (i := 409) (by decide +kernel), List.mem_of_getElem? (i := 553) (by decide +kernel), List.mem_of_getElem? (i := 554) (by decide +kernel)⟩
def lw_privs_2 : List (MethodName × Nat) := [(⟨"KeysapartModel", "valueOf", "(I)I"⟩, 12), (⟨"KeysapartModel", "synchronizes", "()Z"⟩, 12), (⟨"KeysapartModel", "writes", "()Z"⟩, 12), (⟨"KeysapartModel", "liveIn", "(I)I"⟩, 12), (⟨"KeysapartModel", "recovers", "()I"⟩, 12), (⟨"KeysapartModel", "headOf", "()I"⟩, 12)]
theorem lw_r2 : ∀ q ∈ lw_privs_2, lw_okq q := List.forall_mem_cons.mpr ⟨lw_p16, List.forall_mem_cons.mpr ⟨lw_p17, List.forall_mem_cons.mpr ⟨lw_p18, List.forall_mem_cons.mpr ⟨lw_p19, List.forall_mem_cons.mpr ⟨lw_p20, List.forall_mem_cons.mpr ⟨lw_p21, fun _ h => absurd h List.not_mem_nil⟩⟩⟩⟩⟩⟩
def lw_privs : List (MethodName × Nat) := lw_privs_1 ++ (lw_privs_2)
def lw_tbl : List Cond := k2_sels lw_privs ++ tables_1
theorem lw_privs_ok : ∀ q ∈ lw_privs, lw_okq q := by
  show ∀ q ∈ lw_privs_1 ++ (lw_privs_2), lw_okq q
  exact List.forall_mem_append.mpr ⟨lw_r1, lw_r2⟩
/-! ===== BEGIN words of one list among another's, by their places ===== -/
theorem goodIn_r {big : List Cond} (ws : List Cond) (ps : List Nat) (hp : ws = ps.filterMap (fun i => big[i]?)) (h : ws.all goodWord = true) : GoodIn big ws := by
  intro w hw
  have h1 := List.all_eq_true.mp h w hw
  rw [hp] at hw
  obtain ⟨i, -, hi⟩ := List.mem_filterMap.mp hw
  have hm : w ∈ big := by first | exact List.mem_of_getElem? hi | exact List.getElem?_mem hi
  exact ⟨hm, good_of_word h1⟩
theorem goodIn_app {big a b : List Cond} (ha : GoodIn big a) (hb : GoodIn big b) : GoodIn big (a ++ b) := fun w h => (List.mem_append.mp h).elim (ha w) (hb w)
theorem goodIn_ca {big a b : List Cond} {c : Cond} (ha : GoodIn big (c :: a)) (hb : GoodIn big b) : GoodIn big (c :: (a ++ b)) := fun w h => (List.mem_cons.mp h).elim (fun e => ha w (List.mem_cons.mpr (Or.inl e))) (fun h => (List.mem_append.mp h).elim (fun h => ha w (List.mem_cons.mpr (Or.inr h))) (hb w))
theorem goodIn_sub {big ws : List Cond} (hm : ∀ w ∈ ws, w ∈ big) (h : ws.all goodWord = true) : GoodIn big ws := fun w hw => ⟨hm w hw, good_of_word (List.all_eq_true.mp h w hw)⟩
/-! ===== END ===== -/

/-! ===== BEGIN exceptions that leave a method, and their catching by the caller (launches without stack traces) ===== -/
section VXA
/-! The laws vx_back, vx_callV, vx_callS, vx_callSW, vx_throw0, vx_throwS follow proofs of the library, with one case more: JvmDerived/Free/Laws.lean (Back.of_free), Shelf42/LK1.lean (callV, callS), Shelf/KitTraced.lean (throwNew0V, throwNewS). -/
/-- where a method has thrown q: the class by its name, the cell, what was written, the world -/
def vx_T (XC : String → State → State → Prop) (st : State) (q : Addr) (t : State) (mc ms : Nat) (free : Addr → Prop) : Prop :=
  ∃ (E : String) (ce : Cell) (L : List Loc), XC E st t ∧ t.heap[q]? = some ce ∧ ce.vm = .none ∧ st.vm.findClass E = some ce.cls ∧ st.WarmedH t.vm ∧ st.sameButNew ({ t with vm := st.vm } : State) L mc ms ∧ ∀ z ∈ L, free z.base
def vx_Q (Qc : Array Value → State → Outcome → State → Prop) (XC : String → State → State → Prop) (mc ms : Nat) (free : Addr → Prop) : Array Value → State → Outcome → State → Prop := fun a st o t =>
  (Qc a st o t ∧ ∃ L, FrameEnd st o t L mc ms ∧ ∀ q ∈ L, free q.base) ∨ ∃ q, o = .threw q ∧ vx_T XC st q t mc ms free
/-- a callee that returns or throws -/
def vx_Met (l : Launch) (y : MethodName) (ws : List Cond) (rm : Room) (Pc : Array Value → State → Prop) (Qc : Array Value → State → Outcome → State → Prop) (XC : String → State → State → Prop) (mc ms : Nat) (free : Addr → Prop) : Prop :=
  MetFree l y (headSpec ws rm) Pc (fun _ _ _ _ _ => True) (vx_Q Qc XC mc ms free)
def vx_Post (XC : String → State → State → Prop) (mc ms : Nat) (free : Addr → Prop) : Pt → Array Value → Addr → Pt → Prop := fun A a q B =>
  ∃ (g : JFrame) (mk : MethodId) (t : State) (L : List Loc) (E : String) (ce : Cell), B.U.heap = t.heap ∧ B.U.vm = t.vm ∧ XC E (A.U.calling g mk a) t ∧ t.heap[q]? = some ce ∧ ce.vm = .none ∧ A.U.vm.findClass E = some ce.cls ∧ B.locs = A.locs ++ L ∧ (∀ z ∈ L, free z.base) ∧ B.cells = A.cells + mc ∧ B.slots = A.slots + ms
def vx_Back (l : Launch) (R : Room) (p : Program) (e : Env) (below : List Frame) (s : State) (sargs : Array Value) (y : MethodName) (len W9 : Nat)
    (Pre : Pt → Array Value → Prop) (Post : Pt → Array Value → Option Value → Pt → Prop) (PostX : Pt → Array Value → Addr → Pt → Prop) : Prop :=
  ∀ (m : MethodId) (meth : Method) (c : Code) (A : Pt) (g : JFrame) (ig : Instr) (mk : MethodId) (a : Array Value),
    Stand p l e R s m sargs below meth c A.U A.locs A.cells A.slots → g.method = m → g.locals.size = c.maxLocals → decode c.code g.pc = .ok (ig, len) →
    2 * g.monitorRoom + (g.stack.map fun v => v.category).sum ≤ W9 → A.U.methodNamed? y = some mk → Pre A a →
    (∃ (v : Option Value) (B : Pt), Stand p l e R s m sargs below meth c B.U B.locs B.cells B.slots ∧ Post A a v B ∧
      Steps p.tables e below (doInvoke e (A.U.setTop g) [] mk a).1 (B.U.setTop { g with pc := g.pc + len, stack := v.toList ++ g.stack })) ∨
    (∃ (q : Addr) (B : Pt), Stand p l e R s m sargs below meth c B.U B.locs B.cells B.slots ∧ PostX A a q B ∧
      Steps p.tables e below (doInvoke e (A.U.setTop g) [] mk a).1 ((B.U.setTop g).pushFrame (.throwing q)))
section Payer
variable {l : Launch} {R : Room} {p : Program} {e : Env} {below : List Frame} {s : State} {sargs : Array Value} {y : MethodName} {len W9 : Nat}
theorem vx_back {ws : List Cond} {rm : Room} {Pc : Array Value → State → Prop} {Qc : Array Value → State → Outcome → State → Prop} {XC : String → State → State → Prop} {mc ms : Nat} {free : Addr → Prop} {bytes : ByteArray} {maxL : Nat} {ret : Option FieldType}
    (hM : vx_Met l y ws rm Pc Qc XC mc ms free) (hblind : FrameBlind Pc) (hrc : rm.cells = mc) (hrs : rm.slots = ms)
    (hframes : rm.frames + 1 ≤ R.frames) (hlocals : W9 + (maxL + 11) + rm.locals ≤ R.locals)
    (hws : ∀ w ∈ ws, ∀ a' U, s.WarmedH U.vm → w.before a' U = true) (hcode : Cond.code y bytes maxL ret ∈ ws) (hinit : ∀ a' U, s.WarmedH U.vm → (Cond.initialized y.cls).before a' U = true) :
    vx_Back l R p e below s sargs y len W9 (PreOf R mc ms Pc) (PostOf Qc mc ms free) (vx_Post XC mc ms free) := by
  intro m meth c A g ig mk a X hg hsize hdg hW hn hp
  have h1 : (headSpec ws rm).pre.before a A.U = true := atoms_intro fun w hw => hws w hw _ _ X.warmed
  have h2 : (Cond.code y bytes maxL ret).before a A.U = true := hws _ hcode _ _ X.warmed
  have h3 : (Cond.initialized y.cls).before a A.U = true := hinit _ _ X.warmed
  have h4 : A.cells + (headSpec ws rm).room.cells ≤ R.cells := by rw [show (headSpec ws rm).room.cells = mc from hrc]; exact hp.1
  have h5 : A.slots + (headSpec ws rm).room.slots ≤ R.slots := by rw [show (headSpec ws rm).room.slots = ms from hrs]; exact hp.2.1
  have hPc : Pc a (A.U.calling g mk a) := hblind _ _ _ _ hp.2.2
  obtain ⟨U, Ls, c0, s0⟩ := A
  dsimp only [Pt.U, Pt.locs, Pt.cells, Pt.slots] at h1 h2 h3 h4 h5 X hn hPc ⊢
  obtain ⟨methY, cY, hmY, hcY, -, hlY, -, -, -, -⟩ := Cond.code_spec hn h2
  obtain ⟨kY, hkY, -⟩ := className_of_methodNamed hn
  have hinitY : kY.init = .initialized := Cond.initialized_spec (findClass_of_methodNamed hn) hkY h3
  have h : At U g.method c below := by rw [hg]; exact X.here
  have hlocals9 : W9 + (maxL + 11) + (headSpec ws rm).room.locals ≤ R.locals := hlocals
  have happ : (headSpec ws rm).appliesLoose y e.platform (U.calling g mk a) = true :=
    Spec.appliesLoose_calling (g := g) h hdg hn hkY hinitY
      (X.room_calling (g := g) (R' := (headSpec ws rm).room) hsize hmY hcY hframes (by rw [hlY]; omega) h4 h5) h1
  obtain ⟨mid, hmid⟩ := h.above
  have hfr : (U.setTop g).frames = (.java g :: mid) ++ below := by rw [State.frames_setTop' g h.top, hmid]; rfl
  obtain ⟨o, s₂, hsteps, -, hend, hq⟩ := Steps.callFree hM p X.admits X.cas X.clock (acts := []) hfr happ hPc trivial
  have hq' : vx_Q Qc XC mc ms free a (U.calling g mk a) o s₂ := hq
  rw [State.frames_setTop' g h.top] at hend
  obtain ⟨g₀, hg0⟩ := Option.isSome_iff_exists.mp h.top
  obtain ⟨r, hr⟩ := State.topJava?_eq_some.mp hg0
  have hr' : (({ U with heap := s₂.heap, slotsUsed := s₂.slotsUsed } : State).setVm s₂.vm).frames = .java g₀ :: r := hr
  rcases hq' with ⟨hqc, L, hfe, hL⟩ | ⟨q, rfl, E, ce, L, hx, hce, hcv, hcl, hW₂, hsm, hL⟩
  · obtain ⟨⟨v, rfl⟩, hW₂, e2, q2, q3, q4, q5, q6⟩ := id hfe
    have e3 : s₂ = ({ (U.calling g mk a).setFrames s₂.frames with heap := s₂.heap, slotsUsed := s₂.slotsUsed } : State).setVm s₂.vm := by
      have : s₂ = ({ s₂ with vm := (U.calling g mk a).vm } : State).setVm s₂.vm := rfl
      rw [e2] at this
      exact this
    obtain ⟨c₂, i₂, len₂, hc₂, hd₂, hf₂⟩ := hend
    have hW' : U.WarmedH s₂.vm := hW₂
    have hcc : c₂ = c := by
      have h1 : s₂.code? g.method = U.code? g.method := by
        rw [State.code?_eq, State.code?_eq, hW'.alike.method?]
      exact Option.some.inj (hc₂.symm.trans (h1.trans h.code))
    subst hcc
    have hlen : len₂ = len := by rw [hdg] at hd₂; cases hd₂; rfl
    subst hlen
    have hs₂ : s₂ = (({ U with heap := s₂.heap, slotsUsed := s₂.slotsUsed } : State).setVm s₂.vm).setTop { g with pc := g.pc + len₂, stack := v.toList ++ g.stack } := by
      refine e3.trans ?_
      rw [hf₂, State.calling_eq h.top, State.setFrames_setFrames, State.setTop_of_frames _ hr', hr]
      rfl
    have hsame : U.sameButNew ({ U with heap := s₂.heap, slotsUsed := s₂.slotsUsed } : State) L mc ms := by
      refine ⟨?_, q2, q3, q4, q5, q6⟩
      obtain ⟨t, ht, -⟩ := State.frames_cons hr
      show ({ U with heap := s₂.heap, slotsUsed := s₂.slotsUsed } : State) = { U.setFrames U.frames with heap := s₂.heap, slotsUsed := s₂.slotsUsed }
      rw [State.setFrames_self ht]
    subst hg
    refine Or.inl ⟨v, ⟨(({ U with heap := s₂.heap, slotsUsed := s₂.slotsUsed } : State).setVm s₂.vm), Ls ++ L, c0 + mc, s0 + ms⟩,
      ⟨X.admits, X.cas, X.clock, X.frames, X.room, X.hears, X.method, X.code, (X.here.setHeapUsed s₂.heap s₂.slotsUsed).setVm hW'.alike, X.tail, State.WarmedH.trans X.warmed hW', X.limits, X.bytes, X.same.trans (hsame.setVm s.vm)⟩,
      ⟨g, mk, s₂, L, rfl, rfl, hqc, rfl, hL, rfl, rfl⟩, ?_⟩
    show Steps p.tables e below _ ((({ U with heap := s₂.heap, slotsUsed := s₂.slotsUsed } : State).setVm s₂.vm).setTop { g with pc := g.pc + len₂, stack := v.toList ++ g.stack })
    rw [← hs₂]
    exact hsteps
  · obtain ⟨e2, q2, q3, q4, q5, q6⟩ := id hsm
    have e3 : s₂ = ({ (U.calling g mk a).setFrames s₂.frames with heap := s₂.heap, slotsUsed := s₂.slotsUsed } : State).setVm s₂.vm := by
      have : s₂ = ({ s₂ with vm := (U.calling g mk a).vm } : State).setVm s₂.vm := rfl
      rw [e2] at this
      exact this
    have hf₂ : s₂.frames = .throwing q :: .java g :: U.frames.tail := hend
    have hW' : U.WarmedH s₂.vm := hW₂
    have hs₂ : s₂ = ((({ U with heap := s₂.heap, slotsUsed := s₂.slotsUsed } : State).setVm s₂.vm).setTop g).pushFrame (.throwing q) := by
      refine e3.trans ?_
      rw [hf₂, State.calling_eq h.top, State.setFrames_setFrames, State.pushFrame, State.frames_setTop _ hr', State.setTop_of_frames _ hr', State.setFrames_setFrames, hr]
      rfl
    have hsame : U.sameButNew ({ U with heap := s₂.heap, slotsUsed := s₂.slotsUsed } : State) L mc ms := by
      refine ⟨?_, q2, q3, q4, q5, q6⟩
      obtain ⟨t, ht, -⟩ := State.frames_cons hr
      show ({ U with heap := s₂.heap, slotsUsed := s₂.slotsUsed } : State) = { U.setFrames U.frames with heap := s₂.heap, slotsUsed := s₂.slotsUsed }
      rw [State.setFrames_self ht]
    subst hg
    refine Or.inr ⟨q, ⟨(({ U with heap := s₂.heap, slotsUsed := s₂.slotsUsed } : State).setVm s₂.vm), Ls ++ L, c0 + mc, s0 + ms⟩,
      ⟨X.admits, X.cas, X.clock, X.frames, X.room, X.hears, X.method, X.code, (X.here.setHeapUsed s₂.heap s₂.slotsUsed).setVm hW'.alike, X.tail, State.WarmedH.trans X.warmed hW', X.limits, X.bytes, X.same.trans (hsame.setVm s.vm)⟩,
      ⟨g, mk, s₂, L, E, ce, rfl, rfl, hx, hce, hcv, hcl, rfl, hL, rfl, rfl⟩, ?_⟩
    show Steps p.tables e below _ (((({ U with heap := s₂.heap, slotsUsed := s₂.slotsUsed } : State).setVm s₂.vm).setTop g).pushFrame (.throwing q))
    rw [← hs₂]
    exact hsteps
end Payer
section Calls
variable {p : Program} {l : Launch} {e : Env} {R : Room} {s : State} {m : MethodId} {args : Array Value} {below : List Frame} {meth : Method} {c : Code} {T : State} {locs : List Loc} {cells slots : Nat}
theorem vx_callV (X : Stand p l e R s m args below meth c T locs cells slots) (hexec : p.tables.exec = Jvm.exec) {own C : String} {index : Nat} {y : MethodName} {bytes : ByteArray} {maxL : Nat} {ret : Option FieldType}
    (hown : s.vm.findClass own = some m.cls) (hlink : (Cond.methodLink own index y).before args s = true) (hinst : (Cond.instanceMethod y).before args s = true) (hsel : (Cond.selects C y y).before args s = true)
    (hcode : (Cond.code y bytes maxL ret).before args s = true) (hy : y.cls ≠ "java/lang/invoke/MethodHandle" ∧ y.cls ≠ "java/lang/invoke/VarHandle")
    {W9 : Nat} {Pre : Pt → Array Value → Prop} {Post : Pt → Array Value → Option Value → Pt → Prop} {PostX : Pt → Array Value → Addr → Pt → Prop} (hK : vx_Back l R p e below s args y 3 W9 Pre Post PostX)
    {b : Addr} {cellB : Cell} (hcell : T.heap[b]? = some cellB) (hobj : cellB.vm.isStatics = false) (hcls : s.vm.findClass C = some cellB.cls)
    {g : JFrame} (hg : g.method = m) (hsize : g.locals.size = c.maxLocals) {argsL rest : List Value} (hlen : ∀ sig, parseMethodDescriptor y.desc = some sig → argsL.length = sig.parameters.length)
    (hstack : g.stack = argsL.reverse ++ .ref b :: rest) (hW : 2 * g.monitorRoom + (rest.map fun v => v.category).sum ≤ W9) (hdg : decode c.code g.pc = .ok (.invokevirtual index, 3))
    (hpre : ∀ vm₁, s.WarmedH vm₁ → Pre ⟨T.setVm vm₁, locs, cells, slots⟩ (Value.ref b :: argsL).toArray) :
    (∃ (v : Option Value) (vm₁ : Vm) (B : Pt), s.WarmedH vm₁ ∧ Stand p l e R s m args below meth c B.U B.locs B.cells B.slots ∧ Post ⟨T.setVm vm₁, locs, cells, slots⟩ (Value.ref b :: argsL).toArray v B ∧
      ∀ target, Steps p.tables e below (B.U.setTop { g with pc := g.pc + 3, stack := v.toList ++ rest }) target → Steps p.tables e below (T.setTop g) target) ∨
    (∃ (q : Addr) (vm₁ : Vm) (B : Pt), s.WarmedH vm₁ ∧ Stand p l e R s m args below meth c B.U B.locs B.cells B.slots ∧ PostX ⟨T.setVm vm₁, locs, cells, slots⟩ (Value.ref b :: argsL).toArray q B ∧
      Steps p.tables e below (T.setTop g) ((B.U.setTop { g with stack := rest }).pushFrame (.throwing q))) := by
  obtain ⟨mk, methM, hnamed, hmethM, hstM, habM⟩ := Cond.instanceMethod_spec hinst
  obtain ⟨methM', cM, hmethM', -, -, -, -, -, -, hsigM⟩ := Cond.code_spec hnamed hcode
  cases hmethM.symm.trans hmethM'
  obtain ⟨c2, r2, m2, q1, q2, q3, q4, kP, hkP, hkPi⟩ := Cond.selects_spec hsel
  cases hcls.symm.trans q1
  cases (State.methodFound?_of_named hnamed hy).symm.trans q2
  cases hnamed.symm.trans q3
  have hselP : selectMethod e.platform s.vm cellB.cls mk = .method mk := by rw [Launch.admits_selectMethod X.admits]; exact q4
  obtain ⟨vm₁, X₁, hstep₁⟩ := X.invokevirtual hexec hown hlink hnamed hmethM hstM hkP hkPi hy (a := b) (cell := cellB) hcell
    (fun z h => by rw [h] at hobj; cases hobj) hselP hmethM habM hkP hkPi (g := g) hg (argsL := argsL) (rest := rest) (hlen _ hsigM) hstack hdg
  rcases hK m meth c ⟨T.setVm vm₁, locs, cells, slots⟩ { g with stack := rest } (.invokevirtual index) mk (Value.ref b :: argsL).toArray X₁ hg hsize hdg hW (X₁.named hnamed) (hpre vm₁ X₁.warmed) with ⟨v, B, X', hpost, hsteps⟩ | ⟨q, B, X', hpost, hsteps⟩
  · exact Or.inl ⟨v, vm₁, B, X₁.warmed, X', hpost, fun target h => hstep₁ _ fun acts => by rw [doInvoke_state]; exact hsteps.trans h⟩
  · exact Or.inr ⟨q, vm₁, B, X₁.warmed, X', hpost, hstep₁ _ fun acts => by rw [doInvoke_state]; exact hsteps⟩
theorem vx_callS (X : Stand p l e R s m args below meth c T locs cells slots) (hexec : p.tables.exec = Jvm.exec) {own : String} {index : Nat} {y : MethodName} {bytes : ByteArray} {maxL : Nat} {ret : Option FieldType}
    (hown : s.vm.findClass own = some m.cls) (hlink : (Cond.methodLink own index y).before args s = true) (hstat : (Cond.static y).before args s = true) (hinit : (Cond.initialized y.cls).before args s = true)
    (hcode : (Cond.code y bytes maxL ret).before args s = true) (hy : y.cls ≠ "java/lang/invoke/MethodHandle" ∧ y.cls ≠ "java/lang/invoke/VarHandle")
    {W9 : Nat} {Pre : Pt → Array Value → Prop} {Post : Pt → Array Value → Option Value → Pt → Prop} {PostX : Pt → Array Value → Addr → Pt → Prop} (hK : vx_Back l R p e below s args y 3 W9 Pre Post PostX)
    {g : JFrame} (hg : g.method = m) (hsize : g.locals.size = c.maxLocals) {argsL rest : List Value} (hlen : ∀ sig, parseMethodDescriptor y.desc = some sig → argsL.length = sig.parameters.length)
    (hstack : g.stack = argsL.reverse ++ rest) (hW : 2 * g.monitorRoom + (rest.map fun v => v.category).sum ≤ W9) (hdg : decode c.code g.pc = .ok (.invokestatic index, 3))
    (hpre : ∀ vm₁, s.WarmedH vm₁ → Pre ⟨T.setVm vm₁, locs, cells, slots⟩ argsL.toArray) :
    (∃ (v : Option Value) (vm₁ : Vm) (B : Pt), s.WarmedH vm₁ ∧ Stand p l e R s m args below meth c B.U B.locs B.cells B.slots ∧ Post ⟨T.setVm vm₁, locs, cells, slots⟩ argsL.toArray v B ∧
      ∀ target, Steps p.tables e below (B.U.setTop { g with pc := g.pc + 3, stack := v.toList ++ rest }) target → Steps p.tables e below (T.setTop g) target) ∨
    (∃ (q : Addr) (vm₁ : Vm) (B : Pt), s.WarmedH vm₁ ∧ Stand p l e R s m args below meth c B.U B.locs B.cells B.slots ∧ PostX ⟨T.setVm vm₁, locs, cells, slots⟩ argsL.toArray q B ∧
      Steps p.tables e below (T.setTop g) ((B.U.setTop { g with stack := rest }).pushFrame (.throwing q))) := by
  obtain ⟨mk, hnamed⟩ := Cond.code_named hcode
  obtain ⟨methM, cM, hmethM, -, -, -, -, -, -, hsigM⟩ := Cond.code_spec hnamed hcode
  have hstatic : methM.isStatic = true := Cond.static_spec hnamed hmethM hstat
  obtain ⟨kP, hkP, -⟩ := className_of_methodNamed hnamed
  have hinitP : kP.init = .initialized := Cond.initialized_spec (findClass_of_methodNamed hnamed) hkP hinit
  obtain ⟨vm₁, X₁, hstep₁⟩ := X.invokestatic hexec hown hlink hnamed hmethM hstatic hkP hinitP hy (g := g) hg (argsL := argsL) (rest := rest) (hlen _ hsigM) hstack hdg
  rcases hK m meth c ⟨T.setVm vm₁, locs, cells, slots⟩ { g with stack := rest } (.invokestatic index) mk argsL.toArray X₁ hg hsize hdg hW (X₁.named hnamed) (hpre vm₁ X₁.warmed) with ⟨v, B, X', hpost, hsteps⟩ | ⟨q, B, X', hpost, hsteps⟩
  · exact Or.inl ⟨v, vm₁, B, X₁.warmed, X', hpost, fun target h => hstep₁ _ fun acts => by rw [doInvoke_state]; exact hsteps.trans h⟩
  · exact Or.inr ⟨q, vm₁, B, X₁.warmed, X', hpost, hstep₁ _ fun acts => by rw [doInvoke_state]; exact hsteps⟩
end Calls
theorem vx_cls {s : State} {T : State} {vm₁ : Vm} {E : String} {k : ClassId} (hW : s.WarmedH vm₁) (h : (T.setVm vm₁).vm.findClass E = some k) : s.vm.findClass E = some k := by
  have h1 : vm₁.findClass E = some k := h
  rw [hW.alike.findClass] at h1
  exact h1
/-- the method's frame g, with q thrown over it -/
def vx_W (p : Program) (l : Launch) (e : Env) (R : Room) (s : State) (m : MethodId) (args : Array Value) (below : List Frame) (meth : Method) (c : Code) (H : Heap) (locs : List Loc) (cells slots : Nat) (Q : State → Prop) (g : JFrame) (q : Addr) : Prop :=
  ∀ T : State, T.heap = H → Stand p l e R s m args below meth c T locs cells slots → ∃ t, Steps p.tables e below ((T.setTop g).pushFrame (.throwing q)) t ∧ Q t
def vx_Run (p : Program) (l : Launch) (e : Env) (R : Room) (s : State) (m : MethodId) (args : Array Value) (below : List Frame) (meth : Method) (c : Code) (H : Heap) (locs : List Loc) (cells slots mc ms : Nat) (g : JFrame) (rest : List Value) (Qa : State → Outcome → State → Prop) (XC : String → State → State → Prop) (free : Addr → Prop) : Prop :=
  ∀ T : State, T.heap = H → Stand p l e R s m args below meth c T locs cells slots →
    (∃ (v : Option Value) (st₀ t T' : State) (L : List Loc), st₀.heap = H ∧ Stand p l e R s m args below meth c T' (locs ++ L) (cells + mc) (slots + ms) ∧ (∀ q ∈ L, free q.base) ∧ T'.heap = t.heap ∧ T'.vm = t.vm ∧ Qa st₀ (.returned v) t ∧
      Goes p e below T g T' { g with pc := g.pc + 3, stack := v.toList ++ rest }) ∨
    (∃ (q : Addr) (st₀ t T' : State) (L : List Loc) (E : String) (ce : Cell), st₀.heap = H ∧ Stand p l e R s m args below meth c T' (locs ++ L) (cells + mc) (slots + ms) ∧ (∀ z ∈ L, free z.base) ∧ T'.heap = t.heap ∧ T'.vm = t.vm ∧ XC E st₀ t ∧ t.heap[q]? = some ce ∧ ce.vm = .none ∧ s.vm.findClass E = some ce.cls ∧
      Steps p.tables e below (T.setTop g) ((T'.setTop { g with stack := rest }).pushFrame (.throwing q)))
def vx_X {S : Type} (px : S → Prop) (B : String → S → State → Prop) (A : Nat → Prop) : String → State → State → Prop := fun E st t => ∃ u : S, px u ∧ B E u t ∧ va_F A st t
section Runs
variable {p : Program} {l : Launch} {e : Env} {R : Room} {s : State} {m : MethodId} {args : Array Value} {below : List Frame} {meth : Method} {c : Code} {H : Heap} {locs : List Loc} {cells slots : Nat}
variable {y : MethodName} {bytes cc : ByteArray} {maxL nL mc ms n index : Nat} {ret : Option FieldType} {ws : List Cond} {rm : Room} {Pc : Array Value → State → Prop} {Qc : Array Value → State → Outcome → State → Prop} {XC : String → State → State → Prop} {free : Addr → Prop} {Ts : List Cond} {own C : String} {b : Addr} {As rest : List Value} {g : JFrame}
theorem vx_callBack (cb : CallB R s args own index y bytes maxL ret ws rm mc ms n) (hM : vx_Met l y ws rm Pc Qc XC mc ms free) (hbl : FrameBlind Pc) : vx_Back l R p e below s args y 3 8 (PreOf R mc ms Pc) (PostOf Qc mc ms free) (vx_Post XC mc ms free) := by
  obtain ⟨hrc, hrs, hfr, hlo, hws, hcw, -, hini, -⟩ := cb
  exact vx_back (bytes := bytes) (maxL := maxL) (ret := ret) hM hbl hrc hrs hfr hlo hws hcw (fun a' U hW => word_at hW (Or.inl (by first | rfl | simp [Cond.onTables, Cond.keeps, Cond.steady])) hini)
theorem vx_runV (S : CallFix p m c cc nL s args Ts own) (hM : vx_Met l y ws rm Pc Qc XC mc ms free) (cw : CallW R s args own C index y bytes maxL ret ws rm mc ms n) (hp : PreV s H C b Pc As)
    (hg : g.method = m) (hn : As.length = n) (hsize : g.locals.size = nL) (hstack : g.stack = As.reverse ++ .ref b :: rest) (hW : 2 * g.monitorRoom + (rest.map fun v => v.category).sum ≤ 8) (hdg : decode cc g.pc = .ok (.invokevirtual index, 3)) (hf : cells + mc ≤ R.cells ∧ slots + ms ≤ R.slots) :
    vx_Run p l e R s m args below meth c H locs cells slots mc ms g rest (Qc (Value.ref b :: As).toArray) XC free := by
  have hK : vx_Back l R p e below s args y 3 8 (PreOf R mc ms Pc) (PostOf Qc mc ms free) (vx_Post XC mc ms free) := vx_callBack cw.1 hM hp.1
  obtain ⟨⟨-, -, -, -, -, -, hcode, -, hy, hlen, hl⟩, hin, hse⟩ := cw
  obtain ⟨hx, hb, hml, ho, -⟩ := S
  obtain ⟨-, ⟨cellB, hcB, hoB, hclB⟩, hPc⟩ := hp
  intro T hT X
  rcases vx_callV X hx (C := C) (bytes := bytes) (maxL := maxL) (ret := ret) ho hl hin hse hcode hy hK (by rw [hT]; exact hcB) hoB hclB hg (hsize.trans hml.symm) (argsL := As) (rest := rest) (fun sig h => hn.trans (hlen sig h)) hstack hW (by rw [hb]; exact hdg)
    (fun vm₁ hW₁ => ⟨hf.1, hf.2, hPc (T.setVm vm₁) hT hW₁⟩) with ⟨v, vm₁, ⟨U', l2, c2, s2⟩, hW₁, X', ⟨g', mk, t, L, e1, e2, hq, h1, hL, h2, h3⟩, st⟩ | ⟨q, vm₁, ⟨U', l2, c2, s2⟩, hW₁, X', ⟨g', mk, t, L, E, ce, e1, e2, hq, hce, hcv, hcl, h1, hL, h2, h3⟩, st⟩
  · dsimp only [Pt.U, Pt.locs, Pt.cells, Pt.slots] at X' e1 e2 h1 h2 h3 st
    subst h1; subst h2; subst h3
    exact Or.inl ⟨v, (T.setVm vm₁).calling g' mk (Value.ref b :: As).toArray, t, U', L, hT, X', hL, e1, e2, hq, st⟩
  · dsimp only [Pt.U, Pt.locs, Pt.cells, Pt.slots] at X' e1 e2 h1 h2 h3 st hcl
    subst h1; subst h2; subst h3
    exact Or.inr ⟨q, (T.setVm vm₁).calling g' mk (Value.ref b :: As).toArray, t, U', L, E, ce, hT, X', hL, e1, e2, hq, hce, hcv, vx_cls hW₁ hcl, st⟩
theorem vx_runS (S : CallFix p m c cc nL s args Ts own) (hM : vx_Met l y ws rm Pc Qc XC mc ms free) (cw : CallB R s args own index y bytes maxL ret ws rm mc ms n ∧ (Cond.static y).before args s = true) (hp : PreS s H Pc As)
    (hg : g.method = m) (hn : As.length = n) (hsize : g.locals.size = nL) (hstack : g.stack = As.reverse ++ rest) (hW : 2 * g.monitorRoom + (rest.map fun v => v.category).sum ≤ 8) (hdg : decode cc g.pc = .ok (.invokestatic index, 3)) (hf : cells + mc ≤ R.cells ∧ slots + ms ≤ R.slots) :
    vx_Run p l e R s m args below meth c H locs cells slots mc ms g rest (Qc As.toArray) XC free := by
  have hK : vx_Back l R p e below s args y 3 8 (PreOf R mc ms Pc) (PostOf Qc mc ms free) (vx_Post XC mc ms free) := vx_callBack cw.1 hM hp.1
  obtain ⟨⟨-, -, -, -, -, -, hcode, hini, hy, hlen, hl⟩, hstt⟩ := cw
  obtain ⟨hx, hb, hml, ho, -⟩ := S
  intro T hT X
  rcases vx_callS X hx (bytes := bytes) (maxL := maxL) (ret := ret) ho hl hstt hini hcode hy hK hg (hsize.trans hml.symm) (argsL := As) (rest := rest) (fun sig h => hn.trans (hlen sig h)) hstack hW (by rw [hb]; exact hdg)
    (fun vm₁ hW₁ => ⟨hf.1, hf.2, hp.2 (T.setVm vm₁) hT hW₁⟩) with ⟨v, vm₁, ⟨U', l2, c2, s2⟩, hW₁, X', ⟨g', mk, t, L, e1, e2, hq, h1, hL, h2, h3⟩, st⟩ | ⟨q, vm₁, ⟨U', l2, c2, s2⟩, hW₁, X', ⟨g', mk, t, L, E, ce, e1, e2, hq, hce, hcv, hcl, h1, hL, h2, h3⟩, st⟩
  · dsimp only [Pt.U, Pt.locs, Pt.cells, Pt.slots] at X' e1 e2 h1 h2 h3 st
    subst h1; subst h2; subst h3
    exact Or.inl ⟨v, (T.setVm vm₁).calling g' mk As.toArray, t, U', L, hT, X', hL, e1, e2, hq, st⟩
  · dsimp only [Pt.U, Pt.locs, Pt.cells, Pt.slots] at X' e1 e2 h1 h2 h3 st hcl
    subst h1; subst h2; subst h3
    exact Or.inr ⟨q, (T.setVm vm₁).calling g' mk As.toArray, t, U', L, E, ce, hT, X', hL, e1, e2, hq, hce, hcv, vx_cls hW₁ hcl, st⟩
end Runs
section Rows
variable {p : Program} {l : Launch} {e : Env} {R : Room} {s : State} {m : MethodId} {args : Array Value} {below : List Frame} {meth : Method} {c : Code} {H : Heap} {locs : List Loc} {cells slots : Nat} {Q : State → Prop}
variable {mc ms : Nat} {free : Addr → Prop} {A0 A1 : Nat → Prop} {H0 : Heap} {a : Array Value} {pc : Nat} {ls : Array Slot} {st0 rest : List Value}
theorem vx_keep {st₀ t T' : State} {L : List Loc} (h0 : st₀.heap = H) (e1 : T'.heap = t.heap) (hS : va_S A0 H0 H locs) (hA : ∀ q, q < H.size → A1 q → A0 q) (hf : ∀ q, free q → A0 q) (hL : ∀ q ∈ L, free q.base) (hF : va_F A1 st₀ t) :
    H.size ≤ T'.heap.size ∧ (∀ q : Nat, q < H.size → ¬ A1 q → T'.heap[q]? = H[q]?) ∧ va_S A0 H0 T'.heap (locs ++ L) := by
  obtain ⟨hz, hk⟩ := hF
  rw [h0] at hz hk
  exact ⟨by rw [e1]; exact hz, fun q h1 h2 => by rw [e1]; exact hk q h1 h2,
    ⟨Nat.le_trans hS.1 (by rw [e1]; exact hz), fun q h1 h2 => by rw [e1, hk q (Nat.lt_of_lt_of_le h1 hS.1) (fun z => h2 (hA q (Nat.lt_of_lt_of_le h1 hS.1) z))]; exact hS.2.1 q h1 h2, fun q hq => by
      rcases List.mem_append.mp hq with h | h
      · exact hS.2.2 q h
      · exact hf _ (hL q h)⟩⟩
theorem vx_calli {S SX : Type} {post : Int32 → S → Prop} {px : SX → Prop} {B : S → State → Prop} {BX : String → SX → State → Prop} {AX : Nat → Prop} (hr : vx_Run p l e R s m args below meth c H locs cells slots mc ms (F0 m pc ls st0) rest (va_Qi post B A1 a) (vx_X px BX AX) free) (hS : va_S A0 H0 H locs) (hA : ∀ q, q < H.size → A1 q → A0 q) (hf : ∀ q, free q → A0 q) (hAX : ∀ q, q < H.size → AX q → A0 q)
    (kx : ∀ (E : String) (ce : Cell) (q9 : Addr) (u : SX) (t : State) (H1 : Heap) (locs1 : List Loc), t.heap = H1 → s.vm.Alike t.vm → px u → BX E u t → H.size ≤ H1.size → (∀ q : Nat, q < H.size → ¬ AX q → H1[q]? = H[q]?) → va_S A0 H0 H1 locs1 → H1[q9]? = some ce → ce.vm = .none → s.vm.findClass E = some ce.cls → vx_W p l e R s m args below meth c H1 locs1 (cells + mc) (slots + ms) Q (F0 m pc ls rest) q9)
    (kk : ∀ (r : Int32) (u : S) (t : State) (H1 : Heap) (locs1 : List Loc), t.heap = H1 → s.vm.Alike t.vm → post r u → B u t → H.size ≤ H1.size → (∀ q : Nat, q < H.size → ¬ A1 q → H1[q]? = H[q]?) → va_S A0 H0 H1 locs1 → W p l e R s m args below meth c H1 locs1 (cells + mc) (slots + ms) Q (F0 m (pc + 3) ls (.int r :: rest))) : W p l e R s m args below meth c H locs cells slots Q (F0 m pc ls st0) := by
  intro T hT X
  rcases hr T hT X with ⟨v, st₀, t, T', L, h0, X', hL, e1, e2, ⟨⟨r, u, hv, hp, hb⟩, hF⟩, st⟩ | ⟨q, st₀, t, T', L, E, ce, h0, X', hL, e1, e2, ⟨u, hp, hb, hF⟩, hce, hcv, hcl, st⟩
  · cases hv
    obtain ⟨k1, k2, k3⟩ := vx_keep h0 e1 hS hA hf hL hF
    obtain ⟨t2, a1, b1⟩ := kk r u t T'.heap (locs ++ L) e1.symm (by rw [← e2]; exact X'.warmed.alike) hp hb k1 k2 k3 T' rfl X'
    exact ⟨t2, st t2 a1, b1⟩
  · obtain ⟨k1, k2, k3⟩ := vx_keep h0 e1 hS hAX hf hL hF
    obtain ⟨t2, a1, b1⟩ := kx E ce q u t T'.heap (locs ++ L) e1.symm (by rw [← e2]; exact X'.warmed.alike) hp hb k1 k2 k3 (by rw [e1]; exact hce) hcv hcl T' rfl X'
    exact ⟨t2, st.trans a1, b1⟩
theorem vx_calll {S SX : Type} {post : Int64 → S → Prop} {px : SX → Prop} {B : S → State → Prop} {BX : String → SX → State → Prop} {AX : Nat → Prop} (hr : vx_Run p l e R s m args below meth c H locs cells slots mc ms (F0 m pc ls st0) rest (va_Ql post B A1 a) (vx_X px BX AX) free) (hS : va_S A0 H0 H locs) (hA : ∀ q, q < H.size → A1 q → A0 q) (hf : ∀ q, free q → A0 q) (hAX : ∀ q, q < H.size → AX q → A0 q)
    (kx : ∀ (E : String) (ce : Cell) (q9 : Addr) (u : SX) (t : State) (H1 : Heap) (locs1 : List Loc), t.heap = H1 → s.vm.Alike t.vm → px u → BX E u t → H.size ≤ H1.size → (∀ q : Nat, q < H.size → ¬ AX q → H1[q]? = H[q]?) → va_S A0 H0 H1 locs1 → H1[q9]? = some ce → ce.vm = .none → s.vm.findClass E = some ce.cls → vx_W p l e R s m args below meth c H1 locs1 (cells + mc) (slots + ms) Q (F0 m pc ls rest) q9)
    (kk : ∀ (r : Int64) (u : S) (t : State) (H1 : Heap) (locs1 : List Loc), t.heap = H1 → s.vm.Alike t.vm → post r u → B u t → H.size ≤ H1.size → (∀ q : Nat, q < H.size → ¬ A1 q → H1[q]? = H[q]?) → va_S A0 H0 H1 locs1 → W p l e R s m args below meth c H1 locs1 (cells + mc) (slots + ms) Q (F0 m (pc + 3) ls (.long r :: rest))) : W p l e R s m args below meth c H locs cells slots Q (F0 m pc ls st0) := by
  intro T hT X
  rcases hr T hT X with ⟨v, st₀, t, T', L, h0, X', hL, e1, e2, ⟨⟨r, u, hv, hp, hb⟩, hF⟩, st⟩ | ⟨q, st₀, t, T', L, E, ce, h0, X', hL, e1, e2, ⟨u, hp, hb, hF⟩, hce, hcv, hcl, st⟩
  · cases hv
    obtain ⟨k1, k2, k3⟩ := vx_keep h0 e1 hS hA hf hL hF
    obtain ⟨t2, a1, b1⟩ := kk r u t T'.heap (locs ++ L) e1.symm (by rw [← e2]; exact X'.warmed.alike) hp hb k1 k2 k3 T' rfl X'
    exact ⟨t2, st t2 a1, b1⟩
  · obtain ⟨k1, k2, k3⟩ := vx_keep h0 e1 hS hAX hf hL hF
    obtain ⟨t2, a1, b1⟩ := kx E ce q u t T'.heap (locs ++ L) e1.symm (by rw [← e2]; exact X'.warmed.alike) hp hb k1 k2 k3 (by rw [e1]; exact hce) hcv hcl T' rfl X'
    exact ⟨t2, st.trans a1, b1⟩
theorem vx_callf {S SX : Type} {post : UInt32 → S → Prop} {px : SX → Prop} {B : S → State → Prop} {BX : String → SX → State → Prop} {AX : Nat → Prop} (hr : vx_Run p l e R s m args below meth c H locs cells slots mc ms (F0 m pc ls st0) rest (va_Qf post B A1 a) (vx_X px BX AX) free) (hS : va_S A0 H0 H locs) (hA : ∀ q, q < H.size → A1 q → A0 q) (hf : ∀ q, free q → A0 q) (hAX : ∀ q, q < H.size → AX q → A0 q)
    (kx : ∀ (E : String) (ce : Cell) (q9 : Addr) (u : SX) (t : State) (H1 : Heap) (locs1 : List Loc), t.heap = H1 → s.vm.Alike t.vm → px u → BX E u t → H.size ≤ H1.size → (∀ q : Nat, q < H.size → ¬ AX q → H1[q]? = H[q]?) → va_S A0 H0 H1 locs1 → H1[q9]? = some ce → ce.vm = .none → s.vm.findClass E = some ce.cls → vx_W p l e R s m args below meth c H1 locs1 (cells + mc) (slots + ms) Q (F0 m pc ls rest) q9)
    (kk : ∀ (r : UInt32) (u : S) (t : State) (H1 : Heap) (locs1 : List Loc), t.heap = H1 → s.vm.Alike t.vm → post r u → B u t → H.size ≤ H1.size → (∀ q : Nat, q < H.size → ¬ A1 q → H1[q]? = H[q]?) → va_S A0 H0 H1 locs1 → W p l e R s m args below meth c H1 locs1 (cells + mc) (slots + ms) Q (F0 m (pc + 3) ls (.float r :: rest))) : W p l e R s m args below meth c H locs cells slots Q (F0 m pc ls st0) := by
  intro T hT X
  rcases hr T hT X with ⟨v, st₀, t, T', L, h0, X', hL, e1, e2, ⟨⟨r, u, hv, hp, hb⟩, hF⟩, st⟩ | ⟨q, st₀, t, T', L, E, ce, h0, X', hL, e1, e2, ⟨u, hp, hb, hF⟩, hce, hcv, hcl, st⟩
  · cases hv
    obtain ⟨k1, k2, k3⟩ := vx_keep h0 e1 hS hA hf hL hF
    obtain ⟨t2, a1, b1⟩ := kk r u t T'.heap (locs ++ L) e1.symm (by rw [← e2]; exact X'.warmed.alike) hp hb k1 k2 k3 T' rfl X'
    exact ⟨t2, st t2 a1, b1⟩
  · obtain ⟨k1, k2, k3⟩ := vx_keep h0 e1 hS hAX hf hL hF
    obtain ⟨t2, a1, b1⟩ := kx E ce q u t T'.heap (locs ++ L) e1.symm (by rw [← e2]; exact X'.warmed.alike) hp hb k1 k2 k3 (by rw [e1]; exact hce) hcv hcl T' rfl X'
    exact ⟨t2, st.trans a1, b1⟩
theorem vx_calld {S SX : Type} {post : UInt64 → S → Prop} {px : SX → Prop} {B : S → State → Prop} {BX : String → SX → State → Prop} {AX : Nat → Prop} (hr : vx_Run p l e R s m args below meth c H locs cells slots mc ms (F0 m pc ls st0) rest (va_Qd post B A1 a) (vx_X px BX AX) free) (hS : va_S A0 H0 H locs) (hA : ∀ q, q < H.size → A1 q → A0 q) (hf : ∀ q, free q → A0 q) (hAX : ∀ q, q < H.size → AX q → A0 q)
    (kx : ∀ (E : String) (ce : Cell) (q9 : Addr) (u : SX) (t : State) (H1 : Heap) (locs1 : List Loc), t.heap = H1 → s.vm.Alike t.vm → px u → BX E u t → H.size ≤ H1.size → (∀ q : Nat, q < H.size → ¬ AX q → H1[q]? = H[q]?) → va_S A0 H0 H1 locs1 → H1[q9]? = some ce → ce.vm = .none → s.vm.findClass E = some ce.cls → vx_W p l e R s m args below meth c H1 locs1 (cells + mc) (slots + ms) Q (F0 m pc ls rest) q9)
    (kk : ∀ (r : UInt64) (u : S) (t : State) (H1 : Heap) (locs1 : List Loc), t.heap = H1 → s.vm.Alike t.vm → post r u → B u t → H.size ≤ H1.size → (∀ q : Nat, q < H.size → ¬ A1 q → H1[q]? = H[q]?) → va_S A0 H0 H1 locs1 → W p l e R s m args below meth c H1 locs1 (cells + mc) (slots + ms) Q (F0 m (pc + 3) ls (.double r :: rest))) : W p l e R s m args below meth c H locs cells slots Q (F0 m pc ls st0) := by
  intro T hT X
  rcases hr T hT X with ⟨v, st₀, t, T', L, h0, X', hL, e1, e2, ⟨⟨r, u, hv, hp, hb⟩, hF⟩, st⟩ | ⟨q, st₀, t, T', L, E, ce, h0, X', hL, e1, e2, ⟨u, hp, hb, hF⟩, hce, hcv, hcl, st⟩
  · cases hv
    obtain ⟨k1, k2, k3⟩ := vx_keep h0 e1 hS hA hf hL hF
    obtain ⟨t2, a1, b1⟩ := kk r u t T'.heap (locs ++ L) e1.symm (by rw [← e2]; exact X'.warmed.alike) hp hb k1 k2 k3 T' rfl X'
    exact ⟨t2, st t2 a1, b1⟩
  · obtain ⟨k1, k2, k3⟩ := vx_keep h0 e1 hS hAX hf hL hF
    obtain ⟨t2, a1, b1⟩ := kx E ce q u t T'.heap (locs ++ L) e1.symm (by rw [← e2]; exact X'.warmed.alike) hp hb k1 k2 k3 (by rw [e1]; exact hce) hcv hcl T' rfl X'
    exact ⟨t2, st.trans a1, b1⟩
theorem vx_callv {S SX : Type} {post : S → Prop} {px : SX → Prop} {B : S → State → Prop} {BX : String → SX → State → Prop} {AX : Nat → Prop} (hr : vx_Run p l e R s m args below meth c H locs cells slots mc ms (F0 m pc ls st0) rest (va_Qv post B A1 a) (vx_X px BX AX) free) (hS : va_S A0 H0 H locs) (hA : ∀ q, q < H.size → A1 q → A0 q) (hf : ∀ q, free q → A0 q) (hAX : ∀ q, q < H.size → AX q → A0 q)
    (kx : ∀ (E : String) (ce : Cell) (q9 : Addr) (u : SX) (t : State) (H1 : Heap) (locs1 : List Loc), t.heap = H1 → s.vm.Alike t.vm → px u → BX E u t → H.size ≤ H1.size → (∀ q : Nat, q < H.size → ¬ AX q → H1[q]? = H[q]?) → va_S A0 H0 H1 locs1 → H1[q9]? = some ce → ce.vm = .none → s.vm.findClass E = some ce.cls → vx_W p l e R s m args below meth c H1 locs1 (cells + mc) (slots + ms) Q (F0 m pc ls rest) q9)
    (kk : ∀ (u : S) (t : State) (H1 : Heap) (locs1 : List Loc), t.heap = H1 → s.vm.Alike t.vm → post u → B u t → H.size ≤ H1.size → (∀ q : Nat, q < H.size → ¬ A1 q → H1[q]? = H[q]?) → va_S A0 H0 H1 locs1 → W p l e R s m args below meth c H1 locs1 (cells + mc) (slots + ms) Q (F0 m (pc + 3) ls (rest))) : W p l e R s m args below meth c H locs cells slots Q (F0 m pc ls st0) := by
  intro T hT X
  rcases hr T hT X with ⟨v, st₀, t, T', L, h0, X', hL, e1, e2, ⟨⟨u, hv, hp, hb⟩, hF⟩, st⟩ | ⟨q, st₀, t, T', L, E, ce, h0, X', hL, e1, e2, ⟨u, hp, hb, hF⟩, hce, hcv, hcl, st⟩
  · cases hv
    obtain ⟨k1, k2, k3⟩ := vx_keep h0 e1 hS hA hf hL hF
    obtain ⟨t2, a1, b1⟩ := kk u t T'.heap (locs ++ L) e1.symm (by rw [← e2]; exact X'.warmed.alike) hp hb k1 k2 k3 T' rfl X'
    exact ⟨t2, st t2 a1, b1⟩
  · obtain ⟨k1, k2, k3⟩ := vx_keep h0 e1 hS hAX hf hL hF
    obtain ⟨t2, a1, b1⟩ := kx E ce q u t T'.heap (locs ++ L) e1.symm (by rw [← e2]; exact X'.warmed.alike) hp hb k1 k2 k3 (by rw [e1]; exact hce) hcv hcl T' rfl X'
    exact ⟨t2, st.trans a1, b1⟩
/-- caught by the row x of this method's table; the rows ahead don't take it -/
theorem vx_catch {own name : String} {E : String} {ce : Cell} {q : Addr} (hown : s.vm.findClass own = some m.cls) (pre : List ExceptionTableEntry) (x : ExceptionTableEntry) (suf : List ExceptionTableEntry) (hsplit : c.exceptionTable.toList = pre ++ x :: suf)
    (hpass : ∀ z ∈ pre, covers z pc = false ∨ (z.catchType ≠ 0 ∧ ∃ nm : String, (Cond.classLink own z.catchType nm).before args s = true ∧ va_Nc E nm s)) (hx : covers x pc = true) (h0 : x.catchType ≠ 0)
    (hlink : (Cond.classLink own x.catchType name).before args s = true) (hcast : (Cond.castable E name).before args s = true) (hcell : H[q]? = some ce) (hv : ce.vm = .none) (hcl : s.vm.findClass E = some ce.cls)
    (kk : W p l e R s m args below meth c H locs cells slots Q (F0 m x.handlerPc ls [.ref q])) : vx_W p l e R s m args below meth c H locs cells slots Q (F0 m pc ls rest) q := by
  intro T hT X
  have hpl : e.platform.magicAccessors = ({} : Platform).magicAccessors := by rw [X.admits.platform]
  obtain ⟨c3, c4, hc3, hc4, hasg⟩ := Cond.castable_spec hcast
  cases Option.some.inj (hc3.symm.trans hcl)
  obtain ⟨c5, hc5, hcl5⟩ := Cond.classLink_spec hown hlink e.platform hpl
  cases Option.some.inj (hc4.symm.trans hc5)
  obtain ⟨vm', X', st⟩ := X.thenCaughtThrough q (g := F0 m pc ls rest) rfl (Steps.refl _) (by rw [hT]; exact hcell) (by rw [hv]; rfl) (by obtain ⟨k9, h9, -⟩ := Vm.findClass_spec hcl; exact ⟨k9, h9⟩) pre x suf hsplit
    (fun z hz => by
      rcases hpass z hz with h | ⟨hz0, nm, hl1, hn1⟩
      · exact Or.inl h
      · obtain ⟨c6, hc6, hcl6⟩ := Cond.classLink_spec hown hl1 e.platform hpl
        obtain ⟨a8, b8, h1, h2, h3⟩ := hn1
        cases Option.some.inj (h1.symm.trans hcl)
        cases Option.some.inj (h2.symm.trans hc6)
        exact Or.inr ⟨hz0, _, hcl6, h3⟩) hx (Or.inr ⟨h0, c4, hcl5, hasg⟩)
  obtain ⟨t, a1, b1⟩ := kk (T.setVm vm') hT X'
  exact ⟨t, st.trans a1, b1⟩
end Rows
section Ends
variable {p : Program} {l : Launch} {e : Env} {R : Room} {s : State} {m : MethodId} {args : Array Value} {below : List Frame} {meth : Method} {c : Code} {H : Heap} {locs : List Loc} {cells slots : Nat} {Q : State → Prop}
variable {mc ms : Nat} {free : Addr → Prop} {A0 A1 : Nat → Prop} {H0 : Heap} {a : Array Value} {ls : Array Slot} {st0 rest : List Value}
variable {Qc : Array Value → State → Outcome → State → Prop} {XC : String → State → State → Prop}
/-- what a body that may throw owes at its end -/
def vx_MQ (below : List Frame) (Qc : Array Value → State → Outcome → State → Prop) (XC : String → State → State → Prop) (a : Array Value) (s : State) (mc ms : Nat) (free : Addr → Prop) : State → Prop := fun t =>
  ∃ o, t.status = .running ∧ Ended t below o ∧ vx_Q Qc XC mc ms free a s o t
theorem vx_ret {g : JFrame} {mc ms : Nat} (k : W p l e R s m args below meth c H locs cells slots (MQ below Qc args s mc ms free) g) : W p l e R s m args below meth c H locs cells slots (vx_MQ below Qc XC args s mc ms free) g := by
  intro T hT X
  obtain ⟨t, a1, o, b1, b2, b3, b4⟩ := k T hT X
  exact ⟨t, a1, o, b1, b2, Or.inl ⟨b3, b4⟩⟩
/-- not caught here: it goes on to the caller -/
theorem vx_widen {g : JFrame} {q : Addr} {k n : Nat} (h1 : cells ≤ k) (h2 : slots ≤ n) (kk : vx_W p l e R s m args below meth c H locs k n Q g q) : vx_W p l e R s m args below meth c H locs cells slots Q g q := fun T hT X => kk T hT (stand_widen X h1 h2)
theorem vx_out {pc : Nat} {E : String} {ce : Cell} {q : Addr} {mc ms : Nat} (hout : ∀ x ∈ c.exceptionTable.toList, covers x pc = false) (hlocks : meth.locks = false) (hcell : H[q]? = some ce) (hv : ce.vm = .none) (hcl : s.vm.findClass E = some ce.cls)
    (hx : ∀ t : State, t.heap = H → s.vm.Alike t.vm → XC E s t) (hf : ∀ z ∈ locs, free z.base) (hc : cells ≤ mc) (hs : slots ≤ ms) :
    vx_W p l e R s m args below meth c H locs cells slots (vx_MQ below Qc XC args s mc ms free) (F0 m pc ls rest) q := by
  intro T hT X
  obtain ⟨st1, hrun, hend, hW, hsm⟩ := X.leaveThrown q (g := F0 m pc ls rest) rfl rfl rfl hout hlocks
  have hcell9 : (T.setFrames (.throwing q :: below)).heap[q]? = some ce := by
    show T.heap[q]? = some ce
    rw [hT]; exact hcell
  exact ⟨_, st1, .threw q, hrun, hend, Or.inr ⟨q, rfl, E, ce, locs, hx _ hT hW.alike, hcell9, hv, hcl, hW, hsm.mono hc hs, hf⟩⟩
theorem vx_frame {U : State} {k n : Nat} (h : s.sameButNew ({ U with vm := s.vm } : State) locs k n) : s.heap.size ≤ U.heap.size ∧ ∀ q : Nat, q < s.heap.size → (∀ z ∈ locs, z.base ≠ q) → U.heap[q]? = s.heap[q]? := by
  obtain ⟨-, h2, -, -, -, h6⟩ := h
  refine ⟨h2, fun q hq hz => ?_⟩
  obtain ⟨c9, e1, e2, e3, e4⟩ := h6 q _ (Array.getElem?_eq_getElem hq)
  have hs : c9.slots = (s.heap[q]).slots := Array.ext_getElem? fun i => e4 i fun hm => hz _ hm rfl
  have h9 : c9 = s.heap[q] := by
    rw [hs] at e2
    exact e2
  have e5 : U.heap[q]? = some c9 := e1
  rw [e5, h9, Array.getElem?_eq_getElem hq]
/-- the words of a throw but the four that speak of the heap -/
def vx_no (w : Cond) : Bool := decide (w ≠ .isRef (.static Bundle.tN "UNASSIGNED_STACK" Bundle.steD)) && decide (w ≠ .isRef (.static Bundle.tN "SUPPRESSED_SENTINEL" Bundle.listD)) && decide (w ≠ .laysStatic Bundle.tN "UNASSIGNED_STACK" Bundle.steD) && decide (w ≠ .laysStatic Bundle.tN "SUPPRESSED_SENTINEL" Bundle.listD)
def vx_at0 (own : String) (ic : Nat) (X : String) (names : List String) : List Cond := (Bundle.ownAtoms0 own ic X names).filter vx_no
def vx_atS (own : String) (ic : Nat) (X : String) (names : List String) : List Cond := (Bundle.ownAtoms own ic X names).filter vx_no
/-- a word that the tables alone decide, or a good one -/
def vx_ot (w : Cond) : Bool := w.onTables || goodWord w
theorem vx_ot_at {args a' : Array Value} {s U : State} {w : Cond} (hW : s.WarmedH U.vm) (hvm : s.vm = U.vm) (hg : vx_ot w = true) (h : w.before args s = true) : w.before a' U = true := by
  simp only [vx_ot, Bool.or_eq_true] at hg
  rcases hg with hg | hg
  · exact va_tabs hg hvm h
  · exact word_at hW (good_of_word hg) h
/-- a list's words: the good ones out of the method's own list, the others by premises of their own -/
theorem vx_hat {args : Array Value} {s : State} {L B : List Cond} (h1 : ∀ w ∈ L.filter goodWord, w.before args s = true) (h2 : ∀ w ∈ L.filter (fun w => !goodWord w), w ∈ B) (h3 : ∀ w ∈ B, w.before args s = true) : ∀ w ∈ L, w.before args s = true := by
  intro w hw
  by_cases g : goodWord w = true
  · exact h1 w (List.mem_filter.mpr ⟨hw, g⟩)
  · refine h3 w (h2 w (List.mem_filter.mpr ⟨hw, ?_⟩))
    show (!goodWord w) = true
    cases hgw : goodWord w
    · rfl
    · exact absurd hgw g
theorem vx_c {args : Array Value} {s : State} {w : Cond} {B : List Cond} (h : w.before args s = true) (t : ∀ w ∈ B, w.before args s = true) : ∀ w' ∈ w :: B, w'.before args s = true := fun w' h' => (List.mem_cons.mp h').elim (fun e => by rw [e]; exact h) (t w')
theorem vx_n {args : Array Value} {s : State} : ∀ w ∈ ([] : List Cond), w.before args s = true := fun _ h => nomatch h
theorem vx_own {args : Array Value} {s : State} {L : List Cond} (h1 : ∀ w ∈ L.filter vx_no, w.before args s = true)
    (hU : (Cond.isRef (.static Bundle.tN "UNASSIGNED_STACK" Bundle.steD)).before args s = true) (hN : (Cond.isRef (.static Bundle.tN "SUPPRESSED_SENTINEL" Bundle.listD)).before args s = true)
    (lU : (Cond.laysStatic Bundle.tN "UNASSIGNED_STACK" Bundle.steD).before args s = true) (lN : (Cond.laysStatic Bundle.tN "SUPPRESSED_SENTINEL" Bundle.listD).before args s = true) : ∀ w ∈ L, w.before args s = true := by
  intro w hw
  by_cases e1 : w = .isRef (.static Bundle.tN "UNASSIGNED_STACK" Bundle.steD)
  · rw [e1]; exact hU
  · by_cases e2 : w = .isRef (.static Bundle.tN "SUPPRESSED_SENTINEL" Bundle.listD)
    · rw [e2]; exact hN
    · by_cases e3 : w = .laysStatic Bundle.tN "UNASSIGNED_STACK" Bundle.steD
      · rw [e3]; exact lU
      · by_cases e4 : w = .laysStatic Bundle.tN "SUPPRESSED_SENTINEL" Bundle.listD
        · rw [e4]; exact lN
        · exact h1 w (List.mem_filter.mpr ⟨hw, by unfold vx_no; rw [decide_eq_true e1, decide_eq_true e2, decide_eq_true e3, decide_eq_true e4]; rfl⟩)
/-- where a static field lies, its class's statics cell in H -/
def vx_L (C n d : String) (A : Nat → Prop) (U : State) (H : Heap) : Prop := ∃ (c : ClassId) (k : Class) (i : Nat) (f : Field) (a : Nat) (cell : Cell), U.vm.findClass C = some c ∧ U.fieldFound? C n d = some (c, k, i, f) ∧ f.isStatic = true ∧ k.statics = some a ∧ H[a]? = some cell ∧ cell.vm.isStatics = true ∧ cell.cls = c ∧ f.slot < cell.slots.size ∧ k.staticTypes[f.slot]? = some f.type ∧ ¬ A a
theorem vx_L.moved {C n d : String} {A : Nat → Prop} {u U : State} {H : Heap} (hvm : u.vm.Alike U.vm) (h : vx_L C n d A u H) : vx_L C n d A U H := by
  obtain ⟨c, k, i, f, a, cell, h1, h2, h3, h4, h5, h6, h7, h8, h9, h10⟩ := h
  obtain ⟨k', hi', he⟩ := State.fieldFound?_setVm hvm h2
  exact ⟨c, k', i, f, a, cell, by rw [hvm.findClass]; exact h1, hi', h3, by rw [he]; exact h4, h5, h6, h7, h8, by rw [he]; exact h9, h10⟩
theorem vx_L.kept {C n d : String} {A : Nat → Prop} {U : State} {H H1 : Heap} (h : vx_L C n d A U H) (hq : ∀ a : Nat, a < H.size → ¬ A a → H1[a]? = H[a]?) : vx_L C n d A U H1 := by
  obtain ⟨c, k, i, f, a, cell, h1, h2, h3, h4, h5, h6, h7, h8, h9, h10⟩ := h
  exact ⟨c, k, i, f, a, cell, h1, h2, h3, h4, by rw [hq a (Array.getElem?_eq_some_iff.mp h5).1 h10]; exact h5, h6, h7, h8, h9, h10⟩
theorem vx_L.narrow {C n d : String} {A B : Nat → Prop} {U : State} {H : Heap} (h : vx_L C n d A U H) (hAB : ∀ q, B q → A q) : vx_L C n d B U H := by
  obtain ⟨c, k, i, f, a, cell, h1, h2, h3, h4, h5, h6, h7, h8, h9, h10⟩ := h
  exact ⟨c, k, i, f, a, cell, h1, h2, h3, h4, h5, h6, h7, h8, h9, fun z => h10 (hAB _ z)⟩
theorem vx_L.word {C n d : String} {A : Nat → Prop} {s : State} {args : Array Value} (h : vx_L C n d A s s.heap) : (Cond.laysStatic C n d).before args s = true := by
  obtain ⟨c, k, i, f, a, cell, h1, h2, h3, h4, h5, h6, h7, h8, h9, -⟩ := h
  show (Cond.laysStatic C n d).holds args s none s [] = true
  exact Cond.laysStatic_of h1 h2 h3 h4 h5 h6 h7 h8 h9
/-- .. and what it holds: null or some reference -/
def vx_Zq (C n d : String) (A : Nat → Prop) (U : State) (H : Heap) : Prop := va_Zq C n d A U H ∧ vx_L C n d A U H
theorem vx_Zq.moved {C n d : String} {A : Nat → Prop} {u U : State} {H : Heap} (hvm : u.vm.Alike U.vm) (h : vx_Zq C n d A u H) : vx_Zq C n d A U H := ⟨va_Zq.moved hvm h.1, vx_L.moved hvm h.2⟩
theorem vx_Zq.kept {C n d : String} {A : Nat → Prop} {U : State} {H H1 : Heap} (h : vx_Zq C n d A U H) (hq : ∀ a : Nat, a < H.size → ¬ A a → H1[a]? = H[a]?) : vx_Zq C n d A U H1 := ⟨va_Zq.kept h.1 hq, vx_L.kept h.2 hq⟩
theorem vx_Zq.narrow {C n d : String} {A B : Nat → Prop} {U : State} {H : Heap} (h : vx_Zq C n d A U H) (hAB : ∀ q, B q → A q) : vx_Zq C n d B U H := ⟨va_Zq.narrow h.1 hAB, vx_L.narrow h.2 hAB⟩
theorem vx_Zqof {args : Array Value} {s : State} {C n d : String} {A : Nat → Prop} (hl : (Cond.laysStatic C n d).before args s = true) (hini : (Cond.initialized C).before args s = true) (h : (Cond.isRef (.static C n d)).before args s = true) (hA : ∀ a : Nat, a < s.heap.size → ¬ A a) : vx_Zq C n d A s s.heap := by
  refine ⟨va_Zqof hl hini h hA, ?_⟩
  obtain ⟨c, k, i, f, a, cell, h1, h2, h3, h4, h5, h6, h7, h8, h9⟩ := Cond.laysStatic_spec hl
  exact ⟨c, k, i, f, a, cell, h1, h2, h3, h4, h5, h6, h7, h8, h9, hA a (Array.getElem?_eq_some_iff.mp h5).1⟩
theorem vx_isRef {C n d : String} {v : Value} {A : Nat → Prop} {s : State} {args : Array Value} (h : va_Z C n d v A s s.heap) (hv : v.isRef = true) : (Cond.isRef (.static C n d)).before args s = true := by
  obtain ⟨cf, kf, fi, f, a, cell, h1, h2, h3, h4, h5, h6, h7, -⟩ := h
  have he : (Term.static C n d).eval args s none [] s = some v := by
    simp [Term.eval, State.fieldNamed?, h1, h2, h4, h5, h6, h7]
  simp only [Cond.before, Cond.holds, Cond.value, he]
  cases v <;> simp_all [Value.isRef]
theorem vx_isRefq {C n d : String} {A : Nat → Prop} {s : State} {args : Array Value} (h : va_Zq C n d A s s.heap) : (Cond.isRef (.static C n d)).before args s = true := by
  rcases h with h | ⟨t, h⟩
  · exact vx_isRef h rfl
  · exact vx_isRef h rfl
/-- the same frame, seen from here: as if the method were called anew in this heap -/
theorem vx_rebase {T : State} (X : Stand p l e R s m args below meth c T locs cells slots) {R' : Room} (hf : R'.frames ≤ R.frames) (hl : R'.locals ≤ R.locals) (hc : cells + R'.cells ≤ R.cells) (hs : slots + R'.slots ≤ R.slots) :
    Stand p l e R' ((T.setVm s.vm).setFrames (.invoking m args :: below)) m args below meth c T [] 0 0 := by
  have htop : (T.setVm s.vm).topJava?.isSome := X.here.top
  have hF : ((T.setVm s.vm).setFrames (.invoking m args :: below)).frames = .invoking m args :: below := State.frames_setFrames _ (State.cur_lt_of_top htop)
  obtain ⟨g₀, hg0⟩ := Option.isSome_iff_exists.mp htop
  obtain ⟨r, hr⟩ := State.topJava?_eq_some.mp hg0
  have hl9 : e.platform.stackLimits (T.setVm s.vm).me = e.platform.stackLimits s.me := X.limits
  have hb9 : (T.setVm s.vm).me.stackBytes = s.me.stackBytes := X.bytes
  refine ⟨X.admits, X.cas, X.clock, hF, ?_, X.hears, X.method, X.code, X.here, X.tail, X.warmed, ?_, ?_, ?_⟩
  · have h := X.room
    have hU : ((T.setVm s.vm).setFrames (.invoking m args :: below)).localsInUse = s.localsInUse := by
      rw [State.localsInUse_invoking hF (meth := meth) (c := c) X.method X.code, State.localsInUse_invoking X.frames X.method X.code]
    simp only [State.hasRoom, Bool.and_eq_true, decide_eq_true_eq] at h ⊢
    obtain ⟨⟨⟨⟨h1, h2, h3, h4, h5, h6⟩, h7⟩, h8⟩, h9⟩ := h
    rw [X.frames, List.length_cons] at h2 h3
    have q1 := X.heapSize
    have q2 := X.used
    simp only [hF, hU, List.length_cons, State.stackLimits_setFrames, State.stackBytes_setFrames, hl9, hb9]
    refine ⟨⟨⟨⟨by omega, by omega, by omega, by omega, by omega, h6⟩, ?_⟩, ?_⟩, X.book⟩
    · show T.heap.size + R'.cells ≤ e.platform.maxCells
      omega
    · show T.slotsUsed + R'.slots ≤ e.platform.maxSlots
      omega
  · rw [State.stackLimits_setFrames]; rfl
  · rw [State.stackBytes_setFrames]; rfl
  · refine ⟨?_, Nat.le_refl _, Nat.le_refl _, ?_, ?_, fun a c9 h9 => ⟨c9, h9, rfl, rfl, fun _ _ => rfl⟩⟩
    · obtain ⟨t, ht, -⟩ := State.frames_cons hr
      show T.setVm s.vm = { ((T.setVm s.vm).setFrames (.invoking m args :: below)).setFrames (T.setVm s.vm).frames with heap := T.heap, slotsUsed := T.slotsUsed }
      rw [State.setFrames_setFrames, State.setFrames_self ht]
      rfl
    · show T.slotsUsed = T.slotsUsed + ((T.heap.toList.drop T.heap.size).map (·.slots.size)).sum
      rw [List.drop_eq_nil_of_le (Nat.le_of_eq Array.length_toList)]
      rfl
    · show ((T.heap.toList.drop T.heap.size).map (·.slots.size)).sum ≤ 0
      rw [List.drop_eq_nil_of_le (Nat.le_of_eq Array.length_toList)]
      exact Nat.le_refl _
/-- 'throw new E()': new; dup; invokespecial; athrow -/
theorem vx_throw0 {cc : ByteArray} {pc : Nat} (hexec : p.tables.exec = Jvm.exec) (hb : c.code = cc) (hl : l.stackTraces = false) {own cls : String} {names : List String} {ik ic mc ms : Nat} {A : Nat → Prop}
    (hown : s.vm.findClass own = some m.cls) (hcls : Bundle.fit cls = true) (hnames : ∀ n ∈ names, Bundle.fit n = true)
    (hk : (Cond.classLink own ik cls).before args s = true) (hini : (Cond.initialized cls).before args s = true) (hat : ∀ w ∈ vx_at0 own ic cls names, w.before args s = true)
    (hgood : ∀ w ∈ Cond.classLink own ik cls :: Cond.initialized cls :: vx_at0 own ic cls names, vx_ot w = true)
    (hU : vx_Zq Bundle.tN "UNASSIGNED_STACK" Bundle.steD A s s.heap) (hN : vx_Zq Bundle.tN "SUPPRESSED_SENTINEL" Bundle.listD A s s.heap) (hS : va_S A s.heap H locs) (hsize : ls.size = c.maxLocals)
    (d0 : decode cc pc = .ok (.new ik, 3)) (d3 : decode cc (pc + 3) = .ok (.dup, 1)) (d4 : decode cc (pc + 4) = .ok (.invokespecial ic, 3)) (d7 : decode cc (pc + 7) = .ok (.athrow, 1))
    (hout : ∀ x ∈ c.exceptionTable.toList, covers x (pc + 7) = false)
    (hRframes : names.length + 3 < R.frames) (hRlocals : (rest.map fun v => v.category).sum + (13 * (names.length + 1) + 42) ≤ R.locals) (hRcells : cells + 1 ≤ R.cells) (hRslots : slots + 6 ≤ R.slots) (hlocks : meth.locks = false)
    (hx : ∀ t : State, s.vm.Alike t.vm → H.size ≤ t.heap.size → (∀ q : Nat, q < H.size → t.heap[q]? = H[q]?) → XC cls s t)
    (hf : ∀ z ∈ locs, free z.base) (hc : cells + 1 ≤ mc) (hs : slots + 6 ≤ ms) :
    W p l e R s m args below meth c H locs cells slots (vx_MQ below Qc XC args s mc ms free) (F0 m pc ls rest) := by
  intro T hT X
  have htr : e.platform.stackTraces = false := (show e.platform.stackTraces = l.stackTraces by rw [X.admits.platform]).trans hl
  have Y := vx_rebase X (R' := { frames := R.frames, locals := R.locals, cells := 1, slots := 6 }) (Nat.le_refl _) (Nat.le_refl _) hRcells hRslots
  obtain ⟨s', hA⟩ : ∃ z, z = (T.setVm s.vm).setFrames (.invoking m args :: below) := ⟨_, rfl⟩
  rw [← hA] at Y
  have hvm : s'.vm = s.vm := by rw [hA]; rfl
  have hhp : s'.heap = H := by rw [hA]; exact hT
  have hW0 : s.WarmedH s'.vm := by rw [hvm]; exact State.WarmedH.refl s
  have hat' : ∀ w ∈ vx_at0 own ic cls names, w.before args s' = true := fun w hw => vx_ot_at hW0 hvm.symm (hgood w (List.mem_cons_of_mem _ (List.mem_cons_of_mem _ hw))) (hat w hw)
  have hk' : (Cond.classLink own ik cls).before args s' = true := vx_ot_at hW0 hvm.symm (hgood _ List.mem_cons_self) hk
  have hini' : (Cond.initialized cls).before args s' = true := vx_ot_at hW0 hvm.symm (hgood _ (List.mem_cons_of_mem _ List.mem_cons_self)) hini
  have hU' : vx_Zq Bundle.tN "UNASSIGNED_STACK" Bundle.steD A s' s'.heap := by rw [hhp]; exact vx_Zq.moved hW0.alike (hU.kept hS.2.1)
  have hN' : vx_Zq Bundle.tN "SUPPRESSED_SENTINEL" Bundle.listD A s' s'.heap := by rw [hhp]; exact vx_Zq.moved hW0.alike (hN.kept hS.2.1)
  have h : ∀ w ∈ Bundle.ownAtoms0 own ic cls names, w.before args s' = true := vx_own hat' (vx_isRefq hU'.1) (vx_isRefq hN'.1) hU'.2.word hN'.2.word
  have hown' : s'.vm.findClass own = some m.cls := by rw [hvm]; exact hown
  have hins : (Cond.instantiable cls 6).before args s' = true := h _ (by simp [Bundle.ownAtoms0])
  obtain ⟨vm₁, cX, kX, hfX, hkX, -, -, X₁, st1⟩ := Y.newCold hexec (own := own) (C := cls) (index := ik) (n := 6) hown' hk' hins hini'
    (g := F0 m pc ls rest) rfl (by rw [hb]; exact d0) (Nat.le_refl _) (Nat.le_refl _)
  generalize hT1 : (T.setVm vm₁).pushCell { cls := cX, slots := kX.instanceTypes.map defaultValue, vm := .none } = T1 at X₁ st1
  have hcat : (Value.ref T.heap.size).category = 1 := rfl
  have hcellA : T1.heap[T.heap.size]? = some (freshCell cX kX) := by rw [← hT1]; exact State.heap_pushCell_size _ _
  have d3' : decode c.code (pc + 3) = .ok (.dup, 1) := by rw [hb]; exact d3
  obtain ⟨U, hsteps, hrun, hend, hW, hsame, ce, hce, hO⟩ := X₁.ctorThrow0 hexec htr (own := own) (cls := cls) (names := names) (ic := ic) hown' hcls hnames h (fun x hx => nomatch hx) hfX hkX hcellA (by rw [hhp, hT]; exact Nat.le_refl _)
    (g := { method := m, pc := pc + 4, locals := ls, stack := .ref T.heap.size :: .ref T.heap.size :: rest, locked := none }) rfl hsize rfl rfl (rest := rest) rfl
    (by rw [hb]; exact d4) (by rw [hb]; exact d7) hout hRframes (by simp only [List.map_cons, List.sum_cons, hcat]; omega) hlocks
  obtain ⟨f1, f2⟩ := vx_frame hsame
  rw [hhp] at f1 f2
  have hWs : s.WarmedH U.vm := State.WarmedH.trans hW0 hW
  have hcl : s.vm.findClass cls = some ce.cls := by
    have h9 := hO.cls
    rw [hvm] at h9
    exact h9
  have hall : s.sameButNew ({ U with vm := s.vm } : State) locs mc ms := by
    subst hA
    obtain ⟨e1, e2⟩ := hsame
    rw [State.setFrames_setFrames] at e1
    have h2 : (T.setVm s.vm).sameButNew ({ U with vm := s.vm } : State) [] (0 + 1) (0 + 6) := ⟨e1, e2⟩
    have h3 := X.same.trans h2
    rw [List.append_nil] at h3
    exact h3.mono hc hs
  refine ⟨U, ?_, .threw T.heap.size, hrun, hend, Or.inr ⟨T.heap.size, rfl, cls, ce, locs, hx U hWs.alike f1 (fun q hq => f2 q hq (fun z hz => nomatch hz)), hce, hO.vm, hcl, hWs, hall, hf⟩⟩
  refine st1 _ ?_
  show Steps p.tables e below (T1.setTop { method := m, pc := pc + 3, locals := ls, stack := .ref T.heap.size :: rest, locked := none }) _
  jvm_step X₁.here [X₁.here.top, hexec, d3', Value.category]
  exact hsteps
/-- 'throw new E("text")': new; dup; ldc; invokespecial; athrow -/
theorem vx_throwS {cc : ByteArray} {pc : Nat} (hexec : p.tables.exec = Jvm.exec) (hb : c.code = cc) (hl : l.stackTraces = false) {own cls text : String} {names : List String} {ik is ic mc ms sa : Nat} {A : Nat → Prop}
    (hown : s.vm.findClass own = some m.cls) (hcls : Bundle.fit cls = true) (hnames : ∀ n ∈ names, Bundle.fit n = true)
    (hk : (Cond.classLink own ik cls).before args s = true) (hini : (Cond.initialized cls).before args s = true) (hstr : vk_R own is text sa s) (hat : ∀ w ∈ vx_atS own ic cls names, w.before args s = true)
    (hgood : ∀ w ∈ Cond.classLink own ik cls :: Cond.initialized cls :: vx_atS own ic cls names, vx_ot w = true)
    (hU : vx_Zq Bundle.tN "UNASSIGNED_STACK" Bundle.steD A s s.heap) (hN : vx_Zq Bundle.tN "SUPPRESSED_SENTINEL" Bundle.listD A s s.heap) (hS : va_S A s.heap H locs) (hsize : ls.size = c.maxLocals)
    (d0 : decode cc pc = .ok (.new ik, 3)) (d3 : decode cc (pc + 3) = .ok (.dup, 1)) (d4 : decode cc (pc + 4) = .ok (.ldc is, 2)) (d6 : decode cc (pc + 6) = .ok (.invokespecial ic, 3)) (d9 : decode cc (pc + 9) = .ok (.athrow, 1))
    (hout : ∀ x ∈ c.exceptionTable.toList, covers x (pc + 9) = false)
    (hRframes : names.length + 3 < R.frames) (hRlocals : (rest.map fun v => v.category).sum + (13 * (names.length + 1) + 43) ≤ R.locals) (hRcells : cells + 1 ≤ R.cells) (hRslots : slots + 6 ≤ R.slots) (hlocks : meth.locks = false)
    (hx : ∀ t : State, s.vm.Alike t.vm → H.size ≤ t.heap.size → (∀ q : Nat, q < H.size → t.heap[q]? = H[q]?) → XC cls s t)
    (hf : ∀ z ∈ locs, free z.base) (hc : cells + 1 ≤ mc) (hs : slots + 6 ≤ ms) :
    W p l e R s m args below meth c H locs cells slots (vx_MQ below Qc XC args s mc ms free) (F0 m pc ls rest) := by
  intro T hT X
  have htr : e.platform.stackTraces = false := (show e.platform.stackTraces = l.stackTraces by rw [X.admits.platform]).trans hl
  have Y := vx_rebase X (R' := { frames := R.frames, locals := R.locals, cells := 1, slots := 6 }) (Nat.le_refl _) (Nat.le_refl _) hRcells hRslots
  obtain ⟨s', hA⟩ : ∃ z, z = (T.setVm s.vm).setFrames (.invoking m args :: below) := ⟨_, rfl⟩
  rw [← hA] at Y
  have hvm : s'.vm = s.vm := by rw [hA]; rfl
  have hhp : s'.heap = H := by rw [hA]; exact hT
  have hW0 : s.WarmedH s'.vm := by rw [hvm]; exact State.WarmedH.refl s
  have hat' : ∀ w ∈ vx_atS own ic cls names, w.before args s' = true := fun w hw => vx_ot_at hW0 hvm.symm (hgood w (List.mem_cons_of_mem _ (List.mem_cons_of_mem _ hw))) (hat w hw)
  have hk' : (Cond.classLink own ik cls).before args s' = true := vx_ot_at hW0 hvm.symm (hgood _ List.mem_cons_self) hk
  have hini' : (Cond.initialized cls).before args s' = true := vx_ot_at hW0 hvm.symm (hgood _ (List.mem_cons_of_mem _ List.mem_cons_self)) hini
  have hU' : vx_Zq Bundle.tN "UNASSIGNED_STACK" Bundle.steD A s' s'.heap := by rw [hhp]; exact vx_Zq.moved hW0.alike (hU.kept hS.2.1)
  have hN' : vx_Zq Bundle.tN "SUPPRESSED_SENTINEL" Bundle.listD A s' s'.heap := by rw [hhp]; exact vx_Zq.moved hW0.alike (hN.kept hS.2.1)
  have h : ∀ w ∈ Bundle.ownAtoms own ic cls names, w.before args s' = true := vx_own hat' (vx_isRefq hU'.1) (vx_isRefq hN'.1) hU'.2.word hN'.2.word
  have hown' : s'.vm.findClass own = some m.cls := by rw [hvm]; exact hown
  have hins : (Cond.instantiable cls 6).before args s' = true := h _ (by simp [Bundle.ownAtoms])
  obtain ⟨vm₁, cX, kX, hfX, hkX, -, -, X₁, st1⟩ := Y.newCold hexec (own := own) (C := cls) (index := ik) (n := 6) hown' hk' hins hini'
    (g := F0 m pc ls rest) rfl (by rw [hb]; exact d0) (Nat.le_refl _) (Nat.le_refl _)
  generalize hT1 : (T.setVm vm₁).pushCell { cls := cX, slots := kX.instanceTypes.map defaultValue, vm := .none } = T1 at X₁ st1
  have hcat : (Value.ref T.heap.size).category = 1 := rfl
  have hcellA : T1.heap[T.heap.size]? = some (freshCell cX kX) := by rw [← hT1]; exact State.heap_pushCell_size _ _
  have d3' : decode c.code (pc + 3) = .ok (.dup, 1) := by rw [hb]; exact d3
  have d4' : decode c.code (pc + 4) = .ok (.ldc is, 2) := by rw [hb]; exact d4
  have hstr' : vk_R own is text sa s' := vk_R.warm hW0 hstr
  obtain ⟨U, hsteps, hrun, hend, hW, hsame, ce, hce, hO⟩ := X₁.ctorThrowS hexec htr (own := own) (cls := cls) (names := names) (ic := ic) hown' hcls hnames h (fun x hx => nomatch hx) hfX hkX hcellA (by rw [hhp, hT]; exact Nat.le_refl _) (msg := .ref sa) rfl
    (g := { method := m, pc := pc + 6, locals := ls, stack := .ref sa :: .ref T.heap.size :: .ref T.heap.size :: rest, locked := none }) rfl hsize rfl rfl (rest := rest) rfl
    (by rw [hb]; exact d6) (by rw [hb]; exact d9) hout hRframes (by simp only [List.map_cons, List.sum_cons, hcat]; omega) hlocks
  obtain ⟨f1, f2⟩ := vx_frame hsame
  rw [hhp] at f1 f2
  have hWs : s.WarmedH U.vm := State.WarmedH.trans hW0 hW
  have hcl : s.vm.findClass cls = some ce.cls := by
    have h9 := hO.cls
    rw [hvm] at h9
    exact h9
  have hall : s.sameButNew ({ U with vm := s.vm } : State) locs mc ms := by
    subst hA
    obtain ⟨e1, e2⟩ := hsame
    rw [State.setFrames_setFrames] at e1
    have h2 : (T.setVm s.vm).sameButNew ({ U with vm := s.vm } : State) [] (0 + 1) (0 + 6) := ⟨e1, e2⟩
    have h3 := X.same.trans h2
    rw [List.append_nil] at h3
    exact h3.mono hc hs
  refine ⟨U, ?_, .threw T.heap.size, hrun, hend, Or.inr ⟨T.heap.size, rfl, cls, ce, locs, hx U hWs.alike f1 (fun q hq => f2 q hq (fun z hz => nomatch hz)), hce, hO.vm, hcl, hWs, hall, hf⟩⟩
  refine st1 _ ?_
  show Steps p.tables e below (T1.setTop { method := m, pc := pc + 3, locals := ls, stack := .ref T.heap.size :: rest, locked := none }) _
  jvm_step X₁.here [X₁.here.top, hexec, d3', Value.category]
  exact X₁.ldcString hexec (own := own) (text := text) (index := is) (a := sa) hown' hstr'.1 hstr'.2
    (g := { method := m, pc := pc + 4, locals := ls, stack := .ref T.heap.size :: .ref T.heap.size :: rest, locked := none }) rfl d4' _ hsteps
/-- 'throw new E("text")', the text by a wide index -/
theorem vx_throwSW {cc : ByteArray} {pc : Nat} (hexec : p.tables.exec = Jvm.exec) (hb : c.code = cc) (hl : l.stackTraces = false) {own cls text : String} {names : List String} {ik is ic mc ms sa : Nat} {A : Nat → Prop}
    (hown : s.vm.findClass own = some m.cls) (hcls : Bundle.fit cls = true) (hnames : ∀ n ∈ names, Bundle.fit n = true)
    (hk : (Cond.classLink own ik cls).before args s = true) (hini : (Cond.initialized cls).before args s = true) (hstr : vk_R own is text sa s) (hat : ∀ w ∈ vx_atS own ic cls names, w.before args s = true)
    (hgood : ∀ w ∈ Cond.classLink own ik cls :: Cond.initialized cls :: vx_atS own ic cls names, vx_ot w = true)
    (hU : vx_Zq Bundle.tN "UNASSIGNED_STACK" Bundle.steD A s s.heap) (hN : vx_Zq Bundle.tN "SUPPRESSED_SENTINEL" Bundle.listD A s s.heap) (hS : va_S A s.heap H locs) (hsize : ls.size = c.maxLocals)
    (d0 : decode cc pc = .ok (.new ik, 3)) (d3 : decode cc (pc + 3) = .ok (.dup, 1)) (d4 : decode cc (pc + 4) = .ok (.ldc_w is, 3)) (d7 : decode cc (pc + 7) = .ok (.invokespecial ic, 3)) (d10 : decode cc (pc + 10) = .ok (.athrow, 1))
    (hout : ∀ x ∈ c.exceptionTable.toList, covers x (pc + 10) = false)
    (hRframes : names.length + 3 < R.frames) (hRlocals : (rest.map fun v => v.category).sum + (13 * (names.length + 1) + 43) ≤ R.locals) (hRcells : cells + 1 ≤ R.cells) (hRslots : slots + 6 ≤ R.slots) (hlocks : meth.locks = false)
    (hx : ∀ t : State, s.vm.Alike t.vm → H.size ≤ t.heap.size → (∀ q : Nat, q < H.size → t.heap[q]? = H[q]?) → XC cls s t)
    (hf : ∀ z ∈ locs, free z.base) (hc : cells + 1 ≤ mc) (hs : slots + 6 ≤ ms) :
    W p l e R s m args below meth c H locs cells slots (vx_MQ below Qc XC args s mc ms free) (F0 m pc ls rest) := by
  intro T hT X
  have htr : e.platform.stackTraces = false := (show e.platform.stackTraces = l.stackTraces by rw [X.admits.platform]).trans hl
  have Y := vx_rebase X (R' := { frames := R.frames, locals := R.locals, cells := 1, slots := 6 }) (Nat.le_refl _) (Nat.le_refl _) hRcells hRslots
  obtain ⟨s', hA⟩ : ∃ z, z = (T.setVm s.vm).setFrames (.invoking m args :: below) := ⟨_, rfl⟩
  rw [← hA] at Y
  have hvm : s'.vm = s.vm := by rw [hA]; rfl
  have hhp : s'.heap = H := by rw [hA]; exact hT
  have hW0 : s.WarmedH s'.vm := by rw [hvm]; exact State.WarmedH.refl s
  have hat' : ∀ w ∈ vx_atS own ic cls names, w.before args s' = true := fun w hw => vx_ot_at hW0 hvm.symm (hgood w (List.mem_cons_of_mem _ (List.mem_cons_of_mem _ hw))) (hat w hw)
  have hk' : (Cond.classLink own ik cls).before args s' = true := vx_ot_at hW0 hvm.symm (hgood _ List.mem_cons_self) hk
  have hini' : (Cond.initialized cls).before args s' = true := vx_ot_at hW0 hvm.symm (hgood _ (List.mem_cons_of_mem _ List.mem_cons_self)) hini
  have hU' : vx_Zq Bundle.tN "UNASSIGNED_STACK" Bundle.steD A s' s'.heap := by rw [hhp]; exact vx_Zq.moved hW0.alike (hU.kept hS.2.1)
  have hN' : vx_Zq Bundle.tN "SUPPRESSED_SENTINEL" Bundle.listD A s' s'.heap := by rw [hhp]; exact vx_Zq.moved hW0.alike (hN.kept hS.2.1)
  have h : ∀ w ∈ Bundle.ownAtoms own ic cls names, w.before args s' = true := vx_own hat' (vx_isRefq hU'.1) (vx_isRefq hN'.1) hU'.2.word hN'.2.word
  have hown' : s'.vm.findClass own = some m.cls := by rw [hvm]; exact hown
  have hins : (Cond.instantiable cls 6).before args s' = true := h _ (by simp [Bundle.ownAtoms])
  obtain ⟨vm₁, cX, kX, hfX, hkX, -, -, X₁, st1⟩ := Y.newCold hexec (own := own) (C := cls) (index := ik) (n := 6) hown' hk' hins hini'
    (g := F0 m pc ls rest) rfl (by rw [hb]; exact d0) (Nat.le_refl _) (Nat.le_refl _)
  generalize hT1 : (T.setVm vm₁).pushCell { cls := cX, slots := kX.instanceTypes.map defaultValue, vm := .none } = T1 at X₁ st1
  have hcat : (Value.ref T.heap.size).category = 1 := rfl
  have hcellA : T1.heap[T.heap.size]? = some (freshCell cX kX) := by rw [← hT1]; exact State.heap_pushCell_size _ _
  have d3' : decode c.code (pc + 3) = .ok (.dup, 1) := by rw [hb]; exact d3
  have d4' : decode c.code (pc + 4) = .ok (.ldc_w is, 3) := by rw [hb]; exact d4
  have hstr' : vk_R own is text sa s' := vk_R.warm hW0 hstr
  obtain ⟨U, hsteps, hrun, hend, hW, hsame, ce, hce, hO⟩ := X₁.ctorThrowS hexec htr (own := own) (cls := cls) (names := names) (ic := ic) hown' hcls hnames h (fun x hx => nomatch hx) hfX hkX hcellA (by rw [hhp, hT]; exact Nat.le_refl _) (msg := .ref sa) rfl
    (g := { method := m, pc := pc + 7, locals := ls, stack := .ref sa :: .ref T.heap.size :: .ref T.heap.size :: rest, locked := none }) rfl hsize rfl rfl (rest := rest) rfl
    (by rw [hb]; exact d7) (by rw [hb]; exact d10) hout hRframes (by simp only [List.map_cons, List.sum_cons, hcat]; omega) hlocks
  obtain ⟨f1, f2⟩ := vx_frame hsame
  rw [hhp] at f1 f2
  have hWs : s.WarmedH U.vm := State.WarmedH.trans hW0 hW
  have hcl : s.vm.findClass cls = some ce.cls := by
    have h9 := hO.cls
    rw [hvm] at h9
    exact h9
  have hall : s.sameButNew ({ U with vm := s.vm } : State) locs mc ms := by
    subst hA
    obtain ⟨e1, e2⟩ := hsame
    rw [State.setFrames_setFrames] at e1
    have h2 : (T.setVm s.vm).sameButNew ({ U with vm := s.vm } : State) [] (0 + 1) (0 + 6) := ⟨e1, e2⟩
    have h3 := X.same.trans h2
    rw [List.append_nil] at h3
    exact h3.mono hc hs
  refine ⟨U, ?_, .threw T.heap.size, hrun, hend, Or.inr ⟨T.heap.size, rfl, cls, ce, locs, hx U hWs.alike f1 (fun q hq => f2 q hq (fun z hz => nomatch hz)), hce, hO.vm, hcl, hWs, hall, hf⟩⟩
  refine st1 _ ?_
  show Steps p.tables e below (T1.setTop { method := m, pc := pc + 3, locals := ls, stack := .ref T.heap.size :: rest, locked := none }) _
  jvm_step X₁.here [X₁.here.top, hexec, d3', Value.category]
  exact X₁.ldcStringW hexec (own := own) (text := text) (index := is) (a := sa) hown' hstr'.1 hstr'.2
    (g := { method := m, pc := pc + 4, locals := ls, stack := .ref T.heap.size :: .ref T.heap.size :: rest, locked := none }) rfl d4' _ hsteps
end Ends
section Bodies
variable {l : Launch}
theorem vx_ofW {y : MethodName} {ws ws' : List Cond} {rm : Room} {Pc : Array Value → State → Prop} {Qc : Array Value → State → Outcome → State → Prop} {XC : String → State → State → Prop} {mc ms : Nat} {free : Addr → Prop} {cc : ByteArray} {maxL : Nat} {ret : Option FieldType}
    (hy : plainName y.cls = true) (hw : ws = Cond.code y cc maxL ret :: ws')
    (body : ∀ p e s m args below meth c s₁, BodyLoose p l y (headSpec ws rm) cc maxL ret e s m args below meth c s₁ → c.maxLocals = maxL → (∀ x ∈ c.exceptionTable.toList, False) → Pc args s →
      W p l e (headSpec ws rm).room s m args below meth c s.heap [] 0 0 (vx_MQ below Qc XC args s mc ms free) (entryFrame m args maxL)) : vx_Met l y ws rm Pc Qc XC mc ms free := by
  refine MetFree.of_bodyS (code := cc) (maxLocals := maxL) (ret := ret) hy ?_ ?_
  · intro args s m h hn
    obtain ⟨meth, c, h1, h2, h3, h4, h5, h6, -, -⟩ := Cond.code_spec hn (atoms_spec (ws := ws) h _ (by rw [hw]; exact List.mem_cons_self))
    exact ⟨meth, c, h1, h2, h3, h4, h5, h6⟩
  · intro p e s m args below meth c s₁ B hml hP _
    have hh0 : s₁.heap = s.heap := by rw [B.state]; rfl
    have ht : ∀ x ∈ c.exceptionTable.toList, False := by
      obtain ⟨meth9, c9, h1, h2, -, -, -, -, h7, -⟩ := Cond.code_spec B.named (atoms_spec (ws := ws) B.pre _ (by rw [hw]; exact List.mem_cons_self))
      cases Option.some.inj (h1.symm.trans B.method)
      cases Option.some.inj (h2.symm.trans (Stand.of_body B).code)
      intro x hx
      rw [Array.isEmpty_iff.mp h7] at hx
      cases hx
    obtain ⟨t, a1, o, b1, b2, b3⟩ := body p e s m args below meth c s₁ B hml ht hP s₁ hh0 (Stand.of_body B)
    exact ⟨t, o, a1, b1, b2, b3⟩
/-- the table of a body with handlers -/
theorem vx_table {p : Program} {x y : MethodName} {S : Spec} {cc bytes : ByteArray} {maxL maxL' : Nat} {ret ret' : Option FieldType} {e : Env} {s s₁ : State} {m : MethodId} {args : Array Value} {below : List Frame} {meth : Method} {c : Code} {hh : List (Nat × Nat × Nat × Nat)}
    (B : BodyLoose p l y S cc maxL ret e s m args below meth c s₁) (h : (Cond.codeWith y bytes maxL' ret' hh).before args s = true) : c.exceptionTable.toList = tableOf hh := by
  obtain ⟨m9, meth9, c9, hn9, h1, h2, -, -, h6, -⟩ := Cond.codeWith_spec h
  cases Option.some.inj (hn9.symm.trans B.named)
  cases Option.some.inj (h1.symm.trans B.method)
  cases Option.some.inj (h2.symm.trans (Stand.of_body B).code)
  rw [← h6, table_eq]
end Bodies
end VXA
/-! ===== END ===== -/
/-! ===== BEGIN a static call of a method with an exception table ===== -/
section VXS
variable {p : Program} {l : Launch} {e : Env} {R : Room} {s : State} {m : MethodId} {args : Array Value} {below : List Frame} {meth : Method} {c : Code} {T : State} {H : Heap} {locs : List Loc} {cells slots : Nat}
abbrev vx_CSW (R : Room) (s : State) (args : Array Value) (own : String) (index : Nat) (y : MethodName) (bytes : ByteArray) (maxL : Nat) (ret : Option FieldType) (hh : List (Nat × Nat × Nat × Nat)) (ws : List Cond) (rm : Room) (mc ms n : Nat) : Prop :=
  (rm.cells = mc ∧ rm.slots = ms ∧ rm.frames + 1 ≤ R.frames ∧ 8 + (maxL + 11) + rm.locals ≤ R.locals ∧ (∀ w ∈ ws, ∀ (a' : Array Value) (U : State), s.WarmedH U.vm → w.before a' U = true) ∧ Cond.codeWith y bytes maxL ret hh ∈ ws) ∧
  (Cond.codeWith y bytes maxL ret hh).before args s = true ∧ (Cond.initialized y.cls).before args s = true ∧ (y.cls ≠ "java/lang/invoke/MethodHandle" ∧ y.cls ≠ "java/lang/invoke/VarHandle") ∧
  (∀ sig, parseMethodDescriptor y.desc = some sig → n = sig.parameters.length) ∧ (Cond.methodLink own index y).before args s = true ∧ (Cond.static y).before args s = true
theorem vx_cwSW {own : String} {index maxL mc ms : Nat} {y : MethodName} {bytes : ByteArray} {ret : Option FieldType} {hh : List (Nat × Nat × Nat × Nat)} {Ts ws ws' : List Cond} {rm : Room} (n : Nat) (ht : ∀ w ∈ Ts, w.before args s = true) (hT : GoodIn Ts (va_wsS own index y ws)) (hw : ws = Cond.codeWith y bytes maxL ret hh :: ws') (hrc : rm.cells = mc) (hrs : rm.slots = ms)
    (hd : y.cls ≠ "java/lang/invoke/MethodHandle" ∧ y.cls ≠ "java/lang/invoke/VarHandle" ∧ (parseMethodDescriptor y.desc).map (fun d => d.parameters.length) = some n) (hR : rm.frames + 1 ≤ R.frames ∧ 8 + (maxL + 11) + rm.locals ≤ R.locals) :
    vx_CSW R s args own index y bytes maxL ret hh ws rm mc ms n := by
  have ok : ∀ w ∈ va_wsS own index y ws, w.before args s = true := fun w h => ht w (hT w h).1
  have hG : GoodIn Ts ws := fun w h => hT w (by unfold va_wsS; exact List.mem_append_right _ h)
  have hc : Cond.codeWith y bytes maxL ret hh ∈ ws := by rw [hw]; exact List.mem_cons_self
  refine ⟨⟨hrc, hrs, hR.1, hR.2, pay_in ht hG, hc⟩, ht _ (hG _ hc).1, ok _ (by simp [va_wsS]), ⟨hd.1, hd.2.1⟩, fun sig h => ?_, ok _ (by simp [va_wsS]), ok _ (by simp [va_wsS])⟩
  have h2 := hd.2.2
  rw [h] at h2
  exact (Option.some.inj h2).symm
theorem vx_callSW (X : Stand p l e R s m args below meth c T locs cells slots) (hexec : p.tables.exec = Jvm.exec) {own : String} {index : Nat} {y : MethodName} {bytes : ByteArray} {maxL : Nat} {ret : Option FieldType} {hh : List (Nat × Nat × Nat × Nat)}
    (hown : s.vm.findClass own = some m.cls) (hlink : (Cond.methodLink own index y).before args s = true) (hstat : (Cond.static y).before args s = true) (hinit : (Cond.initialized y.cls).before args s = true)
    (hcode : (Cond.codeWith y bytes maxL ret hh).before args s = true) (hy : y.cls ≠ "java/lang/invoke/MethodHandle" ∧ y.cls ≠ "java/lang/invoke/VarHandle")
    {W9 : Nat} {Pre : Pt → Array Value → Prop} {Post : Pt → Array Value → Option Value → Pt → Prop} (hK : Back l R p e below s args y 3 W9 Pre Post)
    {g : JFrame} (hg : g.method = m) (hsize : g.locals.size = c.maxLocals) {argsL rest : List Value} (hlen : ∀ sig, parseMethodDescriptor y.desc = some sig → argsL.length = sig.parameters.length)
    (hstack : g.stack = argsL.reverse ++ rest) (hW : 2 * g.monitorRoom + (rest.map fun v => v.category).sum ≤ W9) (hdg : decode c.code g.pc = .ok (.invokestatic index, 3))
    (hpre : ∀ vm₁, s.WarmedH vm₁ → Pre ⟨T.setVm vm₁, locs, cells, slots⟩ argsL.toArray) :
    ∃ (v : Option Value) (vm₁ : Vm) (B : Pt), s.WarmedH vm₁ ∧ Stand p l e R s m args below meth c B.U B.locs B.cells B.slots ∧ Post ⟨T.setVm vm₁, locs, cells, slots⟩ argsL.toArray v B ∧
      ∀ target, Steps p.tables e below (B.U.setTop { g with pc := g.pc + 3, stack := v.toList ++ rest }) target → Steps p.tables e below (T.setTop g) target := by
  obtain ⟨mk, methM, cM, hnamed, hmethM, -, -, -, -, -, -, hsigM⟩ := Cond.codeWith_spec hcode
  have hstatic : methM.isStatic = true := Cond.static_spec hnamed hmethM hstat
  obtain ⟨kP, hkP, -⟩ := className_of_methodNamed hnamed
  have hinitP : kP.init = .initialized := Cond.initialized_spec (findClass_of_methodNamed hnamed) hkP hinit
  obtain ⟨vm₁, X₁, hstep₁⟩ := X.invokestatic hexec hown hlink hnamed hmethM hstatic hkP hinitP hy (g := g) hg (argsL := argsL) (rest := rest) (hlen _ hsigM) hstack hdg
  obtain ⟨v, B, X', hpost, hsteps⟩ := hK m meth c ⟨T.setVm vm₁, locs, cells, slots⟩ { g with stack := rest } (.invokestatic index) mk argsL.toArray X₁ hg hsize hdg hW (X₁.named hnamed) (hpre vm₁ X₁.warmed)
  exact ⟨v, vm₁, B, X₁.warmed, X', hpost, fun target h => hstep₁ _ fun acts => by rw [doInvoke_state]; exact hsteps.trans h⟩
theorem vx_runSW {y : MethodName} {bytes cc : ByteArray} {maxL nL mc ms n index : Nat} {ret : Option FieldType} {hh : List (Nat × Nat × Nat × Nat)} {ws : List Cond} {rm : Room} {Pc : Array Value → State → Prop} {Qc : Array Value → State → Outcome → State → Prop} {free : Addr → Prop} {Ts : List Cond} {own : String} {As rest : List Value} {g : JFrame}
    (S : CallFix p m c cc nL s args Ts own) (hM : Met l y ws rm Pc Qc mc ms free) (cw : vx_CSW R s args own index y bytes maxL ret hh ws rm mc ms n) (hp : PreS s H Pc As)
    (hg : g.method = m) (hn : As.length = n) (hsize : g.locals.size = nL) (hstack : g.stack = As.reverse ++ rest) (hW : 2 * g.monitorRoom + (rest.map fun v => v.category).sum ≤ 8) (hdg : decode cc g.pc = .ok (.invokestatic index, 3)) (hf : cells + mc ≤ R.cells ∧ slots + ms ≤ R.slots) :
    va_Run p l e R s m args below meth c H locs cells slots mc ms g rest (Qc As.toArray) (free) := by
  obtain ⟨⟨hrc, hrs, hfr, hlo, hws, hcw⟩, hcode, hini, hy, hlen, hl, hstt⟩ := cw
  have hK : Back l R p e below s args y 3 8 (PreOf R mc ms Pc) (PostOf Qc mc ms free) := va_backW (hh := hh) (bytes := bytes) (maxL := maxL) (ret := ret) hM hp.1 hrc hrs hfr hlo hws hcw (fun a' U hW => word_at hW (Or.inl (by first | rfl | simp [Cond.onTables, Cond.keeps, Cond.steady])) hini)
  obtain ⟨hx, hb, hml, ho, -⟩ := S
  intro T hT X
  obtain ⟨v, vm₁, ⟨U', l2, c2, s2⟩, hW₁, X', ⟨g', mk, t, L, e1, e2, hq, h1, hL, h2, h3⟩, st⟩ := vx_callSW X hx (hh := hh) (bytes := bytes) (maxL := maxL) (ret := ret) ho hl hstt hini hcode hy hK hg (hsize.trans hml.symm) (argsL := As) (rest := rest) (fun sig h => hn.trans (hlen sig h)) hstack hW (by rw [hb]; exact hdg)
    (fun vm₁ hW₁ => ⟨hf.1, hf.2, hp.2 (T.setVm vm₁) hT hW₁⟩)
  dsimp only [Pt.U, Pt.locs, Pt.cells, Pt.slots] at X' e1 e2 h1 h2 h3 st
  subst h1; subst h2; subst h3
  exact ⟨v, (T.setVm vm₁).calling g' mk As.toArray, t, U', L, hT, X', hL, e1, e2, hq, st⟩
/-- not caught here, past rows that name other classes: it goes on to the caller -/
theorem vx_outP {p : Program} {l : Launch} {e : Env} {R : Room} {s : State} {m : MethodId} {args : Array Value} {below : List Frame} {meth : Method} {c : Code} {H : Heap} {locs : List Loc} {cells slots : Nat} {free : Addr → Prop} {ls : Array Slot} {rest : List Value} {Qc : Array Value → State → Outcome → State → Prop} {XC : String → State → State → Prop}
    {pc : Nat} {own E : String} {ce : Cell} {q : Addr} {mc ms : Nat} (hown : s.vm.findClass own = some m.cls) (hlocks : meth.locks = false)
    (hpass : ∀ z ∈ c.exceptionTable.toList, covers z pc = false ∨ (z.catchType ≠ 0 ∧ ∃ nm : String, (Cond.classLink own z.catchType nm).before args s = true ∧ va_Nc E nm s)) (hcell : H[q]? = some ce) (hv : ce.vm = .none) (hcl : s.vm.findClass E = some ce.cls)
    (hx : ∀ t : State, t.heap = H → s.vm.Alike t.vm → XC E s t) (hf : ∀ z ∈ locs, free z.base) (hc : cells ≤ mc) (hs : slots ≤ ms) :
    vx_W p l e R s m args below meth c H locs cells slots (vx_MQ below Qc XC args s mc ms free) (F0 m pc ls rest) q := by
  intro T hT X
  have hpl : e.platform.magicAccessors = ({} : Platform).magicAccessors := by rw [X.admits.platform]
  obtain ⟨vm', hW', X', st⟩ := X.outThrough hlocks q (g := F0 m pc ls rest) rfl rfl rfl (cell := ce) (by rw [hT]; exact hcell) (by rw [hv]; rfl)
    (by obtain ⟨k9, h9, -⟩ := Vm.findClass_spec hcl; exact ⟨k9, h9⟩) (fun z hz => by
      rcases hpass z hz with h | ⟨hz0, nm, hl1, hn1⟩
      · exact Or.inl h
      · obtain ⟨c6, hc6, hcl6⟩ := Cond.classLink_spec hown hl1 e.platform hpl
        obtain ⟨a8, b8, h1, h2, h3⟩ := hn1
        cases Option.some.inj (h1.symm.trans hcl)
        cases Option.some.inj (h2.symm.trans hc6)
        exact Or.inr ⟨hz0, _, hcl6, h3⟩)
  obtain ⟨g₀, hfr⟩ := X'.frames_eq
  have hcell9 : ((T.setVm vm').setFrames (.throwing q :: below)).heap[q]? = some ce := by
    show T.heap[q]? = some ce
    rw [hT]; exact hcell
  have hend : Ended ((T.setVm vm').setFrames (.throwing q :: below)) below (.threw q) := State.frames_setFrames _ (State.cur_lt_of_frames hfr)
  refine ⟨(T.setVm vm').setFrames (.throwing q :: below), ?_, .threw q, X'.here.running, hend, Or.inr ⟨q, rfl, E, ce, locs, hx _ hT (X'.ends _).1.alike, hcell9, hv, hcl, (X'.ends _).1, (X'.ends _).2.mono hc hs, hf⟩⟩
  rw [X.pushThrowing_eq]
  exact st
/-- a thing of a world lies in the heap -/
theorem vx_lt {D : va_G} {cl : List vw_C} {ws : va_W} {H1 : Heap} (h : va_P D cl ws H1) {k : Nat} {q : Nat × va_E} (hk : ws[k]? = some q) : q.1 < H1.size := (h k q hk).lt
end VXS
/-! ===== END ===== -/
/-! ===== BEGIN methods with a table of their own: called by a name, returning or throwing ===== -/
section VXH
/-! vx_backW, vx_callVX, vx_callSX, vx_callVW, vx_runVW, vx_runVX, vx_runSX, vx_ofWH follow the same proofs as their sisters above (Free/Laws.lean, Shelf42/LK1.lean); vx_outP calls Shelf42/NT130.lean (outThrough). -/
section
variable {l : Launch} {R : Room} {p : Program} {e : Env} {below : List Frame} {s : State} {sargs : Array Value} {y : MethodName} {len W9 : Nat}
theorem vx_backW {ws : List Cond} {rm : Room} {Pc : Array Value → State → Prop} {Qc : Array Value → State → Outcome → State → Prop} {XC : String → State → State → Prop} {mc ms : Nat} {free : Addr → Prop} {bytes : ByteArray} {maxL : Nat} {ret : Option FieldType} {hh : List (Nat × Nat × Nat × Nat)}
    (hM : vx_Met l y ws rm Pc Qc XC mc ms free) (hblind : FrameBlind Pc) (hrc : rm.cells = mc) (hrs : rm.slots = ms)
    (hframes : rm.frames + 1 ≤ R.frames) (hlocals : W9 + (maxL + 11) + rm.locals ≤ R.locals)
    (hws : ∀ w ∈ ws, ∀ a' U, s.WarmedH U.vm → w.before a' U = true) (hcode : Cond.codeWith y bytes maxL ret hh ∈ ws) (hinit : ∀ a' U, s.WarmedH U.vm → (Cond.initialized y.cls).before a' U = true) :
    vx_Back l R p e below s sargs y len W9 (PreOf R mc ms Pc) (PostOf Qc mc ms free) (vx_Post XC mc ms free) := by
  intro m meth c A g ig mk a X hg hsize hdg hW hn hp
  have h1 : (headSpec ws rm).pre.before a A.U = true := atoms_intro fun w hw => hws w hw _ _ X.warmed
  have h2 : (Cond.codeWith y bytes maxL ret hh).before a A.U = true := hws _ hcode _ _ X.warmed
  have h3 : (Cond.initialized y.cls).before a A.U = true := hinit _ _ X.warmed
  have h4 : A.cells + (headSpec ws rm).room.cells ≤ R.cells := by rw [show (headSpec ws rm).room.cells = mc from hrc]; exact hp.1
  have h5 : A.slots + (headSpec ws rm).room.slots ≤ R.slots := by rw [show (headSpec ws rm).room.slots = ms from hrs]; exact hp.2.1
  have hPc : Pc a (A.U.calling g mk a) := hblind _ _ _ _ hp.2.2
  obtain ⟨U, Ls, c0, s0⟩ := A
  dsimp only [Pt.U, Pt.locs, Pt.cells, Pt.slots] at h1 h2 h3 h4 h5 X hn hPc ⊢
  obtain ⟨m9, methY, cY, hn9, hmY, hcY, -, hlY, -⟩ := Cond.codeWith_spec h2
  cases Option.some.inj (hn9.symm.trans hn)
  obtain ⟨kY, hkY, -⟩ := className_of_methodNamed hn
  have hinitY : kY.init = .initialized := Cond.initialized_spec (findClass_of_methodNamed hn) hkY h3
  have h : At U g.method c below := by rw [hg]; exact X.here
  have hlocals9 : W9 + (maxL + 11) + (headSpec ws rm).room.locals ≤ R.locals := hlocals
  have happ : (headSpec ws rm).appliesLoose y e.platform (U.calling g mk a) = true :=
    Spec.appliesLoose_calling (g := g) h hdg hn hkY hinitY
      (X.room_calling (g := g) (R' := (headSpec ws rm).room) hsize hmY hcY hframes (by rw [hlY]; omega) h4 h5) h1
  obtain ⟨mid, hmid⟩ := h.above
  have hfr : (U.setTop g).frames = (.java g :: mid) ++ below := by rw [State.frames_setTop' g h.top, hmid]; rfl
  obtain ⟨o, s₂, hsteps, -, hend, hq⟩ := Steps.callFree hM p X.admits X.cas X.clock (acts := []) hfr happ hPc trivial
  have hq' : vx_Q Qc XC mc ms free a (U.calling g mk a) o s₂ := hq
  rw [State.frames_setTop' g h.top] at hend
  obtain ⟨g₀, hg0⟩ := Option.isSome_iff_exists.mp h.top
  obtain ⟨r, hr⟩ := State.topJava?_eq_some.mp hg0
  have hr' : (({ U with heap := s₂.heap, slotsUsed := s₂.slotsUsed } : State).setVm s₂.vm).frames = .java g₀ :: r := hr
  rcases hq' with ⟨hqc, L, hfe, hL⟩ | ⟨q, rfl, E, ce, L, hx, hce, hcv, hcl, hW₂, hsm, hL⟩
  · obtain ⟨⟨v, rfl⟩, hW₂, e2, q2, q3, q4, q5, q6⟩ := id hfe
    have e3 : s₂ = ({ (U.calling g mk a).setFrames s₂.frames with heap := s₂.heap, slotsUsed := s₂.slotsUsed } : State).setVm s₂.vm := by
      have : s₂ = ({ s₂ with vm := (U.calling g mk a).vm } : State).setVm s₂.vm := rfl
      rw [e2] at this
      exact this
    obtain ⟨c₂, i₂, len₂, hc₂, hd₂, hf₂⟩ := hend
    have hW' : U.WarmedH s₂.vm := hW₂
    have hcc : c₂ = c := by
      have h1 : s₂.code? g.method = U.code? g.method := by
        rw [State.code?_eq, State.code?_eq, hW'.alike.method?]
      exact Option.some.inj (hc₂.symm.trans (h1.trans h.code))
    subst hcc
    have hlen : len₂ = len := by rw [hdg] at hd₂; cases hd₂; rfl
    subst hlen
    have hs₂ : s₂ = (({ U with heap := s₂.heap, slotsUsed := s₂.slotsUsed } : State).setVm s₂.vm).setTop { g with pc := g.pc + len₂, stack := v.toList ++ g.stack } := by
      refine e3.trans ?_
      rw [hf₂, State.calling_eq h.top, State.setFrames_setFrames, State.setTop_of_frames _ hr', hr]
      rfl
    have hsame : U.sameButNew ({ U with heap := s₂.heap, slotsUsed := s₂.slotsUsed } : State) L mc ms := by
      refine ⟨?_, q2, q3, q4, q5, q6⟩
      obtain ⟨t, ht, -⟩ := State.frames_cons hr
      show ({ U with heap := s₂.heap, slotsUsed := s₂.slotsUsed } : State) = { U.setFrames U.frames with heap := s₂.heap, slotsUsed := s₂.slotsUsed }
      rw [State.setFrames_self ht]
    subst hg
    refine Or.inl ⟨v, ⟨(({ U with heap := s₂.heap, slotsUsed := s₂.slotsUsed } : State).setVm s₂.vm), Ls ++ L, c0 + mc, s0 + ms⟩,
      ⟨X.admits, X.cas, X.clock, X.frames, X.room, X.hears, X.method, X.code, (X.here.setHeapUsed s₂.heap s₂.slotsUsed).setVm hW'.alike, X.tail, State.WarmedH.trans X.warmed hW', X.limits, X.bytes, X.same.trans (hsame.setVm s.vm)⟩,
      ⟨g, mk, s₂, L, rfl, rfl, hqc, rfl, hL, rfl, rfl⟩, ?_⟩
    show Steps p.tables e below _ ((({ U with heap := s₂.heap, slotsUsed := s₂.slotsUsed } : State).setVm s₂.vm).setTop { g with pc := g.pc + len₂, stack := v.toList ++ g.stack })
    rw [← hs₂]
    exact hsteps
  · obtain ⟨e2, q2, q3, q4, q5, q6⟩ := id hsm
    have e3 : s₂ = ({ (U.calling g mk a).setFrames s₂.frames with heap := s₂.heap, slotsUsed := s₂.slotsUsed } : State).setVm s₂.vm := by
      have : s₂ = ({ s₂ with vm := (U.calling g mk a).vm } : State).setVm s₂.vm := rfl
      rw [e2] at this
      exact this
    have hf₂ : s₂.frames = .throwing q :: .java g :: U.frames.tail := hend
    have hW' : U.WarmedH s₂.vm := hW₂
    have hs₂ : s₂ = ((({ U with heap := s₂.heap, slotsUsed := s₂.slotsUsed } : State).setVm s₂.vm).setTop g).pushFrame (.throwing q) := by
      refine e3.trans ?_
      rw [hf₂, State.calling_eq h.top, State.setFrames_setFrames, State.pushFrame, State.frames_setTop _ hr', State.setTop_of_frames _ hr', State.setFrames_setFrames, hr]
      rfl
    have hsame : U.sameButNew ({ U with heap := s₂.heap, slotsUsed := s₂.slotsUsed } : State) L mc ms := by
      refine ⟨?_, q2, q3, q4, q5, q6⟩
      obtain ⟨t, ht, -⟩ := State.frames_cons hr
      show ({ U with heap := s₂.heap, slotsUsed := s₂.slotsUsed } : State) = { U.setFrames U.frames with heap := s₂.heap, slotsUsed := s₂.slotsUsed }
      rw [State.setFrames_self ht]
    subst hg
    refine Or.inr ⟨q, ⟨(({ U with heap := s₂.heap, slotsUsed := s₂.slotsUsed } : State).setVm s₂.vm), Ls ++ L, c0 + mc, s0 + ms⟩,
      ⟨X.admits, X.cas, X.clock, X.frames, X.room, X.hears, X.method, X.code, (X.here.setHeapUsed s₂.heap s₂.slotsUsed).setVm hW'.alike, X.tail, State.WarmedH.trans X.warmed hW', X.limits, X.bytes, X.same.trans (hsame.setVm s.vm)⟩,
      ⟨g, mk, s₂, L, E, ce, rfl, rfl, hx, hce, hcv, hcl, rfl, hL, rfl, rfl⟩, ?_⟩
    show Steps p.tables e below _ (((({ U with heap := s₂.heap, slotsUsed := s₂.slotsUsed } : State).setVm s₂.vm).setTop g).pushFrame (.throwing q))
    rw [← hs₂]
    exact hsteps
end
variable {p : Program} {l : Launch} {e : Env} {R : Room} {s : State} {m : MethodId} {args : Array Value} {below : List Frame} {meth : Method} {c : Code} {T : State} {H : Heap} {locs : List Loc} {cells slots : Nat}
theorem vx_callVX (X : Stand p l e R s m args below meth c T locs cells slots) (hexec : p.tables.exec = Jvm.exec) {own C : String} {index : Nat} {y : MethodName} {bytes : ByteArray} {maxL : Nat} {ret : Option FieldType} {hh : List (Nat × Nat × Nat × Nat)}
    (hown : s.vm.findClass own = some m.cls) (hlink : (Cond.methodLink own index y).before args s = true) (hinst : (Cond.instanceMethod y).before args s = true) (hsel : (Cond.selects C y y).before args s = true)
    (hcode : (Cond.codeWith y bytes maxL ret hh).before args s = true) (hy : y.cls ≠ "java/lang/invoke/MethodHandle" ∧ y.cls ≠ "java/lang/invoke/VarHandle")
    {W9 : Nat} {Pre : Pt → Array Value → Prop} {Post : Pt → Array Value → Option Value → Pt → Prop} {PostX : Pt → Array Value → Addr → Pt → Prop} (hK : vx_Back l R p e below s args y 3 W9 Pre Post PostX)
    {b : Addr} {cellB : Cell} (hcell : T.heap[b]? = some cellB) (hobj : cellB.vm.isStatics = false) (hcls : s.vm.findClass C = some cellB.cls)
    {g : JFrame} (hg : g.method = m) (hsize : g.locals.size = c.maxLocals) {argsL rest : List Value} (hlen : ∀ sig, parseMethodDescriptor y.desc = some sig → argsL.length = sig.parameters.length)
    (hstack : g.stack = argsL.reverse ++ .ref b :: rest) (hW : 2 * g.monitorRoom + (rest.map fun v => v.category).sum ≤ W9) (hdg : decode c.code g.pc = .ok (.invokevirtual index, 3))
    (hpre : ∀ vm₁, s.WarmedH vm₁ → Pre ⟨T.setVm vm₁, locs, cells, slots⟩ (Value.ref b :: argsL).toArray) :
    (∃ (v : Option Value) (vm₁ : Vm) (B : Pt), s.WarmedH vm₁ ∧ Stand p l e R s m args below meth c B.U B.locs B.cells B.slots ∧ Post ⟨T.setVm vm₁, locs, cells, slots⟩ (Value.ref b :: argsL).toArray v B ∧
      ∀ target, Steps p.tables e below (B.U.setTop { g with pc := g.pc + 3, stack := v.toList ++ rest }) target → Steps p.tables e below (T.setTop g) target) ∨
    (∃ (q : Addr) (vm₁ : Vm) (B : Pt), s.WarmedH vm₁ ∧ Stand p l e R s m args below meth c B.U B.locs B.cells B.slots ∧ PostX ⟨T.setVm vm₁, locs, cells, slots⟩ (Value.ref b :: argsL).toArray q B ∧
      Steps p.tables e below (T.setTop g) ((B.U.setTop { g with stack := rest }).pushFrame (.throwing q))) := by
  obtain ⟨mk, methM, hnamed, hmethM, hstM, habM⟩ := Cond.instanceMethod_spec hinst
  obtain ⟨m8, methM', cM, hn8, hmethM', -, -, -, -, -, -, hsigM⟩ := Cond.codeWith_spec hcode
  cases Option.some.inj (hn8.symm.trans hnamed)
  cases hmethM.symm.trans hmethM'
  obtain ⟨c2, r2, m2, q1, q2, q3, q4, kP, hkP, hkPi⟩ := Cond.selects_spec hsel
  cases hcls.symm.trans q1
  cases (State.methodFound?_of_named hnamed hy).symm.trans q2
  cases hnamed.symm.trans q3
  have hselP : selectMethod e.platform s.vm cellB.cls mk = .method mk := by rw [Launch.admits_selectMethod X.admits]; exact q4
  obtain ⟨vm₁, X₁, hstep₁⟩ := X.invokevirtual hexec hown hlink hnamed hmethM hstM hkP hkPi hy (a := b) (cell := cellB) hcell
    (fun z h => by rw [h] at hobj; cases hobj) hselP hmethM habM hkP hkPi (g := g) hg (argsL := argsL) (rest := rest) (hlen _ hsigM) hstack hdg
  rcases hK m meth c ⟨T.setVm vm₁, locs, cells, slots⟩ { g with stack := rest } (.invokevirtual index) mk (Value.ref b :: argsL).toArray X₁ hg hsize hdg hW (X₁.named hnamed) (hpre vm₁ X₁.warmed) with ⟨v, B, X', hpost, hsteps⟩ | ⟨q, B, X', hpost, hsteps⟩
  · exact Or.inl ⟨v, vm₁, B, X₁.warmed, X', hpost, fun target h => hstep₁ _ fun acts => by rw [doInvoke_state]; exact hsteps.trans h⟩
  · exact Or.inr ⟨q, vm₁, B, X₁.warmed, X', hpost, hstep₁ _ fun acts => by rw [doInvoke_state]; exact hsteps⟩
theorem vx_callSX (X : Stand p l e R s m args below meth c T locs cells slots) (hexec : p.tables.exec = Jvm.exec) {own : String} {index : Nat} {y : MethodName} {bytes : ByteArray} {maxL : Nat} {ret : Option FieldType} {hh : List (Nat × Nat × Nat × Nat)}
    (hown : s.vm.findClass own = some m.cls) (hlink : (Cond.methodLink own index y).before args s = true) (hstat : (Cond.static y).before args s = true) (hinit : (Cond.initialized y.cls).before args s = true)
    (hcode : (Cond.codeWith y bytes maxL ret hh).before args s = true) (hy : y.cls ≠ "java/lang/invoke/MethodHandle" ∧ y.cls ≠ "java/lang/invoke/VarHandle")
    {W9 : Nat} {Pre : Pt → Array Value → Prop} {Post : Pt → Array Value → Option Value → Pt → Prop} {PostX : Pt → Array Value → Addr → Pt → Prop} (hK : vx_Back l R p e below s args y 3 W9 Pre Post PostX)
    {g : JFrame} (hg : g.method = m) (hsize : g.locals.size = c.maxLocals) {argsL rest : List Value} (hlen : ∀ sig, parseMethodDescriptor y.desc = some sig → argsL.length = sig.parameters.length)
    (hstack : g.stack = argsL.reverse ++ rest) (hW : 2 * g.monitorRoom + (rest.map fun v => v.category).sum ≤ W9) (hdg : decode c.code g.pc = .ok (.invokestatic index, 3))
    (hpre : ∀ vm₁, s.WarmedH vm₁ → Pre ⟨T.setVm vm₁, locs, cells, slots⟩ argsL.toArray) :
    (∃ (v : Option Value) (vm₁ : Vm) (B : Pt), s.WarmedH vm₁ ∧ Stand p l e R s m args below meth c B.U B.locs B.cells B.slots ∧ Post ⟨T.setVm vm₁, locs, cells, slots⟩ argsL.toArray v B ∧
      ∀ target, Steps p.tables e below (B.U.setTop { g with pc := g.pc + 3, stack := v.toList ++ rest }) target → Steps p.tables e below (T.setTop g) target) ∨
    (∃ (q : Addr) (vm₁ : Vm) (B : Pt), s.WarmedH vm₁ ∧ Stand p l e R s m args below meth c B.U B.locs B.cells B.slots ∧ PostX ⟨T.setVm vm₁, locs, cells, slots⟩ argsL.toArray q B ∧
      Steps p.tables e below (T.setTop g) ((B.U.setTop { g with stack := rest }).pushFrame (.throwing q))) := by
  obtain ⟨mk, methM, cM, hnamed, hmethM, -, -, -, -, -, -, hsigM⟩ := Cond.codeWith_spec hcode
  have hstatic : methM.isStatic = true := Cond.static_spec hnamed hmethM hstat
  obtain ⟨kP, hkP, -⟩ := className_of_methodNamed hnamed
  have hinitP : kP.init = .initialized := Cond.initialized_spec (findClass_of_methodNamed hnamed) hkP hinit
  obtain ⟨vm₁, X₁, hstep₁⟩ := X.invokestatic hexec hown hlink hnamed hmethM hstatic hkP hinitP hy (g := g) hg (argsL := argsL) (rest := rest) (hlen _ hsigM) hstack hdg
  rcases hK m meth c ⟨T.setVm vm₁, locs, cells, slots⟩ { g with stack := rest } (.invokestatic index) mk argsL.toArray X₁ hg hsize hdg hW (X₁.named hnamed) (hpre vm₁ X₁.warmed) with ⟨v, B, X', hpost, hsteps⟩ | ⟨q, B, X', hpost, hsteps⟩
  · exact Or.inl ⟨v, vm₁, B, X₁.warmed, X', hpost, fun target h => hstep₁ _ fun acts => by rw [doInvoke_state]; exact hsteps.trans h⟩
  · exact Or.inr ⟨q, vm₁, B, X₁.warmed, X', hpost, hstep₁ _ fun acts => by rw [doInvoke_state]; exact hsteps⟩
theorem vx_callVW (X : Stand p l e R s m args below meth c T locs cells slots) (hexec : p.tables.exec = Jvm.exec) {own C : String} {index : Nat} {y : MethodName} {bytes : ByteArray} {maxL : Nat} {ret : Option FieldType} {hh : List (Nat × Nat × Nat × Nat)}
    (hown : s.vm.findClass own = some m.cls) (hlink : (Cond.methodLink own index y).before args s = true) (hinst : (Cond.instanceMethod y).before args s = true) (hsel : (Cond.selects C y y).before args s = true)
    (hcode : (Cond.codeWith y bytes maxL ret hh).before args s = true) (hy : y.cls ≠ "java/lang/invoke/MethodHandle" ∧ y.cls ≠ "java/lang/invoke/VarHandle")
    {W9 : Nat} {Pre : Pt → Array Value → Prop} {Post : Pt → Array Value → Option Value → Pt → Prop} (hK : Back l R p e below s args y 3 W9 Pre Post)
    {b : Addr} {cellB : Cell} (hcell : T.heap[b]? = some cellB) (hobj : cellB.vm.isStatics = false) (hcls : s.vm.findClass C = some cellB.cls)
    {g : JFrame} (hg : g.method = m) (hsize : g.locals.size = c.maxLocals) {argsL rest : List Value} (hlen : ∀ sig, parseMethodDescriptor y.desc = some sig → argsL.length = sig.parameters.length)
    (hstack : g.stack = argsL.reverse ++ .ref b :: rest) (hW : 2 * g.monitorRoom + (rest.map fun v => v.category).sum ≤ W9) (hdg : decode c.code g.pc = .ok (.invokevirtual index, 3))
    (hpre : ∀ vm₁, s.WarmedH vm₁ → Pre ⟨T.setVm vm₁, locs, cells, slots⟩ (Value.ref b :: argsL).toArray) :
    ∃ (v : Option Value) (vm₁ : Vm) (B : Pt), s.WarmedH vm₁ ∧ Stand p l e R s m args below meth c B.U B.locs B.cells B.slots ∧ Post ⟨T.setVm vm₁, locs, cells, slots⟩ (Value.ref b :: argsL).toArray v B ∧
      ∀ target, Steps p.tables e below (B.U.setTop { g with pc := g.pc + 3, stack := v.toList ++ rest }) target → Steps p.tables e below (T.setTop g) target := by
  obtain ⟨mk, methM, hnamed, hmethM, hstM, habM⟩ := Cond.instanceMethod_spec hinst
  obtain ⟨m8, methM', cM, hn8, hmethM', -, -, -, -, -, -, hsigM⟩ := Cond.codeWith_spec hcode
  cases Option.some.inj (hn8.symm.trans hnamed)
  cases hmethM.symm.trans hmethM'
  obtain ⟨c2, r2, m2, q1, q2, q3, q4, kP, hkP, hkPi⟩ := Cond.selects_spec hsel
  cases hcls.symm.trans q1
  cases (State.methodFound?_of_named hnamed hy).symm.trans q2
  cases hnamed.symm.trans q3
  have hselP : selectMethod e.platform s.vm cellB.cls mk = .method mk := by rw [Launch.admits_selectMethod X.admits]; exact q4
  obtain ⟨vm₁, X₁, hstep₁⟩ := X.invokevirtual hexec hown hlink hnamed hmethM hstM hkP hkPi hy (a := b) (cell := cellB) hcell
    (fun z h => by rw [h] at hobj; cases hobj) hselP hmethM habM hkP hkPi (g := g) hg (argsL := argsL) (rest := rest) (hlen _ hsigM) hstack hdg
  obtain ⟨v, B, X', hpost, hsteps⟩ := hK m meth c ⟨T.setVm vm₁, locs, cells, slots⟩ { g with stack := rest } (.invokevirtual index) mk (Value.ref b :: argsL).toArray X₁ hg hsize hdg hW (X₁.named hnamed) (hpre vm₁ X₁.warmed)
  exact ⟨v, vm₁, B, X₁.warmed, X', hpost, fun target h => hstep₁ _ fun acts => by rw [doInvoke_state]; exact hsteps.trans h⟩
abbrev vx_CVW (R : Room) (s : State) (args : Array Value) (own C : String) (index : Nat) (y : MethodName) (bytes : ByteArray) (maxL : Nat) (ret : Option FieldType) (hh : List (Nat × Nat × Nat × Nat)) (ws : List Cond) (rm : Room) (mc ms n : Nat) : Prop :=
  (rm.cells = mc ∧ rm.slots = ms ∧ rm.frames + 1 ≤ R.frames ∧ 8 + (maxL + 11) + rm.locals ≤ R.locals ∧ (∀ w ∈ ws, ∀ (a' : Array Value) (U : State), s.WarmedH U.vm → w.before a' U = true) ∧ Cond.codeWith y bytes maxL ret hh ∈ ws) ∧
  (Cond.codeWith y bytes maxL ret hh).before args s = true ∧ (Cond.initialized y.cls).before args s = true ∧ (y.cls ≠ "java/lang/invoke/MethodHandle" ∧ y.cls ≠ "java/lang/invoke/VarHandle") ∧
  (∀ sig, parseMethodDescriptor y.desc = some sig → n = sig.parameters.length) ∧ (Cond.methodLink own index y).before args s = true ∧ (Cond.instanceMethod y).before args s = true ∧ (Cond.selects C y y).before args s = true
theorem vx_cwVW {own C : String} {index maxL mc ms : Nat} {y : MethodName} {bytes : ByteArray} {ret : Option FieldType} {hh : List (Nat × Nat × Nat × Nat)} {Ts ws ws' : List Cond} {rm : Room} (n : Nat) (ht : ∀ w ∈ Ts, w.before args s = true) (hT : GoodIn Ts (wsV own index C y ws)) (hw : ws = Cond.codeWith y bytes maxL ret hh :: ws') (hrc : rm.cells = mc) (hrs : rm.slots = ms)
    (hd : y.cls = C ∧ y.cls ≠ "java/lang/invoke/MethodHandle" ∧ y.cls ≠ "java/lang/invoke/VarHandle" ∧ (parseMethodDescriptor y.desc).map (fun d => d.parameters.length) = some n) (hR : rm.frames + 1 ≤ R.frames ∧ 8 + (maxL + 11) + rm.locals ≤ R.locals) :
    vx_CVW R s args own C index y bytes maxL ret hh ws rm mc ms n := by
  obtain ⟨hC, hd⟩ := hd
  subst hC
  have ok : ∀ w ∈ wsV own index y.cls y ws, w.before args s = true := fun w h => ht w (hT w h).1
  have hG : GoodIn Ts ws := fun w h => hT w (by unfold wsV; exact List.mem_append_right _ h)
  have hc : Cond.codeWith y bytes maxL ret hh ∈ ws := by rw [hw]; exact List.mem_cons_self
  refine ⟨⟨hrc, hrs, hR.1, hR.2, pay_in ht hG, hc⟩, ht _ (hG _ hc).1, ok _ (by simp [wsV]), ⟨hd.1, hd.2.1⟩, fun sig h => ?_, ok _ (by simp [wsV]), ok _ (by simp [wsV]), ok _ (by simp [wsV])⟩
  have h2 := hd.2.2
  rw [h] at h2
  exact (Option.some.inj h2).symm
theorem vx_runVW {y : MethodName} {bytes cc : ByteArray} {maxL nL mc ms n index : Nat} {ret : Option FieldType} {hh : List (Nat × Nat × Nat × Nat)} {ws : List Cond} {rm : Room} {Pc : Array Value → State → Prop} {Qc : Array Value → State → Outcome → State → Prop} {free : Addr → Prop} {Ts : List Cond} {own C : String} {b : Addr} {As rest : List Value} {g : JFrame}
    (S : CallFix p m c cc nL s args Ts own) (hM : Met l y ws rm Pc Qc mc ms free) (cw : vx_CVW R s args own C index y bytes maxL ret hh ws rm mc ms n) (hp : PreV s H C b Pc As)
    (hg : g.method = m) (hn : As.length = n) (hsize : g.locals.size = nL) (hstack : g.stack = As.reverse ++ .ref b :: rest) (hW : 2 * g.monitorRoom + (rest.map fun v => v.category).sum ≤ 8) (hdg : decode cc g.pc = .ok (.invokevirtual index, 3)) (hf : cells + mc ≤ R.cells ∧ slots + ms ≤ R.slots) :
    va_Run p l e R s m args below meth c H locs cells slots mc ms g rest (Qc (Value.ref b :: As).toArray) free := by
  obtain ⟨⟨hrc, hrs, hfr, hlo, hws, hcw⟩, hcode, hini, hy, hlen, hl, hin, hse⟩ := cw
  have hK : Back l R p e below s args y 3 8 (PreOf R mc ms Pc) (PostOf Qc mc ms free) := va_backW (hh := hh) (bytes := bytes) (maxL := maxL) (ret := ret) hM hp.1 hrc hrs hfr hlo hws hcw (fun a' U hW => word_at hW (Or.inl (by first | rfl | simp [Cond.onTables, Cond.keeps, Cond.steady])) hini)
  obtain ⟨hx, hb, hml, ho, -⟩ := S
  obtain ⟨-, ⟨cellB, hcB, hoB, hclB⟩, hPc⟩ := hp
  intro T hT X
  obtain ⟨v, vm₁, ⟨U', l2, c2, s2⟩, hW₁, X', ⟨g', mk, t, L, e1, e2, hq, h1, hL, h2, h3⟩, st⟩ := vx_callVW X hx (C := C) (hh := hh) (bytes := bytes) (maxL := maxL) (ret := ret) ho hl hin hse hcode hy hK (by rw [hT]; exact hcB) hoB hclB hg (hsize.trans hml.symm) (argsL := As) (rest := rest) (fun sig h => hn.trans (hlen sig h)) hstack hW (by rw [hb]; exact hdg)
    (fun vm₁ hW₁ => ⟨hf.1, hf.2, hPc (T.setVm vm₁) hT hW₁⟩)
  dsimp only [Pt.U, Pt.locs, Pt.cells, Pt.slots] at X' e1 e2 h1 h2 h3 st
  subst h1; subst h2; subst h3
  exact ⟨v, (T.setVm vm₁).calling g' mk (Value.ref b :: As).toArray, t, U', L, hT, X', hL, e1, e2, hq, st⟩
section
variable {y : MethodName} {bytes cc : ByteArray} {maxL nL mc ms n index : Nat} {ret : Option FieldType} {ws : List Cond} {rm : Room} {Pc : Array Value → State → Prop} {Qc : Array Value → State → Outcome → State → Prop} {XC : String → State → State → Prop} {free : Addr → Prop} {Ts : List Cond} {own C : String} {b : Addr} {As rest : List Value} {g : JFrame}
theorem vx_runVX {hh : List (Nat × Nat × Nat × Nat)} (S : CallFix p m c cc nL s args Ts own) (hM : vx_Met l y ws rm Pc Qc XC mc ms free) (cw : vx_CVW R s args own C index y bytes maxL ret hh ws rm mc ms n) (hp : PreV s H C b Pc As)
    (hg : g.method = m) (hn : As.length = n) (hsize : g.locals.size = nL) (hstack : g.stack = As.reverse ++ .ref b :: rest) (hW : 2 * g.monitorRoom + (rest.map fun v => v.category).sum ≤ 8) (hdg : decode cc g.pc = .ok (.invokevirtual index, 3)) (hf : cells + mc ≤ R.cells ∧ slots + ms ≤ R.slots) :
    vx_Run p l e R s m args below meth c H locs cells slots mc ms g rest (Qc (Value.ref b :: As).toArray) XC free := by
  obtain ⟨⟨hrc, hrs, hfr, hlo, hws, hcw⟩, hcode, hini, hy, hlen, hl, hin, hse⟩ := cw
  have hK : vx_Back l R p e below s args y 3 8 (PreOf R mc ms Pc) (PostOf Qc mc ms free) (vx_Post XC mc ms free) := vx_backW (hh := hh) (bytes := bytes) (maxL := maxL) (ret := ret) hM hp.1 hrc hrs hfr hlo hws hcw (fun a' U hW => word_at hW (Or.inl (by first | rfl | simp [Cond.onTables, Cond.keeps, Cond.steady])) hini)
  obtain ⟨hx, hb, hml, ho, -⟩ := S
  obtain ⟨-, ⟨cellB, hcB, hoB, hclB⟩, hPc⟩ := hp
  intro T hT X
  rcases vx_callVX X hx (C := C) (hh := hh) (bytes := bytes) (maxL := maxL) (ret := ret) ho hl hin hse hcode hy hK (by rw [hT]; exact hcB) hoB hclB hg (hsize.trans hml.symm) (argsL := As) (rest := rest) (fun sig h => hn.trans (hlen sig h)) hstack hW (by rw [hb]; exact hdg)
    (fun vm₁ hW₁ => ⟨hf.1, hf.2, hPc (T.setVm vm₁) hT hW₁⟩) with ⟨v, vm₁, ⟨U', l2, c2, s2⟩, hW₁, X', ⟨g', mk, t, L, e1, e2, hq, h1, hL, h2, h3⟩, st⟩ | ⟨q, vm₁, ⟨U', l2, c2, s2⟩, hW₁, X', ⟨g', mk, t, L, E, ce, e1, e2, hq, hce, hcv, hcl, h1, hL, h2, h3⟩, st⟩
  · dsimp only [Pt.U, Pt.locs, Pt.cells, Pt.slots] at X' e1 e2 h1 h2 h3 st
    subst h1; subst h2; subst h3
    exact Or.inl ⟨v, (T.setVm vm₁).calling g' mk (Value.ref b :: As).toArray, t, U', L, hT, X', hL, e1, e2, hq, st⟩
  · dsimp only [Pt.U, Pt.locs, Pt.cells, Pt.slots] at X' e1 e2 h1 h2 h3 st hcl
    subst h1; subst h2; subst h3
    exact Or.inr ⟨q, (T.setVm vm₁).calling g' mk (Value.ref b :: As).toArray, t, U', L, E, ce, hT, X', hL, e1, e2, hq, hce, hcv, vx_cls hW₁ hcl, st⟩
theorem vx_runSX {hh : List (Nat × Nat × Nat × Nat)} (S : CallFix p m c cc nL s args Ts own) (hM : vx_Met l y ws rm Pc Qc XC mc ms free) (cw : vx_CSW R s args own index y bytes maxL ret hh ws rm mc ms n) (hp : PreS s H Pc As)
    (hg : g.method = m) (hn : As.length = n) (hsize : g.locals.size = nL) (hstack : g.stack = As.reverse ++ rest) (hW : 2 * g.monitorRoom + (rest.map fun v => v.category).sum ≤ 8) (hdg : decode cc g.pc = .ok (.invokestatic index, 3)) (hf : cells + mc ≤ R.cells ∧ slots + ms ≤ R.slots) :
    vx_Run p l e R s m args below meth c H locs cells slots mc ms g rest (Qc As.toArray) XC free := by
  obtain ⟨⟨hrc, hrs, hfr, hlo, hws, hcw⟩, hcode, hini, hy, hlen, hl, hstt⟩ := cw
  have hK : vx_Back l R p e below s args y 3 8 (PreOf R mc ms Pc) (PostOf Qc mc ms free) (vx_Post XC mc ms free) := vx_backW (hh := hh) (bytes := bytes) (maxL := maxL) (ret := ret) hM hp.1 hrc hrs hfr hlo hws hcw (fun a' U hW => word_at hW (Or.inl (by first | rfl | simp [Cond.onTables, Cond.keeps, Cond.steady])) hini)
  obtain ⟨hx, hb, hml, ho, -⟩ := S
  intro T hT X
  rcases vx_callSX X hx (hh := hh) (bytes := bytes) (maxL := maxL) (ret := ret) ho hl hstt hini hcode hy hK hg (hsize.trans hml.symm) (argsL := As) (rest := rest) (fun sig h => hn.trans (hlen sig h)) hstack hW (by rw [hb]; exact hdg)
    (fun vm₁ hW₁ => ⟨hf.1, hf.2, hp.2 (T.setVm vm₁) hT hW₁⟩) with ⟨v, vm₁, ⟨U', l2, c2, s2⟩, hW₁, X', ⟨g', mk, t, L, e1, e2, hq, h1, hL, h2, h3⟩, st⟩ | ⟨q, vm₁, ⟨U', l2, c2, s2⟩, hW₁, X', ⟨g', mk, t, L, E, ce, e1, e2, hq, hce, hcv, hcl, h1, hL, h2, h3⟩, st⟩
  · dsimp only [Pt.U, Pt.locs, Pt.cells, Pt.slots] at X' e1 e2 h1 h2 h3 st
    subst h1; subst h2; subst h3
    exact Or.inl ⟨v, (T.setVm vm₁).calling g' mk As.toArray, t, U', L, hT, X', hL, e1, e2, hq, st⟩
  · dsimp only [Pt.U, Pt.locs, Pt.cells, Pt.slots] at X' e1 e2 h1 h2 h3 st hcl
    subst h1; subst h2; subst h3
    exact Or.inr ⟨q, (T.setVm vm₁).calling g' mk As.toArray, t, U', L, E, ce, hT, X', hL, e1, e2, hq, hce, hcv, vx_cls hW₁ hcl, st⟩
end
end VXH
theorem vx_ofWH {l : Launch} {y : MethodName} {ws ws' : List Cond} {rm : Room} {Pc : Array Value → State → Prop} {Qc : Array Value → State → Outcome → State → Prop} {XC : String → State → State → Prop} {mc ms : Nat} {free : Addr → Prop} {cc : ByteArray} {maxL : Nat} {ret : Option FieldType} {hh : List (Nat × Nat × Nat × Nat)}
    (hy : plainName y.cls = true) (hw : ws = Cond.codeWith y cc maxL ret hh :: ws')
    (body : ∀ p e s m args below meth c s₁, BodyLoose p l y (headSpec ws rm) cc maxL ret e s m args below meth c s₁ → c.maxLocals = maxL → Pc args s →
      W p l e (headSpec ws rm).room s m args below meth c s.heap [] 0 0 (vx_MQ below Qc XC args s mc ms free) (entryFrame m args maxL)) : vx_Met l y ws rm Pc Qc XC mc ms free := by
  refine MetFree.of_bodyS (code := cc) (maxLocals := maxL) (ret := ret) hy ?_ ?_
  · intro args s m h hn
    obtain ⟨m9, meth, c, hn9, h1, h2, h3, h4, -, h5, h6, -⟩ := Cond.codeWith_spec (atoms_spec (ws := ws) h _ (by rw [hw]; exact List.mem_cons_self))
    cases hn.symm.trans hn9
    exact ⟨meth, c, h1, h2, h3, h4, h5, h6⟩
  · intro p e s m args below meth c s₁ B hml hP _
    have hh0 : s₁.heap = s.heap := by rw [B.state]; rfl
    obtain ⟨t, a1, o, b1, b2, b3⟩ := body p e s m args below meth c s₁ B hml hP s₁ hh0 (Stand.of_body B)
    exact ⟨t, o, a1, b1, b2, b3⟩
/-! ===== END ===== -/

/-! ===== BEGIN printed: names, fields, word lists, decode rows ===== -/
def RX0 : String := "Keysapart$Index"
def TX0 : u_T := fun k => match k with
  | _ => ("Keysapart$Index", "positions", "[I", true)
def tyX0 : Nat → FieldType := fun k => match k with
  | _ => .array .int
abbrev wsX00 : List Cond := u_ws RX0 TX0 1
theorem nmX0 : ∀ a, a < 1 → ∀ b, b < 1 → a ≠ b → (TX0 a).2.1 ≠ (TX0 b).2.1 := by decide +kernel
theorem tyX0_ok : ∀ k, k < 1 → parseFieldDescriptor (TX0 k).2.2.1 = some (tyX0 k) := by decide +kernel
abbrev cX0_init : ByteArray := prog_2_method_1_code
def yX0_init : MethodName := ⟨RX0, "<init>", "()V"⟩
abbrev cX0_find : ByteArray := prog_2_method_2_code
def yX0_find : MethodName := ⟨RX0, "find", "(I)I"⟩
abbrev cX0_has : ByteArray := prog_2_method_3_code
def yX0_has : MethodName := ⟨RX0, "has", "(I)Z"⟩
abbrev cX0_point : ByteArray := prog_2_method_4_code
def yX0_point : MethodName := ⟨RX0, "point", "(II)V"⟩
abbrev cX0_size : ByteArray := prog_2_method_5_code
def yX0_size : MethodName := ⟨RX0, "size", "()I"⟩
abbrev cX0_takeFrom : ByteArray := prog_2_method_6_code
def yX0_takeFrom : MethodName := ⟨RX0, "takeFrom", "(LKeysapart$Index;)V"⟩
abbrev cX0_dropBelow : ByteArray := prog_2_method_7_code
def yX0_dropBelow : MethodName := ⟨RX0, "dropBelow", "(I)V"⟩
def RX1 : String := "Keysapart$Log"
def TX1 : u_T := fun k => match k with
  | 0 => ("Keysapart$Log", "keys", "[I", true)
  | _ => ("Keysapart$Log", "values", "[I", true)
def tyX1 : Nat → FieldType := fun k => match k with
  | 0 => .array .int
  | _ => .array .int
abbrev wsX10 : List Cond := u_ws RX1 TX1 2
theorem nmX1 : ∀ a, a < 2 → ∀ b, b < 2 → a ≠ b → (TX1 a).2.1 ≠ (TX1 b).2.1 := by decide +kernel
theorem tyX1_ok : ∀ k, k < 2 → parseFieldDescriptor (TX1 k).2.2.1 = some (tyX1 k) := by decide +kernel
abbrev cX1_init : ByteArray := prog_3_method_1_code
def yX1_init : MethodName := ⟨RX1, "<init>", "()V"⟩
abbrev cX1_store : ByteArray := prog_3_method_2_code
def yX1_store : MethodName := ⟨RX1, "store", "(III)V"⟩
abbrev cX1_keyAt : ByteArray := prog_3_method_3_code
def yX1_keyAt : MethodName := ⟨RX1, "keyAt", "(I)I"⟩
abbrev cX1_valueAt : ByteArray := prog_3_method_4_code
def yX1_valueAt : MethodName := ⟨RX1, "valueAt", "(I)I"⟩
def RX2 : String := "Keysapart"
def TX2 : u_T := fun k => match k with
  | 0 => ("Keysapart", "log", "LKeysapart$Log;", true)
  | 1 => ("Keysapart", "index", "LKeysapart$Index;", true)
  | 2 => ("Keysapart", "checkpointIndex", "LKeysapart$Index;", true)
  | 3 => ("Keysapart", "trialIndex", "LKeysapart$Index;", true)
  | 4 => ("Keysapart", "up", "Z", false)
  | 5 => ("Keysapart", "headAt", "I", false)
  | 6 => ("Keysapart", "tailAt", "I", false)
  | 7 => ("Keysapart", "writtenTo", "I", false)
  | 8 => ("Keysapart", "checkpointTo", "I", false)
  | _ => ("Keysapart", "writesAhead", "I", false)
def tyX2 : Nat → FieldType := fun k => match k with
  | 0 => .object "Keysapart$Log"
  | 1 => .object "Keysapart$Index"
  | 2 => .object "Keysapart$Index"
  | 3 => .object "Keysapart$Index"
  | 4 => .boolean
  | 5 => .int
  | 6 => .int
  | 7 => .int
  | 8 => .int
  | _ => .int
abbrev wsX20 : List Cond := u_ws RX2 TX2 10
theorem nmX2 : ∀ a, a < 10 → ∀ b, b < 10 → a ≠ b → (TX2 a).2.1 ≠ (TX2 b).2.1 := by decide +kernel
theorem tyX2_ok : ∀ k, k < 10 → parseFieldDescriptor (TX2 k).2.2.1 = some (tyX2 k) := by decide +kernel
abbrev cX2_init : ByteArray := prog_1_method_1_code
def yX2_init : MethodName := ⟨RX2, "<init>", "()V"⟩
abbrev cX2_put : ByteArray := prog_1_method_2_code
def yX2_put : MethodName := ⟨RX2, "put", "(II)I"⟩
abbrev cX2_delete : ByteArray := prog_1_method_3_code
def yX2_delete : MethodName := ⟨RX2, "delete", "(I)I"⟩
abbrev cX2_get : ByteArray := prog_1_method_4_code
def yX2_get : MethodName := ⟨RX2, "get", "(I)I"⟩
abbrev cX2_next : ByteArray := prog_1_method_5_code
def yX2_next : MethodName := ⟨RX2, "next", "(I)I"⟩
abbrev cX2_sum : ByteArray := prog_1_method_6_code
def yX2_sum : MethodName := ⟨RX2, "sum", "(II)I"⟩
abbrev cX2_fetches : ByteArray := prog_1_method_7_code
def yX2_fetches : MethodName := ⟨RX2, "fetches", "(II)I"⟩
abbrev cX2_synchronize : ByteArray := prog_1_method_8_code
def yX2_synchronize : MethodName := ⟨RX2, "synchronize", "()Z"⟩
abbrev cX2_checkpoint : ByteArray := prog_1_method_9_code
def yX2_checkpoint : MethodName := ⟨RX2, "checkpoint", "()Z"⟩
abbrev cX2_collect : ByteArray := prog_1_method_10_code
def yX2_collect : MethodName := ⟨RX2, "collect", "(I)Z"⟩
abbrev cX2_failAfter : ByteArray := prog_1_method_11_code
def yX2_failAfter : MethodName := ⟨RX2, "failAfter", "(I)V"⟩
abbrev cX2_crash : ByteArray := prog_1_method_12_code
def yX2_crash : MethodName := ⟨RX2, "crash", "()I"⟩
abbrev cX2_start : ByteArray := prog_1_method_13_code
def yX2_start : MethodName := ⟨RX2, "start", "()I"⟩
abbrev cX2_isUp : ByteArray := prog_1_method_14_code
def yX2_isUp : MethodName := ⟨RX2, "isUp", "()Z"⟩
abbrev cX2_head : ByteArray := prog_1_method_15_code
def yX2_head : MethodName := ⟨RX2, "head", "()I"⟩
abbrev cX2_tail : ByteArray := prog_1_method_16_code
def yX2_tail : MethodName := ⟨RX2, "tail", "()I"⟩
abbrev cX2_written : ByteArray := prog_1_method_17_code
def yX2_written : MethodName := ⟨RX2, "written", "()I"⟩
abbrev cX2_checkpointAt : ByteArray := prog_1_method_18_code
def yX2_checkpointAt : MethodName := ⟨RX2, "checkpointAt", "()I"⟩
abbrev cX2_positionOf : ByteArray := prog_1_method_19_code
def yX2_positionOf : MethodName := ⟨RX2, "positionOf", "(I)I"⟩
abbrev cX2_segments : ByteArray := prog_1_method_20_code
def yX2_segments : MethodName := ⟨RX2, "segments", "()I"⟩
abbrev cX2_live : ByteArray := prog_1_method_21_code
def yX2_live : MethodName := ⟨RX2, "live", "()I"⟩
abbrev cX2_toFree : ByteArray := prog_1_method_22_code
def yX2_toFree : MethodName := ⟨RX2, "toFree", "()I"⟩
abbrev cX2_wouldHave : ByteArray := prog_1_method_23_code
def yX2_wouldHave : MethodName := ⟨RX2, "wouldHave", "()I"⟩
abbrev cX2_needKey : ByteArray := prog_1_method_24_code
def yX2_needKey : MethodName := ⟨RX2, "needKey", "(I)V"⟩
abbrev cX2_needRange : ByteArray := prog_1_method_25_code
def yX2_needRange : MethodName := ⟨RX2, "needRange", "(II)V"⟩
abbrev cX2_needUp : ByteArray := prog_1_method_26_code
def yX2_needUp : MethodName := ⟨RX2, "needUp", "()V"⟩
abbrev cX2_needRoom : ByteArray := prog_1_method_27_code
def yX2_needRoom : MethodName := ⟨RX2, "needRoom", "(I)V"⟩
abbrev cX2_segmentOf : ByteArray := prog_1_method_28_code
def yX2_segmentOf : MethodName := ⟨RX2, "segmentOf", "(I)I"⟩
abbrev cX2_valueOf : ByteArray := prog_1_method_29_code
def yX2_valueOf : MethodName := ⟨RX2, "valueOf", "(I)I"⟩
abbrev cX2_isLive : ByteArray := prog_1_method_30_code
def yX2_isLive : MethodName := ⟨RX2, "isLive", "(I)Z"⟩
abbrev cX2_liveFromTail : ByteArray := prog_1_method_31_code
def yX2_liveFromTail : MethodName := ⟨RX2, "liveFromTail", "(I)I"⟩
abbrev cX2_append : ByteArray := prog_1_method_32_code
def yX2_append : MethodName := ⟨RX2, "append", "(II)I"⟩
abbrev cX2_follow : ByteArray := prog_1_method_33_code
def yX2_follow : MethodName := ⟨RX2, "follow", "(LKeysapart$Index;I)V"⟩
abbrev cX2_appendLiveAgain : ByteArray := prog_1_method_34_code
def yX2_appendLiveAgain : MethodName := ⟨RX2, "appendLiveAgain", "(I)V"⟩
abbrev cX2_writeEntries : ByteArray := prog_1_method_35_code
def yX2_writeEntries : MethodName := ⟨RX2, "writeEntries", "()Z"⟩
abbrev cX2_writeOnce : ByteArray := prog_1_method_36_code
def yX2_writeOnce : MethodName := ⟨RX2, "writeOnce", "()Z"⟩
abbrev cX2_losePower : ByteArray := prog_1_method_37_code
def yX2_losePower : MethodName := ⟨RX2, "losePower", "()V"⟩
abbrev cX2_recover : ByteArray := prog_1_method_38_code
def yX2_recover : MethodName := ⟨RX2, "recover", "(LKeysapart$Index;)V"⟩
def RX3 : String := "KeysapartModel"
def TX3 : u_T := fun k => match k with
  | 0 => ("KeysapartModel", "key", "[I", true)
  | 1 => ("KeysapartModel", "value", "[I", true)
  | 2 => ("KeysapartModel", "index", "[I", true)
  | 3 => ("KeysapartModel", "kept", "[I", true)
  | 4 => ("KeysapartModel", "trial", "[I", true)
  | 5 => ("KeysapartModel", "head", "I", false)
  | 6 => ("KeysapartModel", "tail", "I", false)
  | 7 => ("KeysapartModel", "written", "I", false)
  | 8 => ("KeysapartModel", "checkpoint", "I", false)
  | 9 => ("KeysapartModel", "chosen", "I", false)
  | 10 => ("KeysapartModel", "isDown", "Z", false)
  | _ => ("KeysapartModel", "thrown", "I", false)
def tyX3 : Nat → FieldType := fun k => match k with
  | 0 => .array .int
  | 1 => .array .int
  | 2 => .array .int
  | 3 => .array .int
  | 4 => .array .int
  | 5 => .int
  | 6 => .int
  | 7 => .int
  | 8 => .int
  | 9 => .int
  | 10 => .boolean
  | _ => .int
abbrev wsX30 : List Cond := u_ws RX3 TX3 12
theorem nmX3 : ∀ a, a < 12 → ∀ b, b < 12 → a ≠ b → (TX3 a).2.1 ≠ (TX3 b).2.1 := by decide +kernel
theorem tyX3_ok : ∀ k, k < 12 → parseFieldDescriptor (TX3 k).2.2.1 = some (tyX3 k) := by decide +kernel
abbrev cX3_init : ByteArray := prog_5_method_1_code
def yX3_init : MethodName := ⟨RX3, "<init>", "()V"⟩
abbrev cX3_thrown : ByteArray := prog_5_method_2_code
def yX3_thrown : MethodName := ⟨RX3, "thrown", "()I"⟩
abbrev cX3_goes : ByteArray := prog_5_method_3_code
def yX3_goes : MethodName := ⟨RX3, "goes", "(ZZ)Z"⟩
abbrev cX3_isKey : ByteArray := prog_5_method_4_code
def yX3_isKey : MethodName := ⟨RX3, "isKey", "(I)Z"⟩
abbrev cX3_segmentsOf : ByteArray := prog_5_method_5_code
def yX3_segmentsOf : MethodName := ⟨RX3, "segmentsOf", "(II)I"⟩
abbrev cX3_canAppend : ByteArray := prog_5_method_6_code
def yX3_canAppend : MethodName := ⟨RX3, "canAppend", "(I)Z"⟩
abbrev cX3_appends : ByteArray := prog_5_method_7_code
def yX3_appends : MethodName := ⟨RX3, "appends", "(II)I"⟩
abbrev cX3_valueOf : ByteArray := prog_5_method_8_code
def yX3_valueOf : MethodName := ⟨RX3, "valueOf", "(I)I"⟩
abbrev cX3_put : ByteArray := prog_5_method_9_code
def yX3_put : MethodName := ⟨RX3, "put", "(II)I"⟩
abbrev cX3_delete : ByteArray := prog_5_method_10_code
def yX3_delete : MethodName := ⟨RX3, "delete", "(I)I"⟩
abbrev cX3_get : ByteArray := prog_5_method_11_code
def yX3_get : MethodName := ⟨RX3, "get", "(I)I"⟩
abbrev cX3_next : ByteArray := prog_5_method_12_code
def yX3_next : MethodName := ⟨RX3, "next", "(I)I"⟩
abbrev cX3_isRange : ByteArray := prog_5_method_13_code
def yX3_isRange : MethodName := ⟨RX3, "isRange", "(II)Z"⟩
abbrev cX3_sum : ByteArray := prog_5_method_14_code
def yX3_sum : MethodName := ⟨RX3, "sum", "(II)I"⟩
abbrev cX3_fetches : ByteArray := prog_5_method_15_code
def yX3_fetches : MethodName := ⟨RX3, "fetches", "(II)I"⟩
abbrev cX3_writes : ByteArray := prog_5_method_16_code
def yX3_writes : MethodName := ⟨RX3, "writes", "()Z"⟩
abbrev cX3_synchronizes : ByteArray := prog_5_method_17_code
def yX3_synchronizes : MethodName := ⟨RX3, "synchronizes", "()Z"⟩
abbrev cX3_synchronize : ByteArray := prog_5_method_18_code
def yX3_synchronize : MethodName := ⟨RX3, "synchronize", "()Z"⟩
abbrev cX3_checkpoint : ByteArray := prog_5_method_19_code
def yX3_checkpoint : MethodName := ⟨RX3, "checkpoint", "()Z"⟩
abbrev cX3_liveIn : ByteArray := prog_5_method_20_code
def yX3_liveIn : MethodName := ⟨RX3, "liveIn", "(I)I"⟩
abbrev cX3_collect : ByteArray := prog_5_method_21_code
def yX3_collect : MethodName := ⟨RX3, "collect", "(I)Z"⟩
abbrev cX3_failAfter : ByteArray := prog_5_method_22_code
def yX3_failAfter : MethodName := ⟨RX3, "failAfter", "(I)V"⟩
abbrev cX3_crash : ByteArray := prog_5_method_23_code
def yX3_crash : MethodName := ⟨RX3, "crash", "()I"⟩
abbrev cX3_recovers : ByteArray := prog_5_method_24_code
def yX3_recovers : MethodName := ⟨RX3, "recovers", "()I"⟩
abbrev cX3_start : ByteArray := prog_5_method_25_code
def yX3_start : MethodName := ⟨RX3, "start", "()I"⟩
abbrev cX3_isUp : ByteArray := prog_5_method_26_code
def yX3_isUp : MethodName := ⟨RX3, "isUp", "()Z"⟩
abbrev cX3_headOf : ByteArray := prog_5_method_27_code
def yX3_headOf : MethodName := ⟨RX3, "headOf", "()I"⟩
abbrev cX3_head : ByteArray := prog_5_method_28_code
def yX3_head : MethodName := ⟨RX3, "head", "()I"⟩
abbrev cX3_tail : ByteArray := prog_5_method_29_code
def yX3_tail : MethodName := ⟨RX3, "tail", "()I"⟩
abbrev cX3_written : ByteArray := prog_5_method_30_code
def yX3_written : MethodName := ⟨RX3, "written", "()I"⟩
abbrev cX3_checkpointAt : ByteArray := prog_5_method_31_code
def yX3_checkpointAt : MethodName := ⟨RX3, "checkpointAt", "()I"⟩
abbrev cX3_positionOf : ByteArray := prog_5_method_32_code
def yX3_positionOf : MethodName := ⟨RX3, "positionOf", "(I)I"⟩
abbrev cX3_segments : ByteArray := prog_5_method_33_code
def yX3_segments : MethodName := ⟨RX3, "segments", "()I"⟩
abbrev cX3_live : ByteArray := prog_5_method_34_code
def yX3_live : MethodName := ⟨RX3, "live", "()I"⟩
abbrev cX3_toFree : ByteArray := prog_5_method_35_code
def yX3_toFree : MethodName := ⟨RX3, "toFree", "()I"⟩
abbrev cX3_wouldHave : ByteArray := prog_5_method_36_code
def yX3_wouldHave : MethodName := ⟨RX3, "wouldHave", "()I"⟩
def RJx145de : String := "java/io/Serializable"
def TJx145de : u_T := fun k => match k with
  | _ => ("", "", "", false)
def tyJx145de : Nat → FieldType := fun k => match k with
  | _ => .int
abbrev wsJx145de0 : List Cond := u_ws RJx145de TJx145de 0
theorem nmJx145de : ∀ a, a < 0 → ∀ b, b < 0 → a ≠ b → (TJx145de a).2.1 ≠ (TJx145de b).2.1 := by decide +kernel
theorem tyJx145de_ok : ∀ k, k < 0 → parseFieldDescriptor (TJx145de k).2.2.1 = some (tyJx145de k) := by decide +kernel
def RJ6 : String := "java/lang/Integer"
def TJ6 : u_T := fun k => match k with
  | _ => ("", "", "", false)
def tyJ6 : Nat → FieldType := fun k => match k with
  | _ => .int
abbrev wsJ60 : List Cond := u_ws RJ6 TJ6 0
theorem nmJ6 : ∀ a, a < 0 → ∀ b, b < 0 → a ≠ b → (TJ6 a).2.1 ≠ (TJ6 b).2.1 := by decide +kernel
theorem tyJ6_ok : ∀ k, k < 0 → parseFieldDescriptor (TJ6 k).2.2.1 = some (tyJ6 k) := by decide +kernel
abbrev cJ6_bitCount_0f7a4 : ByteArray := prog_9_method_49_code
def yJ6_bitCount_0f7a4 : MethodName := ⟨RJ6, "bitCount", "(I)I"⟩
def RJ9 : String := "java/lang/Math"
def TJ9 : u_T := fun k => match k with
  | _ => ("", "", "", false)
def tyJ9 : Nat → FieldType := fun k => match k with
  | _ => .int
abbrev wsJ90 : List Cond := u_ws RJ9 TJ9 0
theorem nmJ9 : ∀ a, a < 0 → ∀ b, b < 0 → a ≠ b → (TJ9 a).2.1 ≠ (TJ9 b).2.1 := by decide +kernel
theorem tyJ9_ok : ∀ k, k < 0 → parseFieldDescriptor (TJ9 k).2.2.1 = some (tyJ9 k) := by decide +kernel
abbrev cJ9_floorMod_7cf53 : ByteArray := prog_10_method_50_code
def yJ9_floorMod_7cf53 : MethodName := ⟨RJ9, "floorMod", "(II)I"⟩
abbrev cJ9_max_7cf53 : ByteArray := prog_10_method_65_code
def yJ9_max_7cf53 : MethodName := ⟨RJ9, "max", "(II)I"⟩
def RJ0 : String := "java/lang/String"
def TJ0 : u_T := fun k => match k with
  | _ => ("", "", "", false)
def tyJ0 : Nat → FieldType := fun k => match k with
  | _ => .int
abbrev wsJ00 : List Cond := u_ws RJ0 TJ0 0
theorem nmJ0 : ∀ a, a < 0 → ∀ b, b < 0 → a ≠ b → (TJ0 a).2.1 ≠ (TJ0 b).2.1 := by decide +kernel
theorem tyJ0_ok : ∀ k, k < 0 → parseFieldDescriptor (TJ0 k).2.2.1 = some (tyJ0 k) := by decide +kernel
def RJ7 : String := "java/util/Arrays"
def TJ7 : u_T := fun k => match k with
  | _ => ("", "", "", false)
def tyJ7 : Nat → FieldType := fun k => match k with
  | _ => .int
abbrev wsJ70 : List Cond := u_ws RJ7 TJ7 0
theorem nmJ7 : ∀ a, a < 0 → ∀ b, b < 0 → a ≠ b → (TJ7 a).2.1 ≠ (TJ7 b).2.1 := by decide +kernel
theorem tyJ7_ok : ∀ k, k < 0 → parseFieldDescriptor (TJ7 k).2.2.1 = some (tyJ7 k) := by decide +kernel
abbrev cJ7_fill_53178 : ByteArray := prog_14_method_103_code
def yJ7_fill_53178 : MethodName := ⟨RJ7, "fill", "([II)V"⟩
def RL : String := "KeysapartLaw"
abbrev cL_put : ByteArray := method_3_code
def yL_put : MethodName := ⟨RL, "put", "(LKeysapart;II[J)I"⟩
abbrev cL_delete : ByteArray := method_4_code
def yL_delete : MethodName := ⟨RL, "delete", "(LKeysapart;I[J)I"⟩
abbrev cL_get : ByteArray := method_5_code
def yL_get : MethodName := ⟨RL, "get", "(LKeysapart;I[J)I"⟩
abbrev cL_next : ByteArray := method_6_code
def yL_next : MethodName := ⟨RL, "next", "(LKeysapart;I[J)I"⟩
abbrev cL_sum : ByteArray := method_7_code
def yL_sum : MethodName := ⟨RL, "sum", "(LKeysapart;II[J)I"⟩
abbrev cL_fetches : ByteArray := method_8_code
def yL_fetches : MethodName := ⟨RL, "fetches", "(LKeysapart;II[J)I"⟩
abbrev cL_synchronize : ByteArray := method_9_code
def yL_synchronize : MethodName := ⟨RL, "synchronize", "(LKeysapart;[J)I"⟩
abbrev cL_checkpoint : ByteArray := method_10_code
def yL_checkpoint : MethodName := ⟨RL, "checkpoint", "(LKeysapart;[J)I"⟩
abbrev cL_collect : ByteArray := method_11_code
def yL_collect : MethodName := ⟨RL, "collect", "(LKeysapart;I[J)I"⟩
abbrev cL_failAfter : ByteArray := method_12_code
def yL_failAfter : MethodName := ⟨RL, "failAfter", "(LKeysapart;I)I"⟩
abbrev cL_crash : ByteArray := method_13_code
def yL_crash : MethodName := ⟨RL, "crash", "(LKeysapart;[J)I"⟩
abbrev cL_start : ByteArray := method_14_code
def yL_start : MethodName := ⟨RL, "start", "(LKeysapart;[J)I"⟩
abbrev cL_positionOf : ByteArray := method_15_code
def yL_positionOf : MethodName := ⟨RL, "positionOf", "(LKeysapart;I[J)I"⟩
abbrev cL_live : ByteArray := method_16_code
def yL_live : MethodName := ⟨RL, "live", "(LKeysapart;[J)I"⟩
abbrev cL_law : ByteArray := code
def yL_law : MethodName := ⟨RL, "law", "([I)Z"⟩
def wsJ7_fill_53178 : List Cond := .code yJ7_fill_53178 cJ7_fill_53178 4 none :: ([])
def wsX0_init : List Cond := .code yX0_init cX0_init 1 none :: ([.methodLink RX0 3 objectInit, .instanceMethod objectInit, .code objectInit ⟨#[0xb1]⟩ 1 none, .arrayClass .int, .fieldLink RX0 9 "Keysapart$Index" "positions" "[I", .methodLink RX0 15 yJ7_fill_53178, .static yJ7_fill_53178, .initialized RJ7, .code yJ7_fill_53178 cJ7_fill_53178 4 none] ++ wsX00)
def wsX0_find : List Cond := .code yX0_find cX0_find 2 (some .int) :: ([.fieldLink RX0 9 "Keysapart$Index" "positions" "[I"] ++ wsX00)
def wsX0_has : List Cond := .code yX0_has cX0_has 2 (some .boolean) :: ([.methodLink RX0 21 yX0_find, .instanceMethod yX0_find, .selects RX0 yX0_find yX0_find, .initialized RX0, .code yX0_find cX0_find 2 (some .int), .fieldLink RX0 9 "Keysapart$Index" "positions" "[I"] ++ wsX00)
def wsX0_point : List Cond := .code yX0_point cX0_point 3 none :: ([.fieldLink RX0 9 "Keysapart$Index" "positions" "[I"] ++ wsX00)
def wsX0_size : List Cond := .code yX0_size cX0_size 3 (some .int) :: ([.fieldLink RX0 9 "Keysapart$Index" "positions" "[I"] ++ wsX00)
def wsX0_takeFrom : List Cond := .code yX0_takeFrom cX0_takeFrom 3 none :: ([.fieldLink RX0 9 "Keysapart$Index" "positions" "[I", .methodLink RX0 21 yX0_find, .instanceMethod yX0_find, .selects RX0 yX0_find yX0_find, .initialized RX0, .code yX0_find cX0_find 2 (some .int)] ++ wsX00)
def wsX0_dropBelow : List Cond := .code yX0_dropBelow cX0_dropBelow 3 none :: ([.fieldLink RX0 9 "Keysapart$Index" "positions" "[I"] ++ wsX00)
def wsX1_init : List Cond := .code yX1_init cX1_init 1 none :: ([.methodLink RX1 3 objectInit, .instanceMethod objectInit, .code objectInit ⟨#[0xb1]⟩ 1 none, .arrayClass .int, .fieldLink RX1 9 "Keysapart$Log" "keys" "[I", .fieldLink RX1 15 "Keysapart$Log" "values" "[I"] ++ wsX10)
def wsJ9_floorMod_7cf53 : List Cond := .code yJ9_floorMod_7cf53 cJ9_floorMod_7cf53 3 (some .int) :: ([])
def wsX1_store : List Cond := .code yX1_store cX1_store 5 none :: ([.fieldLink RX1 9 "Keysapart$Log" "keys" "[I", .fieldLink RX1 15 "Keysapart$Log" "values" "[I", .methodLink RX1 18 yJ9_floorMod_7cf53, .static yJ9_floorMod_7cf53, .initialized RJ9, .code yJ9_floorMod_7cf53 cJ9_floorMod_7cf53 3 (some .int)] ++ wsX10)
def wsX1_keyAt : List Cond := .code yX1_keyAt cX1_keyAt 3 (some .int) :: ([.fieldLink RX1 9 "Keysapart$Log" "keys" "[I", .methodLink RX1 18 yJ9_floorMod_7cf53, .static yJ9_floorMod_7cf53, .initialized RJ9, .code yJ9_floorMod_7cf53 cJ9_floorMod_7cf53 3 (some .int)] ++ wsX10)
def wsX1_valueAt : List Cond := .code yX1_valueAt cX1_valueAt 3 (some .int) :: ([.fieldLink RX1 15 "Keysapart$Log" "values" "[I", .methodLink RX1 18 yJ9_floorMod_7cf53, .static yJ9_floorMod_7cf53, .initialized RJ9, .code yJ9_floorMod_7cf53 cJ9_floorMod_7cf53 3 (some .int)] ++ wsX10)
def wsX2_init_r1 : List Cond := [Cond.methodLink RX2 3 objectInit, Cond.instanceMethod objectInit, Cond.code objectInit ⟨#[0xb1]⟩ 1 none, Cond.classLink RX2 9 RX1, Cond.instantiable RX1 2, Cond.initialized RX1, Cond.fieldLink RX2 12 "Keysapart" "log" "LKeysapart$Log;", Cond.classLink RX2 16 RX0, Cond.instantiable RX0 1, Cond.initialized RX0, Cond.fieldLink RX2 19 "Keysapart" "index" "LKeysapart$Index;", Cond.fieldLink RX2 23 "Keysapart" "checkpointIndex" "LKeysapart$Index;", Cond.fieldLink RX2 26 "Keysapart" "trialIndex" "LKeysapart$Index;", Cond.fieldLink RX2 29 "Keysapart" "up" "Z", Cond.fieldLink RX2 33 "Keysapart" "headAt" "I", Cond.fieldLink RX2 37 "Keysapart" "tailAt" "I", Cond.fieldLink RX2 40 "Keysapart" "writtenTo" "I", Cond.fieldLink RX2 43 "Keysapart" "checkpointTo" "I", Cond.fieldLink RX2 46 "Keysapart" "writesAhead" "I", Cond.methodLink RX2 11 yX1_init, Cond.instanceMethod yX1_init, Cond.code yX1_init cX1_init 1 none, Cond.methodLink RX1 3 objectInit, Cond.arrayClass .int]
def wsX2_init_r2 : List Cond := [Cond.fieldLink RX1 9 "Keysapart$Log" "keys" "[I", Cond.fieldLink RX1 15 "Keysapart$Log" "values" "[I", Cond.methodLink RX2 18 yX0_init, Cond.instanceMethod yX0_init, Cond.code yX0_init cX0_init 1 none, Cond.methodLink RX0 3 objectInit, Cond.fieldLink RX0 9 "Keysapart$Index" "positions" "[I", Cond.methodLink RX0 15 yJ7_fill_53178, Cond.static yJ7_fill_53178, Cond.initialized RJ7, Cond.code yJ7_fill_53178 cJ7_fill_53178 4 none]
def wsX2_init : List Cond := .code yX2_init cX2_init 1 none :: ((wsX2_init_r1 ++ wsX2_init_r2) ++ wsX10 ++ wsX20 ++ wsX00)
def wsX2_needKey : List Cond := .code yX2_needKey cX2_needKey 1 none :: ([.classLink RX2 53 "java/lang/IllegalArgumentException", .initialized "java/lang/IllegalArgumentException"] ++ (vx_atS RX2 57 "java/lang/IllegalArgumentException" ["java/lang/RuntimeException", "java/lang/Exception"]).filter goodWord)
def wsX2_needUp : List Cond := .code yX2_needUp cX2_needUp 1 none :: ([.classLink RX2 74 "java/lang/IllegalStateException", .initialized "java/lang/IllegalStateException", .fieldLink RX2 29 "Keysapart" "up" "Z"] ++ wsX20 ++ (vx_atS RX2 78 "java/lang/IllegalStateException" ["java/lang/RuntimeException", "java/lang/Exception"]).filter goodWord)
def wsX2_segmentOf : List Cond := .code yX2_segmentOf cX2_segmentOf 1 (some .int) :: ([])
def wsX2_needRoom : List Cond := .code yX2_needRoom cX2_needRoom 3 none :: ([.classLink RX2 74 "java/lang/IllegalStateException", .initialized "java/lang/IllegalStateException", .fieldLink RX2 37 "Keysapart" "tailAt" "I", .fieldLink RX2 33 "Keysapart" "headAt" "I", .methodLink RX2 87 yX2_segmentOf, .static yX2_segmentOf, .initialized RX2, .code yX2_segmentOf cX2_segmentOf 1 (some .int)] ++ wsX20 ++ (vx_atS RX2 78 "java/lang/IllegalStateException" ["java/lang/RuntimeException", "java/lang/Exception"]).filter goodWord)
def wsX2_follow : List Cond := .code yX2_follow cX2_follow 4 none :: ([.fieldLink RX2 12 "Keysapart" "log" "LKeysapart$Log;", .methodLink RX2 141 yX1_valueAt, .instanceMethod yX1_valueAt, .selects RX1 yX1_valueAt yX1_valueAt, .initialized RX1, .code yX1_valueAt cX1_valueAt 3 (some .int), .fieldLink RX1 15 "Keysapart$Log" "values" "[I", .methodLink RX1 18 yJ9_floorMod_7cf53, .static yJ9_floorMod_7cf53, .initialized RJ9, .code yJ9_floorMod_7cf53 cJ9_floorMod_7cf53 3 (some .int), .methodLink RX2 144 yX1_keyAt, .instanceMethod yX1_keyAt, .selects RX1 yX1_keyAt yX1_keyAt, .code yX1_keyAt cX1_keyAt 3 (some .int), .fieldLink RX1 9 "Keysapart$Log" "keys" "[I", .methodLink RX2 158 yX0_point, .instanceMethod yX0_point, .selects RX0 yX0_point yX0_point, .initialized RX0, .code yX0_point cX0_point 3 none, .fieldLink RX0 9 "Keysapart$Index" "positions" "[I"] ++ wsX20 ++ wsX10 ++ wsX00)
def wsX2_append_r1 : List Cond := [Cond.fieldLink RX2 33 "Keysapart" "headAt" "I", Cond.fieldLink RX2 12 "Keysapart" "log" "LKeysapart$Log;", Cond.fieldLink RX2 19 "Keysapart" "index" "LKeysapart$Index;", Cond.methodLink RX2 150 yX1_store, Cond.instanceMethod yX1_store, Cond.selects RX1 yX1_store yX1_store, Cond.initialized RX1, Cond.code yX1_store cX1_store 5 none, Cond.fieldLink RX1 9 "Keysapart$Log" "keys" "[I", Cond.fieldLink RX1 15 "Keysapart$Log" "values" "[I", Cond.methodLink RX1 18 yJ9_floorMod_7cf53, Cond.static yJ9_floorMod_7cf53, Cond.initialized RJ9, Cond.code yJ9_floorMod_7cf53 cJ9_floorMod_7cf53 3 (some .int), Cond.methodLink RX2 154 yX2_follow, Cond.instanceMethod yX2_follow, Cond.selects RX2 yX2_follow yX2_follow, Cond.initialized RX2, Cond.code yX2_follow cX2_follow 4 none, Cond.methodLink RX2 141 yX1_valueAt, Cond.instanceMethod yX1_valueAt, Cond.selects RX1 yX1_valueAt yX1_valueAt, Cond.code yX1_valueAt cX1_valueAt 3 (some .int), Cond.methodLink RX2 144 yX1_keyAt]
def wsX2_append_r2 : List Cond := [Cond.instanceMethod yX1_keyAt, Cond.selects RX1 yX1_keyAt yX1_keyAt, Cond.code yX1_keyAt cX1_keyAt 3 (some .int), Cond.methodLink RX2 158 yX0_point, Cond.instanceMethod yX0_point, Cond.selects RX0 yX0_point yX0_point, Cond.initialized RX0, Cond.code yX0_point cX0_point 3 none, Cond.fieldLink RX0 9 "Keysapart$Index" "positions" "[I"]
def wsX2_append : List Cond := .code yX2_append cX2_append 4 (some .int) :: ((wsX2_append_r1 ++ wsX2_append_r2) ++ wsX20 ++ wsX10 ++ wsX00)
def wsX2_put_r1 : List Cond := [Cond.classLink RX2 53 "java/lang/IllegalArgumentException", Cond.initialized "java/lang/IllegalArgumentException", Cond.methodLink RX2 49 yX2_needKey, Cond.static yX2_needKey, Cond.initialized RX2, Cond.code yX2_needKey cX2_needKey 1 none, Cond.methodLink RX2 60 yX2_needUp, Cond.instanceMethod yX2_needUp, Cond.selects RX2 yX2_needUp yX2_needUp, Cond.code yX2_needUp cX2_needUp 1 none, Cond.classLink RX2 74 "java/lang/IllegalStateException", Cond.initialized "java/lang/IllegalStateException", Cond.fieldLink RX2 29 "Keysapart" "up" "Z", Cond.methodLink RX2 63 yX2_needRoom, Cond.instanceMethod yX2_needRoom, Cond.selects RX2 yX2_needRoom yX2_needRoom, Cond.code yX2_needRoom cX2_needRoom 3 none, Cond.fieldLink RX2 37 "Keysapart" "tailAt" "I", Cond.fieldLink RX2 33 "Keysapart" "headAt" "I", Cond.methodLink RX2 87 yX2_segmentOf, Cond.static yX2_segmentOf, Cond.code yX2_segmentOf cX2_segmentOf 1 (some .int), Cond.methodLink RX2 66 yX2_append, Cond.instanceMethod yX2_append]
def wsX2_put_r2 : List Cond := [Cond.selects RX2 yX2_append yX2_append, Cond.code yX2_append cX2_append 4 (some .int), Cond.fieldLink RX2 12 "Keysapart" "log" "LKeysapart$Log;", Cond.fieldLink RX2 19 "Keysapart" "index" "LKeysapart$Index;", Cond.methodLink RX2 150 yX1_store, Cond.instanceMethod yX1_store, Cond.selects RX1 yX1_store yX1_store, Cond.initialized RX1, Cond.code yX1_store cX1_store 5 none, Cond.fieldLink RX1 9 "Keysapart$Log" "keys" "[I", Cond.fieldLink RX1 15 "Keysapart$Log" "values" "[I", Cond.methodLink RX1 18 yJ9_floorMod_7cf53, Cond.static yJ9_floorMod_7cf53, Cond.initialized RJ9, Cond.code yJ9_floorMod_7cf53 cJ9_floorMod_7cf53 3 (some .int), Cond.methodLink RX2 154 yX2_follow, Cond.instanceMethod yX2_follow, Cond.selects RX2 yX2_follow yX2_follow, Cond.code yX2_follow cX2_follow 4 none, Cond.methodLink RX2 141 yX1_valueAt, Cond.instanceMethod yX1_valueAt, Cond.selects RX1 yX1_valueAt yX1_valueAt, Cond.code yX1_valueAt cX1_valueAt 3 (some .int), Cond.methodLink RX2 144 yX1_keyAt]
def wsX2_put_r3 : List Cond := [Cond.instanceMethod yX1_keyAt, Cond.selects RX1 yX1_keyAt yX1_keyAt, Cond.code yX1_keyAt cX1_keyAt 3 (some .int), Cond.methodLink RX2 158 yX0_point, Cond.instanceMethod yX0_point, Cond.selects RX0 yX0_point yX0_point, Cond.initialized RX0, Cond.code yX0_point cX0_point 3 none, Cond.fieldLink RX0 9 "Keysapart$Index" "positions" "[I"]
def wsX2_put : List Cond := .code yX2_put cX2_put 3 (some .int) :: ((wsX2_put_r1 ++ (wsX2_put_r2 ++ wsX2_put_r3)) ++ wsX20 ++ wsX10 ++ wsX00 ++ (vx_atS RX2 57 "java/lang/IllegalArgumentException" ["java/lang/RuntimeException", "java/lang/Exception"]).filter goodWord ++ (vx_atS RX2 78 "java/lang/IllegalStateException" ["java/lang/RuntimeException", "java/lang/Exception"]).filter goodWord)
def wsX2_valueOf : List Cond := .code yX2_valueOf cX2_valueOf 2 (some .int) :: ([.fieldLink RX2 12 "Keysapart" "log" "LKeysapart$Log;", .fieldLink RX2 19 "Keysapart" "index" "LKeysapart$Index;", .methodLink RX2 90 yX0_find, .instanceMethod yX0_find, .selects RX0 yX0_find yX0_find, .initialized RX0, .code yX0_find cX0_find 2 (some .int), .fieldLink RX0 9 "Keysapart$Index" "positions" "[I", .methodLink RX2 141 yX1_valueAt, .instanceMethod yX1_valueAt, .selects RX1 yX1_valueAt yX1_valueAt, .initialized RX1, .code yX1_valueAt cX1_valueAt 3 (some .int), .fieldLink RX1 15 "Keysapart$Log" "values" "[I", .methodLink RX1 18 yJ9_floorMod_7cf53, .static yJ9_floorMod_7cf53, .initialized RJ9, .code yJ9_floorMod_7cf53 cJ9_floorMod_7cf53 3 (some .int)] ++ wsX20 ++ wsX00 ++ wsX10)
def wsX2_delete_r1 : List Cond := [Cond.classLink RX2 74 "java/lang/IllegalStateException", Cond.initialized "java/lang/IllegalStateException", Cond.fieldLink RX2 19 "Keysapart" "index" "LKeysapart$Index;", Cond.methodLink RX2 49 yX2_needKey, Cond.static yX2_needKey, Cond.initialized RX2, Cond.code yX2_needKey cX2_needKey 1 none, Cond.classLink RX2 53 "java/lang/IllegalArgumentException", Cond.initialized "java/lang/IllegalArgumentException", Cond.methodLink RX2 60 yX2_needUp, Cond.instanceMethod yX2_needUp, Cond.selects RX2 yX2_needUp yX2_needUp, Cond.code yX2_needUp cX2_needUp 1 none, Cond.fieldLink RX2 29 "Keysapart" "up" "Z", Cond.methodLink RX2 70 yX0_has, Cond.instanceMethod yX0_has, Cond.selects RX0 yX0_has yX0_has, Cond.initialized RX0, Cond.code yX0_has cX0_has 2 (some .boolean), Cond.methodLink RX0 21 yX0_find, Cond.instanceMethod yX0_find, Cond.selects RX0 yX0_find yX0_find, Cond.code yX0_find cX0_find 2 (some .int), Cond.fieldLink RX0 9 "Keysapart$Index" "positions" "[I"]
def wsX2_delete_r2 : List Cond := [Cond.methodLink RX2 63 yX2_needRoom, Cond.instanceMethod yX2_needRoom, Cond.selects RX2 yX2_needRoom yX2_needRoom, Cond.code yX2_needRoom cX2_needRoom 3 none, Cond.fieldLink RX2 37 "Keysapart" "tailAt" "I", Cond.fieldLink RX2 33 "Keysapart" "headAt" "I", Cond.methodLink RX2 87 yX2_segmentOf, Cond.static yX2_segmentOf, Cond.code yX2_segmentOf cX2_segmentOf 1 (some .int), Cond.methodLink RX2 79 yX2_valueOf, Cond.instanceMethod yX2_valueOf, Cond.selects RX2 yX2_valueOf yX2_valueOf, Cond.code yX2_valueOf cX2_valueOf 2 (some .int), Cond.fieldLink RX2 12 "Keysapart" "log" "LKeysapart$Log;", Cond.methodLink RX2 90 yX0_find, Cond.methodLink RX2 141 yX1_valueAt, Cond.instanceMethod yX1_valueAt, Cond.selects RX1 yX1_valueAt yX1_valueAt, Cond.initialized RX1, Cond.code yX1_valueAt cX1_valueAt 3 (some .int), Cond.fieldLink RX1 15 "Keysapart$Log" "values" "[I", Cond.methodLink RX1 18 yJ9_floorMod_7cf53, Cond.static yJ9_floorMod_7cf53, Cond.initialized RJ9]
def wsX2_delete_r3 : List Cond := [Cond.code yJ9_floorMod_7cf53 cJ9_floorMod_7cf53 3 (some .int), Cond.methodLink RX2 66 yX2_append, Cond.instanceMethod yX2_append, Cond.selects RX2 yX2_append yX2_append, Cond.code yX2_append cX2_append 4 (some .int), Cond.methodLink RX2 150 yX1_store, Cond.instanceMethod yX1_store, Cond.selects RX1 yX1_store yX1_store, Cond.code yX1_store cX1_store 5 none, Cond.fieldLink RX1 9 "Keysapart$Log" "keys" "[I", Cond.methodLink RX2 154 yX2_follow, Cond.instanceMethod yX2_follow, Cond.selects RX2 yX2_follow yX2_follow, Cond.code yX2_follow cX2_follow 4 none, Cond.methodLink RX2 144 yX1_keyAt, Cond.instanceMethod yX1_keyAt, Cond.selects RX1 yX1_keyAt yX1_keyAt, Cond.code yX1_keyAt cX1_keyAt 3 (some .int), Cond.methodLink RX2 158 yX0_point, Cond.instanceMethod yX0_point, Cond.selects RX0 yX0_point yX0_point, Cond.code yX0_point cX0_point 3 none]
def wsX2_delete : List Cond := .code yX2_delete cX2_delete 3 (some .int) :: ((wsX2_delete_r1 ++ (wsX2_delete_r2 ++ wsX2_delete_r3)) ++ wsX20 ++ wsX00 ++ wsX10 ++ (vx_atS RX2 78 "java/lang/IllegalStateException" ["java/lang/RuntimeException", "java/lang/Exception"]).filter goodWord ++ (vx_atS RX2 57 "java/lang/IllegalArgumentException" ["java/lang/RuntimeException", "java/lang/Exception"]).filter goodWord)
def wsX2_get_r1 : List Cond := [Cond.fieldLink RX2 19 "Keysapart" "index" "LKeysapart$Index;", Cond.methodLink RX2 49 yX2_needKey, Cond.static yX2_needKey, Cond.initialized RX2, Cond.code yX2_needKey cX2_needKey 1 none, Cond.classLink RX2 53 "java/lang/IllegalArgumentException", Cond.initialized "java/lang/IllegalArgumentException", Cond.methodLink RX2 60 yX2_needUp, Cond.instanceMethod yX2_needUp, Cond.selects RX2 yX2_needUp yX2_needUp, Cond.code yX2_needUp cX2_needUp 1 none, Cond.classLink RX2 74 "java/lang/IllegalStateException", Cond.initialized "java/lang/IllegalStateException", Cond.fieldLink RX2 29 "Keysapart" "up" "Z", Cond.methodLink RX2 70 yX0_has, Cond.instanceMethod yX0_has, Cond.selects RX0 yX0_has yX0_has, Cond.initialized RX0, Cond.code yX0_has cX0_has 2 (some .boolean), Cond.methodLink RX0 21 yX0_find, Cond.instanceMethod yX0_find, Cond.selects RX0 yX0_find yX0_find, Cond.code yX0_find cX0_find 2 (some .int), Cond.fieldLink RX0 9 "Keysapart$Index" "positions" "[I"]
def wsX2_get_r2 : List Cond := [Cond.methodLink RX2 79 yX2_valueOf, Cond.instanceMethod yX2_valueOf, Cond.selects RX2 yX2_valueOf yX2_valueOf, Cond.code yX2_valueOf cX2_valueOf 2 (some .int), Cond.fieldLink RX2 12 "Keysapart" "log" "LKeysapart$Log;", Cond.methodLink RX2 90 yX0_find, Cond.methodLink RX2 141 yX1_valueAt, Cond.instanceMethod yX1_valueAt, Cond.selects RX1 yX1_valueAt yX1_valueAt, Cond.initialized RX1, Cond.code yX1_valueAt cX1_valueAt 3 (some .int), Cond.fieldLink RX1 15 "Keysapart$Log" "values" "[I", Cond.methodLink RX1 18 yJ9_floorMod_7cf53, Cond.static yJ9_floorMod_7cf53, Cond.initialized RJ9, Cond.code yJ9_floorMod_7cf53 cJ9_floorMod_7cf53 3 (some .int)]
def wsX2_get : List Cond := .code yX2_get cX2_get 2 (some .int) :: ((wsX2_get_r1 ++ wsX2_get_r2) ++ wsX20 ++ wsX00 ++ wsX10 ++ (vx_atS RX2 57 "java/lang/IllegalArgumentException" ["java/lang/RuntimeException", "java/lang/Exception"]).filter goodWord ++ (vx_atS RX2 78 "java/lang/IllegalStateException" ["java/lang/RuntimeException", "java/lang/Exception"]).filter goodWord)
def wsX2_next : List Cond := .code yX2_next cX2_next 3 (some .int) :: ([.fieldLink RX2 19 "Keysapart" "index" "LKeysapart$Index;", .methodLink RX2 49 yX2_needKey, .static yX2_needKey, .initialized RX2, .code yX2_needKey cX2_needKey 1 none, .classLink RX2 53 "java/lang/IllegalArgumentException", .initialized "java/lang/IllegalArgumentException", .methodLink RX2 60 yX2_needUp, .instanceMethod yX2_needUp, .selects RX2 yX2_needUp yX2_needUp, .code yX2_needUp cX2_needUp 1 none, .classLink RX2 74 "java/lang/IllegalStateException", .initialized "java/lang/IllegalStateException", .fieldLink RX2 29 "Keysapart" "up" "Z", .methodLink RX2 70 yX0_has, .instanceMethod yX0_has, .selects RX0 yX0_has yX0_has, .initialized RX0, .code yX0_has cX0_has 2 (some .boolean), .methodLink RX0 21 yX0_find, .instanceMethod yX0_find, .selects RX0 yX0_find yX0_find, .code yX0_find cX0_find 2 (some .int), .fieldLink RX0 9 "Keysapart$Index" "positions" "[I"] ++ wsX20 ++ wsX00 ++ (vx_atS RX2 57 "java/lang/IllegalArgumentException" ["java/lang/RuntimeException", "java/lang/Exception"]).filter goodWord ++ (vx_atS RX2 78 "java/lang/IllegalStateException" ["java/lang/RuntimeException", "java/lang/Exception"]).filter goodWord)
def wsX2_needRange : List Cond := .code yX2_needRange cX2_needRange 2 none :: ([.classLink RX2 53 "java/lang/IllegalArgumentException", .initialized "java/lang/IllegalArgumentException", .methodLink RX2 49 yX2_needKey, .static yX2_needKey, .initialized RX2, .code yX2_needKey cX2_needKey 1 none] ++ (vx_atS RX2 57 "java/lang/IllegalArgumentException" ["java/lang/RuntimeException", "java/lang/Exception"]).filter goodWord)
def wsX2_sum_r1 : List Cond := [Cond.fieldLink RX2 19 "Keysapart" "index" "LKeysapart$Index;", Cond.methodLink RX2 83 yX2_needRange, Cond.static yX2_needRange, Cond.initialized RX2, Cond.code yX2_needRange cX2_needRange 2 none, Cond.classLink RX2 53 "java/lang/IllegalArgumentException", Cond.initialized "java/lang/IllegalArgumentException", Cond.methodLink RX2 49 yX2_needKey, Cond.static yX2_needKey, Cond.code yX2_needKey cX2_needKey 1 none, Cond.methodLink RX2 60 yX2_needUp, Cond.instanceMethod yX2_needUp, Cond.selects RX2 yX2_needUp yX2_needUp, Cond.code yX2_needUp cX2_needUp 1 none, Cond.classLink RX2 74 "java/lang/IllegalStateException", Cond.initialized "java/lang/IllegalStateException", Cond.fieldLink RX2 29 "Keysapart" "up" "Z", Cond.methodLink RX2 70 yX0_has, Cond.instanceMethod yX0_has, Cond.selects RX0 yX0_has yX0_has, Cond.initialized RX0, Cond.code yX0_has cX0_has 2 (some .boolean), Cond.methodLink RX0 21 yX0_find, Cond.instanceMethod yX0_find]
def wsX2_sum_r2 : List Cond := [Cond.selects RX0 yX0_find yX0_find, Cond.code yX0_find cX0_find 2 (some .int), Cond.fieldLink RX0 9 "Keysapart$Index" "positions" "[I", Cond.methodLink RX2 79 yX2_valueOf, Cond.instanceMethod yX2_valueOf, Cond.selects RX2 yX2_valueOf yX2_valueOf, Cond.code yX2_valueOf cX2_valueOf 2 (some .int), Cond.fieldLink RX2 12 "Keysapart" "log" "LKeysapart$Log;", Cond.methodLink RX2 90 yX0_find, Cond.methodLink RX2 141 yX1_valueAt, Cond.instanceMethod yX1_valueAt, Cond.selects RX1 yX1_valueAt yX1_valueAt, Cond.initialized RX1, Cond.code yX1_valueAt cX1_valueAt 3 (some .int), Cond.fieldLink RX1 15 "Keysapart$Log" "values" "[I", Cond.methodLink RX1 18 yJ9_floorMod_7cf53, Cond.static yJ9_floorMod_7cf53, Cond.initialized RJ9, Cond.code yJ9_floorMod_7cf53 cJ9_floorMod_7cf53 3 (some .int)]
def wsX2_sum : List Cond := .code yX2_sum cX2_sum 5 (some .int) :: ((wsX2_sum_r1 ++ wsX2_sum_r2) ++ wsX20 ++ wsX00 ++ wsX10 ++ (vx_atS RX2 57 "java/lang/IllegalArgumentException" ["java/lang/RuntimeException", "java/lang/Exception"]).filter goodWord ++ (vx_atS RX2 78 "java/lang/IllegalStateException" ["java/lang/RuntimeException", "java/lang/Exception"]).filter goodWord)
def wsJ6_bitCount_0f7a4 : List Cond := .code yJ6_bitCount_0f7a4 cJ6_bitCount_0f7a4 1 (some .int) :: ([.constant RJ6 265 (1431655765), .constant RJ6 266 (858993459), .constant RJ6 267 (252645135)])
def wsX2_fetches_r1 : List Cond := [Cond.fieldLink RX2 37 "Keysapart" "tailAt" "I", Cond.fieldLink RX2 19 "Keysapart" "index" "LKeysapart$Index;", Cond.methodLink RX2 83 yX2_needRange, Cond.static yX2_needRange, Cond.initialized RX2, Cond.code yX2_needRange cX2_needRange 2 none, Cond.classLink RX2 53 "java/lang/IllegalArgumentException", Cond.initialized "java/lang/IllegalArgumentException", Cond.methodLink RX2 49 yX2_needKey, Cond.static yX2_needKey, Cond.code yX2_needKey cX2_needKey 1 none, Cond.methodLink RX2 60 yX2_needUp, Cond.instanceMethod yX2_needUp, Cond.selects RX2 yX2_needUp yX2_needUp, Cond.code yX2_needUp cX2_needUp 1 none, Cond.classLink RX2 74 "java/lang/IllegalStateException", Cond.initialized "java/lang/IllegalStateException", Cond.fieldLink RX2 29 "Keysapart" "up" "Z", Cond.methodLink RX2 87 yX2_segmentOf, Cond.static yX2_segmentOf, Cond.code yX2_segmentOf cX2_segmentOf 1 (some .int), Cond.methodLink RX2 70 yX0_has, Cond.instanceMethod yX0_has, Cond.selects RX0 yX0_has yX0_has]
def wsX2_fetches_r2 : List Cond := [Cond.initialized RX0, Cond.code yX0_has cX0_has 2 (some .boolean), Cond.methodLink RX0 21 yX0_find, Cond.instanceMethod yX0_find, Cond.selects RX0 yX0_find yX0_find, Cond.code yX0_find cX0_find 2 (some .int), Cond.fieldLink RX0 9 "Keysapart$Index" "positions" "[I", Cond.methodLink RX2 90 yX0_find, Cond.methodLink RX2 93 yJ6_bitCount_0f7a4, Cond.static yJ6_bitCount_0f7a4, Cond.initialized RJ6, Cond.code yJ6_bitCount_0f7a4 cJ6_bitCount_0f7a4 1 (some .int), Cond.constant RJ6 265 (1431655765), Cond.constant RJ6 266 (858993459), Cond.constant RJ6 267 (252645135)]
def wsX2_fetches : List Cond := .code yX2_fetches cX2_fetches 6 (some .int) :: ((wsX2_fetches_r1 ++ wsX2_fetches_r2) ++ wsX20 ++ wsX00 ++ (vx_atS RX2 57 "java/lang/IllegalArgumentException" ["java/lang/RuntimeException", "java/lang/Exception"]).filter goodWord ++ (vx_atS RX2 78 "java/lang/IllegalStateException" ["java/lang/RuntimeException", "java/lang/Exception"]).filter goodWord)
def wsX2_losePower : List Cond := .code yX2_losePower cX2_losePower 1 none :: ([.fieldLink RX2 40 "Keysapart" "writtenTo" "I", .fieldLink RX2 33 "Keysapart" "headAt" "I", .fieldLink RX2 29 "Keysapart" "up" "Z"] ++ wsX20)
def wsX2_writeOnce : List Cond := .code yX2_writeOnce cX2_writeOnce 1 (some .boolean) :: ([.fieldLink RX2 46 "Keysapart" "writesAhead" "I", .methodLink RX2 121 yX2_losePower, .instanceMethod yX2_losePower, .selects RX2 yX2_losePower yX2_losePower, .initialized RX2, .code yX2_losePower cX2_losePower 1 none, .fieldLink RX2 40 "Keysapart" "writtenTo" "I", .fieldLink RX2 33 "Keysapart" "headAt" "I", .fieldLink RX2 29 "Keysapart" "up" "Z"] ++ wsX20)
def wsX2_writeEntries : List Cond := .code yX2_writeEntries cX2_writeEntries 3 (some .boolean) :: ([.fieldLink RX2 33 "Keysapart" "headAt" "I", .fieldLink RX2 40 "Keysapart" "writtenTo" "I", .methodLink RX2 102 yX2_writeOnce, .instanceMethod yX2_writeOnce, .selects RX2 yX2_writeOnce yX2_writeOnce, .initialized RX2, .code yX2_writeOnce cX2_writeOnce 1 (some .boolean), .fieldLink RX2 46 "Keysapart" "writesAhead" "I", .methodLink RX2 121 yX2_losePower, .instanceMethod yX2_losePower, .selects RX2 yX2_losePower yX2_losePower, .code yX2_losePower cX2_losePower 1 none, .fieldLink RX2 29 "Keysapart" "up" "Z"] ++ wsX20)
def wsX2_synchronize : List Cond := .code yX2_synchronize cX2_synchronize 1 (some .boolean) :: ([.methodLink RX2 60 yX2_needUp, .instanceMethod yX2_needUp, .selects RX2 yX2_needUp yX2_needUp, .initialized RX2, .code yX2_needUp cX2_needUp 1 none, .classLink RX2 74 "java/lang/IllegalStateException", .initialized "java/lang/IllegalStateException", .fieldLink RX2 29 "Keysapart" "up" "Z", .methodLink RX2 98 yX2_writeEntries, .instanceMethod yX2_writeEntries, .selects RX2 yX2_writeEntries yX2_writeEntries, .code yX2_writeEntries cX2_writeEntries 3 (some .boolean), .fieldLink RX2 33 "Keysapart" "headAt" "I", .fieldLink RX2 40 "Keysapart" "writtenTo" "I", .methodLink RX2 102 yX2_writeOnce, .instanceMethod yX2_writeOnce, .selects RX2 yX2_writeOnce yX2_writeOnce, .code yX2_writeOnce cX2_writeOnce 1 (some .boolean), .fieldLink RX2 46 "Keysapart" "writesAhead" "I", .methodLink RX2 121 yX2_losePower, .instanceMethod yX2_losePower, .selects RX2 yX2_losePower yX2_losePower, .code yX2_losePower cX2_losePower 1 none] ++ wsX20 ++ (vx_atS RX2 78 "java/lang/IllegalStateException" ["java/lang/RuntimeException", "java/lang/Exception"]).filter goodWord)
def wsX2_checkpoint_r1 : List Cond := [Cond.fieldLink RX2 23 "Keysapart" "checkpointIndex" "LKeysapart$Index;", Cond.fieldLink RX2 19 "Keysapart" "index" "LKeysapart$Index;", Cond.fieldLink RX2 33 "Keysapart" "headAt" "I", Cond.fieldLink RX2 43 "Keysapart" "checkpointTo" "I", Cond.methodLink RX2 60 yX2_needUp, Cond.instanceMethod yX2_needUp, Cond.selects RX2 yX2_needUp yX2_needUp, Cond.initialized RX2, Cond.code yX2_needUp cX2_needUp 1 none, Cond.classLink RX2 74 "java/lang/IllegalStateException", Cond.initialized "java/lang/IllegalStateException", Cond.fieldLink RX2 29 "Keysapart" "up" "Z", Cond.methodLink RX2 98 yX2_writeEntries, Cond.instanceMethod yX2_writeEntries, Cond.selects RX2 yX2_writeEntries yX2_writeEntries, Cond.code yX2_writeEntries cX2_writeEntries 3 (some .boolean), Cond.fieldLink RX2 40 "Keysapart" "writtenTo" "I", Cond.methodLink RX2 102 yX2_writeOnce, Cond.instanceMethod yX2_writeOnce, Cond.selects RX2 yX2_writeOnce yX2_writeOnce, Cond.code yX2_writeOnce cX2_writeOnce 1 (some .boolean), Cond.fieldLink RX2 46 "Keysapart" "writesAhead" "I", Cond.methodLink RX2 121 yX2_losePower, Cond.instanceMethod yX2_losePower]
def wsX2_checkpoint_r2 : List Cond := [Cond.selects RX2 yX2_losePower yX2_losePower, Cond.code yX2_losePower cX2_losePower 1 none, Cond.methodLink RX2 105 yX0_takeFrom, Cond.instanceMethod yX0_takeFrom, Cond.selects RX0 yX0_takeFrom yX0_takeFrom, Cond.initialized RX0, Cond.code yX0_takeFrom cX0_takeFrom 3 none, Cond.fieldLink RX0 9 "Keysapart$Index" "positions" "[I", Cond.methodLink RX0 21 yX0_find, Cond.instanceMethod yX0_find, Cond.selects RX0 yX0_find yX0_find, Cond.code yX0_find cX0_find 2 (some .int)]
def wsX2_checkpoint : List Cond := .code yX2_checkpoint cX2_checkpoint 1 (some .boolean) :: ((wsX2_checkpoint_r1 ++ wsX2_checkpoint_r2) ++ wsX20 ++ wsX00 ++ (vx_atS RX2 78 "java/lang/IllegalStateException" ["java/lang/RuntimeException", "java/lang/Exception"]).filter goodWord)
def wsX2_isLive : List Cond := .code yX2_isLive cX2_isLive 2 (some .boolean) :: ([.fieldLink RX2 19 "Keysapart" "index" "LKeysapart$Index;", .fieldLink RX2 12 "Keysapart" "log" "LKeysapart$Log;", .methodLink RX2 144 yX1_keyAt, .instanceMethod yX1_keyAt, .selects RX1 yX1_keyAt yX1_keyAt, .initialized RX1, .code yX1_keyAt cX1_keyAt 3 (some .int), .fieldLink RX1 9 "Keysapart$Log" "keys" "[I", .methodLink RX1 18 yJ9_floorMod_7cf53, .static yJ9_floorMod_7cf53, .initialized RJ9, .code yJ9_floorMod_7cf53 cJ9_floorMod_7cf53 3 (some .int), .methodLink RX2 90 yX0_find, .instanceMethod yX0_find, .selects RX0 yX0_find yX0_find, .initialized RX0, .code yX0_find cX0_find 2 (some .int), .fieldLink RX0 9 "Keysapart$Index" "positions" "[I"] ++ wsX20 ++ wsX10 ++ wsX00)
def wsX2_liveFromTail : List Cond := .code yX2_liveFromTail cX2_liveFromTail 5 (some .int) :: ([.fieldLink RX2 37 "Keysapart" "tailAt" "I", .methodLink RX2 147 yX2_isLive, .instanceMethod yX2_isLive, .selects RX2 yX2_isLive yX2_isLive, .initialized RX2, .code yX2_isLive cX2_isLive 2 (some .boolean), .fieldLink RX2 19 "Keysapart" "index" "LKeysapart$Index;", .fieldLink RX2 12 "Keysapart" "log" "LKeysapart$Log;", .methodLink RX2 144 yX1_keyAt, .instanceMethod yX1_keyAt, .selects RX1 yX1_keyAt yX1_keyAt, .initialized RX1, .code yX1_keyAt cX1_keyAt 3 (some .int), .fieldLink RX1 9 "Keysapart$Log" "keys" "[I", .methodLink RX1 18 yJ9_floorMod_7cf53, .static yJ9_floorMod_7cf53, .initialized RJ9, .code yJ9_floorMod_7cf53 cJ9_floorMod_7cf53 3 (some .int), .methodLink RX2 90 yX0_find, .instanceMethod yX0_find, .selects RX0 yX0_find yX0_find, .initialized RX0, .code yX0_find cX0_find 2 (some .int), .fieldLink RX0 9 "Keysapart$Index" "positions" "[I"] ++ wsX20 ++ wsX10 ++ wsX00)
def wsX2_appendLiveAgain_r1 : List Cond := [Cond.fieldLink RX2 37 "Keysapart" "tailAt" "I", Cond.fieldLink RX2 12 "Keysapart" "log" "LKeysapart$Log;", Cond.methodLink RX2 147 yX2_isLive, Cond.instanceMethod yX2_isLive, Cond.selects RX2 yX2_isLive yX2_isLive, Cond.initialized RX2, Cond.code yX2_isLive cX2_isLive 2 (some .boolean), Cond.fieldLink RX2 19 "Keysapart" "index" "LKeysapart$Index;", Cond.methodLink RX2 144 yX1_keyAt, Cond.instanceMethod yX1_keyAt, Cond.selects RX1 yX1_keyAt yX1_keyAt, Cond.initialized RX1, Cond.code yX1_keyAt cX1_keyAt 3 (some .int), Cond.fieldLink RX1 9 "Keysapart$Log" "keys" "[I", Cond.methodLink RX1 18 yJ9_floorMod_7cf53, Cond.static yJ9_floorMod_7cf53, Cond.initialized RJ9, Cond.code yJ9_floorMod_7cf53 cJ9_floorMod_7cf53 3 (some .int), Cond.methodLink RX2 90 yX0_find, Cond.instanceMethod yX0_find, Cond.selects RX0 yX0_find yX0_find, Cond.initialized RX0, Cond.code yX0_find cX0_find 2 (some .int), Cond.fieldLink RX0 9 "Keysapart$Index" "positions" "[I"]
def wsX2_appendLiveAgain_r2 : List Cond := [Cond.methodLink RX2 141 yX1_valueAt, Cond.instanceMethod yX1_valueAt, Cond.selects RX1 yX1_valueAt yX1_valueAt, Cond.code yX1_valueAt cX1_valueAt 3 (some .int), Cond.fieldLink RX1 15 "Keysapart$Log" "values" "[I", Cond.methodLink RX2 66 yX2_append, Cond.instanceMethod yX2_append, Cond.selects RX2 yX2_append yX2_append, Cond.code yX2_append cX2_append 4 (some .int), Cond.fieldLink RX2 33 "Keysapart" "headAt" "I", Cond.methodLink RX2 150 yX1_store, Cond.instanceMethod yX1_store, Cond.selects RX1 yX1_store yX1_store, Cond.code yX1_store cX1_store 5 none, Cond.methodLink RX2 154 yX2_follow, Cond.instanceMethod yX2_follow, Cond.selects RX2 yX2_follow yX2_follow, Cond.code yX2_follow cX2_follow 4 none, Cond.methodLink RX2 158 yX0_point, Cond.instanceMethod yX0_point, Cond.selects RX0 yX0_point yX0_point, Cond.code yX0_point cX0_point 3 none]
def wsX2_appendLiveAgain : List Cond := .code yX2_appendLiveAgain cX2_appendLiveAgain 4 none :: ((wsX2_appendLiveAgain_r1 ++ wsX2_appendLiveAgain_r2) ++ wsX20 ++ wsX10 ++ wsX00)
def wsX2_collect_r1 : List Cond := [Cond.classLink RX2 53 "java/lang/IllegalArgumentException", Cond.initialized "java/lang/IllegalArgumentException", Cond.classLink RX2 74 "java/lang/IllegalStateException", Cond.initialized "java/lang/IllegalStateException", Cond.fieldLink RX2 33 "Keysapart" "headAt" "I", Cond.fieldLink RX2 37 "Keysapart" "tailAt" "I", Cond.methodLink RX2 60 yX2_needUp, Cond.instanceMethod yX2_needUp, Cond.selects RX2 yX2_needUp yX2_needUp, Cond.initialized RX2, Cond.code yX2_needUp cX2_needUp 1 none, Cond.fieldLink RX2 29 "Keysapart" "up" "Z", Cond.methodLink RX2 113 yX2_liveFromTail, Cond.instanceMethod yX2_liveFromTail, Cond.selects RX2 yX2_liveFromTail yX2_liveFromTail, Cond.code yX2_liveFromTail cX2_liveFromTail 5 (some .int), Cond.methodLink RX2 147 yX2_isLive, Cond.instanceMethod yX2_isLive, Cond.selects RX2 yX2_isLive yX2_isLive, Cond.code yX2_isLive cX2_isLive 2 (some .boolean), Cond.fieldLink RX2 19 "Keysapart" "index" "LKeysapart$Index;", Cond.fieldLink RX2 12 "Keysapart" "log" "LKeysapart$Log;", Cond.methodLink RX2 144 yX1_keyAt, Cond.instanceMethod yX1_keyAt]
def wsX2_collect_r2 : List Cond := [Cond.selects RX1 yX1_keyAt yX1_keyAt, Cond.initialized RX1, Cond.code yX1_keyAt cX1_keyAt 3 (some .int), Cond.fieldLink RX1 9 "Keysapart$Log" "keys" "[I", Cond.methodLink RX1 18 yJ9_floorMod_7cf53, Cond.static yJ9_floorMod_7cf53, Cond.initialized RJ9, Cond.code yJ9_floorMod_7cf53 cJ9_floorMod_7cf53 3 (some .int), Cond.methodLink RX2 90 yX0_find, Cond.instanceMethod yX0_find, Cond.selects RX0 yX0_find yX0_find, Cond.initialized RX0, Cond.code yX0_find cX0_find 2 (some .int), Cond.fieldLink RX0 9 "Keysapart$Index" "positions" "[I", Cond.methodLink RX2 63 yX2_needRoom, Cond.instanceMethod yX2_needRoom, Cond.selects RX2 yX2_needRoom yX2_needRoom, Cond.code yX2_needRoom cX2_needRoom 3 none, Cond.methodLink RX2 87 yX2_segmentOf, Cond.static yX2_segmentOf, Cond.code yX2_segmentOf cX2_segmentOf 1 (some .int), Cond.methodLink RX2 116 yX2_appendLiveAgain, Cond.instanceMethod yX2_appendLiveAgain, Cond.selects RX2 yX2_appendLiveAgain yX2_appendLiveAgain]
def wsX2_collect_r3 : List Cond := [Cond.code yX2_appendLiveAgain cX2_appendLiveAgain 4 none, Cond.methodLink RX2 141 yX1_valueAt, Cond.instanceMethod yX1_valueAt, Cond.selects RX1 yX1_valueAt yX1_valueAt, Cond.code yX1_valueAt cX1_valueAt 3 (some .int), Cond.fieldLink RX1 15 "Keysapart$Log" "values" "[I", Cond.methodLink RX2 66 yX2_append, Cond.instanceMethod yX2_append, Cond.selects RX2 yX2_append yX2_append, Cond.code yX2_append cX2_append 4 (some .int), Cond.methodLink RX2 150 yX1_store, Cond.instanceMethod yX1_store, Cond.selects RX1 yX1_store yX1_store, Cond.code yX1_store cX1_store 5 none, Cond.methodLink RX2 154 yX2_follow, Cond.instanceMethod yX2_follow, Cond.selects RX2 yX2_follow yX2_follow, Cond.code yX2_follow cX2_follow 4 none, Cond.methodLink RX2 158 yX0_point, Cond.instanceMethod yX0_point, Cond.selects RX0 yX0_point yX0_point, Cond.code yX0_point cX0_point 3 none, Cond.methodLink RX2 98 yX2_writeEntries, Cond.instanceMethod yX2_writeEntries]
def wsX2_collect_r4 : List Cond := [Cond.selects RX2 yX2_writeEntries yX2_writeEntries, Cond.code yX2_writeEntries cX2_writeEntries 3 (some .boolean), Cond.fieldLink RX2 40 "Keysapart" "writtenTo" "I", Cond.methodLink RX2 102 yX2_writeOnce, Cond.instanceMethod yX2_writeOnce, Cond.selects RX2 yX2_writeOnce yX2_writeOnce, Cond.code yX2_writeOnce cX2_writeOnce 1 (some .boolean), Cond.fieldLink RX2 46 "Keysapart" "writesAhead" "I", Cond.methodLink RX2 121 yX2_losePower, Cond.instanceMethod yX2_losePower, Cond.selects RX2 yX2_losePower yX2_losePower, Cond.code yX2_losePower cX2_losePower 1 none]
def wsX2_collect : List Cond := .code yX2_collect cX2_collect 2 (some .boolean) :: ((wsX2_collect_r1 ++ (wsX2_collect_r2 ++ (wsX2_collect_r3 ++ wsX2_collect_r4))) ++ wsX20 ++ wsX10 ++ wsX00 ++ (vx_atS RX2 57 "java/lang/IllegalArgumentException" ["java/lang/RuntimeException", "java/lang/Exception"]).filter goodWord ++ (vx_atS RX2 78 "java/lang/IllegalStateException" ["java/lang/RuntimeException", "java/lang/Exception"]).filter goodWord)
def wsX2_failAfter : List Cond := .code yX2_failAfter cX2_failAfter 2 none :: ([.classLink RX2 53 "java/lang/IllegalArgumentException", .initialized "java/lang/IllegalArgumentException", .fieldLink RX2 46 "Keysapart" "writesAhead" "I"] ++ wsX20 ++ (vx_atS RX2 57 "java/lang/IllegalArgumentException" ["java/lang/RuntimeException", "java/lang/Exception"]).filter goodWord)
def wsX2_crash : List Cond := .code yX2_crash cX2_crash 2 (some .int) :: ([.fieldLink RX2 33 "Keysapart" "headAt" "I", .fieldLink RX2 40 "Keysapart" "writtenTo" "I", .methodLink RX2 60 yX2_needUp, .instanceMethod yX2_needUp, .selects RX2 yX2_needUp yX2_needUp, .initialized RX2, .code yX2_needUp cX2_needUp 1 none, .classLink RX2 74 "java/lang/IllegalStateException", .initialized "java/lang/IllegalStateException", .fieldLink RX2 29 "Keysapart" "up" "Z", .methodLink RX2 121 yX2_losePower, .instanceMethod yX2_losePower, .selects RX2 yX2_losePower yX2_losePower, .code yX2_losePower cX2_losePower 1 none] ++ wsX20 ++ (vx_atS RX2 78 "java/lang/IllegalStateException" ["java/lang/RuntimeException", "java/lang/Exception"]).filter goodWord)
def wsX2_recover_r1 : List Cond := [Cond.fieldLink RX2 23 "Keysapart" "checkpointIndex" "LKeysapart$Index;", Cond.fieldLink RX2 37 "Keysapart" "tailAt" "I", Cond.fieldLink RX2 43 "Keysapart" "checkpointTo" "I", Cond.methodLink RX2 164 Lib.Math.max.name, Cond.static Lib.Math.max.name, Cond.initialized "java/lang/Math", Cond.code Lib.Math.max.name Lib.Math.max.code 2 (some .int), Cond.fieldLink RX2 40 "Keysapart" "writtenTo" "I", Cond.methodLink RX2 105 yX0_takeFrom, Cond.instanceMethod yX0_takeFrom, Cond.selects RX0 yX0_takeFrom yX0_takeFrom, Cond.initialized RX0, Cond.code yX0_takeFrom cX0_takeFrom 3 none, Cond.fieldLink RX0 9 "Keysapart$Index" "positions" "[I", Cond.methodLink RX0 21 yX0_find, Cond.instanceMethod yX0_find, Cond.selects RX0 yX0_find yX0_find, Cond.code yX0_find cX0_find 2 (some .int), Cond.methodLink RX2 161 yX0_dropBelow, Cond.instanceMethod yX0_dropBelow, Cond.selects RX0 yX0_dropBelow yX0_dropBelow, Cond.code yX0_dropBelow cX0_dropBelow 3 none, Cond.methodLink RX2 154 yX2_follow, Cond.instanceMethod yX2_follow]
def wsX2_recover_r2 : List Cond := [Cond.selects RX2 yX2_follow yX2_follow, Cond.initialized RX2, Cond.code yX2_follow cX2_follow 4 none, Cond.fieldLink RX2 12 "Keysapart" "log" "LKeysapart$Log;", Cond.methodLink RX2 141 yX1_valueAt, Cond.instanceMethod yX1_valueAt, Cond.selects RX1 yX1_valueAt yX1_valueAt, Cond.initialized RX1, Cond.code yX1_valueAt cX1_valueAt 3 (some .int), Cond.fieldLink RX1 15 "Keysapart$Log" "values" "[I", Cond.methodLink RX1 18 yJ9_floorMod_7cf53, Cond.static yJ9_floorMod_7cf53, Cond.initialized RJ9, Cond.code yJ9_floorMod_7cf53 cJ9_floorMod_7cf53 3 (some .int), Cond.methodLink RX2 144 yX1_keyAt, Cond.instanceMethod yX1_keyAt, Cond.selects RX1 yX1_keyAt yX1_keyAt, Cond.code yX1_keyAt cX1_keyAt 3 (some .int), Cond.fieldLink RX1 9 "Keysapart$Log" "keys" "[I", Cond.methodLink RX2 158 yX0_point, Cond.instanceMethod yX0_point, Cond.selects RX0 yX0_point yX0_point, Cond.code yX0_point cX0_point 3 none]
def wsX2_recover : List Cond := .code yX2_recover cX2_recover 3 none :: ((wsX2_recover_r1 ++ wsX2_recover_r2) ++ wsX20 ++ wsX00 ++ wsX10)
def wsX2_start_r1 : List Cond := [Cond.classLink RX2 74 "java/lang/IllegalStateException", Cond.initialized "java/lang/IllegalStateException", Cond.fieldLink RX2 29 "Keysapart" "up" "Z", Cond.fieldLink RX2 19 "Keysapart" "index" "LKeysapart$Index;", Cond.methodLink RX2 126 yX2_recover, Cond.instanceMethod yX2_recover, Cond.selects RX2 yX2_recover yX2_recover, Cond.initialized RX2, Cond.code yX2_recover cX2_recover 3 none, Cond.fieldLink RX2 23 "Keysapart" "checkpointIndex" "LKeysapart$Index;", Cond.fieldLink RX2 37 "Keysapart" "tailAt" "I", Cond.fieldLink RX2 43 "Keysapart" "checkpointTo" "I", Cond.methodLink RX2 164 Lib.Math.max.name, Cond.static Lib.Math.max.name, Cond.initialized "java/lang/Math", Cond.code Lib.Math.max.name Lib.Math.max.code 2 (some .int), Cond.fieldLink RX2 40 "Keysapart" "writtenTo" "I", Cond.methodLink RX2 105 yX0_takeFrom, Cond.instanceMethod yX0_takeFrom, Cond.selects RX0 yX0_takeFrom yX0_takeFrom, Cond.initialized RX0, Cond.code yX0_takeFrom cX0_takeFrom 3 none, Cond.fieldLink RX0 9 "Keysapart$Index" "positions" "[I", Cond.methodLink RX0 21 yX0_find]
def wsX2_start_r2 : List Cond := [Cond.instanceMethod yX0_find, Cond.selects RX0 yX0_find yX0_find, Cond.code yX0_find cX0_find 2 (some .int), Cond.methodLink RX2 161 yX0_dropBelow, Cond.instanceMethod yX0_dropBelow, Cond.selects RX0 yX0_dropBelow yX0_dropBelow, Cond.code yX0_dropBelow cX0_dropBelow 3 none, Cond.methodLink RX2 154 yX2_follow, Cond.instanceMethod yX2_follow, Cond.selects RX2 yX2_follow yX2_follow, Cond.code yX2_follow cX2_follow 4 none, Cond.fieldLink RX2 12 "Keysapart" "log" "LKeysapart$Log;", Cond.methodLink RX2 141 yX1_valueAt, Cond.instanceMethod yX1_valueAt, Cond.selects RX1 yX1_valueAt yX1_valueAt, Cond.initialized RX1, Cond.code yX1_valueAt cX1_valueAt 3 (some .int), Cond.fieldLink RX1 15 "Keysapart$Log" "values" "[I", Cond.methodLink RX1 18 yJ9_floorMod_7cf53, Cond.static yJ9_floorMod_7cf53, Cond.initialized RJ9, Cond.code yJ9_floorMod_7cf53 cJ9_floorMod_7cf53 3 (some .int), Cond.methodLink RX2 144 yX1_keyAt, Cond.instanceMethod yX1_keyAt]
def wsX2_start_r3 : List Cond := [Cond.selects RX1 yX1_keyAt yX1_keyAt, Cond.code yX1_keyAt cX1_keyAt 3 (some .int), Cond.fieldLink RX1 9 "Keysapart$Log" "keys" "[I", Cond.methodLink RX2 158 yX0_point, Cond.instanceMethod yX0_point, Cond.selects RX0 yX0_point yX0_point, Cond.code yX0_point cX0_point 3 none, Cond.methodLink RX2 129 yX0_size, Cond.instanceMethod yX0_size, Cond.selects RX0 yX0_size yX0_size, Cond.code yX0_size cX0_size 3 (some .int)]
def wsX2_start : List Cond := .code yX2_start cX2_start 1 (some .int) :: ((wsX2_start_r1 ++ (wsX2_start_r2 ++ wsX2_start_r3)) ++ wsX20 ++ wsX00 ++ wsX10 ++ (vx_atS RX2 78 "java/lang/IllegalStateException" ["java/lang/RuntimeException", "java/lang/Exception"]).filter goodWord)
def wsX2_isUp : List Cond := .code yX2_isUp cX2_isUp 1 (some .boolean) :: ([.fieldLink RX2 29 "Keysapart" "up" "Z"] ++ wsX20)
def wsX2_head : List Cond := .code yX2_head cX2_head 1 (some .int) :: ([.fieldLink RX2 33 "Keysapart" "headAt" "I"] ++ wsX20)
def wsX2_tail : List Cond := .code yX2_tail cX2_tail 1 (some .int) :: ([.fieldLink RX2 37 "Keysapart" "tailAt" "I"] ++ wsX20)
def wsX2_written : List Cond := .code yX2_written cX2_written 1 (some .int) :: ([.fieldLink RX2 40 "Keysapart" "writtenTo" "I"] ++ wsX20)
def wsX2_checkpointAt : List Cond := .code yX2_checkpointAt cX2_checkpointAt 1 (some .int) :: ([.fieldLink RX2 43 "Keysapart" "checkpointTo" "I"] ++ wsX20)
def wsX2_positionOf : List Cond := .code yX2_positionOf cX2_positionOf 2 (some .int) :: ([.fieldLink RX2 19 "Keysapart" "index" "LKeysapart$Index;", .methodLink RX2 49 yX2_needKey, .static yX2_needKey, .initialized RX2, .code yX2_needKey cX2_needKey 1 none, .classLink RX2 53 "java/lang/IllegalArgumentException", .initialized "java/lang/IllegalArgumentException", .methodLink RX2 60 yX2_needUp, .instanceMethod yX2_needUp, .selects RX2 yX2_needUp yX2_needUp, .code yX2_needUp cX2_needUp 1 none, .classLink RX2 74 "java/lang/IllegalStateException", .initialized "java/lang/IllegalStateException", .fieldLink RX2 29 "Keysapart" "up" "Z", .methodLink RX2 90 yX0_find, .instanceMethod yX0_find, .selects RX0 yX0_find yX0_find, .initialized RX0, .code yX0_find cX0_find 2 (some .int), .fieldLink RX0 9 "Keysapart$Index" "positions" "[I"] ++ wsX20 ++ wsX00 ++ (vx_atS RX2 57 "java/lang/IllegalArgumentException" ["java/lang/RuntimeException", "java/lang/Exception"]).filter goodWord ++ (vx_atS RX2 78 "java/lang/IllegalStateException" ["java/lang/RuntimeException", "java/lang/Exception"]).filter goodWord)
def wsX2_segments : List Cond := .code yX2_segments cX2_segments 1 (some .int) :: ([.fieldLink RX2 33 "Keysapart" "headAt" "I", .fieldLink RX2 37 "Keysapart" "tailAt" "I", .methodLink RX2 87 yX2_segmentOf, .static yX2_segmentOf, .initialized RX2, .code yX2_segmentOf cX2_segmentOf 1 (some .int)] ++ wsX20)
def wsX2_live_r1 : List Cond := [Cond.fieldLink RX2 33 "Keysapart" "headAt" "I", Cond.fieldLink RX2 37 "Keysapart" "tailAt" "I", Cond.methodLink RX2 60 yX2_needUp, Cond.instanceMethod yX2_needUp, Cond.selects RX2 yX2_needUp yX2_needUp, Cond.initialized RX2, Cond.code yX2_needUp cX2_needUp 1 none, Cond.classLink RX2 74 "java/lang/IllegalStateException", Cond.initialized "java/lang/IllegalStateException", Cond.fieldLink RX2 29 "Keysapart" "up" "Z", Cond.methodLink RX2 113 yX2_liveFromTail, Cond.instanceMethod yX2_liveFromTail, Cond.selects RX2 yX2_liveFromTail yX2_liveFromTail, Cond.code yX2_liveFromTail cX2_liveFromTail 5 (some .int), Cond.methodLink RX2 147 yX2_isLive, Cond.instanceMethod yX2_isLive, Cond.selects RX2 yX2_isLive yX2_isLive, Cond.code yX2_isLive cX2_isLive 2 (some .boolean), Cond.fieldLink RX2 19 "Keysapart" "index" "LKeysapart$Index;", Cond.fieldLink RX2 12 "Keysapart" "log" "LKeysapart$Log;", Cond.methodLink RX2 144 yX1_keyAt, Cond.instanceMethod yX1_keyAt, Cond.selects RX1 yX1_keyAt yX1_keyAt, Cond.initialized RX1]
def wsX2_live_r2 : List Cond := [Cond.code yX1_keyAt cX1_keyAt 3 (some .int), Cond.fieldLink RX1 9 "Keysapart$Log" "keys" "[I", Cond.methodLink RX1 18 yJ9_floorMod_7cf53, Cond.static yJ9_floorMod_7cf53, Cond.initialized RJ9, Cond.code yJ9_floorMod_7cf53 cJ9_floorMod_7cf53 3 (some .int), Cond.methodLink RX2 90 yX0_find, Cond.instanceMethod yX0_find, Cond.selects RX0 yX0_find yX0_find, Cond.initialized RX0, Cond.code yX0_find cX0_find 2 (some .int), Cond.fieldLink RX0 9 "Keysapart$Index" "positions" "[I"]
def wsX2_live : List Cond := .code yX2_live cX2_live 1 (some .int) :: ((wsX2_live_r1 ++ wsX2_live_r2) ++ wsX20 ++ wsX10 ++ wsX00 ++ (vx_atS RX2 78 "java/lang/IllegalStateException" ["java/lang/RuntimeException", "java/lang/Exception"]).filter goodWord)
def wsX2_toFree : List Cond := .code yX2_toFree cX2_toFree 2 (some .int) :: ([.fieldLink RX2 37 "Keysapart" "tailAt" "I", .fieldLink RX2 33 "Keysapart" "headAt" "I", .methodLink RX2 87 yX2_segmentOf, .static yX2_segmentOf, .initialized RX2, .code yX2_segmentOf cX2_segmentOf 1 (some .int)] ++ wsX20)
def wsX2_wouldHave_r1 : List Cond := [Cond.fieldLink RX2 26 "Keysapart" "trialIndex" "LKeysapart$Index;", Cond.methodLink RX2 126 yX2_recover, Cond.instanceMethod yX2_recover, Cond.selects RX2 yX2_recover yX2_recover, Cond.initialized RX2, Cond.code yX2_recover cX2_recover 3 none, Cond.fieldLink RX2 23 "Keysapart" "checkpointIndex" "LKeysapart$Index;", Cond.fieldLink RX2 37 "Keysapart" "tailAt" "I", Cond.fieldLink RX2 43 "Keysapart" "checkpointTo" "I", Cond.methodLink RX2 164 Lib.Math.max.name, Cond.static Lib.Math.max.name, Cond.initialized "java/lang/Math", Cond.code Lib.Math.max.name Lib.Math.max.code 2 (some .int), Cond.fieldLink RX2 40 "Keysapart" "writtenTo" "I", Cond.methodLink RX2 105 yX0_takeFrom, Cond.instanceMethod yX0_takeFrom, Cond.selects RX0 yX0_takeFrom yX0_takeFrom, Cond.initialized RX0, Cond.code yX0_takeFrom cX0_takeFrom 3 none, Cond.fieldLink RX0 9 "Keysapart$Index" "positions" "[I", Cond.methodLink RX0 21 yX0_find, Cond.instanceMethod yX0_find, Cond.selects RX0 yX0_find yX0_find, Cond.code yX0_find cX0_find 2 (some .int)]
def wsX2_wouldHave_r2 : List Cond := [Cond.methodLink RX2 161 yX0_dropBelow, Cond.instanceMethod yX0_dropBelow, Cond.selects RX0 yX0_dropBelow yX0_dropBelow, Cond.code yX0_dropBelow cX0_dropBelow 3 none, Cond.methodLink RX2 154 yX2_follow, Cond.instanceMethod yX2_follow, Cond.selects RX2 yX2_follow yX2_follow, Cond.code yX2_follow cX2_follow 4 none, Cond.fieldLink RX2 12 "Keysapart" "log" "LKeysapart$Log;", Cond.methodLink RX2 141 yX1_valueAt, Cond.instanceMethod yX1_valueAt, Cond.selects RX1 yX1_valueAt yX1_valueAt, Cond.initialized RX1, Cond.code yX1_valueAt cX1_valueAt 3 (some .int), Cond.fieldLink RX1 15 "Keysapart$Log" "values" "[I", Cond.methodLink RX1 18 yJ9_floorMod_7cf53, Cond.static yJ9_floorMod_7cf53, Cond.initialized RJ9, Cond.code yJ9_floorMod_7cf53 cJ9_floorMod_7cf53 3 (some .int), Cond.methodLink RX2 144 yX1_keyAt, Cond.instanceMethod yX1_keyAt, Cond.selects RX1 yX1_keyAt yX1_keyAt, Cond.code yX1_keyAt cX1_keyAt 3 (some .int), Cond.fieldLink RX1 9 "Keysapart$Log" "keys" "[I"]
def wsX2_wouldHave_r3 : List Cond := [Cond.methodLink RX2 158 yX0_point, Cond.instanceMethod yX0_point, Cond.selects RX0 yX0_point yX0_point, Cond.code yX0_point cX0_point 3 none, Cond.methodLink RX2 129 yX0_size, Cond.instanceMethod yX0_size, Cond.selects RX0 yX0_size yX0_size, Cond.code yX0_size cX0_size 3 (some .int)]
def wsX2_wouldHave : List Cond := .code yX2_wouldHave cX2_wouldHave 1 (some .int) :: ((wsX2_wouldHave_r1 ++ (wsX2_wouldHave_r2 ++ wsX2_wouldHave_r3)) ++ wsX20 ++ wsX00 ++ wsX10)
def wsX3_init : List Cond := .code yX3_init cX3_init 2 none :: ([.methodLink RX3 1 objectInit, .instanceMethod objectInit, .code objectInit ⟨#[0xb1]⟩ 1 none, .arrayClass .int, .fieldLink RX3 7 "KeysapartModel" "key" "[I", .fieldLink RX3 13 "KeysapartModel" "value" "[I", .fieldLink RX3 16 "KeysapartModel" "index" "[I", .fieldLink RX3 19 "KeysapartModel" "kept" "[I", .fieldLink RX3 22 "KeysapartModel" "trial" "[I", .fieldLink RX3 25 "KeysapartModel" "chosen" "I"] ++ wsX30)
def wsX3_thrown : List Cond := .code yX3_thrown cX3_thrown 1 (some .int) :: ([.fieldLink RX3 29 "KeysapartModel" "thrown" "I"] ++ wsX30)
def wsX3_goes : List Cond := .code yX3_goes cX3_goes 3 (some .boolean) :: ([.fieldLink RX3 29 "KeysapartModel" "thrown" "I"] ++ wsX30)
def wsX3_isKey : List Cond := .code yX3_isKey cX3_isKey 1 (some .boolean) :: ([])
def wsX3_segmentsOf : List Cond := .code yX3_segmentsOf cX3_segmentsOf 2 (some .int) :: ([])
def wsX3_canAppend : List Cond := .code yX3_canAppend cX3_canAppend 2 (some .boolean) :: ([.fieldLink RX3 32 "KeysapartModel" "tail" "I", .fieldLink RX3 35 "KeysapartModel" "head" "I", .methodLink RX3 38 yX3_segmentsOf, .static yX3_segmentsOf, .initialized RX3, .code yX3_segmentsOf cX3_segmentsOf 2 (some .int)] ++ wsX30)
def wsX3_appends : List Cond := .code yX3_appends cX3_appends 3 (some .int) :: ([.fieldLink RX3 7 "KeysapartModel" "key" "[I", .fieldLink RX3 35 "KeysapartModel" "head" "I", .fieldLink RX3 13 "KeysapartModel" "value" "[I"] ++ wsX30)
def wsX3_valueOf : List Cond := .code yX3_valueOf cX3_valueOf 2 (some .int) :: ([.fieldLink RX3 16 "KeysapartModel" "index" "[I", .fieldLink RX3 13 "KeysapartModel" "value" "[I"] ++ wsX30)
def wsX3_put_r1 : List Cond := [Cond.fieldLink RX3 46 "KeysapartModel" "isDown" "Z", Cond.fieldLink RX3 16 "KeysapartModel" "index" "[I", Cond.methodLink RX3 42 yX3_isKey, Cond.static yX3_isKey, Cond.initialized RX3, Cond.code yX3_isKey cX3_isKey 1 (some .boolean), Cond.methodLink RX3 50 yX3_canAppend, Cond.instanceMethod yX3_canAppend, Cond.selects RX3 yX3_canAppend yX3_canAppend, Cond.code yX3_canAppend cX3_canAppend 2 (some .boolean), Cond.fieldLink RX3 32 "KeysapartModel" "tail" "I", Cond.fieldLink RX3 35 "KeysapartModel" "head" "I", Cond.methodLink RX3 38 yX3_segmentsOf, Cond.static yX3_segmentsOf, Cond.code yX3_segmentsOf cX3_segmentsOf 2 (some .int), Cond.methodLink RX3 53 yX3_goes, Cond.instanceMethod yX3_goes, Cond.selects RX3 yX3_goes yX3_goes, Cond.code yX3_goes cX3_goes 3 (some .boolean), Cond.fieldLink RX3 29 "KeysapartModel" "thrown" "I", Cond.methodLink RX3 57 yX3_appends, Cond.instanceMethod yX3_appends, Cond.selects RX3 yX3_appends yX3_appends, Cond.code yX3_appends cX3_appends 3 (some .int)]
def wsX3_put_r2 : List Cond := [Cond.fieldLink RX3 7 "KeysapartModel" "key" "[I", Cond.fieldLink RX3 13 "KeysapartModel" "value" "[I"]
def wsX3_put : List Cond := .code yX3_put cX3_put 3 (some .int) :: ((wsX3_put_r1 ++ wsX3_put_r2) ++ wsX30)
def wsX3_delete_r1 : List Cond := [Cond.fieldLink RX3 46 "KeysapartModel" "isDown" "Z", Cond.fieldLink RX3 16 "KeysapartModel" "index" "[I", Cond.methodLink RX3 42 yX3_isKey, Cond.static yX3_isKey, Cond.initialized RX3, Cond.code yX3_isKey cX3_isKey 1 (some .boolean), Cond.methodLink RX3 50 yX3_canAppend, Cond.instanceMethod yX3_canAppend, Cond.selects RX3 yX3_canAppend yX3_canAppend, Cond.code yX3_canAppend cX3_canAppend 2 (some .boolean), Cond.fieldLink RX3 32 "KeysapartModel" "tail" "I", Cond.fieldLink RX3 35 "KeysapartModel" "head" "I", Cond.methodLink RX3 38 yX3_segmentsOf, Cond.static yX3_segmentsOf, Cond.code yX3_segmentsOf cX3_segmentsOf 2 (some .int), Cond.methodLink RX3 53 yX3_goes, Cond.instanceMethod yX3_goes, Cond.selects RX3 yX3_goes yX3_goes, Cond.code yX3_goes cX3_goes 3 (some .boolean), Cond.fieldLink RX3 29 "KeysapartModel" "thrown" "I", Cond.methodLink RX3 60 yX3_valueOf, Cond.instanceMethod yX3_valueOf, Cond.selects RX3 yX3_valueOf yX3_valueOf, Cond.code yX3_valueOf cX3_valueOf 2 (some .int)]
def wsX3_delete_r2 : List Cond := [Cond.fieldLink RX3 13 "KeysapartModel" "value" "[I", Cond.methodLink RX3 57 yX3_appends, Cond.instanceMethod yX3_appends, Cond.selects RX3 yX3_appends yX3_appends, Cond.code yX3_appends cX3_appends 3 (some .int), Cond.fieldLink RX3 7 "KeysapartModel" "key" "[I"]
def wsX3_delete : List Cond := .code yX3_delete cX3_delete 4 (some .int) :: ((wsX3_delete_r1 ++ wsX3_delete_r2) ++ wsX30)
def wsX3_get : List Cond := .code yX3_get cX3_get 2 (some .int) :: ([.fieldLink RX3 46 "KeysapartModel" "isDown" "Z", .methodLink RX3 42 yX3_isKey, .static yX3_isKey, .initialized RX3, .code yX3_isKey cX3_isKey 1 (some .boolean), .methodLink RX3 53 yX3_goes, .instanceMethod yX3_goes, .selects RX3 yX3_goes yX3_goes, .code yX3_goes cX3_goes 3 (some .boolean), .fieldLink RX3 29 "KeysapartModel" "thrown" "I", .methodLink RX3 60 yX3_valueOf, .instanceMethod yX3_valueOf, .selects RX3 yX3_valueOf yX3_valueOf, .code yX3_valueOf cX3_valueOf 2 (some .int), .fieldLink RX3 16 "KeysapartModel" "index" "[I", .fieldLink RX3 13 "KeysapartModel" "value" "[I"] ++ wsX30)
def wsX3_next : List Cond := .code yX3_next cX3_next 4 (some .int) :: ([.fieldLink RX3 46 "KeysapartModel" "isDown" "Z", .fieldLink RX3 16 "KeysapartModel" "index" "[I", .methodLink RX3 42 yX3_isKey, .static yX3_isKey, .initialized RX3, .code yX3_isKey cX3_isKey 1 (some .boolean), .methodLink RX3 53 yX3_goes, .instanceMethod yX3_goes, .selects RX3 yX3_goes yX3_goes, .code yX3_goes cX3_goes 3 (some .boolean), .fieldLink RX3 29 "KeysapartModel" "thrown" "I"] ++ wsX30)
def wsX3_isRange : List Cond := .code yX3_isRange cX3_isRange 2 (some .boolean) :: ([])
def wsX3_sum : List Cond := .code yX3_sum cX3_sum 5 (some .int) :: ([.fieldLink RX3 46 "KeysapartModel" "isDown" "Z", .fieldLink RX3 16 "KeysapartModel" "index" "[I", .methodLink RX3 64 yX3_isRange, .static yX3_isRange, .initialized RX3, .code yX3_isRange cX3_isRange 2 (some .boolean), .methodLink RX3 53 yX3_goes, .instanceMethod yX3_goes, .selects RX3 yX3_goes yX3_goes, .code yX3_goes cX3_goes 3 (some .boolean), .fieldLink RX3 29 "KeysapartModel" "thrown" "I", .methodLink RX3 60 yX3_valueOf, .instanceMethod yX3_valueOf, .selects RX3 yX3_valueOf yX3_valueOf, .code yX3_valueOf cX3_valueOf 2 (some .int), .fieldLink RX3 13 "KeysapartModel" "value" "[I"] ++ wsX30)
def wsX3_fetches : List Cond := .code yX3_fetches cX3_fetches 7 (some .int) :: ([.fieldLink RX3 46 "KeysapartModel" "isDown" "Z", .fieldLink RX3 32 "KeysapartModel" "tail" "I", .fieldLink RX3 35 "KeysapartModel" "head" "I", .fieldLink RX3 16 "KeysapartModel" "index" "[I", .methodLink RX3 64 yX3_isRange, .static yX3_isRange, .initialized RX3, .code yX3_isRange cX3_isRange 2 (some .boolean), .methodLink RX3 53 yX3_goes, .instanceMethod yX3_goes, .selects RX3 yX3_goes yX3_goes, .code yX3_goes cX3_goes 3 (some .boolean), .fieldLink RX3 29 "KeysapartModel" "thrown" "I"] ++ wsX30)
def wsX3_writes : List Cond := .code yX3_writes cX3_writes 1 (some .boolean) :: ([.fieldLink RX3 25 "KeysapartModel" "chosen" "I", .fieldLink RX3 46 "KeysapartModel" "isDown" "Z"] ++ wsX30)
def wsX3_synchronizes : List Cond := .code yX3_synchronizes cX3_synchronizes 2 (some .boolean) :: ([.fieldLink RX3 68 "KeysapartModel" "written" "I", .fieldLink RX3 35 "KeysapartModel" "head" "I", .methodLink RX3 71 yX3_writes, .instanceMethod yX3_writes, .selects RX3 yX3_writes yX3_writes, .initialized RX3, .code yX3_writes cX3_writes 1 (some .boolean), .fieldLink RX3 25 "KeysapartModel" "chosen" "I", .fieldLink RX3 46 "KeysapartModel" "isDown" "Z"] ++ wsX30)
def wsX3_synchronize : List Cond := .code yX3_synchronize cX3_synchronize 1 (some .boolean) :: ([.fieldLink RX3 46 "KeysapartModel" "isDown" "Z", .methodLink RX3 53 yX3_goes, .instanceMethod yX3_goes, .selects RX3 yX3_goes yX3_goes, .initialized RX3, .code yX3_goes cX3_goes 3 (some .boolean), .fieldLink RX3 29 "KeysapartModel" "thrown" "I", .methodLink RX3 75 yX3_synchronizes, .instanceMethod yX3_synchronizes, .selects RX3 yX3_synchronizes yX3_synchronizes, .code yX3_synchronizes cX3_synchronizes 2 (some .boolean), .fieldLink RX3 68 "KeysapartModel" "written" "I", .fieldLink RX3 35 "KeysapartModel" "head" "I", .methodLink RX3 71 yX3_writes, .instanceMethod yX3_writes, .selects RX3 yX3_writes yX3_writes, .code yX3_writes cX3_writes 1 (some .boolean), .fieldLink RX3 25 "KeysapartModel" "chosen" "I"] ++ wsX30)
def wsX3_checkpoint : List Cond := .code yX3_checkpoint cX3_checkpoint 2 (some .boolean) :: ([.fieldLink RX3 46 "KeysapartModel" "isDown" "Z", .fieldLink RX3 19 "KeysapartModel" "kept" "[I", .fieldLink RX3 16 "KeysapartModel" "index" "[I", .fieldLink RX3 35 "KeysapartModel" "head" "I", .fieldLink RX3 78 "KeysapartModel" "checkpoint" "I", .methodLink RX3 53 yX3_goes, .instanceMethod yX3_goes, .selects RX3 yX3_goes yX3_goes, .initialized RX3, .code yX3_goes cX3_goes 3 (some .boolean), .fieldLink RX3 29 "KeysapartModel" "thrown" "I", .methodLink RX3 75 yX3_synchronizes, .instanceMethod yX3_synchronizes, .selects RX3 yX3_synchronizes yX3_synchronizes, .code yX3_synchronizes cX3_synchronizes 2 (some .boolean), .fieldLink RX3 68 "KeysapartModel" "written" "I", .methodLink RX3 71 yX3_writes, .instanceMethod yX3_writes, .selects RX3 yX3_writes yX3_writes, .code yX3_writes cX3_writes 1 (some .boolean), .fieldLink RX3 25 "KeysapartModel" "chosen" "I"] ++ wsX30)
def wsX3_liveIn : List Cond := .code yX3_liveIn cX3_liveIn 4 (some .int) :: ([.fieldLink RX3 32 "KeysapartModel" "tail" "I", .fieldLink RX3 16 "KeysapartModel" "index" "[I", .fieldLink RX3 7 "KeysapartModel" "key" "[I"] ++ wsX30)
def wsX3_collect_r1 : List Cond := [Cond.fieldLink RX3 46 "KeysapartModel" "isDown" "Z", Cond.fieldLink RX3 35 "KeysapartModel" "head" "I", Cond.fieldLink RX3 32 "KeysapartModel" "tail" "I", Cond.fieldLink RX3 7 "KeysapartModel" "key" "[I", Cond.fieldLink RX3 16 "KeysapartModel" "index" "[I", Cond.fieldLink RX3 13 "KeysapartModel" "value" "[I", Cond.methodLink RX3 81 yX3_liveIn, Cond.instanceMethod yX3_liveIn, Cond.selects RX3 yX3_liveIn yX3_liveIn, Cond.initialized RX3, Cond.code yX3_liveIn cX3_liveIn 4 (some .int), Cond.methodLink RX3 50 yX3_canAppend, Cond.instanceMethod yX3_canAppend, Cond.selects RX3 yX3_canAppend yX3_canAppend, Cond.code yX3_canAppend cX3_canAppend 2 (some .boolean), Cond.methodLink RX3 38 yX3_segmentsOf, Cond.static yX3_segmentsOf, Cond.code yX3_segmentsOf cX3_segmentsOf 2 (some .int), Cond.methodLink RX3 53 yX3_goes, Cond.instanceMethod yX3_goes, Cond.selects RX3 yX3_goes yX3_goes, Cond.code yX3_goes cX3_goes 3 (some .boolean), Cond.fieldLink RX3 29 "KeysapartModel" "thrown" "I", Cond.methodLink RX3 57 yX3_appends]
def wsX3_collect_r2 : List Cond := [Cond.instanceMethod yX3_appends, Cond.selects RX3 yX3_appends yX3_appends, Cond.code yX3_appends cX3_appends 3 (some .int), Cond.methodLink RX3 75 yX3_synchronizes, Cond.instanceMethod yX3_synchronizes, Cond.selects RX3 yX3_synchronizes yX3_synchronizes, Cond.code yX3_synchronizes cX3_synchronizes 2 (some .boolean), Cond.fieldLink RX3 68 "KeysapartModel" "written" "I", Cond.methodLink RX3 71 yX3_writes, Cond.instanceMethod yX3_writes, Cond.selects RX3 yX3_writes yX3_writes, Cond.code yX3_writes cX3_writes 1 (some .boolean), Cond.fieldLink RX3 25 "KeysapartModel" "chosen" "I"]
def wsX3_collect : List Cond := .code yX3_collect cX3_collect 5 (some .boolean) :: ((wsX3_collect_r1 ++ wsX3_collect_r2) ++ wsX30)
def wsX3_failAfter : List Cond := .code yX3_failAfter cX3_failAfter 2 none :: ([.fieldLink RX3 25 "KeysapartModel" "chosen" "I", .methodLink RX3 53 yX3_goes, .instanceMethod yX3_goes, .selects RX3 yX3_goes yX3_goes, .initialized RX3, .code yX3_goes cX3_goes 3 (some .boolean), .fieldLink RX3 29 "KeysapartModel" "thrown" "I"] ++ wsX30)
def wsX3_crash : List Cond := .code yX3_crash cX3_crash 1 (some .int) :: ([.fieldLink RX3 46 "KeysapartModel" "isDown" "Z", .fieldLink RX3 35 "KeysapartModel" "head" "I", .fieldLink RX3 68 "KeysapartModel" "written" "I", .methodLink RX3 53 yX3_goes, .instanceMethod yX3_goes, .selects RX3 yX3_goes yX3_goes, .initialized RX3, .code yX3_goes cX3_goes 3 (some .boolean), .fieldLink RX3 29 "KeysapartModel" "thrown" "I"] ++ wsX30)
def wsX3_recovers : List Cond := .code yX3_recovers cX3_recovers 3 (some .int) :: ([.fieldLink RX3 22 "KeysapartModel" "trial" "[I", .fieldLink RX3 19 "KeysapartModel" "kept" "[I", .fieldLink RX3 32 "KeysapartModel" "tail" "I", .fieldLink RX3 78 "KeysapartModel" "checkpoint" "I", .fieldLink RX3 68 "KeysapartModel" "written" "I", .fieldLink RX3 7 "KeysapartModel" "key" "[I", .fieldLink RX3 13 "KeysapartModel" "value" "[I"] ++ wsX30)
def wsX3_start : List Cond := .code yX3_start cX3_start 3 (some .int) :: ([.fieldLink RX3 46 "KeysapartModel" "isDown" "Z", .fieldLink RX3 16 "KeysapartModel" "index" "[I", .fieldLink RX3 22 "KeysapartModel" "trial" "[I", .fieldLink RX3 68 "KeysapartModel" "written" "I", .fieldLink RX3 35 "KeysapartModel" "head" "I", .methodLink RX3 53 yX3_goes, .instanceMethod yX3_goes, .selects RX3 yX3_goes yX3_goes, .initialized RX3, .code yX3_goes cX3_goes 3 (some .boolean), .fieldLink RX3 29 "KeysapartModel" "thrown" "I", .methodLink RX3 84 yX3_recovers, .instanceMethod yX3_recovers, .selects RX3 yX3_recovers yX3_recovers, .code yX3_recovers cX3_recovers 3 (some .int), .fieldLink RX3 19 "KeysapartModel" "kept" "[I", .fieldLink RX3 32 "KeysapartModel" "tail" "I", .fieldLink RX3 78 "KeysapartModel" "checkpoint" "I", .fieldLink RX3 7 "KeysapartModel" "key" "[I", .fieldLink RX3 13 "KeysapartModel" "value" "[I"] ++ wsX30)
def wsX3_isUp : List Cond := .code yX3_isUp cX3_isUp 1 (some .boolean) :: ([.fieldLink RX3 29 "KeysapartModel" "thrown" "I", .fieldLink RX3 46 "KeysapartModel" "isDown" "Z"] ++ wsX30)
def wsX3_headOf : List Cond := .code yX3_headOf cX3_headOf 1 (some .int) :: ([.fieldLink RX3 46 "KeysapartModel" "isDown" "Z", .fieldLink RX3 68 "KeysapartModel" "written" "I", .fieldLink RX3 35 "KeysapartModel" "head" "I"] ++ wsX30)
def wsX3_head : List Cond := .code yX3_head cX3_head 1 (some .int) :: ([.fieldLink RX3 29 "KeysapartModel" "thrown" "I", .methodLink RX3 88 yX3_headOf, .instanceMethod yX3_headOf, .selects RX3 yX3_headOf yX3_headOf, .initialized RX3, .code yX3_headOf cX3_headOf 1 (some .int), .fieldLink RX3 46 "KeysapartModel" "isDown" "Z", .fieldLink RX3 68 "KeysapartModel" "written" "I", .fieldLink RX3 35 "KeysapartModel" "head" "I"] ++ wsX30)
def wsX3_tail : List Cond := .code yX3_tail cX3_tail 1 (some .int) :: ([.fieldLink RX3 29 "KeysapartModel" "thrown" "I", .fieldLink RX3 32 "KeysapartModel" "tail" "I"] ++ wsX30)
def wsX3_written : List Cond := .code yX3_written cX3_written 1 (some .int) :: ([.fieldLink RX3 29 "KeysapartModel" "thrown" "I", .fieldLink RX3 68 "KeysapartModel" "written" "I"] ++ wsX30)
def wsX3_checkpointAt : List Cond := .code yX3_checkpointAt cX3_checkpointAt 1 (some .int) :: ([.fieldLink RX3 29 "KeysapartModel" "thrown" "I", .fieldLink RX3 78 "KeysapartModel" "checkpoint" "I"] ++ wsX30)
def wsX3_positionOf : List Cond := .code yX3_positionOf cX3_positionOf 2 (some .int) :: ([.fieldLink RX3 46 "KeysapartModel" "isDown" "Z", .fieldLink RX3 16 "KeysapartModel" "index" "[I", .methodLink RX3 42 yX3_isKey, .static yX3_isKey, .initialized RX3, .code yX3_isKey cX3_isKey 1 (some .boolean), .methodLink RX3 53 yX3_goes, .instanceMethod yX3_goes, .selects RX3 yX3_goes yX3_goes, .code yX3_goes cX3_goes 3 (some .boolean), .fieldLink RX3 29 "KeysapartModel" "thrown" "I"] ++ wsX30)
def wsX3_segments : List Cond := .code yX3_segments cX3_segments 1 (some .int) :: ([.fieldLink RX3 29 "KeysapartModel" "thrown" "I", .fieldLink RX3 32 "KeysapartModel" "tail" "I", .methodLink RX3 88 yX3_headOf, .instanceMethod yX3_headOf, .selects RX3 yX3_headOf yX3_headOf, .initialized RX3, .code yX3_headOf cX3_headOf 1 (some .int), .fieldLink RX3 46 "KeysapartModel" "isDown" "Z", .fieldLink RX3 68 "KeysapartModel" "written" "I", .fieldLink RX3 35 "KeysapartModel" "head" "I", .methodLink RX3 38 yX3_segmentsOf, .static yX3_segmentsOf, .code yX3_segmentsOf cX3_segmentsOf 2 (some .int)] ++ wsX30)
def wsX3_live : List Cond := .code yX3_live cX3_live 3 (some .int) :: ([.fieldLink RX3 46 "KeysapartModel" "isDown" "Z", .fieldLink RX3 16 "KeysapartModel" "index" "[I", .methodLink RX3 53 yX3_goes, .instanceMethod yX3_goes, .selects RX3 yX3_goes yX3_goes, .initialized RX3, .code yX3_goes cX3_goes 3 (some .boolean), .fieldLink RX3 29 "KeysapartModel" "thrown" "I"] ++ wsX30)
def wsX3_toFree : List Cond := .code yX3_toFree cX3_toFree 2 (some .int) :: ([.fieldLink RX3 29 "KeysapartModel" "thrown" "I", .fieldLink RX3 32 "KeysapartModel" "tail" "I", .methodLink RX3 88 yX3_headOf, .instanceMethod yX3_headOf, .selects RX3 yX3_headOf yX3_headOf, .initialized RX3, .code yX3_headOf cX3_headOf 1 (some .int), .fieldLink RX3 46 "KeysapartModel" "isDown" "Z", .fieldLink RX3 68 "KeysapartModel" "written" "I", .fieldLink RX3 35 "KeysapartModel" "head" "I"] ++ wsX30)
def wsX3_wouldHave : List Cond := .code yX3_wouldHave cX3_wouldHave 1 (some .int) :: ([.fieldLink RX3 29 "KeysapartModel" "thrown" "I", .methodLink RX3 84 yX3_recovers, .instanceMethod yX3_recovers, .selects RX3 yX3_recovers yX3_recovers, .initialized RX3, .code yX3_recovers cX3_recovers 3 (some .int), .fieldLink RX3 22 "KeysapartModel" "trial" "[I", .fieldLink RX3 19 "KeysapartModel" "kept" "[I", .fieldLink RX3 32 "KeysapartModel" "tail" "I", .fieldLink RX3 78 "KeysapartModel" "checkpoint" "I", .fieldLink RX3 68 "KeysapartModel" "written" "I", .fieldLink RX3 7 "KeysapartModel" "key" "[I", .fieldLink RX3 13 "KeysapartModel" "value" "[I"] ++ wsX30)
def wsJ9_max_7cf53 : List Cond := .code yJ9_max_7cf53 cJ9_max_7cf53 2 (some .int) :: ([])
def wsL_put_r1 : List Cond := [Cond.classLink RL 13 "java/lang/IllegalArgumentException", Cond.classLink RL 15 "java/lang/IllegalStateException", Cond.methodLink RL 7 yX2_put, Cond.instanceMethod yX2_put, Cond.selects RX2 yX2_put yX2_put, Cond.initialized RX2, Cond.code yX2_put cX2_put 3 (some .int), Cond.classLink RX2 53 "java/lang/IllegalArgumentException", Cond.initialized "java/lang/IllegalArgumentException", Cond.methodLink RX2 49 yX2_needKey, Cond.static yX2_needKey, Cond.code yX2_needKey cX2_needKey 1 none, Cond.methodLink RX2 60 yX2_needUp, Cond.instanceMethod yX2_needUp, Cond.selects RX2 yX2_needUp yX2_needUp, Cond.code yX2_needUp cX2_needUp 1 none, Cond.classLink RX2 74 "java/lang/IllegalStateException", Cond.initialized "java/lang/IllegalStateException", Cond.fieldLink RX2 29 "Keysapart" "up" "Z", Cond.methodLink RX2 63 yX2_needRoom, Cond.instanceMethod yX2_needRoom, Cond.selects RX2 yX2_needRoom yX2_needRoom, Cond.code yX2_needRoom cX2_needRoom 3 none, Cond.fieldLink RX2 37 "Keysapart" "tailAt" "I"]
def wsL_put_r2 : List Cond := [Cond.fieldLink RX2 33 "Keysapart" "headAt" "I", Cond.methodLink RX2 87 yX2_segmentOf, Cond.static yX2_segmentOf, Cond.code yX2_segmentOf cX2_segmentOf 1 (some .int), Cond.methodLink RX2 66 yX2_append, Cond.instanceMethod yX2_append, Cond.selects RX2 yX2_append yX2_append, Cond.code yX2_append cX2_append 4 (some .int), Cond.fieldLink RX2 12 "Keysapart" "log" "LKeysapart$Log;", Cond.fieldLink RX2 19 "Keysapart" "index" "LKeysapart$Index;", Cond.methodLink RX2 150 yX1_store, Cond.instanceMethod yX1_store, Cond.selects RX1 yX1_store yX1_store, Cond.initialized RX1, Cond.code yX1_store cX1_store 5 none, Cond.fieldLink RX1 9 "Keysapart$Log" "keys" "[I", Cond.fieldLink RX1 15 "Keysapart$Log" "values" "[I", Cond.methodLink RX1 18 yJ9_floorMod_7cf53, Cond.static yJ9_floorMod_7cf53, Cond.initialized RJ9, Cond.code yJ9_floorMod_7cf53 cJ9_floorMod_7cf53 3 (some .int), Cond.methodLink RX2 154 yX2_follow, Cond.instanceMethod yX2_follow, Cond.selects RX2 yX2_follow yX2_follow]
def wsL_put_r3 : List Cond := [Cond.code yX2_follow cX2_follow 4 none, Cond.methodLink RX2 141 yX1_valueAt, Cond.instanceMethod yX1_valueAt, Cond.selects RX1 yX1_valueAt yX1_valueAt, Cond.code yX1_valueAt cX1_valueAt 3 (some .int), Cond.methodLink RX2 144 yX1_keyAt, Cond.instanceMethod yX1_keyAt, Cond.selects RX1 yX1_keyAt yX1_keyAt, Cond.code yX1_keyAt cX1_keyAt 3 (some .int), Cond.methodLink RX2 158 yX0_point, Cond.instanceMethod yX0_point, Cond.selects RX0 yX0_point yX0_point, Cond.initialized RX0, Cond.code yX0_point cX0_point 3 none, Cond.fieldLink RX0 9 "Keysapart$Index" "positions" "[I"]
def wsL_put : List Cond := .codeWith yL_put cL_put 5 (some .int) [(0, 10, 13, 13), (0, 10, 17, 15)] :: ((wsL_put_r1 ++ (wsL_put_r2 ++ wsL_put_r3)) ++ wsX20 ++ wsX10 ++ wsX00 ++ (vx_atS RX2 57 "java/lang/IllegalArgumentException" ["java/lang/RuntimeException", "java/lang/Exception"]).filter goodWord ++ (vx_atS RX2 78 "java/lang/IllegalStateException" ["java/lang/RuntimeException", "java/lang/Exception"]).filter goodWord)
def wsL_delete_r1 : List Cond := [Cond.classLink RL 13 "java/lang/IllegalArgumentException", Cond.classLink RL 15 "java/lang/IllegalStateException", Cond.methodLink RL 17 yX2_delete, Cond.instanceMethod yX2_delete, Cond.selects RX2 yX2_delete yX2_delete, Cond.initialized RX2, Cond.code yX2_delete cX2_delete 3 (some .int), Cond.classLink RX2 74 "java/lang/IllegalStateException", Cond.initialized "java/lang/IllegalStateException", Cond.fieldLink RX2 19 "Keysapart" "index" "LKeysapart$Index;", Cond.methodLink RX2 49 yX2_needKey, Cond.static yX2_needKey, Cond.code yX2_needKey cX2_needKey 1 none, Cond.classLink RX2 53 "java/lang/IllegalArgumentException", Cond.initialized "java/lang/IllegalArgumentException", Cond.methodLink RX2 60 yX2_needUp, Cond.instanceMethod yX2_needUp, Cond.selects RX2 yX2_needUp yX2_needUp, Cond.code yX2_needUp cX2_needUp 1 none, Cond.fieldLink RX2 29 "Keysapart" "up" "Z", Cond.methodLink RX2 70 yX0_has, Cond.instanceMethod yX0_has, Cond.selects RX0 yX0_has yX0_has, Cond.initialized RX0]
def wsL_delete_r2 : List Cond := [Cond.code yX0_has cX0_has 2 (some .boolean), Cond.methodLink RX0 21 yX0_find, Cond.instanceMethod yX0_find, Cond.selects RX0 yX0_find yX0_find, Cond.code yX0_find cX0_find 2 (some .int), Cond.fieldLink RX0 9 "Keysapart$Index" "positions" "[I", Cond.methodLink RX2 63 yX2_needRoom, Cond.instanceMethod yX2_needRoom, Cond.selects RX2 yX2_needRoom yX2_needRoom, Cond.code yX2_needRoom cX2_needRoom 3 none, Cond.fieldLink RX2 37 "Keysapart" "tailAt" "I", Cond.fieldLink RX2 33 "Keysapart" "headAt" "I", Cond.methodLink RX2 87 yX2_segmentOf, Cond.static yX2_segmentOf, Cond.code yX2_segmentOf cX2_segmentOf 1 (some .int), Cond.methodLink RX2 79 yX2_valueOf, Cond.instanceMethod yX2_valueOf, Cond.selects RX2 yX2_valueOf yX2_valueOf, Cond.code yX2_valueOf cX2_valueOf 2 (some .int), Cond.fieldLink RX2 12 "Keysapart" "log" "LKeysapart$Log;", Cond.methodLink RX2 90 yX0_find, Cond.methodLink RX2 141 yX1_valueAt, Cond.instanceMethod yX1_valueAt, Cond.selects RX1 yX1_valueAt yX1_valueAt]
def wsL_delete_r3 : List Cond := [Cond.initialized RX1, Cond.code yX1_valueAt cX1_valueAt 3 (some .int), Cond.fieldLink RX1 15 "Keysapart$Log" "values" "[I", Cond.methodLink RX1 18 yJ9_floorMod_7cf53, Cond.static yJ9_floorMod_7cf53, Cond.initialized RJ9, Cond.code yJ9_floorMod_7cf53 cJ9_floorMod_7cf53 3 (some .int), Cond.methodLink RX2 66 yX2_append, Cond.instanceMethod yX2_append, Cond.selects RX2 yX2_append yX2_append, Cond.code yX2_append cX2_append 4 (some .int), Cond.methodLink RX2 150 yX1_store, Cond.instanceMethod yX1_store, Cond.selects RX1 yX1_store yX1_store, Cond.code yX1_store cX1_store 5 none, Cond.fieldLink RX1 9 "Keysapart$Log" "keys" "[I", Cond.methodLink RX2 154 yX2_follow, Cond.instanceMethod yX2_follow, Cond.selects RX2 yX2_follow yX2_follow, Cond.code yX2_follow cX2_follow 4 none, Cond.methodLink RX2 144 yX1_keyAt, Cond.instanceMethod yX1_keyAt, Cond.selects RX1 yX1_keyAt yX1_keyAt, Cond.code yX1_keyAt cX1_keyAt 3 (some .int)]
def wsL_delete_r4 : List Cond := [Cond.methodLink RX2 158 yX0_point, Cond.instanceMethod yX0_point, Cond.selects RX0 yX0_point yX0_point, Cond.code yX0_point cX0_point 3 none]
def wsL_delete : List Cond := .codeWith yL_delete cL_delete 4 (some .int) [(0, 9, 12, 13), (0, 9, 15, 15)] :: ((wsL_delete_r1 ++ (wsL_delete_r2 ++ (wsL_delete_r3 ++ wsL_delete_r4))) ++ wsX20 ++ wsX00 ++ wsX10 ++ (vx_atS RX2 78 "java/lang/IllegalStateException" ["java/lang/RuntimeException", "java/lang/Exception"]).filter goodWord ++ (vx_atS RX2 57 "java/lang/IllegalArgumentException" ["java/lang/RuntimeException", "java/lang/Exception"]).filter goodWord)
def wsL_get_r1 : List Cond := [Cond.classLink RL 13 "java/lang/IllegalArgumentException", Cond.classLink RL 15 "java/lang/IllegalStateException", Cond.methodLink RL 21 yX2_get, Cond.instanceMethod yX2_get, Cond.selects RX2 yX2_get yX2_get, Cond.initialized RX2, Cond.code yX2_get cX2_get 2 (some .int), Cond.fieldLink RX2 19 "Keysapart" "index" "LKeysapart$Index;", Cond.methodLink RX2 49 yX2_needKey, Cond.static yX2_needKey, Cond.code yX2_needKey cX2_needKey 1 none, Cond.classLink RX2 53 "java/lang/IllegalArgumentException", Cond.initialized "java/lang/IllegalArgumentException", Cond.methodLink RX2 60 yX2_needUp, Cond.instanceMethod yX2_needUp, Cond.selects RX2 yX2_needUp yX2_needUp, Cond.code yX2_needUp cX2_needUp 1 none, Cond.classLink RX2 74 "java/lang/IllegalStateException", Cond.initialized "java/lang/IllegalStateException", Cond.fieldLink RX2 29 "Keysapart" "up" "Z", Cond.methodLink RX2 70 yX0_has, Cond.instanceMethod yX0_has, Cond.selects RX0 yX0_has yX0_has, Cond.initialized RX0]
def wsL_get_r2 : List Cond := [Cond.code yX0_has cX0_has 2 (some .boolean), Cond.methodLink RX0 21 yX0_find, Cond.instanceMethod yX0_find, Cond.selects RX0 yX0_find yX0_find, Cond.code yX0_find cX0_find 2 (some .int), Cond.fieldLink RX0 9 "Keysapart$Index" "positions" "[I", Cond.methodLink RX2 79 yX2_valueOf, Cond.instanceMethod yX2_valueOf, Cond.selects RX2 yX2_valueOf yX2_valueOf, Cond.code yX2_valueOf cX2_valueOf 2 (some .int), Cond.fieldLink RX2 12 "Keysapart" "log" "LKeysapart$Log;", Cond.methodLink RX2 90 yX0_find, Cond.methodLink RX2 141 yX1_valueAt, Cond.instanceMethod yX1_valueAt, Cond.selects RX1 yX1_valueAt yX1_valueAt, Cond.initialized RX1, Cond.code yX1_valueAt cX1_valueAt 3 (some .int), Cond.fieldLink RX1 15 "Keysapart$Log" "values" "[I", Cond.methodLink RX1 18 yJ9_floorMod_7cf53, Cond.static yJ9_floorMod_7cf53, Cond.initialized RJ9, Cond.code yJ9_floorMod_7cf53 cJ9_floorMod_7cf53 3 (some .int)]
def wsL_get : List Cond := .codeWith yL_get cL_get 4 (some .int) [(0, 9, 12, 13), (0, 9, 15, 15)] :: ((wsL_get_r1 ++ wsL_get_r2) ++ wsX20 ++ wsX00 ++ wsX10 ++ (vx_atS RX2 57 "java/lang/IllegalArgumentException" ["java/lang/RuntimeException", "java/lang/Exception"]).filter goodWord ++ (vx_atS RX2 78 "java/lang/IllegalStateException" ["java/lang/RuntimeException", "java/lang/Exception"]).filter goodWord)
def wsL_next_r1 : List Cond := [Cond.classLink RL 13 "java/lang/IllegalArgumentException", Cond.classLink RL 15 "java/lang/IllegalStateException", Cond.methodLink RL 24 yX2_next, Cond.instanceMethod yX2_next, Cond.selects RX2 yX2_next yX2_next, Cond.initialized RX2, Cond.code yX2_next cX2_next 3 (some .int), Cond.fieldLink RX2 19 "Keysapart" "index" "LKeysapart$Index;", Cond.methodLink RX2 49 yX2_needKey, Cond.static yX2_needKey, Cond.code yX2_needKey cX2_needKey 1 none, Cond.classLink RX2 53 "java/lang/IllegalArgumentException", Cond.initialized "java/lang/IllegalArgumentException", Cond.methodLink RX2 60 yX2_needUp, Cond.instanceMethod yX2_needUp, Cond.selects RX2 yX2_needUp yX2_needUp, Cond.code yX2_needUp cX2_needUp 1 none, Cond.classLink RX2 74 "java/lang/IllegalStateException", Cond.initialized "java/lang/IllegalStateException", Cond.fieldLink RX2 29 "Keysapart" "up" "Z", Cond.methodLink RX2 70 yX0_has, Cond.instanceMethod yX0_has, Cond.selects RX0 yX0_has yX0_has, Cond.initialized RX0]
def wsL_next_r2 : List Cond := [Cond.code yX0_has cX0_has 2 (some .boolean), Cond.methodLink RX0 21 yX0_find, Cond.instanceMethod yX0_find, Cond.selects RX0 yX0_find yX0_find, Cond.code yX0_find cX0_find 2 (some .int), Cond.fieldLink RX0 9 "Keysapart$Index" "positions" "[I"]
def wsL_next : List Cond := .codeWith yL_next cL_next 4 (some .int) [(0, 9, 12, 13), (0, 9, 15, 15)] :: ((wsL_next_r1 ++ wsL_next_r2) ++ wsX20 ++ wsX00 ++ (vx_atS RX2 57 "java/lang/IllegalArgumentException" ["java/lang/RuntimeException", "java/lang/Exception"]).filter goodWord ++ (vx_atS RX2 78 "java/lang/IllegalStateException" ["java/lang/RuntimeException", "java/lang/Exception"]).filter goodWord)
def wsL_sum_r1 : List Cond := [Cond.classLink RL 13 "java/lang/IllegalArgumentException", Cond.classLink RL 15 "java/lang/IllegalStateException", Cond.methodLink RL 27 yX2_sum, Cond.instanceMethod yX2_sum, Cond.selects RX2 yX2_sum yX2_sum, Cond.initialized RX2, Cond.code yX2_sum cX2_sum 5 (some .int), Cond.fieldLink RX2 19 "Keysapart" "index" "LKeysapart$Index;", Cond.methodLink RX2 83 yX2_needRange, Cond.static yX2_needRange, Cond.code yX2_needRange cX2_needRange 2 none, Cond.classLink RX2 53 "java/lang/IllegalArgumentException", Cond.initialized "java/lang/IllegalArgumentException", Cond.methodLink RX2 49 yX2_needKey, Cond.static yX2_needKey, Cond.code yX2_needKey cX2_needKey 1 none, Cond.methodLink RX2 60 yX2_needUp, Cond.instanceMethod yX2_needUp, Cond.selects RX2 yX2_needUp yX2_needUp, Cond.code yX2_needUp cX2_needUp 1 none, Cond.classLink RX2 74 "java/lang/IllegalStateException", Cond.initialized "java/lang/IllegalStateException", Cond.fieldLink RX2 29 "Keysapart" "up" "Z", Cond.methodLink RX2 70 yX0_has]
def wsL_sum_r2 : List Cond := [Cond.instanceMethod yX0_has, Cond.selects RX0 yX0_has yX0_has, Cond.initialized RX0, Cond.code yX0_has cX0_has 2 (some .boolean), Cond.methodLink RX0 21 yX0_find, Cond.instanceMethod yX0_find, Cond.selects RX0 yX0_find yX0_find, Cond.code yX0_find cX0_find 2 (some .int), Cond.fieldLink RX0 9 "Keysapart$Index" "positions" "[I", Cond.methodLink RX2 79 yX2_valueOf, Cond.instanceMethod yX2_valueOf, Cond.selects RX2 yX2_valueOf yX2_valueOf, Cond.code yX2_valueOf cX2_valueOf 2 (some .int), Cond.fieldLink RX2 12 "Keysapart" "log" "LKeysapart$Log;", Cond.methodLink RX2 90 yX0_find, Cond.methodLink RX2 141 yX1_valueAt, Cond.instanceMethod yX1_valueAt, Cond.selects RX1 yX1_valueAt yX1_valueAt, Cond.initialized RX1, Cond.code yX1_valueAt cX1_valueAt 3 (some .int), Cond.fieldLink RX1 15 "Keysapart$Log" "values" "[I", Cond.methodLink RX1 18 yJ9_floorMod_7cf53, Cond.static yJ9_floorMod_7cf53, Cond.initialized RJ9]
def wsL_sum_r3 : List Cond := [Cond.code yJ9_floorMod_7cf53 cJ9_floorMod_7cf53 3 (some .int)]
def wsL_sum : List Cond := .codeWith yL_sum cL_sum 5 (some .int) [(0, 10, 13, 13), (0, 10, 17, 15)] :: ((wsL_sum_r1 ++ (wsL_sum_r2 ++ wsL_sum_r3)) ++ wsX20 ++ wsX00 ++ wsX10 ++ (vx_atS RX2 57 "java/lang/IllegalArgumentException" ["java/lang/RuntimeException", "java/lang/Exception"]).filter goodWord ++ (vx_atS RX2 78 "java/lang/IllegalStateException" ["java/lang/RuntimeException", "java/lang/Exception"]).filter goodWord)
def wsL_fetches_r1 : List Cond := [Cond.classLink RL 13 "java/lang/IllegalArgumentException", Cond.classLink RL 15 "java/lang/IllegalStateException", Cond.methodLink RL 30 yX2_fetches, Cond.instanceMethod yX2_fetches, Cond.selects RX2 yX2_fetches yX2_fetches, Cond.initialized RX2, Cond.code yX2_fetches cX2_fetches 6 (some .int), Cond.fieldLink RX2 37 "Keysapart" "tailAt" "I", Cond.fieldLink RX2 19 "Keysapart" "index" "LKeysapart$Index;", Cond.methodLink RX2 83 yX2_needRange, Cond.static yX2_needRange, Cond.code yX2_needRange cX2_needRange 2 none, Cond.classLink RX2 53 "java/lang/IllegalArgumentException", Cond.initialized "java/lang/IllegalArgumentException", Cond.methodLink RX2 49 yX2_needKey, Cond.static yX2_needKey, Cond.code yX2_needKey cX2_needKey 1 none, Cond.methodLink RX2 60 yX2_needUp, Cond.instanceMethod yX2_needUp, Cond.selects RX2 yX2_needUp yX2_needUp, Cond.code yX2_needUp cX2_needUp 1 none, Cond.classLink RX2 74 "java/lang/IllegalStateException", Cond.initialized "java/lang/IllegalStateException", Cond.fieldLink RX2 29 "Keysapart" "up" "Z"]
def wsL_fetches_r2 : List Cond := [Cond.methodLink RX2 87 yX2_segmentOf, Cond.static yX2_segmentOf, Cond.code yX2_segmentOf cX2_segmentOf 1 (some .int), Cond.methodLink RX2 70 yX0_has, Cond.instanceMethod yX0_has, Cond.selects RX0 yX0_has yX0_has, Cond.initialized RX0, Cond.code yX0_has cX0_has 2 (some .boolean), Cond.methodLink RX0 21 yX0_find, Cond.instanceMethod yX0_find, Cond.selects RX0 yX0_find yX0_find, Cond.code yX0_find cX0_find 2 (some .int), Cond.fieldLink RX0 9 "Keysapart$Index" "positions" "[I", Cond.methodLink RX2 90 yX0_find, Cond.methodLink RX2 93 yJ6_bitCount_0f7a4, Cond.static yJ6_bitCount_0f7a4, Cond.initialized RJ6, Cond.code yJ6_bitCount_0f7a4 cJ6_bitCount_0f7a4 1 (some .int), Cond.constant RJ6 265 (1431655765), Cond.constant RJ6 266 (858993459), Cond.constant RJ6 267 (252645135)]
def wsL_fetches : List Cond := .codeWith yL_fetches cL_fetches 5 (some .int) [(0, 10, 13, 13), (0, 10, 17, 15)] :: ((wsL_fetches_r1 ++ wsL_fetches_r2) ++ wsX20 ++ wsX00 ++ (vx_atS RX2 57 "java/lang/IllegalArgumentException" ["java/lang/RuntimeException", "java/lang/Exception"]).filter goodWord ++ (vx_atS RX2 78 "java/lang/IllegalStateException" ["java/lang/RuntimeException", "java/lang/Exception"]).filter goodWord)
def wsL_synchronize_r1 : List Cond := [Cond.classLink RL 15 "java/lang/IllegalStateException", Cond.methodLink RL 33 yX2_synchronize, Cond.instanceMethod yX2_synchronize, Cond.selects RX2 yX2_synchronize yX2_synchronize, Cond.initialized RX2, Cond.code yX2_synchronize cX2_synchronize 1 (some .boolean), Cond.methodLink RX2 60 yX2_needUp, Cond.instanceMethod yX2_needUp, Cond.selects RX2 yX2_needUp yX2_needUp, Cond.code yX2_needUp cX2_needUp 1 none, Cond.classLink RX2 74 "java/lang/IllegalStateException", Cond.initialized "java/lang/IllegalStateException", Cond.fieldLink RX2 29 "Keysapart" "up" "Z", Cond.methodLink RX2 98 yX2_writeEntries, Cond.instanceMethod yX2_writeEntries, Cond.selects RX2 yX2_writeEntries yX2_writeEntries, Cond.code yX2_writeEntries cX2_writeEntries 3 (some .boolean), Cond.fieldLink RX2 33 "Keysapart" "headAt" "I", Cond.fieldLink RX2 40 "Keysapart" "writtenTo" "I", Cond.methodLink RX2 102 yX2_writeOnce, Cond.instanceMethod yX2_writeOnce, Cond.selects RX2 yX2_writeOnce yX2_writeOnce, Cond.code yX2_writeOnce cX2_writeOnce 1 (some .boolean), Cond.fieldLink RX2 46 "Keysapart" "writesAhead" "I"]
def wsL_synchronize_r2 : List Cond := [Cond.methodLink RX2 121 yX2_losePower, Cond.instanceMethod yX2_losePower, Cond.selects RX2 yX2_losePower yX2_losePower, Cond.code yX2_losePower cX2_losePower 1 none]
def wsL_synchronize : List Cond := .codeWith yL_synchronize cL_synchronize 3 (some .int) [(0, 15, 18, 15)] :: ((wsL_synchronize_r1 ++ wsL_synchronize_r2) ++ wsX20 ++ (vx_atS RX2 78 "java/lang/IllegalStateException" ["java/lang/RuntimeException", "java/lang/Exception"]).filter goodWord)
def wsL_checkpoint_r1 : List Cond := [Cond.classLink RL 15 "java/lang/IllegalStateException", Cond.methodLink RL 37 yX2_checkpoint, Cond.instanceMethod yX2_checkpoint, Cond.selects RX2 yX2_checkpoint yX2_checkpoint, Cond.initialized RX2, Cond.code yX2_checkpoint cX2_checkpoint 1 (some .boolean), Cond.fieldLink RX2 23 "Keysapart" "checkpointIndex" "LKeysapart$Index;", Cond.fieldLink RX2 19 "Keysapart" "index" "LKeysapart$Index;", Cond.fieldLink RX2 33 "Keysapart" "headAt" "I", Cond.fieldLink RX2 43 "Keysapart" "checkpointTo" "I", Cond.methodLink RX2 60 yX2_needUp, Cond.instanceMethod yX2_needUp, Cond.selects RX2 yX2_needUp yX2_needUp, Cond.code yX2_needUp cX2_needUp 1 none, Cond.classLink RX2 74 "java/lang/IllegalStateException", Cond.initialized "java/lang/IllegalStateException", Cond.fieldLink RX2 29 "Keysapart" "up" "Z", Cond.methodLink RX2 98 yX2_writeEntries, Cond.instanceMethod yX2_writeEntries, Cond.selects RX2 yX2_writeEntries yX2_writeEntries, Cond.code yX2_writeEntries cX2_writeEntries 3 (some .boolean), Cond.fieldLink RX2 40 "Keysapart" "writtenTo" "I", Cond.methodLink RX2 102 yX2_writeOnce, Cond.instanceMethod yX2_writeOnce]
def wsL_checkpoint_r2 : List Cond := [Cond.selects RX2 yX2_writeOnce yX2_writeOnce, Cond.code yX2_writeOnce cX2_writeOnce 1 (some .boolean), Cond.fieldLink RX2 46 "Keysapart" "writesAhead" "I", Cond.methodLink RX2 121 yX2_losePower, Cond.instanceMethod yX2_losePower, Cond.selects RX2 yX2_losePower yX2_losePower, Cond.code yX2_losePower cX2_losePower 1 none, Cond.methodLink RX2 105 yX0_takeFrom, Cond.instanceMethod yX0_takeFrom, Cond.selects RX0 yX0_takeFrom yX0_takeFrom, Cond.initialized RX0, Cond.code yX0_takeFrom cX0_takeFrom 3 none, Cond.fieldLink RX0 9 "Keysapart$Index" "positions" "[I", Cond.methodLink RX0 21 yX0_find, Cond.instanceMethod yX0_find, Cond.selects RX0 yX0_find yX0_find, Cond.code yX0_find cX0_find 2 (some .int)]
def wsL_checkpoint : List Cond := .codeWith yL_checkpoint cL_checkpoint 3 (some .int) [(0, 15, 18, 15)] :: ((wsL_checkpoint_r1 ++ wsL_checkpoint_r2) ++ wsX20 ++ wsX00 ++ (vx_atS RX2 78 "java/lang/IllegalStateException" ["java/lang/RuntimeException", "java/lang/Exception"]).filter goodWord)
def wsL_collect_r1 : List Cond := [Cond.classLink RL 13 "java/lang/IllegalArgumentException", Cond.classLink RL 15 "java/lang/IllegalStateException", Cond.methodLink RL 40 yX2_collect, Cond.instanceMethod yX2_collect, Cond.selects RX2 yX2_collect yX2_collect, Cond.initialized RX2, Cond.code yX2_collect cX2_collect 2 (some .boolean), Cond.classLink RX2 53 "java/lang/IllegalArgumentException", Cond.initialized "java/lang/IllegalArgumentException", Cond.classLink RX2 74 "java/lang/IllegalStateException", Cond.initialized "java/lang/IllegalStateException", Cond.fieldLink RX2 33 "Keysapart" "headAt" "I", Cond.fieldLink RX2 37 "Keysapart" "tailAt" "I", Cond.methodLink RX2 60 yX2_needUp, Cond.instanceMethod yX2_needUp, Cond.selects RX2 yX2_needUp yX2_needUp, Cond.code yX2_needUp cX2_needUp 1 none, Cond.fieldLink RX2 29 "Keysapart" "up" "Z", Cond.methodLink RX2 113 yX2_liveFromTail, Cond.instanceMethod yX2_liveFromTail, Cond.selects RX2 yX2_liveFromTail yX2_liveFromTail, Cond.code yX2_liveFromTail cX2_liveFromTail 5 (some .int), Cond.methodLink RX2 147 yX2_isLive, Cond.instanceMethod yX2_isLive]
def wsL_collect_r2 : List Cond := [Cond.selects RX2 yX2_isLive yX2_isLive, Cond.code yX2_isLive cX2_isLive 2 (some .boolean), Cond.fieldLink RX2 19 "Keysapart" "index" "LKeysapart$Index;", Cond.fieldLink RX2 12 "Keysapart" "log" "LKeysapart$Log;", Cond.methodLink RX2 144 yX1_keyAt, Cond.instanceMethod yX1_keyAt, Cond.selects RX1 yX1_keyAt yX1_keyAt, Cond.initialized RX1, Cond.code yX1_keyAt cX1_keyAt 3 (some .int), Cond.fieldLink RX1 9 "Keysapart$Log" "keys" "[I", Cond.methodLink RX1 18 yJ9_floorMod_7cf53, Cond.static yJ9_floorMod_7cf53, Cond.initialized RJ9, Cond.code yJ9_floorMod_7cf53 cJ9_floorMod_7cf53 3 (some .int), Cond.methodLink RX2 90 yX0_find, Cond.instanceMethod yX0_find, Cond.selects RX0 yX0_find yX0_find, Cond.initialized RX0, Cond.code yX0_find cX0_find 2 (some .int), Cond.fieldLink RX0 9 "Keysapart$Index" "positions" "[I", Cond.methodLink RX2 63 yX2_needRoom, Cond.instanceMethod yX2_needRoom, Cond.selects RX2 yX2_needRoom yX2_needRoom, Cond.code yX2_needRoom cX2_needRoom 3 none]
def wsL_collect_r3 : List Cond := [Cond.methodLink RX2 87 yX2_segmentOf, Cond.static yX2_segmentOf, Cond.code yX2_segmentOf cX2_segmentOf 1 (some .int), Cond.methodLink RX2 116 yX2_appendLiveAgain, Cond.instanceMethod yX2_appendLiveAgain, Cond.selects RX2 yX2_appendLiveAgain yX2_appendLiveAgain, Cond.code yX2_appendLiveAgain cX2_appendLiveAgain 4 none, Cond.methodLink RX2 141 yX1_valueAt, Cond.instanceMethod yX1_valueAt, Cond.selects RX1 yX1_valueAt yX1_valueAt, Cond.code yX1_valueAt cX1_valueAt 3 (some .int), Cond.fieldLink RX1 15 "Keysapart$Log" "values" "[I", Cond.methodLink RX2 66 yX2_append, Cond.instanceMethod yX2_append, Cond.selects RX2 yX2_append yX2_append, Cond.code yX2_append cX2_append 4 (some .int), Cond.methodLink RX2 150 yX1_store, Cond.instanceMethod yX1_store, Cond.selects RX1 yX1_store yX1_store, Cond.code yX1_store cX1_store 5 none, Cond.methodLink RX2 154 yX2_follow, Cond.instanceMethod yX2_follow, Cond.selects RX2 yX2_follow yX2_follow, Cond.code yX2_follow cX2_follow 4 none]
def wsL_collect_r4 : List Cond := [Cond.methodLink RX2 158 yX0_point, Cond.instanceMethod yX0_point, Cond.selects RX0 yX0_point yX0_point, Cond.code yX0_point cX0_point 3 none, Cond.methodLink RX2 98 yX2_writeEntries, Cond.instanceMethod yX2_writeEntries, Cond.selects RX2 yX2_writeEntries yX2_writeEntries, Cond.code yX2_writeEntries cX2_writeEntries 3 (some .boolean), Cond.fieldLink RX2 40 "Keysapart" "writtenTo" "I", Cond.methodLink RX2 102 yX2_writeOnce, Cond.instanceMethod yX2_writeOnce, Cond.selects RX2 yX2_writeOnce yX2_writeOnce, Cond.code yX2_writeOnce cX2_writeOnce 1 (some .boolean), Cond.fieldLink RX2 46 "Keysapart" "writesAhead" "I", Cond.methodLink RX2 121 yX2_losePower, Cond.instanceMethod yX2_losePower, Cond.selects RX2 yX2_losePower yX2_losePower, Cond.code yX2_losePower cX2_losePower 1 none]
def wsL_collect : List Cond := .codeWith yL_collect cL_collect 4 (some .int) [(0, 16, 19, 13), (0, 16, 22, 15)] :: ((wsL_collect_r1 ++ (wsL_collect_r2 ++ (wsL_collect_r3 ++ wsL_collect_r4))) ++ wsX20 ++ wsX10 ++ wsX00 ++ (vx_atS RX2 57 "java/lang/IllegalArgumentException" ["java/lang/RuntimeException", "java/lang/Exception"]).filter goodWord ++ (vx_atS RX2 78 "java/lang/IllegalStateException" ["java/lang/RuntimeException", "java/lang/Exception"]).filter goodWord)
def wsL_failAfter : List Cond := .codeWith yL_failAfter cL_failAfter 3 (some .int) [(0, 5, 8, 13)] :: ([.classLink RL 13 "java/lang/IllegalArgumentException", .methodLink RL 44 yX2_failAfter, .instanceMethod yX2_failAfter, .selects RX2 yX2_failAfter yX2_failAfter, .initialized RX2, .code yX2_failAfter cX2_failAfter 2 none, .classLink RX2 53 "java/lang/IllegalArgumentException", .initialized "java/lang/IllegalArgumentException", .fieldLink RX2 46 "Keysapart" "writesAhead" "I"] ++ wsX20 ++ (vx_atS RX2 57 "java/lang/IllegalArgumentException" ["java/lang/RuntimeException", "java/lang/Exception"]).filter goodWord)
def wsL_crash : List Cond := .codeWith yL_crash cL_crash 3 (some .int) [(0, 8, 11, 15)] :: ([.classLink RL 15 "java/lang/IllegalStateException", .methodLink RL 48 yX2_crash, .instanceMethod yX2_crash, .selects RX2 yX2_crash yX2_crash, .initialized RX2, .code yX2_crash cX2_crash 2 (some .int), .fieldLink RX2 33 "Keysapart" "headAt" "I", .fieldLink RX2 40 "Keysapart" "writtenTo" "I", .methodLink RX2 60 yX2_needUp, .instanceMethod yX2_needUp, .selects RX2 yX2_needUp yX2_needUp, .code yX2_needUp cX2_needUp 1 none, .classLink RX2 74 "java/lang/IllegalStateException", .initialized "java/lang/IllegalStateException", .fieldLink RX2 29 "Keysapart" "up" "Z", .methodLink RX2 121 yX2_losePower, .instanceMethod yX2_losePower, .selects RX2 yX2_losePower yX2_losePower, .code yX2_losePower cX2_losePower 1 none] ++ wsX20 ++ (vx_atS RX2 78 "java/lang/IllegalStateException" ["java/lang/RuntimeException", "java/lang/Exception"]).filter goodWord)
def wsL_start_r1 : List Cond := [Cond.classLink RL 15 "java/lang/IllegalStateException", Cond.methodLink RL 52 yX2_start, Cond.instanceMethod yX2_start, Cond.selects RX2 yX2_start yX2_start, Cond.initialized RX2, Cond.code yX2_start cX2_start 1 (some .int), Cond.classLink RX2 74 "java/lang/IllegalStateException", Cond.initialized "java/lang/IllegalStateException", Cond.fieldLink RX2 29 "Keysapart" "up" "Z", Cond.fieldLink RX2 19 "Keysapart" "index" "LKeysapart$Index;", Cond.methodLink RX2 126 yX2_recover, Cond.instanceMethod yX2_recover, Cond.selects RX2 yX2_recover yX2_recover, Cond.code yX2_recover cX2_recover 3 none, Cond.fieldLink RX2 23 "Keysapart" "checkpointIndex" "LKeysapart$Index;", Cond.fieldLink RX2 37 "Keysapart" "tailAt" "I", Cond.fieldLink RX2 43 "Keysapart" "checkpointTo" "I", Cond.methodLink RX2 164 Lib.Math.max.name, Cond.static Lib.Math.max.name, Cond.initialized "java/lang/Math", Cond.code Lib.Math.max.name Lib.Math.max.code 2 (some .int), Cond.fieldLink RX2 40 "Keysapart" "writtenTo" "I", Cond.methodLink RX2 105 yX0_takeFrom, Cond.instanceMethod yX0_takeFrom]
def wsL_start_r2 : List Cond := [Cond.selects RX0 yX0_takeFrom yX0_takeFrom, Cond.initialized RX0, Cond.code yX0_takeFrom cX0_takeFrom 3 none, Cond.fieldLink RX0 9 "Keysapart$Index" "positions" "[I", Cond.methodLink RX0 21 yX0_find, Cond.instanceMethod yX0_find, Cond.selects RX0 yX0_find yX0_find, Cond.code yX0_find cX0_find 2 (some .int), Cond.methodLink RX2 161 yX0_dropBelow, Cond.instanceMethod yX0_dropBelow, Cond.selects RX0 yX0_dropBelow yX0_dropBelow, Cond.code yX0_dropBelow cX0_dropBelow 3 none, Cond.methodLink RX2 154 yX2_follow, Cond.instanceMethod yX2_follow, Cond.selects RX2 yX2_follow yX2_follow, Cond.code yX2_follow cX2_follow 4 none, Cond.fieldLink RX2 12 "Keysapart" "log" "LKeysapart$Log;", Cond.methodLink RX2 141 yX1_valueAt, Cond.instanceMethod yX1_valueAt, Cond.selects RX1 yX1_valueAt yX1_valueAt, Cond.initialized RX1, Cond.code yX1_valueAt cX1_valueAt 3 (some .int), Cond.fieldLink RX1 15 "Keysapart$Log" "values" "[I", Cond.methodLink RX1 18 yJ9_floorMod_7cf53]
def wsL_start_r3 : List Cond := [Cond.static yJ9_floorMod_7cf53, Cond.initialized RJ9, Cond.code yJ9_floorMod_7cf53 cJ9_floorMod_7cf53 3 (some .int), Cond.methodLink RX2 144 yX1_keyAt, Cond.instanceMethod yX1_keyAt, Cond.selects RX1 yX1_keyAt yX1_keyAt, Cond.code yX1_keyAt cX1_keyAt 3 (some .int), Cond.fieldLink RX1 9 "Keysapart$Log" "keys" "[I", Cond.methodLink RX2 158 yX0_point, Cond.instanceMethod yX0_point, Cond.selects RX0 yX0_point yX0_point, Cond.code yX0_point cX0_point 3 none, Cond.methodLink RX2 129 yX0_size, Cond.instanceMethod yX0_size, Cond.selects RX0 yX0_size yX0_size, Cond.code yX0_size cX0_size 3 (some .int)]
def wsL_start : List Cond := .codeWith yL_start cL_start 3 (some .int) [(0, 8, 11, 15)] :: ((wsL_start_r1 ++ (wsL_start_r2 ++ wsL_start_r3)) ++ wsX20 ++ wsX00 ++ wsX10 ++ (vx_atS RX2 78 "java/lang/IllegalStateException" ["java/lang/RuntimeException", "java/lang/Exception"]).filter goodWord)
def wsL_positionOf_r1 : List Cond := [Cond.classLink RL 13 "java/lang/IllegalArgumentException", Cond.classLink RL 15 "java/lang/IllegalStateException", Cond.methodLink RL 55 yX2_positionOf, Cond.instanceMethod yX2_positionOf, Cond.selects RX2 yX2_positionOf yX2_positionOf, Cond.initialized RX2, Cond.code yX2_positionOf cX2_positionOf 2 (some .int), Cond.fieldLink RX2 19 "Keysapart" "index" "LKeysapart$Index;", Cond.methodLink RX2 49 yX2_needKey, Cond.static yX2_needKey, Cond.code yX2_needKey cX2_needKey 1 none, Cond.classLink RX2 53 "java/lang/IllegalArgumentException", Cond.initialized "java/lang/IllegalArgumentException", Cond.methodLink RX2 60 yX2_needUp, Cond.instanceMethod yX2_needUp, Cond.selects RX2 yX2_needUp yX2_needUp, Cond.code yX2_needUp cX2_needUp 1 none, Cond.classLink RX2 74 "java/lang/IllegalStateException", Cond.initialized "java/lang/IllegalStateException", Cond.fieldLink RX2 29 "Keysapart" "up" "Z", Cond.methodLink RX2 90 yX0_find, Cond.instanceMethod yX0_find, Cond.selects RX0 yX0_find yX0_find, Cond.initialized RX0]
def wsL_positionOf_r2 : List Cond := [Cond.code yX0_find cX0_find 2 (some .int), Cond.fieldLink RX0 9 "Keysapart$Index" "positions" "[I"]
def wsL_positionOf : List Cond := .codeWith yL_positionOf cL_positionOf 4 (some .int) [(0, 9, 12, 13), (0, 9, 15, 15)] :: ((wsL_positionOf_r1 ++ wsL_positionOf_r2) ++ wsX20 ++ wsX00 ++ (vx_atS RX2 57 "java/lang/IllegalArgumentException" ["java/lang/RuntimeException", "java/lang/Exception"]).filter goodWord ++ (vx_atS RX2 78 "java/lang/IllegalStateException" ["java/lang/RuntimeException", "java/lang/Exception"]).filter goodWord)
def wsL_live_r1 : List Cond := [Cond.classLink RL 15 "java/lang/IllegalStateException", Cond.methodLink RL 58 yX2_live, Cond.instanceMethod yX2_live, Cond.selects RX2 yX2_live yX2_live, Cond.initialized RX2, Cond.code yX2_live cX2_live 1 (some .int), Cond.fieldLink RX2 33 "Keysapart" "headAt" "I", Cond.fieldLink RX2 37 "Keysapart" "tailAt" "I", Cond.methodLink RX2 60 yX2_needUp, Cond.instanceMethod yX2_needUp, Cond.selects RX2 yX2_needUp yX2_needUp, Cond.code yX2_needUp cX2_needUp 1 none, Cond.classLink RX2 74 "java/lang/IllegalStateException", Cond.initialized "java/lang/IllegalStateException", Cond.fieldLink RX2 29 "Keysapart" "up" "Z", Cond.methodLink RX2 113 yX2_liveFromTail, Cond.instanceMethod yX2_liveFromTail, Cond.selects RX2 yX2_liveFromTail yX2_liveFromTail, Cond.code yX2_liveFromTail cX2_liveFromTail 5 (some .int), Cond.methodLink RX2 147 yX2_isLive, Cond.instanceMethod yX2_isLive, Cond.selects RX2 yX2_isLive yX2_isLive, Cond.code yX2_isLive cX2_isLive 2 (some .boolean), Cond.fieldLink RX2 19 "Keysapart" "index" "LKeysapart$Index;"]
def wsL_live_r2 : List Cond := [Cond.fieldLink RX2 12 "Keysapart" "log" "LKeysapart$Log;", Cond.methodLink RX2 144 yX1_keyAt, Cond.instanceMethod yX1_keyAt, Cond.selects RX1 yX1_keyAt yX1_keyAt, Cond.initialized RX1, Cond.code yX1_keyAt cX1_keyAt 3 (some .int), Cond.fieldLink RX1 9 "Keysapart$Log" "keys" "[I", Cond.methodLink RX1 18 yJ9_floorMod_7cf53, Cond.static yJ9_floorMod_7cf53, Cond.initialized RJ9, Cond.code yJ9_floorMod_7cf53 cJ9_floorMod_7cf53 3 (some .int), Cond.methodLink RX2 90 yX0_find, Cond.instanceMethod yX0_find, Cond.selects RX0 yX0_find yX0_find, Cond.initialized RX0, Cond.code yX0_find cX0_find 2 (some .int), Cond.fieldLink RX0 9 "Keysapart$Index" "positions" "[I"]
def wsL_live : List Cond := .codeWith yL_live cL_live 3 (some .int) [(0, 8, 11, 15)] :: ((wsL_live_r1 ++ wsL_live_r2) ++ wsX20 ++ wsX10 ++ wsX00 ++ (vx_atS RX2 78 "java/lang/IllegalStateException" ["java/lang/RuntimeException", "java/lang/Exception"]).filter goodWord)
def wsL_law0_r1 : List Cond := [Cond.classLink RL 8 RX2, Cond.instantiable RX2 10, Cond.initialized RX2, Cond.classLink RL 62 RX3, Cond.instantiable RX3 12, Cond.initialized RX3, Cond.arrayClass .long, Cond.methodLink RL 61 yX2_init, Cond.instanceMethod yX2_init, Cond.code yX2_init cX2_init 1 none, Cond.methodLink RX2 3 objectInit, Cond.instanceMethod objectInit, Cond.code objectInit ⟨#[0xb1]⟩ 1 none, Cond.classLink RX2 9 RX1, Cond.instantiable RX1 2, Cond.initialized RX1, Cond.fieldLink RX2 12 "Keysapart" "log" "LKeysapart$Log;", Cond.classLink RX2 16 RX0, Cond.instantiable RX0 1, Cond.initialized RX0, Cond.fieldLink RX2 19 "Keysapart" "index" "LKeysapart$Index;", Cond.fieldLink RX2 23 "Keysapart" "checkpointIndex" "LKeysapart$Index;", Cond.fieldLink RX2 26 "Keysapart" "trialIndex" "LKeysapart$Index;", Cond.fieldLink RX2 29 "Keysapart" "up" "Z"]
def wsL_law0_r2 : List Cond := [Cond.fieldLink RX2 33 "Keysapart" "headAt" "I", Cond.fieldLink RX2 37 "Keysapart" "tailAt" "I", Cond.fieldLink RX2 40 "Keysapart" "writtenTo" "I", Cond.fieldLink RX2 43 "Keysapart" "checkpointTo" "I", Cond.fieldLink RX2 46 "Keysapart" "writesAhead" "I", Cond.methodLink RX2 11 yX1_init, Cond.instanceMethod yX1_init, Cond.code yX1_init cX1_init 1 none, Cond.methodLink RX1 3 objectInit, Cond.arrayClass .int, Cond.fieldLink RX1 9 "Keysapart$Log" "keys" "[I", Cond.fieldLink RX1 15 "Keysapart$Log" "values" "[I", Cond.methodLink RX2 18 yX0_init, Cond.instanceMethod yX0_init, Cond.code yX0_init cX0_init 1 none, Cond.methodLink RX0 3 objectInit, Cond.fieldLink RX0 9 "Keysapart$Index" "positions" "[I", Cond.methodLink RX0 15 yJ7_fill_53178, Cond.static yJ7_fill_53178, Cond.initialized RJ7, Cond.code yJ7_fill_53178 cJ7_fill_53178 4 none, Cond.methodLink RL 64 yX3_init, Cond.instanceMethod yX3_init, Cond.code yX3_init cX3_init 2 none]
def wsL_law0_r3 : List Cond := [Cond.methodLink RX3 1 objectInit, Cond.fieldLink RX3 7 "KeysapartModel" "key" "[I", Cond.fieldLink RX3 13 "KeysapartModel" "value" "[I", Cond.fieldLink RX3 16 "KeysapartModel" "index" "[I", Cond.fieldLink RX3 19 "KeysapartModel" "kept" "[I", Cond.fieldLink RX3 22 "KeysapartModel" "trial" "[I", Cond.fieldLink RX3 25 "KeysapartModel" "chosen" "I", Cond.methodLink RL 65 yL_put, Cond.static yL_put, Cond.initialized RL, Cond.codeWith yL_put cL_put 5 (some .int) [(0, 10, 13, 13), (0, 10, 17, 15)], Cond.classLink RL 13 "java/lang/IllegalArgumentException", Cond.classLink RL 15 "java/lang/IllegalStateException", Cond.methodLink RL 7 yX2_put, Cond.instanceMethod yX2_put, Cond.selects RX2 yX2_put yX2_put, Cond.code yX2_put cX2_put 3 (some .int), Cond.classLink RX2 53 "java/lang/IllegalArgumentException", Cond.initialized "java/lang/IllegalArgumentException", Cond.methodLink RX2 49 yX2_needKey, Cond.static yX2_needKey, Cond.code yX2_needKey cX2_needKey 1 none, Cond.methodLink RX2 60 yX2_needUp, Cond.instanceMethod yX2_needUp]
def wsL_law0_r4 : List Cond := [Cond.selects RX2 yX2_needUp yX2_needUp, Cond.code yX2_needUp cX2_needUp 1 none, Cond.classLink RX2 74 "java/lang/IllegalStateException", Cond.initialized "java/lang/IllegalStateException", Cond.methodLink RX2 63 yX2_needRoom, Cond.instanceMethod yX2_needRoom, Cond.selects RX2 yX2_needRoom yX2_needRoom, Cond.code yX2_needRoom cX2_needRoom 3 none, Cond.methodLink RX2 87 yX2_segmentOf, Cond.static yX2_segmentOf, Cond.code yX2_segmentOf cX2_segmentOf 1 (some .int), Cond.methodLink RX2 66 yX2_append, Cond.instanceMethod yX2_append, Cond.selects RX2 yX2_append yX2_append, Cond.code yX2_append cX2_append 4 (some .int), Cond.methodLink RX2 150 yX1_store, Cond.instanceMethod yX1_store, Cond.selects RX1 yX1_store yX1_store, Cond.code yX1_store cX1_store 5 none, Cond.methodLink RX1 18 yJ9_floorMod_7cf53, Cond.static yJ9_floorMod_7cf53, Cond.initialized RJ9, Cond.code yJ9_floorMod_7cf53 cJ9_floorMod_7cf53 3 (some .int), Cond.methodLink RX2 154 yX2_follow]
def wsL_law0_r5 : List Cond := [Cond.instanceMethod yX2_follow, Cond.selects RX2 yX2_follow yX2_follow, Cond.code yX2_follow cX2_follow 4 none, Cond.methodLink RX2 141 yX1_valueAt, Cond.instanceMethod yX1_valueAt, Cond.selects RX1 yX1_valueAt yX1_valueAt, Cond.code yX1_valueAt cX1_valueAt 3 (some .int), Cond.methodLink RX2 144 yX1_keyAt, Cond.instanceMethod yX1_keyAt, Cond.selects RX1 yX1_keyAt yX1_keyAt, Cond.code yX1_keyAt cX1_keyAt 3 (some .int), Cond.methodLink RX2 158 yX0_point, Cond.instanceMethod yX0_point, Cond.selects RX0 yX0_point yX0_point, Cond.code yX0_point cX0_point 3 none, Cond.methodLink RL 70 yX3_put, Cond.instanceMethod yX3_put, Cond.selects RX3 yX3_put yX3_put, Cond.code yX3_put cX3_put 3 (some .int), Cond.fieldLink RX3 46 "KeysapartModel" "isDown" "Z", Cond.methodLink RX3 42 yX3_isKey, Cond.static yX3_isKey, Cond.code yX3_isKey cX3_isKey 1 (some .boolean), Cond.methodLink RX3 50 yX3_canAppend]
def wsL_law0_r6 : List Cond := [Cond.instanceMethod yX3_canAppend, Cond.selects RX3 yX3_canAppend yX3_canAppend, Cond.code yX3_canAppend cX3_canAppend 2 (some .boolean), Cond.fieldLink RX3 32 "KeysapartModel" "tail" "I", Cond.fieldLink RX3 35 "KeysapartModel" "head" "I", Cond.methodLink RX3 38 yX3_segmentsOf, Cond.static yX3_segmentsOf, Cond.code yX3_segmentsOf cX3_segmentsOf 2 (some .int), Cond.methodLink RX3 53 yX3_goes, Cond.instanceMethod yX3_goes, Cond.selects RX3 yX3_goes yX3_goes, Cond.code yX3_goes cX3_goes 3 (some .boolean), Cond.fieldLink RX3 29 "KeysapartModel" "thrown" "I", Cond.methodLink RX3 57 yX3_appends, Cond.instanceMethod yX3_appends, Cond.selects RX3 yX3_appends yX3_appends, Cond.code yX3_appends cX3_appends 3 (some .int), Cond.methodLink RL 71 yX3_thrown, Cond.instanceMethod yX3_thrown, Cond.selects RX3 yX3_thrown yX3_thrown, Cond.code yX3_thrown cX3_thrown 1 (some .int), Cond.methodLink RL 74 yL_delete, Cond.static yL_delete, Cond.codeWith yL_delete cL_delete 4 (some .int) [(0, 9, 12, 13), (0, 9, 15, 15)]]
def wsL_law0_r7 : List Cond := [Cond.methodLink RL 17 yX2_delete, Cond.instanceMethod yX2_delete, Cond.selects RX2 yX2_delete yX2_delete, Cond.code yX2_delete cX2_delete 3 (some .int), Cond.methodLink RX2 70 yX0_has, Cond.instanceMethod yX0_has, Cond.selects RX0 yX0_has yX0_has, Cond.code yX0_has cX0_has 2 (some .boolean), Cond.methodLink RX0 21 yX0_find, Cond.instanceMethod yX0_find, Cond.selects RX0 yX0_find yX0_find, Cond.code yX0_find cX0_find 2 (some .int), Cond.methodLink RX2 79 yX2_valueOf, Cond.instanceMethod yX2_valueOf, Cond.selects RX2 yX2_valueOf yX2_valueOf, Cond.code yX2_valueOf cX2_valueOf 2 (some .int), Cond.methodLink RX2 90 yX0_find, Cond.methodLink RL 77 yX3_delete, Cond.instanceMethod yX3_delete, Cond.selects RX3 yX3_delete yX3_delete, Cond.code yX3_delete cX3_delete 4 (some .int), Cond.methodLink RX3 60 yX3_valueOf, Cond.instanceMethod yX3_valueOf, Cond.selects RX3 yX3_valueOf yX3_valueOf]
def wsL_law0_r8 : List Cond := [Cond.code yX3_valueOf cX3_valueOf 2 (some .int), Cond.methodLink RL 78 yL_get, Cond.static yL_get, Cond.codeWith yL_get cL_get 4 (some .int) [(0, 9, 12, 13), (0, 9, 15, 15)], Cond.methodLink RL 21 yX2_get, Cond.instanceMethod yX2_get, Cond.selects RX2 yX2_get yX2_get, Cond.code yX2_get cX2_get 2 (some .int), Cond.methodLink RL 80 yX3_get, Cond.instanceMethod yX3_get, Cond.selects RX3 yX3_get yX3_get, Cond.code yX3_get cX3_get 2 (some .int), Cond.methodLink RL 81 yL_next, Cond.static yL_next, Cond.codeWith yL_next cL_next 4 (some .int) [(0, 9, 12, 13), (0, 9, 15, 15)], Cond.methodLink RL 24 yX2_next, Cond.instanceMethod yX2_next, Cond.selects RX2 yX2_next yX2_next, Cond.code yX2_next cX2_next 3 (some .int), Cond.methodLink RL 83 yX3_next, Cond.instanceMethod yX3_next, Cond.selects RX3 yX3_next yX3_next, Cond.code yX3_next cX3_next 4 (some .int), Cond.methodLink RL 84 yL_sum]
def wsL_law0_r9 : List Cond := [Cond.static yL_sum, Cond.codeWith yL_sum cL_sum 5 (some .int) [(0, 10, 13, 13), (0, 10, 17, 15)], Cond.methodLink RL 27 yX2_sum, Cond.instanceMethod yX2_sum, Cond.selects RX2 yX2_sum yX2_sum, Cond.code yX2_sum cX2_sum 5 (some .int), Cond.methodLink RX2 83 yX2_needRange, Cond.static yX2_needRange, Cond.code yX2_needRange cX2_needRange 2 none, Cond.methodLink RL 86 yX3_sum, Cond.instanceMethod yX3_sum, Cond.selects RX3 yX3_sum yX3_sum, Cond.code yX3_sum cX3_sum 5 (some .int), Cond.methodLink RX3 64 yX3_isRange, Cond.static yX3_isRange, Cond.code yX3_isRange cX3_isRange 2 (some .boolean), Cond.methodLink RL 87 yL_fetches, Cond.static yL_fetches, Cond.codeWith yL_fetches cL_fetches 5 (some .int) [(0, 10, 13, 13), (0, 10, 17, 15)], Cond.methodLink RL 30 yX2_fetches, Cond.instanceMethod yX2_fetches, Cond.selects RX2 yX2_fetches yX2_fetches, Cond.code yX2_fetches cX2_fetches 6 (some .int), Cond.methodLink RX2 93 yJ6_bitCount_0f7a4]
def wsL_law0_r10 : List Cond := [Cond.static yJ6_bitCount_0f7a4, Cond.initialized RJ6, Cond.code yJ6_bitCount_0f7a4 cJ6_bitCount_0f7a4 1 (some .int), Cond.constant RJ6 265 (1431655765), Cond.constant RJ6 266 (858993459), Cond.constant RJ6 267 (252645135), Cond.methodLink RL 89 yX3_fetches, Cond.instanceMethod yX3_fetches, Cond.selects RX3 yX3_fetches yX3_fetches, Cond.code yX3_fetches cX3_fetches 7 (some .int), Cond.methodLink RL 90 yL_synchronize, Cond.static yL_synchronize, Cond.codeWith yL_synchronize cL_synchronize 3 (some .int) [(0, 15, 18, 15)], Cond.methodLink RL 33 yX2_synchronize, Cond.instanceMethod yX2_synchronize, Cond.selects RX2 yX2_synchronize yX2_synchronize, Cond.code yX2_synchronize cX2_synchronize 1 (some .boolean), Cond.methodLink RX2 98 yX2_writeEntries, Cond.instanceMethod yX2_writeEntries, Cond.selects RX2 yX2_writeEntries yX2_writeEntries, Cond.code yX2_writeEntries cX2_writeEntries 3 (some .boolean), Cond.methodLink RX2 102 yX2_writeOnce, Cond.instanceMethod yX2_writeOnce, Cond.selects RX2 yX2_writeOnce yX2_writeOnce]
def wsL_law0_r11 : List Cond := [Cond.code yX2_writeOnce cX2_writeOnce 1 (some .boolean), Cond.methodLink RX2 121 yX2_losePower, Cond.instanceMethod yX2_losePower, Cond.selects RX2 yX2_losePower yX2_losePower, Cond.code yX2_losePower cX2_losePower 1 none, Cond.methodLink RL 93 yX3_synchronize, Cond.instanceMethod yX3_synchronize, Cond.selects RX3 yX3_synchronize yX3_synchronize, Cond.code yX3_synchronize cX3_synchronize 1 (some .boolean), Cond.methodLink RX3 75 yX3_synchronizes, Cond.instanceMethod yX3_synchronizes, Cond.selects RX3 yX3_synchronizes yX3_synchronizes, Cond.code yX3_synchronizes cX3_synchronizes 2 (some .boolean), Cond.fieldLink RX3 68 "KeysapartModel" "written" "I", Cond.methodLink RX3 71 yX3_writes, Cond.instanceMethod yX3_writes, Cond.selects RX3 yX3_writes yX3_writes, Cond.code yX3_writes cX3_writes 1 (some .boolean), Cond.methodLink RL 94 yL_checkpoint, Cond.static yL_checkpoint, Cond.codeWith yL_checkpoint cL_checkpoint 3 (some .int) [(0, 15, 18, 15)], Cond.methodLink RL 37 yX2_checkpoint, Cond.instanceMethod yX2_checkpoint, Cond.selects RX2 yX2_checkpoint yX2_checkpoint]
def wsL_law0_r12 : List Cond := [Cond.code yX2_checkpoint cX2_checkpoint 1 (some .boolean), Cond.methodLink RX2 105 yX0_takeFrom, Cond.instanceMethod yX0_takeFrom, Cond.selects RX0 yX0_takeFrom yX0_takeFrom, Cond.code yX0_takeFrom cX0_takeFrom 3 none, Cond.methodLink RL 96 yX3_checkpoint, Cond.instanceMethod yX3_checkpoint, Cond.selects RX3 yX3_checkpoint yX3_checkpoint, Cond.code yX3_checkpoint cX3_checkpoint 2 (some .boolean), Cond.fieldLink RX3 78 "KeysapartModel" "checkpoint" "I", Cond.methodLink RL 97 yL_collect, Cond.static yL_collect, Cond.codeWith yL_collect cL_collect 4 (some .int) [(0, 16, 19, 13), (0, 16, 22, 15)], Cond.methodLink RL 40 yX2_collect, Cond.instanceMethod yX2_collect, Cond.selects RX2 yX2_collect yX2_collect, Cond.code yX2_collect cX2_collect 2 (some .boolean), Cond.methodLink RX2 113 yX2_liveFromTail, Cond.instanceMethod yX2_liveFromTail, Cond.selects RX2 yX2_liveFromTail yX2_liveFromTail, Cond.code yX2_liveFromTail cX2_liveFromTail 5 (some .int), Cond.methodLink RX2 147 yX2_isLive, Cond.instanceMethod yX2_isLive, Cond.selects RX2 yX2_isLive yX2_isLive]
def wsL_law0_r13 : List Cond := [Cond.code yX2_isLive cX2_isLive 2 (some .boolean), Cond.methodLink RX2 116 yX2_appendLiveAgain, Cond.instanceMethod yX2_appendLiveAgain, Cond.selects RX2 yX2_appendLiveAgain yX2_appendLiveAgain, Cond.code yX2_appendLiveAgain cX2_appendLiveAgain 4 none, Cond.methodLink RL 99 yX3_collect, Cond.instanceMethod yX3_collect, Cond.selects RX3 yX3_collect yX3_collect, Cond.code yX3_collect cX3_collect 5 (some .boolean), Cond.methodLink RX3 81 yX3_liveIn, Cond.instanceMethod yX3_liveIn, Cond.selects RX3 yX3_liveIn yX3_liveIn, Cond.code yX3_liveIn cX3_liveIn 4 (some .int), Cond.methodLink RL 100 yL_failAfter, Cond.static yL_failAfter, Cond.codeWith yL_failAfter cL_failAfter 3 (some .int) [(0, 5, 8, 13)], Cond.methodLink RL 44 yX2_failAfter, Cond.instanceMethod yX2_failAfter, Cond.selects RX2 yX2_failAfter yX2_failAfter, Cond.code yX2_failAfter cX2_failAfter 2 none, Cond.methodLink RL 103 yX3_failAfter, Cond.instanceMethod yX3_failAfter, Cond.selects RX3 yX3_failAfter yX3_failAfter, Cond.code yX3_failAfter cX3_failAfter 2 none]
def wsL_law0_r14 : List Cond := [Cond.methodLink RL 104 yL_crash, Cond.static yL_crash, Cond.codeWith yL_crash cL_crash 3 (some .int) [(0, 8, 11, 15)], Cond.methodLink RL 48 yX2_crash, Cond.instanceMethod yX2_crash, Cond.selects RX2 yX2_crash yX2_crash, Cond.code yX2_crash cX2_crash 2 (some .int), Cond.methodLink RL 106 yX3_crash, Cond.instanceMethod yX3_crash, Cond.selects RX3 yX3_crash yX3_crash, Cond.code yX3_crash cX3_crash 1 (some .int), Cond.methodLink RL 107 yL_start, Cond.static yL_start, Cond.codeWith yL_start cL_start 3 (some .int) [(0, 8, 11, 15)], Cond.methodLink RL 52 yX2_start, Cond.instanceMethod yX2_start, Cond.selects RX2 yX2_start yX2_start, Cond.code yX2_start cX2_start 1 (some .int), Cond.methodLink RX2 126 yX2_recover, Cond.instanceMethod yX2_recover, Cond.selects RX2 yX2_recover yX2_recover, Cond.code yX2_recover cX2_recover 3 none, Cond.methodLink RX2 164 Lib.Math.max.name, Cond.static Lib.Math.max.name]
def wsL_law0_r15 : List Cond := [Cond.initialized "java/lang/Math", Cond.code Lib.Math.max.name Lib.Math.max.code 2 (some .int), Cond.methodLink RX2 161 yX0_dropBelow, Cond.instanceMethod yX0_dropBelow, Cond.selects RX0 yX0_dropBelow yX0_dropBelow, Cond.code yX0_dropBelow cX0_dropBelow 3 none, Cond.methodLink RX2 129 yX0_size, Cond.instanceMethod yX0_size, Cond.selects RX0 yX0_size yX0_size, Cond.code yX0_size cX0_size 3 (some .int), Cond.methodLink RL 109 yX3_start, Cond.instanceMethod yX3_start, Cond.selects RX3 yX3_start yX3_start, Cond.code yX3_start cX3_start 3 (some .int), Cond.methodLink RX3 84 yX3_recovers, Cond.instanceMethod yX3_recovers, Cond.selects RX3 yX3_recovers yX3_recovers, Cond.code yX3_recovers cX3_recovers 3 (some .int), Cond.methodLink RL 110 yX2_isUp, Cond.instanceMethod yX2_isUp, Cond.selects RX2 yX2_isUp yX2_isUp, Cond.code yX2_isUp cX2_isUp 1 (some .boolean), Cond.methodLink RL 113 yX3_isUp, Cond.instanceMethod yX3_isUp]
def wsL_law0_r16 : List Cond := [Cond.selects RX3 yX3_isUp yX3_isUp, Cond.code yX3_isUp cX3_isUp 1 (some .boolean), Cond.methodLink RL 114 yX2_head, Cond.instanceMethod yX2_head, Cond.selects RX2 yX2_head yX2_head, Cond.code yX2_head cX2_head 1 (some .int), Cond.methodLink RL 117 yX3_head, Cond.instanceMethod yX3_head, Cond.selects RX3 yX3_head yX3_head, Cond.code yX3_head cX3_head 1 (some .int), Cond.methodLink RX3 88 yX3_headOf, Cond.instanceMethod yX3_headOf, Cond.selects RX3 yX3_headOf yX3_headOf, Cond.code yX3_headOf cX3_headOf 1 (some .int), Cond.methodLink RL 118 yX2_tail, Cond.instanceMethod yX2_tail, Cond.selects RX2 yX2_tail yX2_tail, Cond.code yX2_tail cX2_tail 1 (some .int), Cond.methodLink RL 121 yX3_tail, Cond.instanceMethod yX3_tail, Cond.selects RX3 yX3_tail yX3_tail, Cond.code yX3_tail cX3_tail 1 (some .int), Cond.methodLink RL 122 yX2_written, Cond.instanceMethod yX2_written]
def wsL_law0_r17 : List Cond := [Cond.selects RX2 yX2_written yX2_written, Cond.code yX2_written cX2_written 1 (some .int), Cond.methodLink RL 125 yX3_written, Cond.instanceMethod yX3_written, Cond.selects RX3 yX3_written yX3_written, Cond.code yX3_written cX3_written 1 (some .int), Cond.methodLink RL 126 yX2_checkpointAt, Cond.instanceMethod yX2_checkpointAt, Cond.selects RX2 yX2_checkpointAt yX2_checkpointAt, Cond.code yX2_checkpointAt cX2_checkpointAt 1 (some .int), Cond.methodLink RL 129 yX3_checkpointAt, Cond.instanceMethod yX3_checkpointAt, Cond.selects RX3 yX3_checkpointAt yX3_checkpointAt, Cond.code yX3_checkpointAt cX3_checkpointAt 1 (some .int), Cond.methodLink RL 130 yL_positionOf, Cond.static yL_positionOf, Cond.codeWith yL_positionOf cL_positionOf 4 (some .int) [(0, 9, 12, 13), (0, 9, 15, 15)], Cond.methodLink RL 55 yX2_positionOf, Cond.instanceMethod yX2_positionOf, Cond.selects RX2 yX2_positionOf yX2_positionOf, Cond.code yX2_positionOf cX2_positionOf 2 (some .int), Cond.methodLink RL 132 yX3_positionOf, Cond.instanceMethod yX3_positionOf, Cond.selects RX3 yX3_positionOf yX3_positionOf]
def wsL_law0_r18 : List Cond := [Cond.code yX3_positionOf cX3_positionOf 2 (some .int), Cond.methodLink RL 133 yX2_segments, Cond.instanceMethod yX2_segments, Cond.selects RX2 yX2_segments yX2_segments, Cond.code yX2_segments cX2_segments 1 (some .int), Cond.methodLink RL 136 yX3_segments, Cond.instanceMethod yX3_segments, Cond.selects RX3 yX3_segments yX3_segments, Cond.code yX3_segments cX3_segments 1 (some .int), Cond.methodLink RL 137 yL_live, Cond.static yL_live, Cond.codeWith yL_live cL_live 3 (some .int) [(0, 8, 11, 15)], Cond.methodLink RL 58 yX2_live, Cond.instanceMethod yX2_live, Cond.selects RX2 yX2_live yX2_live, Cond.code yX2_live cX2_live 1 (some .int), Cond.methodLink RL 139 yX3_live, Cond.instanceMethod yX3_live, Cond.selects RX3 yX3_live yX3_live, Cond.code yX3_live cX3_live 3 (some .int), Cond.methodLink RL 140 yX2_toFree, Cond.instanceMethod yX2_toFree, Cond.selects RX2 yX2_toFree yX2_toFree, Cond.code yX2_toFree cX2_toFree 2 (some .int)]
def wsL_law0_r19 : List Cond := [Cond.methodLink RL 143 yX3_toFree, Cond.instanceMethod yX3_toFree, Cond.selects RX3 yX3_toFree yX3_toFree, Cond.code yX3_toFree cX3_toFree 2 (some .int), Cond.methodLink RL 144 yX2_wouldHave, Cond.instanceMethod yX2_wouldHave, Cond.selects RX2 yX2_wouldHave yX2_wouldHave, Cond.code yX2_wouldHave cX2_wouldHave 1 (some .int), Cond.methodLink RL 147 yX3_wouldHave, Cond.instanceMethod yX3_wouldHave, Cond.selects RX3 yX3_wouldHave yX3_wouldHave, Cond.code yX3_wouldHave cX3_wouldHave 1 (some .int)]
def wsL_law0 : List Cond := (wsL_law0_r1 ++ (wsL_law0_r2 ++ (wsL_law0_r3 ++ (wsL_law0_r4 ++ (wsL_law0_r5 ++ (wsL_law0_r6 ++ (wsL_law0_r7 ++ (wsL_law0_r8 ++ (wsL_law0_r9 ++ (wsL_law0_r10 ++ (wsL_law0_r11 ++ (wsL_law0_r12 ++ (wsL_law0_r13 ++ (wsL_law0_r14 ++ (wsL_law0_r15 ++ (wsL_law0_r16 ++ (wsL_law0_r17 ++ (wsL_law0_r18 ++ wsL_law0_r19)))))))))))))))))) ++ wsX20 ++ wsX30 ++ wsX10 ++ wsX00 ++ ([] : List Cond)
def wsL_law : List Cond := wsL_law0 ++ (vx_atS RX2 57 "java/lang/IllegalArgumentException" ["java/lang/RuntimeException", "java/lang/Exception"]).filter goodWord ++ (vx_atS RX2 78 "java/lang/IllegalStateException" ["java/lang/RuntimeException", "java/lang/Exception"]).filter goodWord
end
section
abbrev vwCl : List vw_C := [(RX0, TX0, 1), (RX1, TX1, 2), (RX2, TX2, 10), (RX3, TX3, 12)]
set_option maxRecDepth 20000 in
theorem wsL_law0_r1_in : ∀ w ∈ wsL_law0_r1, w ∈ lw_tbl := fun w h => (goodIn_p wsL_law0_r1 [39, 42] (by decide +kernel) (by decide +kernel) w h).1
set_option maxRecDepth 20000 in
theorem wsL_law0_r2_in : ∀ w ∈ wsL_law0_r2, w ∈ lw_tbl := fun w h => (goodIn_p wsL_law0_r2 [47, 61, 65, 434] (by decide +kernel) (by decide +kernel) w h).1
set_option maxRecDepth 20000 in
theorem wsL_law0_r3_in : ∀ w ∈ wsL_law0_r3, w ∈ lw_tbl := fun w h => (goodIn_p wsL_law0_r3 [186, 189] (by decide +kernel) (by decide +kernel) w h).1
set_option maxRecDepth 20000 in
theorem wsL_law0_r4_in : ∀ w ∈ wsL_law0_r4, w ∈ lw_tbl := fun w h => (goodIn_p wsL_law0_r4 [261, 281, 127, 286, 290, 165] (by decide +kernel) (by decide +kernel) w h).1
set_option maxRecDepth 20000 in
theorem wsL_law0_r5_in : ∀ w ∈ wsL_law0_r5, w ∈ lw_tbl := fun w h => (goodIn_p wsL_law0_r5 [158, 162, 169, 173, 480, 483] (by decide +kernel) (by decide +kernel) w h).1
set_option maxRecDepth 20000 in
theorem wsL_law0_r6_in : ∀ w ∈ wsL_law0_r6, w ∈ lw_tbl := fun w h => (goodIn_p wsL_law0_r6 [487, 490, 494, 498, 476] (by decide +kernel) (by decide +kernel) w h).1
set_option maxRecDepth 20000 in
theorem wsL_law0_r7_in : ∀ w ∈ wsL_law0_r7, w ∈ lw_tbl := fun w h => (goodIn_p wsL_law0_r7 [297, 301, 147, 306, 502] (by decide +kernel) (by decide +kernel) w h).1
set_option maxRecDepth 20000 in
theorem wsL_law0_r8_in : ∀ w ∈ wsL_law0_r8, w ∈ lw_tbl := fun w h => (goodIn_p wsL_law0_r8 [506, 314, 510, 321, 514] (by decide +kernel) (by decide +kernel) w h).1
set_option maxRecDepth 20000 in
theorem wsL_law0_r9_in : ∀ w ∈ wsL_law0_r9, w ∈ lw_tbl := fun w h => (goodIn_p wsL_law0_r9 [328, 331, 518, 521, 339] (by decide +kernel) (by decide +kernel) w h).1
set_option maxRecDepth 20000 in
theorem wsL_law0_r10_in : ∀ w ∈ wsL_law0_r10, w ∈ lw_tbl := fun w h => (goodIn_p wsL_law0_r10 [342, 525, 352, 356] (by decide +kernel) (by decide +kernel) w h).1
set_option maxRecDepth 20000 in
theorem wsL_law0_r11_in : ∀ w ∈ wsL_law0_r11, w ∈ lw_tbl := fun w h => (goodIn_p wsL_law0_r11 [360, 364, 529, 533, 537] (by decide +kernel) (by decide +kernel) w h).1
set_option maxRecDepth 20000 in
theorem wsL_law0_r12_in : ∀ w ∈ wsL_law0_r12, w ∈ lw_tbl := fun w h => (goodIn_p wsL_law0_r12 [371, 143, 541, 378, 384] (by decide +kernel) (by decide +kernel) w h).1
set_option maxRecDepth 20000 in
theorem wsL_law0_r13_in : ∀ w ∈ wsL_law0_r13, w ∈ lw_tbl := fun w h => (goodIn_p wsL_law0_r13 [388, 392, 545, 549, 399, 553] (by decide +kernel) (by decide +kernel) w h).1
set_option maxRecDepth 20000 in
theorem wsL_law0_r14_in : ∀ w ∈ wsL_law0_r14, w ∈ lw_tbl := fun w h => (goodIn_p wsL_law0_r14 [407, 557, 414, 139] (by decide +kernel) (by decide +kernel) w h).1
set_option maxRecDepth 20000 in
theorem wsL_law0_r15_in : ∀ w ∈ wsL_law0_r15, w ∈ lw_tbl := fun w h => (goodIn_p wsL_law0_r15 [154, 151, 177, 561, 565, 104] (by decide +kernel) (by decide +kernel) w h).1
set_option maxRecDepth 20000 in
theorem wsL_law0_r16_in : ∀ w ∈ wsL_law0_r16, w ∈ lw_tbl := fun w h => (goodIn_p wsL_law0_r16 [569, 108, 573, 577, 112, 581] (by decide +kernel) (by decide +kernel) w h).1
set_option maxRecDepth 20000 in
theorem wsL_law0_r17_in : ∀ w ∈ wsL_law0_r17, w ∈ lw_tbl := fun w h => (goodIn_p wsL_law0_r17 [116, 585, 120, 589, 422] (by decide +kernel) (by decide +kernel) w h).1
set_option maxRecDepth 20000 in
theorem wsL_law0_r18_in : ∀ w ∈ wsL_law0_r18, w ∈ lw_tbl := fun w h => (goodIn_p wsL_law0_r18 [593, 124, 597, 429, 601, 131] (by decide +kernel) (by decide +kernel) w h).1
set_option maxRecDepth 20000 in
theorem wsL_law0_r19_in : ∀ w ∈ wsL_law0_r19, w ∈ lw_tbl := fun w h => (goodIn_p wsL_law0_r19 [605, 135, 609] (by decide +kernel) (by decide +kernel) w h).1
theorem wsX20_in : ∀ w ∈ wsX20, w ∈ lw_tbl := by decide +kernel
theorem wsX30_in : ∀ w ∈ wsX30, w ∈ lw_tbl := by decide +kernel
theorem wsX10_in : ∀ w ∈ wsX10, w ∈ lw_tbl := by decide +kernel
theorem wsX00_in : ∀ w ∈ wsX00, w ∈ lw_tbl := by decide +kernel
theorem wsL_law_in0 : ∀ w ∈ wsL_law0, w ∈ lw_tbl := List.forall_mem_append.mpr ⟨List.forall_mem_append.mpr ⟨List.forall_mem_append.mpr ⟨List.forall_mem_append.mpr ⟨List.forall_mem_append.mpr ⟨List.forall_mem_append.mpr ⟨wsL_law0_r1_in, List.forall_mem_append.mpr ⟨wsL_law0_r2_in, List.forall_mem_append.mpr ⟨wsL_law0_r3_in, List.forall_mem_append.mpr ⟨wsL_law0_r4_in, List.forall_mem_append.mpr ⟨wsL_law0_r5_in, List.forall_mem_append.mpr ⟨wsL_law0_r6_in, List.forall_mem_append.mpr ⟨wsL_law0_r7_in, List.forall_mem_append.mpr ⟨wsL_law0_r8_in, List.forall_mem_append.mpr ⟨wsL_law0_r9_in, List.forall_mem_append.mpr ⟨wsL_law0_r10_in, List.forall_mem_append.mpr ⟨wsL_law0_r11_in, List.forall_mem_append.mpr ⟨wsL_law0_r12_in, List.forall_mem_append.mpr ⟨wsL_law0_r13_in, List.forall_mem_append.mpr ⟨wsL_law0_r14_in, List.forall_mem_append.mpr ⟨wsL_law0_r15_in, List.forall_mem_append.mpr ⟨wsL_law0_r16_in, List.forall_mem_append.mpr ⟨wsL_law0_r17_in, List.forall_mem_append.mpr ⟨wsL_law0_r18_in, wsL_law0_r19_in⟩⟩⟩⟩⟩⟩⟩⟩⟩⟩⟩⟩⟩⟩⟩⟩⟩⟩, wsX20_in⟩, wsX30_in⟩, wsX10_in⟩, wsX00_in⟩, fun _ h => absurd h List.not_mem_nil⟩
theorem wsL_law_x0 : ∀ w ∈ (vx_atS RX2 57 "java/lang/IllegalArgumentException" ["java/lang/RuntimeException", "java/lang/Exception"]).filter goodWord, w ∈ lw_tbl := by decide +kernel
theorem wsL_law_x1 : ∀ w ∈ (vx_atS RX2 78 "java/lang/IllegalStateException" ["java/lang/RuntimeException", "java/lang/Exception"]).filter goodWord, w ∈ lw_tbl := by decide +kernel
theorem wsL_law_in : ∀ w ∈ wsL_law, w ∈ lw_tbl := fun w h => (List.mem_append.mp h).elim (fun h => (List.mem_append.mp h).elim (fun h => wsL_law_in0 w h) (fun h => wsL_law_x0 w h)) (fun h => wsL_law_x1 w h)
theorem inlX0 : ∀ w ∈ wsX00, w ∈ wsL_law := fun _ h => List.mem_append_left _ (List.mem_append_left _ (List.mem_append_left _ (List.mem_append_right _ h)))
theorem inX0 : ∀ w ∈ wsX00, w ∈ lw_tbl := fun w h => wsL_law_in w (inlX0 w h)
theorem inlX1 : ∀ w ∈ wsX10, w ∈ wsL_law := fun _ h => List.mem_append_left _ (List.mem_append_left _ (List.mem_append_left _ (List.mem_append_left _ (List.mem_append_right _ h))))
theorem inX1 : ∀ w ∈ wsX10, w ∈ lw_tbl := fun w h => wsL_law_in w (inlX1 w h)
theorem inlX2 : ∀ w ∈ wsX20, w ∈ wsL_law := fun _ h => List.mem_append_left _ (List.mem_append_left _ (List.mem_append_left _ (List.mem_append_left _ (List.mem_append_left _ (List.mem_append_left _ (List.mem_append_right _ h))))))
theorem inX2 : ∀ w ∈ wsX20, w ∈ lw_tbl := fun w h => wsL_law_in w (inlX2 w h)
theorem inlX3 : ∀ w ∈ wsX30, w ∈ wsL_law := fun _ h => List.mem_append_left _ (List.mem_append_left _ (List.mem_append_left _ (List.mem_append_left _ (List.mem_append_left _ (List.mem_append_right _ h)))))
theorem inX3 : ∀ w ∈ wsX30, w ∈ lw_tbl := fun w h => wsL_law_in w (inlX3 w h)
theorem inJx145de : ∀ w ∈ wsJx145de0, w ∈ lw_tbl := by decide +kernel
theorem inJ6 : ∀ w ∈ wsJ60, w ∈ lw_tbl := by decide +kernel
theorem inJ9 : ∀ w ∈ wsJ90, w ∈ lw_tbl := by decide +kernel
theorem inJ0 : ∀ w ∈ wsJ00, w ∈ lw_tbl := by decide +kernel
theorem inJ7 : ∀ w ∈ wsJ70, w ∈ lw_tbl := by decide +kernel
end
section
set_option maxRecDepth 20000 in
theorem ggX0_init_J7_fill_53178 : GoodIn wsX0_init wsJ7_fill_53178 := goodIn_r _ [9] (by decide +kernel) (by decide +kernel)
set_option maxRecDepth 20000 in
theorem gX0_init_J7_fill_53178 : GoodIn wsX0_init (va_wsS RX0 15 yJ7_fill_53178 wsJ7_fill_53178) := goodIn_app (goodIn_of _ (by decide +kernel)) ggX0_init_J7_fill_53178
theorem dX0_init_0 : decode cX0_init 0 = .ok (.aload_n 0, 1) := by decide +kernel
theorem dX0_init_1 : decode cX0_init 1 = .ok (.invokespecial 3, 3) := by decide +kernel
theorem dX0_init_4 : decode cX0_init 4 = .ok (.aload_n 0, 1) := by decide +kernel
theorem dX0_init_5 : decode cX0_init 5 = .ok (.bipush 64, 2) := by decide +kernel
theorem dX0_init_7 : decode cX0_init 7 = .ok (.newarray .int, 2) := by decide +kernel
theorem dX0_init_9 : decode cX0_init 9 = .ok (.putfield 9, 3) := by decide +kernel
theorem dX0_init_12 : decode cX0_init 12 = .ok (.aload_n 0, 1) := by decide +kernel
theorem dX0_init_13 : decode cX0_init 13 = .ok (.getfield 9, 3) := by decide +kernel
theorem dX0_init_16 : decode cX0_init 16 = .ok (.iconst (-1), 1) := by decide +kernel
theorem dX0_init_17 : decode cX0_init 17 = .ok (.invokestatic 15, 3) := by decide +kernel
theorem dX0_init_20 : decode cX0_init 20 = .ok (.return_, 1) := by decide +kernel
theorem dX0_find_0 : decode cX0_find 0 = .ok (.iload_n 1, 1) := by decide +kernel
theorem dX0_find_1 : decode cX0_find 1 = .ok (.ifCond .lt 21, 3) := by decide +kernel
theorem dX0_find_4 : decode cX0_find 4 = .ok (.iload_n 1, 1) := by decide +kernel
theorem dX0_find_5 : decode cX0_find 5 = .ok (.aload_n 0, 1) := by decide +kernel
theorem dX0_find_6 : decode cX0_find 6 = .ok (.getfield 9, 3) := by decide +kernel
theorem dX0_find_9 : decode cX0_find 9 = .ok (.arraylength, 1) := by decide +kernel
theorem dX0_find_10 : decode cX0_find 10 = .ok (.if_icmp .ge 12, 3) := by decide +kernel
theorem dX0_find_13 : decode cX0_find 13 = .ok (.aload_n 0, 1) := by decide +kernel
theorem dX0_find_14 : decode cX0_find 14 = .ok (.getfield 9, 3) := by decide +kernel
theorem dX0_find_17 : decode cX0_find 17 = .ok (.iload_n 1, 1) := by decide +kernel
theorem dX0_find_18 : decode cX0_find 18 = .ok (.iaload, 1) := by decide +kernel
theorem dX0_find_19 : decode cX0_find 19 = .ok (.goto 4, 3) := by decide +kernel
theorem dX0_find_22 : decode cX0_find 22 = .ok (.iconst (-1), 1) := by decide +kernel
theorem dX0_find_23 : decode cX0_find 23 = .ok (.ireturn, 1) := by decide +kernel
set_option maxRecDepth 20000 in
theorem ggX0_has_X0_find : GoodIn wsX0_has wsX0_find := goodIn_r _ [5, 6, 7] (by decide +kernel) (by decide +kernel)
set_option maxRecDepth 20000 in
theorem gX0_has_X0_find : GoodIn wsX0_has (wsV RX0 21 RX0 yX0_find wsX0_find) := goodIn_app (goodIn_of _ (by decide +kernel)) ggX0_has_X0_find
theorem dX0_has_0 : decode cX0_has 0 = .ok (.aload_n 0, 1) := by decide +kernel
theorem dX0_has_1 : decode cX0_has 1 = .ok (.iload_n 1, 1) := by decide +kernel
theorem dX0_has_2 : decode cX0_has 2 = .ok (.invokevirtual 21, 3) := by decide +kernel
theorem dX0_has_5 : decode cX0_has 5 = .ok (.iconst (-1), 1) := by decide +kernel
theorem dX0_has_6 : decode cX0_has 6 = .ok (.if_icmp .eq 7, 3) := by decide +kernel
theorem dX0_has_9 : decode cX0_has 9 = .ok (.iconst 1, 1) := by decide +kernel
theorem dX0_has_10 : decode cX0_has 10 = .ok (.goto 4, 3) := by decide +kernel
theorem dX0_has_13 : decode cX0_has 13 = .ok (.iconst 0, 1) := by decide +kernel
theorem dX0_has_14 : decode cX0_has 14 = .ok (.ireturn, 1) := by decide +kernel
theorem dX0_point_0 : decode cX0_point 0 = .ok (.iload_n 1, 1) := by decide +kernel
theorem dX0_point_1 : decode cX0_point 1 = .ok (.ifCond .lt 19, 3) := by decide +kernel
theorem dX0_point_4 : decode cX0_point 4 = .ok (.iload_n 1, 1) := by decide +kernel
theorem dX0_point_5 : decode cX0_point 5 = .ok (.aload_n 0, 1) := by decide +kernel
theorem dX0_point_6 : decode cX0_point 6 = .ok (.getfield 9, 3) := by decide +kernel
theorem dX0_point_9 : decode cX0_point 9 = .ok (.arraylength, 1) := by decide +kernel
theorem dX0_point_10 : decode cX0_point 10 = .ok (.if_icmp .ge 10, 3) := by decide +kernel
theorem dX0_point_13 : decode cX0_point 13 = .ok (.aload_n 0, 1) := by decide +kernel
theorem dX0_point_14 : decode cX0_point 14 = .ok (.getfield 9, 3) := by decide +kernel
theorem dX0_point_17 : decode cX0_point 17 = .ok (.iload_n 1, 1) := by decide +kernel
theorem dX0_point_18 : decode cX0_point 18 = .ok (.iload_n 2, 1) := by decide +kernel
theorem dX0_point_19 : decode cX0_point 19 = .ok (.iastore, 1) := by decide +kernel
theorem dX0_point_20 : decode cX0_point 20 = .ok (.return_, 1) := by decide +kernel
theorem dX0_size_0 : decode cX0_size 0 = .ok (.iconst 0, 1) := by decide +kernel
theorem dX0_size_1 : decode cX0_size 1 = .ok (.istore_n 1, 1) := by decide +kernel
theorem dX0_size_2 : decode cX0_size 2 = .ok (.iconst 0, 1) := by decide +kernel
theorem dX0_size_3 : decode cX0_size 3 = .ok (.istore_n 2, 1) := by decide +kernel
theorem dX0_size_4 : decode cX0_size 4 = .ok (.iload_n 2, 1) := by decide +kernel
theorem dX0_size_5 : decode cX0_size 5 = .ok (.aload_n 0, 1) := by decide +kernel
theorem dX0_size_6 : decode cX0_size 6 = .ok (.getfield 9, 3) := by decide +kernel
theorem dX0_size_9 : decode cX0_size 9 = .ok (.arraylength, 1) := by decide +kernel
theorem dX0_size_10 : decode cX0_size 10 = .ok (.if_icmp .ge 22, 3) := by decide +kernel
theorem dX0_size_13 : decode cX0_size 13 = .ok (.aload_n 0, 1) := by decide +kernel
theorem dX0_size_14 : decode cX0_size 14 = .ok (.getfield 9, 3) := by decide +kernel
theorem dX0_size_17 : decode cX0_size 17 = .ok (.iload_n 2, 1) := by decide +kernel
theorem dX0_size_18 : decode cX0_size 18 = .ok (.iaload, 1) := by decide +kernel
theorem dX0_size_19 : decode cX0_size 19 = .ok (.iconst (-1), 1) := by decide +kernel
theorem dX0_size_20 : decode cX0_size 20 = .ok (.if_icmp .eq 6, 3) := by decide +kernel
theorem dX0_size_23 : decode cX0_size 23 = .ok (.iinc 1 1, 3) := by decide +kernel
theorem dX0_size_26 : decode cX0_size 26 = .ok (.iinc 2 1, 3) := by decide +kernel
theorem dX0_size_29 : decode cX0_size 29 = .ok (.goto (-25), 3) := by decide +kernel
theorem dX0_size_32 : decode cX0_size 32 = .ok (.iload_n 1, 1) := by decide +kernel
theorem dX0_size_33 : decode cX0_size 33 = .ok (.ireturn, 1) := by decide +kernel
set_option maxRecDepth 20000 in
theorem ggX0_takeFrom_X0_find : GoodIn wsX0_takeFrom wsX0_find := goodIn_r _ [6, 1, 7] (by decide +kernel) (by decide +kernel)
set_option maxRecDepth 20000 in
theorem gX0_takeFrom_X0_find : GoodIn wsX0_takeFrom (wsV RX0 21 RX0 yX0_find wsX0_find) := goodIn_app (goodIn_of _ (by decide +kernel)) ggX0_takeFrom_X0_find
theorem dX0_takeFrom_0 : decode cX0_takeFrom 0 = .ok (.iconst 0, 1) := by decide +kernel
theorem dX0_takeFrom_1 : decode cX0_takeFrom 1 = .ok (.istore_n 2, 1) := by decide +kernel
theorem dX0_takeFrom_2 : decode cX0_takeFrom 2 = .ok (.iload_n 2, 1) := by decide +kernel
theorem dX0_takeFrom_3 : decode cX0_takeFrom 3 = .ok (.aload_n 0, 1) := by decide +kernel
theorem dX0_takeFrom_4 : decode cX0_takeFrom 4 = .ok (.getfield 9, 3) := by decide +kernel
theorem dX0_takeFrom_7 : decode cX0_takeFrom 7 = .ok (.arraylength, 1) := by decide +kernel
theorem dX0_takeFrom_8 : decode cX0_takeFrom 8 = .ok (.if_icmp .ge 20, 3) := by decide +kernel
theorem dX0_takeFrom_11 : decode cX0_takeFrom 11 = .ok (.aload_n 0, 1) := by decide +kernel
theorem dX0_takeFrom_12 : decode cX0_takeFrom 12 = .ok (.getfield 9, 3) := by decide +kernel
theorem dX0_takeFrom_15 : decode cX0_takeFrom 15 = .ok (.iload_n 2, 1) := by decide +kernel
theorem dX0_takeFrom_16 : decode cX0_takeFrom 16 = .ok (.aload_n 1, 1) := by decide +kernel
theorem dX0_takeFrom_17 : decode cX0_takeFrom 17 = .ok (.iload_n 2, 1) := by decide +kernel
theorem dX0_takeFrom_18 : decode cX0_takeFrom 18 = .ok (.invokevirtual 21, 3) := by decide +kernel
theorem dX0_takeFrom_21 : decode cX0_takeFrom 21 = .ok (.iastore, 1) := by decide +kernel
theorem dX0_takeFrom_22 : decode cX0_takeFrom 22 = .ok (.iinc 2 1, 3) := by decide +kernel
theorem dX0_takeFrom_25 : decode cX0_takeFrom 25 = .ok (.goto (-23), 3) := by decide +kernel
theorem dX0_takeFrom_28 : decode cX0_takeFrom 28 = .ok (.return_, 1) := by decide +kernel
theorem dX0_dropBelow_0 : decode cX0_dropBelow 0 = .ok (.iconst 0, 1) := by decide +kernel
theorem dX0_dropBelow_1 : decode cX0_dropBelow 1 = .ok (.istore_n 2, 1) := by decide +kernel
theorem dX0_dropBelow_2 : decode cX0_dropBelow 2 = .ok (.iload_n 2, 1) := by decide +kernel
theorem dX0_dropBelow_3 : decode cX0_dropBelow 3 = .ok (.aload_n 0, 1) := by decide +kernel
theorem dX0_dropBelow_4 : decode cX0_dropBelow 4 = .ok (.getfield 9, 3) := by decide +kernel
theorem dX0_dropBelow_7 : decode cX0_dropBelow 7 = .ok (.arraylength, 1) := by decide +kernel
theorem dX0_dropBelow_8 : decode cX0_dropBelow 8 = .ok (.if_icmp .ge 26, 3) := by decide +kernel
theorem dX0_dropBelow_11 : decode cX0_dropBelow 11 = .ok (.aload_n 0, 1) := by decide +kernel
theorem dX0_dropBelow_12 : decode cX0_dropBelow 12 = .ok (.getfield 9, 3) := by decide +kernel
theorem dX0_dropBelow_15 : decode cX0_dropBelow 15 = .ok (.iload_n 2, 1) := by decide +kernel
theorem dX0_dropBelow_16 : decode cX0_dropBelow 16 = .ok (.iaload, 1) := by decide +kernel
theorem dX0_dropBelow_17 : decode cX0_dropBelow 17 = .ok (.iload_n 1, 1) := by decide +kernel
theorem dX0_dropBelow_18 : decode cX0_dropBelow 18 = .ok (.if_icmp .ge 10, 3) := by decide +kernel
theorem dX0_dropBelow_21 : decode cX0_dropBelow 21 = .ok (.aload_n 0, 1) := by decide +kernel
theorem dX0_dropBelow_22 : decode cX0_dropBelow 22 = .ok (.getfield 9, 3) := by decide +kernel
theorem dX0_dropBelow_25 : decode cX0_dropBelow 25 = .ok (.iload_n 2, 1) := by decide +kernel
theorem dX0_dropBelow_26 : decode cX0_dropBelow 26 = .ok (.iconst (-1), 1) := by decide +kernel
theorem dX0_dropBelow_27 : decode cX0_dropBelow 27 = .ok (.iastore, 1) := by decide +kernel
theorem dX0_dropBelow_28 : decode cX0_dropBelow 28 = .ok (.iinc 2 1, 3) := by decide +kernel
theorem dX0_dropBelow_31 : decode cX0_dropBelow 31 = .ok (.goto (-29), 3) := by decide +kernel
theorem dX0_dropBelow_34 : decode cX0_dropBelow 34 = .ok (.return_, 1) := by decide +kernel
theorem dX1_init_0 : decode cX1_init 0 = .ok (.aload_n 0, 1) := by decide +kernel
theorem dX1_init_1 : decode cX1_init 1 = .ok (.invokespecial 3, 3) := by decide +kernel
theorem dX1_init_4 : decode cX1_init 4 = .ok (.aload_n 0, 1) := by decide +kernel
theorem dX1_init_5 : decode cX1_init 5 = .ok (.bipush 96, 2) := by decide +kernel
theorem dX1_init_7 : decode cX1_init 7 = .ok (.newarray .int, 2) := by decide +kernel
theorem dX1_init_9 : decode cX1_init 9 = .ok (.putfield 9, 3) := by decide +kernel
theorem dX1_init_12 : decode cX1_init 12 = .ok (.aload_n 0, 1) := by decide +kernel
theorem dX1_init_13 : decode cX1_init 13 = .ok (.bipush 96, 2) := by decide +kernel
theorem dX1_init_15 : decode cX1_init 15 = .ok (.newarray .int, 2) := by decide +kernel
theorem dX1_init_17 : decode cX1_init 17 = .ok (.putfield 15, 3) := by decide +kernel
theorem dX1_init_20 : decode cX1_init 20 = .ok (.return_, 1) := by decide +kernel
set_option maxRecDepth 20000 in
theorem ggX1_store_J9_floorMod_7cf53 : GoodIn wsX1_store wsJ9_floorMod_7cf53 := goodIn_r _ [6] (by decide +kernel) (by decide +kernel)
set_option maxRecDepth 20000 in
theorem gX1_store_J9_floorMod_7cf53 : GoodIn wsX1_store (va_wsS RX1 18 yJ9_floorMod_7cf53 wsJ9_floorMod_7cf53) := goodIn_app (goodIn_of _ (by decide +kernel)) ggX1_store_J9_floorMod_7cf53
theorem dX1_store_0 : decode cX1_store 0 = .ok (.iload_n 1, 1) := by decide +kernel
theorem dX1_store_1 : decode cX1_store 1 = .ok (.bipush 96, 2) := by decide +kernel
theorem dX1_store_3 : decode cX1_store 3 = .ok (.invokestatic 18, 3) := by decide +kernel
theorem dX1_store_6 : decode cX1_store 6 = .ok (.istore 4, 2) := by decide +kernel
theorem dX1_store_8 : decode cX1_store 8 = .ok (.iload 4, 2) := by decide +kernel
theorem dX1_store_10 : decode cX1_store 10 = .ok (.ifCond .lt 39, 3) := by decide +kernel
theorem dX1_store_13 : decode cX1_store 13 = .ok (.iload 4, 2) := by decide +kernel
theorem dX1_store_15 : decode cX1_store 15 = .ok (.aload_n 0, 1) := by decide +kernel
theorem dX1_store_16 : decode cX1_store 16 = .ok (.getfield 9, 3) := by decide +kernel
theorem dX1_store_19 : decode cX1_store 19 = .ok (.arraylength, 1) := by decide +kernel
theorem dX1_store_20 : decode cX1_store 20 = .ok (.if_icmp .ge 29, 3) := by decide +kernel
theorem dX1_store_23 : decode cX1_store 23 = .ok (.iload 4, 2) := by decide +kernel
theorem dX1_store_25 : decode cX1_store 25 = .ok (.aload_n 0, 1) := by decide +kernel
theorem dX1_store_26 : decode cX1_store 26 = .ok (.getfield 15, 3) := by decide +kernel
theorem dX1_store_29 : decode cX1_store 29 = .ok (.arraylength, 1) := by decide +kernel
theorem dX1_store_30 : decode cX1_store 30 = .ok (.if_icmp .ge 19, 3) := by decide +kernel
theorem dX1_store_33 : decode cX1_store 33 = .ok (.aload_n 0, 1) := by decide +kernel
theorem dX1_store_34 : decode cX1_store 34 = .ok (.getfield 9, 3) := by decide +kernel
theorem dX1_store_37 : decode cX1_store 37 = .ok (.iload 4, 2) := by decide +kernel
theorem dX1_store_39 : decode cX1_store 39 = .ok (.iload_n 2, 1) := by decide +kernel
theorem dX1_store_40 : decode cX1_store 40 = .ok (.iastore, 1) := by decide +kernel
theorem dX1_store_41 : decode cX1_store 41 = .ok (.aload_n 0, 1) := by decide +kernel
theorem dX1_store_42 : decode cX1_store 42 = .ok (.getfield 15, 3) := by decide +kernel
theorem dX1_store_45 : decode cX1_store 45 = .ok (.iload 4, 2) := by decide +kernel
theorem dX1_store_47 : decode cX1_store 47 = .ok (.iload_n 3, 1) := by decide +kernel
theorem dX1_store_48 : decode cX1_store 48 = .ok (.iastore, 1) := by decide +kernel
theorem dX1_store_49 : decode cX1_store 49 = .ok (.return_, 1) := by decide +kernel
set_option maxRecDepth 20000 in
theorem ggX1_keyAt_J9_floorMod_7cf53 : GoodIn wsX1_keyAt wsJ9_floorMod_7cf53 := goodIn_r _ [5] (by decide +kernel) (by decide +kernel)
set_option maxRecDepth 20000 in
theorem gX1_keyAt_J9_floorMod_7cf53 : GoodIn wsX1_keyAt (va_wsS RX1 18 yJ9_floorMod_7cf53 wsJ9_floorMod_7cf53) := goodIn_app (goodIn_of _ (by decide +kernel)) ggX1_keyAt_J9_floorMod_7cf53
theorem dX1_keyAt_0 : decode cX1_keyAt 0 = .ok (.iload_n 1, 1) := by decide +kernel
theorem dX1_keyAt_1 : decode cX1_keyAt 1 = .ok (.bipush 96, 2) := by decide +kernel
theorem dX1_keyAt_3 : decode cX1_keyAt 3 = .ok (.invokestatic 18, 3) := by decide +kernel
theorem dX1_keyAt_6 : decode cX1_keyAt 6 = .ok (.istore_n 2, 1) := by decide +kernel
theorem dX1_keyAt_7 : decode cX1_keyAt 7 = .ok (.iload_n 2, 1) := by decide +kernel
theorem dX1_keyAt_8 : decode cX1_keyAt 8 = .ok (.ifCond .lt 21, 3) := by decide +kernel
theorem dX1_keyAt_11 : decode cX1_keyAt 11 = .ok (.iload_n 2, 1) := by decide +kernel
theorem dX1_keyAt_12 : decode cX1_keyAt 12 = .ok (.aload_n 0, 1) := by decide +kernel
theorem dX1_keyAt_13 : decode cX1_keyAt 13 = .ok (.getfield 9, 3) := by decide +kernel
theorem dX1_keyAt_16 : decode cX1_keyAt 16 = .ok (.arraylength, 1) := by decide +kernel
theorem dX1_keyAt_17 : decode cX1_keyAt 17 = .ok (.if_icmp .ge 12, 3) := by decide +kernel
theorem dX1_keyAt_20 : decode cX1_keyAt 20 = .ok (.aload_n 0, 1) := by decide +kernel
theorem dX1_keyAt_21 : decode cX1_keyAt 21 = .ok (.getfield 9, 3) := by decide +kernel
theorem dX1_keyAt_24 : decode cX1_keyAt 24 = .ok (.iload_n 2, 1) := by decide +kernel
theorem dX1_keyAt_25 : decode cX1_keyAt 25 = .ok (.iaload, 1) := by decide +kernel
theorem dX1_keyAt_26 : decode cX1_keyAt 26 = .ok (.goto 4, 3) := by decide +kernel
theorem dX1_keyAt_29 : decode cX1_keyAt 29 = .ok (.iconst (-1), 1) := by decide +kernel
theorem dX1_keyAt_30 : decode cX1_keyAt 30 = .ok (.ireturn, 1) := by decide +kernel
set_option maxRecDepth 20000 in
theorem ggX1_valueAt_J9_floorMod_7cf53 : GoodIn wsX1_valueAt wsJ9_floorMod_7cf53 := goodIn_r _ [5] (by decide +kernel) (by decide +kernel)
set_option maxRecDepth 20000 in
theorem gX1_valueAt_J9_floorMod_7cf53 : GoodIn wsX1_valueAt (va_wsS RX1 18 yJ9_floorMod_7cf53 wsJ9_floorMod_7cf53) := goodIn_app (goodIn_of _ (by decide +kernel)) ggX1_valueAt_J9_floorMod_7cf53
theorem dX1_valueAt_0 : decode cX1_valueAt 0 = .ok (.iload_n 1, 1) := by decide +kernel
theorem dX1_valueAt_1 : decode cX1_valueAt 1 = .ok (.bipush 96, 2) := by decide +kernel
theorem dX1_valueAt_3 : decode cX1_valueAt 3 = .ok (.invokestatic 18, 3) := by decide +kernel
theorem dX1_valueAt_6 : decode cX1_valueAt 6 = .ok (.istore_n 2, 1) := by decide +kernel
theorem dX1_valueAt_7 : decode cX1_valueAt 7 = .ok (.iload_n 2, 1) := by decide +kernel
theorem dX1_valueAt_8 : decode cX1_valueAt 8 = .ok (.ifCond .lt 21, 3) := by decide +kernel
theorem dX1_valueAt_11 : decode cX1_valueAt 11 = .ok (.iload_n 2, 1) := by decide +kernel
theorem dX1_valueAt_12 : decode cX1_valueAt 12 = .ok (.aload_n 0, 1) := by decide +kernel
theorem dX1_valueAt_13 : decode cX1_valueAt 13 = .ok (.getfield 15, 3) := by decide +kernel
theorem dX1_valueAt_16 : decode cX1_valueAt 16 = .ok (.arraylength, 1) := by decide +kernel
theorem dX1_valueAt_17 : decode cX1_valueAt 17 = .ok (.if_icmp .ge 12, 3) := by decide +kernel
theorem dX1_valueAt_20 : decode cX1_valueAt 20 = .ok (.aload_n 0, 1) := by decide +kernel
theorem dX1_valueAt_21 : decode cX1_valueAt 21 = .ok (.getfield 15, 3) := by decide +kernel
theorem dX1_valueAt_24 : decode cX1_valueAt 24 = .ok (.iload_n 2, 1) := by decide +kernel
theorem dX1_valueAt_25 : decode cX1_valueAt 25 = .ok (.iaload, 1) := by decide +kernel
theorem dX1_valueAt_26 : decode cX1_valueAt 26 = .ok (.goto 4, 3) := by decide +kernel
theorem dX1_valueAt_29 : decode cX1_valueAt 29 = .ok (.iconst (-1), 1) := by decide +kernel
theorem dX1_valueAt_30 : decode cX1_valueAt 30 = .ok (.ireturn, 1) := by decide +kernel
set_option maxRecDepth 20000 in
theorem ggX2_init_X1_init : GoodIn wsX2_init wsX1_init := goodIn_r _ [22, 23, 2, 3, 24, 25, 26, 36, 37] (by decide +kernel) (by decide +kernel)
set_option maxRecDepth 20000 in
theorem gX2_init_X1_init : GoodIn wsX2_init (wsX1_init) := ggX2_init_X1_init
set_option maxRecDepth 20000 in
theorem ggX2_init_X0_init : GoodIn wsX2_init wsX0_init := goodIn_r _ [29, 30, 2, 3, 24, 31, 32, 33, 34, 35, 48] (by decide +kernel) (by decide +kernel)
set_option maxRecDepth 20000 in
theorem gX2_init_X0_init : GoodIn wsX2_init (wsX0_init) := ggX2_init_X0_init
theorem dX2_init_0 : decode cX2_init 0 = .ok (.aload_n 0, 1) := by decide +kernel
theorem dX2_init_1 : decode cX2_init 1 = .ok (.invokespecial 3, 3) := by decide +kernel
theorem dX2_init_4 : decode cX2_init 4 = .ok (.aload_n 0, 1) := by decide +kernel
theorem dX2_init_5 : decode cX2_init 5 = .ok (.new 9, 3) := by decide +kernel
theorem dX2_init_8 : decode cX2_init 8 = .ok (.dup, 1) := by decide +kernel
theorem dX2_init_9 : decode cX2_init 9 = .ok (.invokespecial 11, 3) := by decide +kernel
theorem dX2_init_12 : decode cX2_init 12 = .ok (.putfield 12, 3) := by decide +kernel
theorem dX2_init_15 : decode cX2_init 15 = .ok (.aload_n 0, 1) := by decide +kernel
theorem dX2_init_16 : decode cX2_init 16 = .ok (.new 16, 3) := by decide +kernel
theorem dX2_init_19 : decode cX2_init 19 = .ok (.dup, 1) := by decide +kernel
theorem dX2_init_20 : decode cX2_init 20 = .ok (.invokespecial 18, 3) := by decide +kernel
theorem dX2_init_23 : decode cX2_init 23 = .ok (.putfield 19, 3) := by decide +kernel
theorem dX2_init_26 : decode cX2_init 26 = .ok (.aload_n 0, 1) := by decide +kernel
theorem dX2_init_27 : decode cX2_init 27 = .ok (.new 16, 3) := by decide +kernel
theorem dX2_init_30 : decode cX2_init 30 = .ok (.dup, 1) := by decide +kernel
theorem dX2_init_31 : decode cX2_init 31 = .ok (.invokespecial 18, 3) := by decide +kernel
theorem dX2_init_34 : decode cX2_init 34 = .ok (.putfield 23, 3) := by decide +kernel
theorem dX2_init_37 : decode cX2_init 37 = .ok (.aload_n 0, 1) := by decide +kernel
theorem dX2_init_38 : decode cX2_init 38 = .ok (.new 16, 3) := by decide +kernel
theorem dX2_init_41 : decode cX2_init 41 = .ok (.dup, 1) := by decide +kernel
theorem dX2_init_42 : decode cX2_init 42 = .ok (.invokespecial 18, 3) := by decide +kernel
theorem dX2_init_45 : decode cX2_init 45 = .ok (.putfield 26, 3) := by decide +kernel
theorem dX2_init_48 : decode cX2_init 48 = .ok (.aload_n 0, 1) := by decide +kernel
theorem dX2_init_49 : decode cX2_init 49 = .ok (.iconst 1, 1) := by decide +kernel
theorem dX2_init_50 : decode cX2_init 50 = .ok (.putfield 29, 3) := by decide +kernel
theorem dX2_init_53 : decode cX2_init 53 = .ok (.aload_n 0, 1) := by decide +kernel
theorem dX2_init_54 : decode cX2_init 54 = .ok (.iconst 0, 1) := by decide +kernel
theorem dX2_init_55 : decode cX2_init 55 = .ok (.putfield 33, 3) := by decide +kernel
theorem dX2_init_58 : decode cX2_init 58 = .ok (.aload_n 0, 1) := by decide +kernel
theorem dX2_init_59 : decode cX2_init 59 = .ok (.iconst 0, 1) := by decide +kernel
theorem dX2_init_60 : decode cX2_init 60 = .ok (.putfield 37, 3) := by decide +kernel
theorem dX2_init_63 : decode cX2_init 63 = .ok (.aload_n 0, 1) := by decide +kernel
theorem dX2_init_64 : decode cX2_init 64 = .ok (.iconst 0, 1) := by decide +kernel
theorem dX2_init_65 : decode cX2_init 65 = .ok (.putfield 40, 3) := by decide +kernel
theorem dX2_init_68 : decode cX2_init 68 = .ok (.aload_n 0, 1) := by decide +kernel
theorem dX2_init_69 : decode cX2_init 69 = .ok (.iconst 0, 1) := by decide +kernel
theorem dX2_init_70 : decode cX2_init 70 = .ok (.putfield 43, 3) := by decide +kernel
theorem dX2_init_73 : decode cX2_init 73 = .ok (.aload_n 0, 1) := by decide +kernel
theorem dX2_init_74 : decode cX2_init 74 = .ok (.iconst (-1), 1) := by decide +kernel
theorem dX2_init_75 : decode cX2_init 75 = .ok (.putfield 46, 3) := by decide +kernel
theorem dX2_init_78 : decode cX2_init 78 = .ok (.return_, 1) := by decide +kernel
set_option maxRecDepth 20000 in
theorem ggX2_put_X2_needKey : GoodIn wsX2_put wsX2_needKey := goodIn_ca (goodIn_r _ [6, 1, 2] (by decide +kernel) (by decide +kernel)) (goodIn_sub (fun _ h => List.mem_cons_of_mem _ (List.mem_append_left _ (List.mem_append_right _ h))) (by decide +kernel))
set_option maxRecDepth 20000 in
theorem gX2_put_X2_needKey : GoodIn wsX2_put (va_wsS RX2 49 yX2_needKey wsX2_needKey) := goodIn_app (goodIn_of _ (by decide +kernel)) ggX2_put_X2_needKey
set_option maxRecDepth 20000 in
theorem ggX2_put_X2_needUp : GoodIn wsX2_put wsX2_needUp := goodIn_ca (goodIn_r _ [10, 11, 12, 13, 58, 59, 60, 61, 62, 63, 64, 65, 66, 67] (by decide +kernel) (by decide +kernel)) (goodIn_sub (fun _ h => List.mem_cons_of_mem _ (List.mem_append_right _ h)) (by decide +kernel))
set_option maxRecDepth 20000 in
theorem gX2_put_X2_needUp : GoodIn wsX2_put (wsV RX2 60 RX2 yX2_needUp wsX2_needUp) := goodIn_app (goodIn_of _ (by decide +kernel)) ggX2_put_X2_needUp
set_option maxRecDepth 20000 in
theorem ggX2_put_X2_needRoom : GoodIn wsX2_put wsX2_needRoom := goodIn_ca (goodIn_r _ [17, 11, 12, 18, 19, 20, 21, 5, 22, 58, 59, 60, 61, 62, 63, 64, 65, 66, 67] (by decide +kernel) (by decide +kernel)) (goodIn_sub (fun _ h => List.mem_cons_of_mem _ (List.mem_append_right _ h)) (by decide +kernel))
set_option maxRecDepth 20000 in
theorem gX2_put_X2_needRoom : GoodIn wsX2_put (wsV RX2 63 RX2 yX2_needRoom wsX2_needRoom) := goodIn_app (goodIn_of _ (by decide +kernel)) ggX2_put_X2_needRoom
set_option maxRecDepth 20000 in
theorem ggX2_put_X2_append : GoodIn wsX2_put wsX2_append := goodIn_r _ [26, 19, 27, 28, 29, 30, 31, 32, 33, 34, 35, 36, 37, 38, 39, 40, 41, 42, 5, 43, 44, 45, 46, 47, 48, 49, 50, 51, 52, 53, 54, 55, 56, 57, 58, 59, 60, 61, 62, 63, 64, 65, 66, 67, 68, 69, 70] (by decide +kernel) (by decide +kernel)
set_option maxRecDepth 20000 in
theorem gX2_put_X2_append : GoodIn wsX2_put (wsV RX2 66 RX2 yX2_append wsX2_append) := goodIn_app (goodIn_of _ (by decide +kernel)) ggX2_put_X2_append
theorem dX2_put_0 : decode cX2_put 0 = .ok (.iload_n 1, 1) := by decide +kernel
theorem dX2_put_1 : decode cX2_put 1 = .ok (.invokestatic 49, 3) := by decide +kernel
theorem dX2_put_4 : decode cX2_put 4 = .ok (.iload_n 2, 1) := by decide +kernel
theorem dX2_put_5 : decode cX2_put 5 = .ok (.ifCond .lt 10, 3) := by decide +kernel
theorem dX2_put_8 : decode cX2_put 8 = .ok (.iload_n 2, 1) := by decide +kernel
theorem dX2_put_9 : decode cX2_put 9 = .ok (.sipush 9999, 3) := by decide +kernel
theorem dX2_put_12 : decode cX2_put 12 = .ok (.if_icmp .le 13, 3) := by decide +kernel
theorem dX2_put_15 : decode cX2_put 15 = .ok (.new 53, 3) := by decide +kernel
theorem dX2_put_18 : decode cX2_put 18 = .ok (.dup, 1) := by decide +kernel
theorem dX2_put_19 : decode cX2_put 19 = .ok (.ldc 55, 2) := by decide +kernel
theorem dX2_put_21 : decode cX2_put 21 = .ok (.invokespecial 57, 3) := by decide +kernel
theorem dX2_put_24 : decode cX2_put 24 = .ok (.athrow, 1) := by decide +kernel
theorem dX2_put_25 : decode cX2_put 25 = .ok (.aload_n 0, 1) := by decide +kernel
theorem dX2_put_26 : decode cX2_put 26 = .ok (.invokevirtual 60, 3) := by decide +kernel
theorem dX2_put_29 : decode cX2_put 29 = .ok (.aload_n 0, 1) := by decide +kernel
theorem dX2_put_30 : decode cX2_put 30 = .ok (.iconst 1, 1) := by decide +kernel
theorem dX2_put_31 : decode cX2_put 31 = .ok (.invokevirtual 63, 3) := by decide +kernel
theorem dX2_put_34 : decode cX2_put 34 = .ok (.aload_n 0, 1) := by decide +kernel
theorem dX2_put_35 : decode cX2_put 35 = .ok (.iload_n 1, 1) := by decide +kernel
theorem dX2_put_36 : decode cX2_put 36 = .ok (.iload_n 2, 1) := by decide +kernel
theorem dX2_put_37 : decode cX2_put 37 = .ok (.invokevirtual 66, 3) := by decide +kernel
theorem dX2_put_40 : decode cX2_put 40 = .ok (.ireturn, 1) := by decide +kernel
set_option maxRecDepth 20000 in
theorem ggX2_delete_X2_needKey : GoodIn wsX2_delete wsX2_needKey := goodIn_ca (goodIn_r _ [7, 8, 9] (by decide +kernel) (by decide +kernel)) (goodIn_sub (fun _ h => List.mem_cons_of_mem _ (List.mem_append_right _ h)) (by decide +kernel))
set_option maxRecDepth 20000 in
theorem gX2_delete_X2_needKey : GoodIn wsX2_delete (va_wsS RX2 49 yX2_needKey wsX2_needKey) := goodIn_app (goodIn_of _ (by decide +kernel)) ggX2_delete_X2_needKey
set_option maxRecDepth 20000 in
theorem ggX2_delete_X2_needUp : GoodIn wsX2_delete wsX2_needUp := goodIn_ca (goodIn_r _ [13, 1, 2, 14, 71, 72, 73, 74, 75, 76, 77, 78, 79, 80] (by decide +kernel) (by decide +kernel)) (goodIn_sub (fun _ h => List.mem_cons_of_mem _ (List.mem_append_left _ (List.mem_append_right _ h))) (by decide +kernel))
set_option maxRecDepth 20000 in
theorem gX2_delete_X2_needUp : GoodIn wsX2_delete (wsV RX2 60 RX2 yX2_needUp wsX2_needUp) := goodIn_app (goodIn_of _ (by decide +kernel)) ggX2_delete_X2_needUp
set_option maxRecDepth 20000 in
theorem ggX2_delete_X0_has : GoodIn wsX2_delete wsX0_has := goodIn_r _ [19, 20, 21, 22, 18, 23, 24, 81] (by decide +kernel) (by decide +kernel)
set_option maxRecDepth 20000 in
theorem gX2_delete_X0_has : GoodIn wsX2_delete (wsV RX2 70 RX0 yX0_has wsX0_has) := goodIn_app (goodIn_of _ (by decide +kernel)) ggX2_delete_X0_has
set_option maxRecDepth 20000 in
theorem ggX2_delete_X2_needRoom : GoodIn wsX2_delete wsX2_needRoom := goodIn_ca (goodIn_r _ [28, 1, 2, 29, 30, 31, 32, 6, 33, 71, 72, 73, 74, 75, 76, 77, 78, 79, 80] (by decide +kernel) (by decide +kernel)) (goodIn_sub (fun _ h => List.mem_cons_of_mem _ (List.mem_append_left _ (List.mem_append_right _ h))) (by decide +kernel))
set_option maxRecDepth 20000 in
theorem gX2_delete_X2_needRoom : GoodIn wsX2_delete (wsV RX2 63 RX2 yX2_needRoom wsX2_needRoom) := goodIn_app (goodIn_of _ (by decide +kernel)) ggX2_delete_X2_needRoom
set_option maxRecDepth 20000 in
theorem ggX2_delete_X2_valueOf : GoodIn wsX2_delete wsX2_valueOf := goodIn_r _ [37, 38, 3, 39, 21, 22, 18, 23, 24, 40, 41, 42, 43, 44, 45, 46, 47, 48, 49, 71, 72, 73, 74, 75, 76, 77, 78, 79, 80, 81, 82, 83] (by decide +kernel) (by decide +kernel)
set_option maxRecDepth 20000 in
theorem gX2_delete_X2_valueOf : GoodIn wsX2_delete (wsV RX2 79 RX2 yX2_valueOf wsX2_valueOf) := goodIn_app (goodIn_of _ (by decide +kernel)) ggX2_delete_X2_valueOf
set_option maxRecDepth 20000 in
theorem ggX2_delete_X2_append : GoodIn wsX2_delete wsX2_append := goodIn_r _ [53, 30, 38, 3, 54, 55, 56, 43, 57, 58, 45, 46, 47, 48, 49, 59, 60, 61, 6, 62, 40, 41, 42, 44, 63, 64, 65, 66, 67, 68, 69, 18, 70, 24, 71, 72, 73, 74, 75, 76, 77, 78, 79, 80, 82, 83, 81] (by decide +kernel) (by decide +kernel)
set_option maxRecDepth 20000 in
theorem gX2_delete_X2_append : GoodIn wsX2_delete (wsV RX2 66 RX2 yX2_append wsX2_append) := goodIn_app (goodIn_of _ (by decide +kernel)) ggX2_delete_X2_append
theorem dX2_delete_0 : decode cX2_delete 0 = .ok (.iload_n 1, 1) := by decide +kernel
theorem dX2_delete_1 : decode cX2_delete 1 = .ok (.invokestatic 49, 3) := by decide +kernel
theorem dX2_delete_4 : decode cX2_delete 4 = .ok (.aload_n 0, 1) := by decide +kernel
theorem dX2_delete_5 : decode cX2_delete 5 = .ok (.invokevirtual 60, 3) := by decide +kernel
theorem dX2_delete_8 : decode cX2_delete 8 = .ok (.aload_n 0, 1) := by decide +kernel
theorem dX2_delete_9 : decode cX2_delete 9 = .ok (.getfield 19, 3) := by decide +kernel
theorem dX2_delete_12 : decode cX2_delete 12 = .ok (.iload_n 1, 1) := by decide +kernel
theorem dX2_delete_13 : decode cX2_delete 13 = .ok (.invokevirtual 70, 3) := by decide +kernel
theorem dX2_delete_16 : decode cX2_delete 16 = .ok (.ifCond .ne 13, 3) := by decide +kernel
theorem dX2_delete_19 : decode cX2_delete 19 = .ok (.new 74, 3) := by decide +kernel
theorem dX2_delete_22 : decode cX2_delete 22 = .ok (.dup, 1) := by decide +kernel
theorem dX2_delete_23 : decode cX2_delete 23 = .ok (.ldc 76, 2) := by decide +kernel
theorem dX2_delete_25 : decode cX2_delete 25 = .ok (.invokespecial 78, 3) := by decide +kernel
theorem dX2_delete_28 : decode cX2_delete 28 = .ok (.athrow, 1) := by decide +kernel
theorem dX2_delete_29 : decode cX2_delete 29 = .ok (.aload_n 0, 1) := by decide +kernel
theorem dX2_delete_30 : decode cX2_delete 30 = .ok (.iconst 1, 1) := by decide +kernel
theorem dX2_delete_31 : decode cX2_delete 31 = .ok (.invokevirtual 63, 3) := by decide +kernel
theorem dX2_delete_34 : decode cX2_delete 34 = .ok (.aload_n 0, 1) := by decide +kernel
theorem dX2_delete_35 : decode cX2_delete 35 = .ok (.iload_n 1, 1) := by decide +kernel
theorem dX2_delete_36 : decode cX2_delete 36 = .ok (.invokevirtual 79, 3) := by decide +kernel
theorem dX2_delete_39 : decode cX2_delete 39 = .ok (.istore_n 2, 1) := by decide +kernel
theorem dX2_delete_40 : decode cX2_delete 40 = .ok (.aload_n 0, 1) := by decide +kernel
theorem dX2_delete_41 : decode cX2_delete 41 = .ok (.iload_n 1, 1) := by decide +kernel
theorem dX2_delete_42 : decode cX2_delete 42 = .ok (.iconst (-1), 1) := by decide +kernel
theorem dX2_delete_43 : decode cX2_delete 43 = .ok (.invokevirtual 66, 3) := by decide +kernel
theorem dX2_delete_46 : decode cX2_delete 46 = .ok (.pop, 1) := by decide +kernel
theorem dX2_delete_47 : decode cX2_delete 47 = .ok (.iload_n 2, 1) := by decide +kernel
theorem dX2_delete_48 : decode cX2_delete 48 = .ok (.ireturn, 1) := by decide +kernel
set_option maxRecDepth 20000 in
theorem ggX2_get_X2_needKey : GoodIn wsX2_get wsX2_needKey := goodIn_ca (goodIn_r _ [5, 6, 7] (by decide +kernel) (by decide +kernel)) (goodIn_sub (fun _ h => List.mem_cons_of_mem _ (List.mem_append_left _ (List.mem_append_right _ h))) (by decide +kernel))
set_option maxRecDepth 20000 in
theorem gX2_get_X2_needKey : GoodIn wsX2_get (va_wsS RX2 49 yX2_needKey wsX2_needKey) := goodIn_app (goodIn_of _ (by decide +kernel)) ggX2_get_X2_needKey
set_option maxRecDepth 20000 in
theorem ggX2_get_X2_needUp : GoodIn wsX2_get wsX2_needUp := goodIn_ca (goodIn_r _ [11, 12, 13, 14, 41, 42, 43, 44, 45, 46, 47, 48, 49, 50] (by decide +kernel) (by decide +kernel)) (goodIn_sub (fun _ h => List.mem_cons_of_mem _ (List.mem_append_right _ h)) (by decide +kernel))
set_option maxRecDepth 20000 in
theorem gX2_get_X2_needUp : GoodIn wsX2_get (wsV RX2 60 RX2 yX2_needUp wsX2_needUp) := goodIn_app (goodIn_of _ (by decide +kernel)) ggX2_get_X2_needUp
set_option maxRecDepth 20000 in
theorem ggX2_get_X0_has : GoodIn wsX2_get wsX0_has := goodIn_r _ [19, 20, 21, 22, 18, 23, 24, 51] (by decide +kernel) (by decide +kernel)
set_option maxRecDepth 20000 in
theorem gX2_get_X0_has : GoodIn wsX2_get (wsV RX2 70 RX0 yX0_has wsX0_has) := goodIn_app (goodIn_of _ (by decide +kernel)) ggX2_get_X0_has
set_option maxRecDepth 20000 in
theorem ggX2_get_X2_valueOf : GoodIn wsX2_get wsX2_valueOf := goodIn_r _ [28, 29, 1, 30, 21, 22, 18, 23, 24, 31, 32, 33, 34, 35, 36, 37, 38, 39, 40, 41, 42, 43, 44, 45, 46, 47, 48, 49, 50, 51, 52, 53] (by decide +kernel) (by decide +kernel)
set_option maxRecDepth 20000 in
theorem gX2_get_X2_valueOf : GoodIn wsX2_get (wsV RX2 79 RX2 yX2_valueOf wsX2_valueOf) := goodIn_app (goodIn_of _ (by decide +kernel)) ggX2_get_X2_valueOf
theorem dX2_get_0 : decode cX2_get 0 = .ok (.iload_n 1, 1) := by decide +kernel
theorem dX2_get_1 : decode cX2_get 1 = .ok (.invokestatic 49, 3) := by decide +kernel
theorem dX2_get_4 : decode cX2_get 4 = .ok (.aload_n 0, 1) := by decide +kernel
theorem dX2_get_5 : decode cX2_get 5 = .ok (.invokevirtual 60, 3) := by decide +kernel
theorem dX2_get_8 : decode cX2_get 8 = .ok (.aload_n 0, 1) := by decide +kernel
theorem dX2_get_9 : decode cX2_get 9 = .ok (.getfield 19, 3) := by decide +kernel
theorem dX2_get_12 : decode cX2_get 12 = .ok (.iload_n 1, 1) := by decide +kernel
theorem dX2_get_13 : decode cX2_get 13 = .ok (.invokevirtual 70, 3) := by decide +kernel
theorem dX2_get_16 : decode cX2_get 16 = .ok (.ifCond .eq 11, 3) := by decide +kernel
theorem dX2_get_19 : decode cX2_get 19 = .ok (.aload_n 0, 1) := by decide +kernel
theorem dX2_get_20 : decode cX2_get 20 = .ok (.iload_n 1, 1) := by decide +kernel
theorem dX2_get_21 : decode cX2_get 21 = .ok (.invokevirtual 79, 3) := by decide +kernel
theorem dX2_get_24 : decode cX2_get 24 = .ok (.goto 4, 3) := by decide +kernel
theorem dX2_get_27 : decode cX2_get 27 = .ok (.iconst (-1), 1) := by decide +kernel
theorem dX2_get_28 : decode cX2_get 28 = .ok (.ireturn, 1) := by decide +kernel
set_option maxRecDepth 20000 in
theorem ggX2_next_X2_needKey : GoodIn wsX2_next wsX2_needKey := goodIn_ca (goodIn_r _ [5, 6, 7] (by decide +kernel) (by decide +kernel)) (goodIn_sub (fun _ h => List.mem_cons_of_mem _ (List.mem_append_left _ (List.mem_append_right _ h))) (by decide +kernel))
set_option maxRecDepth 20000 in
theorem gX2_next_X2_needKey : GoodIn wsX2_next (va_wsS RX2 49 yX2_needKey wsX2_needKey) := goodIn_app (goodIn_of _ (by decide +kernel)) ggX2_next_X2_needKey
set_option maxRecDepth 20000 in
theorem ggX2_next_X2_needUp : GoodIn wsX2_next wsX2_needUp := goodIn_ca (goodIn_r _ [11, 12, 13, 14, 25, 26, 27, 28, 29, 30, 31, 32, 33, 34] (by decide +kernel) (by decide +kernel)) (goodIn_sub (fun _ h => List.mem_cons_of_mem _ (List.mem_append_right _ h)) (by decide +kernel))
set_option maxRecDepth 20000 in
theorem gX2_next_X2_needUp : GoodIn wsX2_next (wsV RX2 60 RX2 yX2_needUp wsX2_needUp) := goodIn_app (goodIn_of _ (by decide +kernel)) ggX2_next_X2_needUp
set_option maxRecDepth 20000 in
theorem ggX2_next_X0_has : GoodIn wsX2_next wsX0_has := goodIn_r _ [19, 20, 21, 22, 18, 23, 24, 35] (by decide +kernel) (by decide +kernel)
set_option maxRecDepth 20000 in
theorem gX2_next_X0_has : GoodIn wsX2_next (wsV RX2 70 RX0 yX0_has wsX0_has) := goodIn_app (goodIn_of _ (by decide +kernel)) ggX2_next_X0_has
theorem dX2_next_0 : decode cX2_next 0 = .ok (.iload_n 1, 1) := by decide +kernel
theorem dX2_next_1 : decode cX2_next 1 = .ok (.invokestatic 49, 3) := by decide +kernel
theorem dX2_next_4 : decode cX2_next 4 = .ok (.aload_n 0, 1) := by decide +kernel
theorem dX2_next_5 : decode cX2_next 5 = .ok (.invokevirtual 60, 3) := by decide +kernel
theorem dX2_next_8 : decode cX2_next 8 = .ok (.iload_n 1, 1) := by decide +kernel
theorem dX2_next_9 : decode cX2_next 9 = .ok (.istore_n 2, 1) := by decide +kernel
theorem dX2_next_10 : decode cX2_next 10 = .ok (.iload_n 2, 1) := by decide +kernel
theorem dX2_next_11 : decode cX2_next 11 = .ok (.bipush 64, 2) := by decide +kernel
theorem dX2_next_13 : decode cX2_next 13 = .ok (.if_icmp .ge 22, 3) := by decide +kernel
theorem dX2_next_16 : decode cX2_next 16 = .ok (.aload_n 0, 1) := by decide +kernel
theorem dX2_next_17 : decode cX2_next 17 = .ok (.getfield 19, 3) := by decide +kernel
theorem dX2_next_20 : decode cX2_next 20 = .ok (.iload_n 2, 1) := by decide +kernel
theorem dX2_next_21 : decode cX2_next 21 = .ok (.invokevirtual 70, 3) := by decide +kernel
theorem dX2_next_24 : decode cX2_next 24 = .ok (.ifCond .eq 5, 3) := by decide +kernel
theorem dX2_next_27 : decode cX2_next 27 = .ok (.iload_n 2, 1) := by decide +kernel
theorem dX2_next_28 : decode cX2_next 28 = .ok (.ireturn, 1) := by decide +kernel
theorem dX2_next_29 : decode cX2_next 29 = .ok (.iinc 2 1, 3) := by decide +kernel
theorem dX2_next_32 : decode cX2_next 32 = .ok (.goto (-22), 3) := by decide +kernel
theorem dX2_next_35 : decode cX2_next 35 = .ok (.iconst (-1), 1) := by decide +kernel
theorem dX2_next_36 : decode cX2_next 36 = .ok (.ireturn, 1) := by decide +kernel
set_option maxRecDepth 20000 in
theorem ggX2_sum_X2_needRange : GoodIn wsX2_sum wsX2_needRange := goodIn_ca (goodIn_r _ [5, 6, 7, 8, 9, 4, 10] (by decide +kernel) (by decide +kernel)) (goodIn_sub (fun _ h => List.mem_cons_of_mem _ (List.mem_append_left _ (List.mem_append_right _ h))) (by decide +kernel))
set_option maxRecDepth 20000 in
theorem gX2_sum_X2_needRange : GoodIn wsX2_sum (va_wsS RX2 83 yX2_needRange wsX2_needRange) := goodIn_app (goodIn_of _ (by decide +kernel)) ggX2_sum_X2_needRange
set_option maxRecDepth 20000 in
theorem ggX2_sum_X2_needUp : GoodIn wsX2_sum wsX2_needUp := goodIn_ca (goodIn_r _ [14, 15, 16, 17, 44, 45, 46, 47, 48, 49, 50, 51, 52, 53] (by decide +kernel) (by decide +kernel)) (goodIn_sub (fun _ h => List.mem_cons_of_mem _ (List.mem_append_right _ h)) (by decide +kernel))
set_option maxRecDepth 20000 in
theorem gX2_sum_X2_needUp : GoodIn wsX2_sum (wsV RX2 60 RX2 yX2_needUp wsX2_needUp) := goodIn_app (goodIn_of _ (by decide +kernel)) ggX2_sum_X2_needUp
set_option maxRecDepth 20000 in
theorem ggX2_sum_X0_has : GoodIn wsX2_sum wsX0_has := goodIn_r _ [22, 23, 24, 25, 21, 26, 27, 54] (by decide +kernel) (by decide +kernel)
set_option maxRecDepth 20000 in
theorem gX2_sum_X0_has : GoodIn wsX2_sum (wsV RX2 70 RX0 yX0_has wsX0_has) := goodIn_app (goodIn_of _ (by decide +kernel)) ggX2_sum_X0_has
set_option maxRecDepth 20000 in
theorem ggX2_sum_X2_valueOf : GoodIn wsX2_sum wsX2_valueOf := goodIn_r _ [31, 32, 1, 33, 24, 25, 21, 26, 27, 34, 35, 36, 37, 38, 39, 40, 41, 42, 43, 44, 45, 46, 47, 48, 49, 50, 51, 52, 53, 54, 55, 56] (by decide +kernel) (by decide +kernel)
set_option maxRecDepth 20000 in
theorem gX2_sum_X2_valueOf : GoodIn wsX2_sum (wsV RX2 79 RX2 yX2_valueOf wsX2_valueOf) := goodIn_app (goodIn_of _ (by decide +kernel)) ggX2_sum_X2_valueOf
theorem dX2_sum_0 : decode cX2_sum 0 = .ok (.iload_n 1, 1) := by decide +kernel
theorem dX2_sum_1 : decode cX2_sum 1 = .ok (.iload_n 2, 1) := by decide +kernel
theorem dX2_sum_2 : decode cX2_sum 2 = .ok (.invokestatic 83, 3) := by decide +kernel
theorem dX2_sum_5 : decode cX2_sum 5 = .ok (.aload_n 0, 1) := by decide +kernel
theorem dX2_sum_6 : decode cX2_sum 6 = .ok (.invokevirtual 60, 3) := by decide +kernel
theorem dX2_sum_9 : decode cX2_sum 9 = .ok (.iconst 0, 1) := by decide +kernel
theorem dX2_sum_10 : decode cX2_sum 10 = .ok (.istore_n 3, 1) := by decide +kernel
theorem dX2_sum_11 : decode cX2_sum 11 = .ok (.iload_n 1, 1) := by decide +kernel
theorem dX2_sum_12 : decode cX2_sum 12 = .ok (.istore 4, 2) := by decide +kernel
theorem dX2_sum_14 : decode cX2_sum 14 = .ok (.iload 4, 2) := by decide +kernel
theorem dX2_sum_16 : decode cX2_sum 16 = .ok (.iload_n 2, 1) := by decide +kernel
theorem dX2_sum_17 : decode cX2_sum 17 = .ok (.if_icmp .gt 30, 3) := by decide +kernel
theorem dX2_sum_20 : decode cX2_sum 20 = .ok (.aload_n 0, 1) := by decide +kernel
theorem dX2_sum_21 : decode cX2_sum 21 = .ok (.getfield 19, 3) := by decide +kernel
theorem dX2_sum_24 : decode cX2_sum 24 = .ok (.iload 4, 2) := by decide +kernel
theorem dX2_sum_26 : decode cX2_sum 26 = .ok (.invokevirtual 70, 3) := by decide +kernel
theorem dX2_sum_29 : decode cX2_sum 29 = .ok (.ifCond .eq 12, 3) := by decide +kernel
theorem dX2_sum_32 : decode cX2_sum 32 = .ok (.iload_n 3, 1) := by decide +kernel
theorem dX2_sum_33 : decode cX2_sum 33 = .ok (.aload_n 0, 1) := by decide +kernel
theorem dX2_sum_34 : decode cX2_sum 34 = .ok (.iload 4, 2) := by decide +kernel
theorem dX2_sum_36 : decode cX2_sum 36 = .ok (.invokevirtual 79, 3) := by decide +kernel
theorem dX2_sum_39 : decode cX2_sum 39 = .ok (.iadd, 1) := by decide +kernel
theorem dX2_sum_40 : decode cX2_sum 40 = .ok (.istore_n 3, 1) := by decide +kernel
theorem dX2_sum_41 : decode cX2_sum 41 = .ok (.iinc 4 1, 3) := by decide +kernel
theorem dX2_sum_44 : decode cX2_sum 44 = .ok (.goto (-30), 3) := by decide +kernel
theorem dX2_sum_47 : decode cX2_sum 47 = .ok (.iload_n 3, 1) := by decide +kernel
theorem dX2_sum_48 : decode cX2_sum 48 = .ok (.ireturn, 1) := by decide +kernel
set_option maxRecDepth 20000 in
theorem ggX2_fetches_X2_needRange : GoodIn wsX2_fetches wsX2_needRange := goodIn_ca (goodIn_r _ [6, 7, 8, 9, 10, 5, 11] (by decide +kernel) (by decide +kernel)) (goodIn_sub (fun _ h => List.mem_cons_of_mem _ (List.mem_append_left _ (List.mem_append_right _ h))) (by decide +kernel))
set_option maxRecDepth 20000 in
theorem gX2_fetches_X2_needRange : GoodIn wsX2_fetches (va_wsS RX2 83 yX2_needRange wsX2_needRange) := goodIn_app (goodIn_of _ (by decide +kernel)) ggX2_fetches_X2_needRange
set_option maxRecDepth 20000 in
theorem ggX2_fetches_X2_needUp : GoodIn wsX2_fetches wsX2_needUp := goodIn_ca (goodIn_r _ [15, 16, 17, 18, 40, 41, 42, 43, 44, 45, 46, 47, 48, 49] (by decide +kernel) (by decide +kernel)) (goodIn_sub (fun _ h => List.mem_cons_of_mem _ (List.mem_append_right _ h)) (by decide +kernel))
set_option maxRecDepth 20000 in
theorem gX2_fetches_X2_needUp : GoodIn wsX2_fetches (wsV RX2 60 RX2 yX2_needUp wsX2_needUp) := goodIn_app (goodIn_of _ (by decide +kernel)) ggX2_fetches_X2_needUp
set_option maxRecDepth 20000 in
theorem ggX2_fetches_X2_segmentOf : GoodIn wsX2_fetches wsX2_segmentOf := goodIn_r _ [21] (by decide +kernel) (by decide +kernel)
set_option maxRecDepth 20000 in
theorem gX2_fetches_X2_segmentOf : GoodIn wsX2_fetches (va_wsS RX2 87 yX2_segmentOf wsX2_segmentOf) := goodIn_app (goodIn_of _ (by decide +kernel)) ggX2_fetches_X2_segmentOf
set_option maxRecDepth 20000 in
theorem ggX2_fetches_X0_has : GoodIn wsX2_fetches wsX0_has := goodIn_r _ [26, 27, 28, 29, 25, 30, 31, 50] (by decide +kernel) (by decide +kernel)
set_option maxRecDepth 20000 in
theorem gX2_fetches_X0_has : GoodIn wsX2_fetches (wsV RX2 70 RX0 yX0_has wsX0_has) := goodIn_app (goodIn_of _ (by decide +kernel)) ggX2_fetches_X0_has
set_option maxRecDepth 20000 in
theorem ggX2_fetches_X0_find : GoodIn wsX2_fetches wsX0_find := goodIn_r _ [30, 31, 50] (by decide +kernel) (by decide +kernel)
set_option maxRecDepth 20000 in
theorem gX2_fetches_X0_find : GoodIn wsX2_fetches (wsV RX2 90 RX0 yX0_find wsX0_find) := goodIn_app (goodIn_of _ (by decide +kernel)) ggX2_fetches_X0_find
set_option maxRecDepth 20000 in
theorem ggX2_fetches_J6_bitCount_0f7a4 : GoodIn wsX2_fetches wsJ6_bitCount_0f7a4 := goodIn_r _ [36, 37, 38, 39] (by decide +kernel) (by decide +kernel)
set_option maxRecDepth 20000 in
theorem gX2_fetches_J6_bitCount_0f7a4 : GoodIn wsX2_fetches (va_wsS RX2 93 yJ6_bitCount_0f7a4 wsJ6_bitCount_0f7a4) := goodIn_app (goodIn_of _ (by decide +kernel)) ggX2_fetches_J6_bitCount_0f7a4
theorem dX2_fetches_0 : decode cX2_fetches 0 = .ok (.iload_n 1, 1) := by decide +kernel
theorem dX2_fetches_1 : decode cX2_fetches 1 = .ok (.iload_n 2, 1) := by decide +kernel
theorem dX2_fetches_2 : decode cX2_fetches 2 = .ok (.invokestatic 83, 3) := by decide +kernel
theorem dX2_fetches_5 : decode cX2_fetches 5 = .ok (.aload_n 0, 1) := by decide +kernel
theorem dX2_fetches_6 : decode cX2_fetches 6 = .ok (.invokevirtual 60, 3) := by decide +kernel
theorem dX2_fetches_9 : decode cX2_fetches 9 = .ok (.aload_n 0, 1) := by decide +kernel
theorem dX2_fetches_10 : decode cX2_fetches 10 = .ok (.getfield 37, 3) := by decide +kernel
theorem dX2_fetches_13 : decode cX2_fetches 13 = .ok (.invokestatic 87, 3) := by decide +kernel
theorem dX2_fetches_16 : decode cX2_fetches 16 = .ok (.istore_n 3, 1) := by decide +kernel
theorem dX2_fetches_17 : decode cX2_fetches 17 = .ok (.iconst 0, 1) := by decide +kernel
theorem dX2_fetches_18 : decode cX2_fetches 18 = .ok (.istore 4, 2) := by decide +kernel
theorem dX2_fetches_20 : decode cX2_fetches 20 = .ok (.iload_n 1, 1) := by decide +kernel
theorem dX2_fetches_21 : decode cX2_fetches 21 = .ok (.istore 5, 2) := by decide +kernel
theorem dX2_fetches_23 : decode cX2_fetches 23 = .ok (.iload 5, 2) := by decide +kernel
theorem dX2_fetches_25 : decode cX2_fetches 25 = .ok (.iload_n 2, 1) := by decide +kernel
theorem dX2_fetches_26 : decode cX2_fetches 26 = .ok (.if_icmp .gt 42, 3) := by decide +kernel
theorem dX2_fetches_29 : decode cX2_fetches 29 = .ok (.aload_n 0, 1) := by decide +kernel
theorem dX2_fetches_30 : decode cX2_fetches 30 = .ok (.getfield 19, 3) := by decide +kernel
theorem dX2_fetches_33 : decode cX2_fetches 33 = .ok (.iload 5, 2) := by decide +kernel
theorem dX2_fetches_35 : decode cX2_fetches 35 = .ok (.invokevirtual 70, 3) := by decide +kernel
theorem dX2_fetches_38 : decode cX2_fetches 38 = .ok (.ifCond .eq 24, 3) := by decide +kernel
theorem dX2_fetches_41 : decode cX2_fetches 41 = .ok (.iload 4, 2) := by decide +kernel
theorem dX2_fetches_43 : decode cX2_fetches 43 = .ok (.iconst 1, 1) := by decide +kernel
theorem dX2_fetches_44 : decode cX2_fetches 44 = .ok (.aload_n 0, 1) := by decide +kernel
theorem dX2_fetches_45 : decode cX2_fetches 45 = .ok (.getfield 19, 3) := by decide +kernel
theorem dX2_fetches_48 : decode cX2_fetches 48 = .ok (.iload 5, 2) := by decide +kernel
theorem dX2_fetches_50 : decode cX2_fetches 50 = .ok (.invokevirtual 90, 3) := by decide +kernel
theorem dX2_fetches_53 : decode cX2_fetches 53 = .ok (.invokestatic 87, 3) := by decide +kernel
theorem dX2_fetches_56 : decode cX2_fetches 56 = .ok (.iload_n 3, 1) := by decide +kernel
theorem dX2_fetches_57 : decode cX2_fetches 57 = .ok (.isub, 1) := by decide +kernel
theorem dX2_fetches_58 : decode cX2_fetches 58 = .ok (.ishl, 1) := by decide +kernel
theorem dX2_fetches_59 : decode cX2_fetches 59 = .ok (.ior, 1) := by decide +kernel
theorem dX2_fetches_60 : decode cX2_fetches 60 = .ok (.istore 4, 2) := by decide +kernel
theorem dX2_fetches_62 : decode cX2_fetches 62 = .ok (.iinc 5 1, 3) := by decide +kernel
theorem dX2_fetches_65 : decode cX2_fetches 65 = .ok (.goto (-42), 3) := by decide +kernel
theorem dX2_fetches_68 : decode cX2_fetches 68 = .ok (.iload 4, 2) := by decide +kernel
theorem dX2_fetches_70 : decode cX2_fetches 70 = .ok (.invokestatic 93, 3) := by decide +kernel
theorem dX2_fetches_73 : decode cX2_fetches 73 = .ok (.ireturn, 1) := by decide +kernel
set_option maxRecDepth 20000 in
theorem ggX2_synchronize_X2_needUp : GoodIn wsX2_synchronize wsX2_needUp := goodIn_ca (goodIn_r _ [5, 6, 7, 8, 24, 25, 26, 27, 28, 29, 30, 31, 32, 33] (by decide +kernel) (by decide +kernel)) (goodIn_sub (fun _ h => List.mem_cons_of_mem _ (List.mem_append_right _ h)) (by decide +kernel))
set_option maxRecDepth 20000 in
theorem gX2_synchronize_X2_needUp : GoodIn wsX2_synchronize (wsV RX2 60 RX2 yX2_needUp wsX2_needUp) := goodIn_app (goodIn_of _ (by decide +kernel)) ggX2_synchronize_X2_needUp
set_option maxRecDepth 20000 in
theorem ggX2_synchronize_X2_writeEntries : GoodIn wsX2_synchronize wsX2_writeEntries := goodIn_r _ [12, 13, 14, 15, 16, 17, 4, 18, 19, 20, 21, 22, 23, 8, 24, 25, 26, 27, 28, 29, 30, 31, 32, 33] (by decide +kernel) (by decide +kernel)
set_option maxRecDepth 20000 in
theorem gX2_synchronize_X2_writeEntries : GoodIn wsX2_synchronize (wsV RX2 98 RX2 yX2_writeEntries wsX2_writeEntries) := goodIn_app (goodIn_of _ (by decide +kernel)) ggX2_synchronize_X2_writeEntries
theorem dX2_synchronize_0 : decode cX2_synchronize 0 = .ok (.aload_n 0, 1) := by decide +kernel
theorem dX2_synchronize_1 : decode cX2_synchronize 1 = .ok (.invokevirtual 60, 3) := by decide +kernel
theorem dX2_synchronize_4 : decode cX2_synchronize 4 = .ok (.aload_n 0, 1) := by decide +kernel
theorem dX2_synchronize_5 : decode cX2_synchronize 5 = .ok (.invokevirtual 98, 3) := by decide +kernel
theorem dX2_synchronize_8 : decode cX2_synchronize 8 = .ok (.ireturn, 1) := by decide +kernel
set_option maxRecDepth 20000 in
theorem ggX2_checkpoint_X2_needUp : GoodIn wsX2_checkpoint wsX2_needUp := goodIn_ca (goodIn_r _ [9, 10, 11, 12, 37, 38, 39, 40, 41, 42, 43, 44, 45, 46] (by decide +kernel) (by decide +kernel)) (goodIn_sub (fun _ h => List.mem_cons_of_mem _ (List.mem_append_right _ h)) (by decide +kernel))
set_option maxRecDepth 20000 in
theorem gX2_checkpoint_X2_needUp : GoodIn wsX2_checkpoint (wsV RX2 60 RX2 yX2_needUp wsX2_needUp) := goodIn_app (goodIn_of _ (by decide +kernel)) ggX2_checkpoint_X2_needUp
set_option maxRecDepth 20000 in
theorem ggX2_checkpoint_X2_writeEntries : GoodIn wsX2_checkpoint wsX2_writeEntries := goodIn_r _ [16, 3, 17, 18, 19, 20, 8, 21, 22, 23, 24, 25, 26, 12, 37, 38, 39, 40, 41, 42, 43, 44, 45, 46] (by decide +kernel) (by decide +kernel)
set_option maxRecDepth 20000 in
theorem gX2_checkpoint_X2_writeEntries : GoodIn wsX2_checkpoint (wsV RX2 98 RX2 yX2_writeEntries wsX2_writeEntries) := goodIn_app (goodIn_of _ (by decide +kernel)) ggX2_checkpoint_X2_writeEntries
set_option maxRecDepth 20000 in
theorem ggX2_checkpoint_X2_writeOnce : GoodIn wsX2_checkpoint wsX2_writeOnce := goodIn_r _ [21, 22, 23, 24, 25, 8, 26, 17, 3, 12, 37, 38, 39, 40, 41, 42, 43, 44, 45, 46] (by decide +kernel) (by decide +kernel)
set_option maxRecDepth 20000 in
theorem gX2_checkpoint_X2_writeOnce : GoodIn wsX2_checkpoint (wsV RX2 102 RX2 yX2_writeOnce wsX2_writeOnce) := goodIn_app (goodIn_of _ (by decide +kernel)) ggX2_checkpoint_X2_writeOnce
set_option maxRecDepth 20000 in
theorem ggX2_checkpoint_X0_takeFrom : GoodIn wsX2_checkpoint wsX0_takeFrom := goodIn_r _ [31, 32, 33, 34, 35, 30, 36, 47] (by decide +kernel) (by decide +kernel)
set_option maxRecDepth 20000 in
theorem gX2_checkpoint_X0_takeFrom : GoodIn wsX2_checkpoint (wsV RX2 105 RX0 yX0_takeFrom wsX0_takeFrom) := goodIn_app (goodIn_of _ (by decide +kernel)) ggX2_checkpoint_X0_takeFrom
theorem dX2_checkpoint_0 : decode cX2_checkpoint 0 = .ok (.aload_n 0, 1) := by decide +kernel
theorem dX2_checkpoint_1 : decode cX2_checkpoint 1 = .ok (.invokevirtual 60, 3) := by decide +kernel
theorem dX2_checkpoint_4 : decode cX2_checkpoint 4 = .ok (.aload_n 0, 1) := by decide +kernel
theorem dX2_checkpoint_5 : decode cX2_checkpoint 5 = .ok (.invokevirtual 98, 3) := by decide +kernel
theorem dX2_checkpoint_8 : decode cX2_checkpoint 8 = .ok (.ifCond .eq 10, 3) := by decide +kernel
theorem dX2_checkpoint_11 : decode cX2_checkpoint 11 = .ok (.aload_n 0, 1) := by decide +kernel
theorem dX2_checkpoint_12 : decode cX2_checkpoint 12 = .ok (.invokevirtual 102, 3) := by decide +kernel
theorem dX2_checkpoint_15 : decode cX2_checkpoint 15 = .ok (.ifCond .ne 5, 3) := by decide +kernel
theorem dX2_checkpoint_18 : decode cX2_checkpoint 18 = .ok (.iconst 0, 1) := by decide +kernel
theorem dX2_checkpoint_19 : decode cX2_checkpoint 19 = .ok (.ireturn, 1) := by decide +kernel
theorem dX2_checkpoint_20 : decode cX2_checkpoint 20 = .ok (.aload_n 0, 1) := by decide +kernel
theorem dX2_checkpoint_21 : decode cX2_checkpoint 21 = .ok (.getfield 23, 3) := by decide +kernel
theorem dX2_checkpoint_24 : decode cX2_checkpoint 24 = .ok (.aload_n 0, 1) := by decide +kernel
theorem dX2_checkpoint_25 : decode cX2_checkpoint 25 = .ok (.getfield 19, 3) := by decide +kernel
theorem dX2_checkpoint_28 : decode cX2_checkpoint 28 = .ok (.invokevirtual 105, 3) := by decide +kernel
theorem dX2_checkpoint_31 : decode cX2_checkpoint 31 = .ok (.aload_n 0, 1) := by decide +kernel
theorem dX2_checkpoint_32 : decode cX2_checkpoint 32 = .ok (.aload_n 0, 1) := by decide +kernel
theorem dX2_checkpoint_33 : decode cX2_checkpoint 33 = .ok (.getfield 33, 3) := by decide +kernel
theorem dX2_checkpoint_36 : decode cX2_checkpoint 36 = .ok (.putfield 43, 3) := by decide +kernel
theorem dX2_checkpoint_39 : decode cX2_checkpoint 39 = .ok (.iconst 1, 1) := by decide +kernel
theorem dX2_checkpoint_40 : decode cX2_checkpoint 40 = .ok (.ireturn, 1) := by decide +kernel
set_option maxRecDepth 20000 in
theorem ggX2_collect_X2_needUp : GoodIn wsX2_collect wsX2_needUp := goodIn_ca (goodIn_r _ [11, 3, 4, 12, 85, 86, 87, 88, 89, 90, 91, 92, 93, 94] (by decide +kernel) (by decide +kernel)) (goodIn_sub (fun _ h => List.mem_cons_of_mem _ (List.mem_append_right _ h)) (by decide +kernel))
set_option maxRecDepth 20000 in
theorem gX2_collect_X2_needUp : GoodIn wsX2_collect (wsV RX2 60 RX2 yX2_needUp wsX2_needUp) := goodIn_app (goodIn_of _ (by decide +kernel)) ggX2_collect_X2_needUp
set_option maxRecDepth 20000 in
theorem ggX2_collect_X2_liveFromTail : GoodIn wsX2_collect wsX2_liveFromTail := goodIn_r _ [16, 6, 17, 18, 19, 10, 20, 21, 22, 23, 24, 25, 26, 27, 28, 29, 30, 31, 32, 33, 34, 35, 36, 37, 38, 85, 86, 87, 88, 89, 90, 91, 92, 93, 94, 95, 96, 97] (by decide +kernel) (by decide +kernel)
set_option maxRecDepth 20000 in
theorem gX2_collect_X2_liveFromTail : GoodIn wsX2_collect (wsV RX2 113 RX2 yX2_liveFromTail wsX2_liveFromTail) := goodIn_app (goodIn_of _ (by decide +kernel)) ggX2_collect_X2_liveFromTail
set_option maxRecDepth 20000 in
theorem ggX2_collect_X2_needRoom : GoodIn wsX2_collect wsX2_needRoom := goodIn_ca (goodIn_r _ [42, 3, 4, 6, 5, 43, 44, 10, 45, 85, 86, 87, 88, 89, 90, 91, 92, 93, 94] (by decide +kernel) (by decide +kernel)) (goodIn_sub (fun _ h => List.mem_cons_of_mem _ (List.mem_append_right _ h)) (by decide +kernel))
set_option maxRecDepth 20000 in
theorem gX2_collect_X2_needRoom : GoodIn wsX2_collect (wsV RX2 63 RX2 yX2_needRoom wsX2_needRoom) := goodIn_app (goodIn_of _ (by decide +kernel)) ggX2_collect_X2_needRoom
set_option maxRecDepth 20000 in
theorem ggX2_collect_X2_appendLiveAgain : GoodIn wsX2_collect wsX2_appendLiveAgain := goodIn_r _ [49, 6, 22, 17, 18, 19, 10, 20, 21, 23, 24, 25, 26, 27, 28, 29, 30, 31, 32, 33, 34, 35, 36, 37, 38, 50, 51, 52, 53, 54, 55, 56, 57, 58, 5, 59, 60, 61, 62, 63, 64, 65, 66, 67, 68, 69, 70, 85, 86, 87, 88, 89, 90, 91, 92, 93, 94, 95, 96, 97] (by decide +kernel) (by decide +kernel)
set_option maxRecDepth 20000 in
theorem gX2_collect_X2_appendLiveAgain : GoodIn wsX2_collect (wsV RX2 116 RX2 yX2_appendLiveAgain wsX2_appendLiveAgain) := goodIn_app (goodIn_of _ (by decide +kernel)) ggX2_collect_X2_appendLiveAgain
set_option maxRecDepth 20000 in
theorem ggX2_collect_X2_writeEntries : GoodIn wsX2_collect wsX2_writeEntries := goodIn_r _ [74, 5, 75, 76, 77, 78, 10, 79, 80, 81, 82, 83, 84, 12, 85, 86, 87, 88, 89, 90, 91, 92, 93, 94] (by decide +kernel) (by decide +kernel)
set_option maxRecDepth 20000 in
theorem gX2_collect_X2_writeEntries : GoodIn wsX2_collect (wsV RX2 98 RX2 yX2_writeEntries wsX2_writeEntries) := goodIn_app (goodIn_of _ (by decide +kernel)) ggX2_collect_X2_writeEntries
set_option maxRecDepth 20000 in
theorem ggX2_collect_X2_writeOnce : GoodIn wsX2_collect wsX2_writeOnce := goodIn_r _ [79, 80, 81, 82, 83, 10, 84, 75, 5, 12, 85, 86, 87, 88, 89, 90, 91, 92, 93, 94] (by decide +kernel) (by decide +kernel)
set_option maxRecDepth 20000 in
theorem gX2_collect_X2_writeOnce : GoodIn wsX2_collect (wsV RX2 102 RX2 yX2_writeOnce wsX2_writeOnce) := goodIn_app (goodIn_of _ (by decide +kernel)) ggX2_collect_X2_writeOnce
theorem dX2_collect_0 : decode cX2_collect 0 = .ok (.iload_n 1, 1) := by decide +kernel
theorem dX2_collect_1 : decode cX2_collect 1 = .ok (.iconst 1, 1) := by decide +kernel
theorem dX2_collect_2 : decode cX2_collect 2 = .ok (.if_icmp .lt 9, 3) := by decide +kernel
theorem dX2_collect_5 : decode cX2_collect 5 = .ok (.iload_n 1, 1) := by decide +kernel
theorem dX2_collect_6 : decode cX2_collect 6 = .ok (.bipush 96, 2) := by decide +kernel
theorem dX2_collect_8 : decode cX2_collect 8 = .ok (.if_icmp .le 13, 3) := by decide +kernel
theorem dX2_collect_11 : decode cX2_collect 11 = .ok (.new 53, 3) := by decide +kernel
theorem dX2_collect_14 : decode cX2_collect 14 = .ok (.dup, 1) := by decide +kernel
theorem dX2_collect_15 : decode cX2_collect 15 = .ok (.ldc 109, 2) := by decide +kernel
theorem dX2_collect_17 : decode cX2_collect 17 = .ok (.invokespecial 57, 3) := by decide +kernel
theorem dX2_collect_20 : decode cX2_collect 20 = .ok (.athrow, 1) := by decide +kernel
theorem dX2_collect_21 : decode cX2_collect 21 = .ok (.aload_n 0, 1) := by decide +kernel
theorem dX2_collect_22 : decode cX2_collect 22 = .ok (.invokevirtual 60, 3) := by decide +kernel
theorem dX2_collect_25 : decode cX2_collect 25 = .ok (.iload_n 1, 1) := by decide +kernel
theorem dX2_collect_26 : decode cX2_collect 26 = .ok (.aload_n 0, 1) := by decide +kernel
theorem dX2_collect_27 : decode cX2_collect 27 = .ok (.getfield 33, 3) := by decide +kernel
theorem dX2_collect_30 : decode cX2_collect 30 = .ok (.aload_n 0, 1) := by decide +kernel
theorem dX2_collect_31 : decode cX2_collect 31 = .ok (.getfield 37, 3) := by decide +kernel
theorem dX2_collect_34 : decode cX2_collect 34 = .ok (.isub, 1) := by decide +kernel
theorem dX2_collect_35 : decode cX2_collect 35 = .ok (.if_icmp .le 13, 3) := by decide +kernel
theorem dX2_collect_38 : decode cX2_collect 38 = .ok (.new 74, 3) := by decide +kernel
theorem dX2_collect_41 : decode cX2_collect 41 = .ok (.dup, 1) := by decide +kernel
theorem dX2_collect_42 : decode cX2_collect 42 = .ok (.ldc 111, 2) := by decide +kernel
theorem dX2_collect_44 : decode cX2_collect 44 = .ok (.invokespecial 78, 3) := by decide +kernel
theorem dX2_collect_47 : decode cX2_collect 47 = .ok (.athrow, 1) := by decide +kernel
theorem dX2_collect_48 : decode cX2_collect 48 = .ok (.aload_n 0, 1) := by decide +kernel
theorem dX2_collect_49 : decode cX2_collect 49 = .ok (.aload_n 0, 1) := by decide +kernel
theorem dX2_collect_50 : decode cX2_collect 50 = .ok (.iload_n 1, 1) := by decide +kernel
theorem dX2_collect_51 : decode cX2_collect 51 = .ok (.invokevirtual 113, 3) := by decide +kernel
theorem dX2_collect_54 : decode cX2_collect 54 = .ok (.invokevirtual 63, 3) := by decide +kernel
theorem dX2_collect_57 : decode cX2_collect 57 = .ok (.aload_n 0, 1) := by decide +kernel
theorem dX2_collect_58 : decode cX2_collect 58 = .ok (.iload_n 1, 1) := by decide +kernel
theorem dX2_collect_59 : decode cX2_collect 59 = .ok (.invokevirtual 116, 3) := by decide +kernel
theorem dX2_collect_62 : decode cX2_collect 62 = .ok (.aload_n 0, 1) := by decide +kernel
theorem dX2_collect_63 : decode cX2_collect 63 = .ok (.invokevirtual 98, 3) := by decide +kernel
theorem dX2_collect_66 : decode cX2_collect 66 = .ok (.ifCond .eq 10, 3) := by decide +kernel
theorem dX2_collect_69 : decode cX2_collect 69 = .ok (.aload_n 0, 1) := by decide +kernel
theorem dX2_collect_70 : decode cX2_collect 70 = .ok (.invokevirtual 102, 3) := by decide +kernel
theorem dX2_collect_73 : decode cX2_collect 73 = .ok (.ifCond .ne 5, 3) := by decide +kernel
theorem dX2_collect_76 : decode cX2_collect 76 = .ok (.iconst 0, 1) := by decide +kernel
theorem dX2_collect_77 : decode cX2_collect 77 = .ok (.ireturn, 1) := by decide +kernel
theorem dX2_collect_78 : decode cX2_collect 78 = .ok (.aload_n 0, 1) := by decide +kernel
theorem dX2_collect_79 : decode cX2_collect 79 = .ok (.dup, 1) := by decide +kernel
theorem dX2_collect_80 : decode cX2_collect 80 = .ok (.getfield 37, 3) := by decide +kernel
theorem dX2_collect_83 : decode cX2_collect 83 = .ok (.iload_n 1, 1) := by decide +kernel
theorem dX2_collect_84 : decode cX2_collect 84 = .ok (.iadd, 1) := by decide +kernel
theorem dX2_collect_85 : decode cX2_collect 85 = .ok (.putfield 37, 3) := by decide +kernel
theorem dX2_collect_88 : decode cX2_collect 88 = .ok (.iconst 1, 1) := by decide +kernel
theorem dX2_collect_89 : decode cX2_collect 89 = .ok (.ireturn, 1) := by decide +kernel
theorem dX2_failAfter_0 : decode cX2_failAfter 0 = .ok (.iload_n 1, 1) := by decide +kernel
theorem dX2_failAfter_1 : decode cX2_failAfter 1 = .ok (.iconst (-1), 1) := by decide +kernel
theorem dX2_failAfter_2 : decode cX2_failAfter 2 = .ok (.if_icmp .eq 24, 3) := by decide +kernel
theorem dX2_failAfter_5 : decode cX2_failAfter 5 = .ok (.iload_n 1, 1) := by decide +kernel
theorem dX2_failAfter_6 : decode cX2_failAfter 6 = .ok (.ifCond .lt 10, 3) := by decide +kernel
theorem dX2_failAfter_9 : decode cX2_failAfter 9 = .ok (.iload_n 1, 1) := by decide +kernel
theorem dX2_failAfter_10 : decode cX2_failAfter 10 = .ok (.sipush 1000, 3) := by decide +kernel
theorem dX2_failAfter_13 : decode cX2_failAfter 13 = .ok (.if_icmp .le 13, 3) := by decide +kernel
theorem dX2_failAfter_16 : decode cX2_failAfter 16 = .ok (.new 53, 3) := by decide +kernel
theorem dX2_failAfter_19 : decode cX2_failAfter 19 = .ok (.dup, 1) := by decide +kernel
theorem dX2_failAfter_20 : decode cX2_failAfter 20 = .ok (.ldc 119, 2) := by decide +kernel
theorem dX2_failAfter_22 : decode cX2_failAfter 22 = .ok (.invokespecial 57, 3) := by decide +kernel
theorem dX2_failAfter_25 : decode cX2_failAfter 25 = .ok (.athrow, 1) := by decide +kernel
theorem dX2_failAfter_26 : decode cX2_failAfter 26 = .ok (.aload_n 0, 1) := by decide +kernel
theorem dX2_failAfter_27 : decode cX2_failAfter 27 = .ok (.iload_n 1, 1) := by decide +kernel
theorem dX2_failAfter_28 : decode cX2_failAfter 28 = .ok (.putfield 46, 3) := by decide +kernel
theorem dX2_failAfter_31 : decode cX2_failAfter 31 = .ok (.return_, 1) := by decide +kernel
set_option maxRecDepth 20000 in
theorem ggX2_crash_X2_needUp : GoodIn wsX2_crash wsX2_needUp := goodIn_ca (goodIn_r _ [7, 8, 9, 10, 15, 16, 17, 18, 19, 20, 21, 22, 23, 24] (by decide +kernel) (by decide +kernel)) (goodIn_sub (fun _ h => List.mem_cons_of_mem _ (List.mem_append_right _ h)) (by decide +kernel))
set_option maxRecDepth 20000 in
theorem gX2_crash_X2_needUp : GoodIn wsX2_crash (wsV RX2 60 RX2 yX2_needUp wsX2_needUp) := goodIn_app (goodIn_of _ (by decide +kernel)) ggX2_crash_X2_needUp
set_option maxRecDepth 20000 in
theorem ggX2_crash_X2_losePower : GoodIn wsX2_crash wsX2_losePower := goodIn_r _ [14, 2, 1, 10, 15, 16, 17, 18, 19, 20, 21, 22, 23, 24] (by decide +kernel) (by decide +kernel)
set_option maxRecDepth 20000 in
theorem gX2_crash_X2_losePower : GoodIn wsX2_crash (wsV RX2 121 RX2 yX2_losePower wsX2_losePower) := goodIn_app (goodIn_of _ (by decide +kernel)) ggX2_crash_X2_losePower
theorem dX2_crash_0 : decode cX2_crash 0 = .ok (.aload_n 0, 1) := by decide +kernel
theorem dX2_crash_1 : decode cX2_crash 1 = .ok (.invokevirtual 60, 3) := by decide +kernel
theorem dX2_crash_4 : decode cX2_crash 4 = .ok (.aload_n 0, 1) := by decide +kernel
theorem dX2_crash_5 : decode cX2_crash 5 = .ok (.getfield 33, 3) := by decide +kernel
theorem dX2_crash_8 : decode cX2_crash 8 = .ok (.aload_n 0, 1) := by decide +kernel
theorem dX2_crash_9 : decode cX2_crash 9 = .ok (.getfield 40, 3) := by decide +kernel
theorem dX2_crash_12 : decode cX2_crash 12 = .ok (.isub, 1) := by decide +kernel
theorem dX2_crash_13 : decode cX2_crash 13 = .ok (.istore_n 1, 1) := by decide +kernel
theorem dX2_crash_14 : decode cX2_crash 14 = .ok (.aload_n 0, 1) := by decide +kernel
theorem dX2_crash_15 : decode cX2_crash 15 = .ok (.invokevirtual 121, 3) := by decide +kernel
theorem dX2_crash_18 : decode cX2_crash 18 = .ok (.iload_n 1, 1) := by decide +kernel
theorem dX2_crash_19 : decode cX2_crash 19 = .ok (.ireturn, 1) := by decide +kernel
set_option maxRecDepth 20000 in
theorem ggX2_start_X2_recover : GoodIn wsX2_start wsX2_recover := goodIn_r _ [9, 10, 11, 12, 13, 14, 15, 16, 17, 18, 19, 20, 21, 22, 23, 24, 25, 26, 27, 28, 29, 30, 31, 32, 33, 34, 8, 35, 36, 37, 38, 39, 40, 41, 42, 43, 44, 45, 46, 47, 48, 49, 50, 51, 52, 53, 54, 55, 60, 61, 62, 63, 64, 65, 66, 67, 68, 69, 70, 71, 72] (by decide +kernel) (by decide +kernel)
set_option maxRecDepth 20000 in
theorem gX2_start_X2_recover : GoodIn wsX2_start (wsV RX2 126 RX2 yX2_recover wsX2_recover) := goodIn_app (goodIn_of _ (by decide +kernel)) ggX2_start_X2_recover
set_option maxRecDepth 20000 in
theorem ggX2_start_X0_size : GoodIn wsX2_start wsX0_size := goodIn_r _ [59, 23, 70] (by decide +kernel) (by decide +kernel)
set_option maxRecDepth 20000 in
theorem gX2_start_X0_size : GoodIn wsX2_start (wsV RX2 129 RX0 yX0_size wsX0_size) := goodIn_app (goodIn_of _ (by decide +kernel)) ggX2_start_X0_size
theorem dX2_start_0 : decode cX2_start 0 = .ok (.aload_n 0, 1) := by decide +kernel
theorem dX2_start_1 : decode cX2_start 1 = .ok (.getfield 29, 3) := by decide +kernel
theorem dX2_start_4 : decode cX2_start 4 = .ok (.ifCond .eq 13, 3) := by decide +kernel
theorem dX2_start_7 : decode cX2_start 7 = .ok (.new 74, 3) := by decide +kernel
theorem dX2_start_10 : decode cX2_start 10 = .ok (.dup, 1) := by decide +kernel
theorem dX2_start_11 : decode cX2_start 11 = .ok (.ldc 124, 2) := by decide +kernel
theorem dX2_start_13 : decode cX2_start 13 = .ok (.invokespecial 78, 3) := by decide +kernel
theorem dX2_start_16 : decode cX2_start 16 = .ok (.athrow, 1) := by decide +kernel
theorem dX2_start_17 : decode cX2_start 17 = .ok (.aload_n 0, 1) := by decide +kernel
theorem dX2_start_18 : decode cX2_start 18 = .ok (.aload_n 0, 1) := by decide +kernel
theorem dX2_start_19 : decode cX2_start 19 = .ok (.getfield 19, 3) := by decide +kernel
theorem dX2_start_22 : decode cX2_start 22 = .ok (.invokevirtual 126, 3) := by decide +kernel
theorem dX2_start_25 : decode cX2_start 25 = .ok (.aload_n 0, 1) := by decide +kernel
theorem dX2_start_26 : decode cX2_start 26 = .ok (.iconst 1, 1) := by decide +kernel
theorem dX2_start_27 : decode cX2_start 27 = .ok (.putfield 29, 3) := by decide +kernel
theorem dX2_start_30 : decode cX2_start 30 = .ok (.aload_n 0, 1) := by decide +kernel
theorem dX2_start_31 : decode cX2_start 31 = .ok (.getfield 19, 3) := by decide +kernel
theorem dX2_start_34 : decode cX2_start 34 = .ok (.invokevirtual 129, 3) := by decide +kernel
theorem dX2_start_37 : decode cX2_start 37 = .ok (.ireturn, 1) := by decide +kernel
theorem dX2_isUp_0 : decode cX2_isUp 0 = .ok (.aload_n 0, 1) := by decide +kernel
theorem dX2_isUp_1 : decode cX2_isUp 1 = .ok (.getfield 29, 3) := by decide +kernel
theorem dX2_isUp_4 : decode cX2_isUp 4 = .ok (.ireturn, 1) := by decide +kernel
theorem dX2_head_0 : decode cX2_head 0 = .ok (.aload_n 0, 1) := by decide +kernel
theorem dX2_head_1 : decode cX2_head 1 = .ok (.getfield 33, 3) := by decide +kernel
theorem dX2_head_4 : decode cX2_head 4 = .ok (.ireturn, 1) := by decide +kernel
theorem dX2_tail_0 : decode cX2_tail 0 = .ok (.aload_n 0, 1) := by decide +kernel
theorem dX2_tail_1 : decode cX2_tail 1 = .ok (.getfield 37, 3) := by decide +kernel
theorem dX2_tail_4 : decode cX2_tail 4 = .ok (.ireturn, 1) := by decide +kernel
theorem dX2_written_0 : decode cX2_written 0 = .ok (.aload_n 0, 1) := by decide +kernel
theorem dX2_written_1 : decode cX2_written 1 = .ok (.getfield 40, 3) := by decide +kernel
theorem dX2_written_4 : decode cX2_written 4 = .ok (.ireturn, 1) := by decide +kernel
theorem dX2_checkpointAt_0 : decode cX2_checkpointAt 0 = .ok (.aload_n 0, 1) := by decide +kernel
theorem dX2_checkpointAt_1 : decode cX2_checkpointAt 1 = .ok (.getfield 43, 3) := by decide +kernel
theorem dX2_checkpointAt_4 : decode cX2_checkpointAt 4 = .ok (.ireturn, 1) := by decide +kernel
set_option maxRecDepth 20000 in
theorem ggX2_positionOf_X2_needKey : GoodIn wsX2_positionOf wsX2_needKey := goodIn_ca (goodIn_r _ [5, 6, 7] (by decide +kernel) (by decide +kernel)) (goodIn_sub (fun _ h => List.mem_cons_of_mem _ (List.mem_append_left _ (List.mem_append_right _ h))) (by decide +kernel))
set_option maxRecDepth 20000 in
theorem gX2_positionOf_X2_needKey : GoodIn wsX2_positionOf (va_wsS RX2 49 yX2_needKey wsX2_needKey) := goodIn_app (goodIn_of _ (by decide +kernel)) ggX2_positionOf_X2_needKey
set_option maxRecDepth 20000 in
theorem ggX2_positionOf_X2_needUp : GoodIn wsX2_positionOf wsX2_needUp := goodIn_ca (goodIn_r _ [11, 12, 13, 14, 21, 22, 23, 24, 25, 26, 27, 28, 29, 30] (by decide +kernel) (by decide +kernel)) (goodIn_sub (fun _ h => List.mem_cons_of_mem _ (List.mem_append_right _ h)) (by decide +kernel))
set_option maxRecDepth 20000 in
theorem gX2_positionOf_X2_needUp : GoodIn wsX2_positionOf (wsV RX2 60 RX2 yX2_needUp wsX2_needUp) := goodIn_app (goodIn_of _ (by decide +kernel)) ggX2_positionOf_X2_needUp
set_option maxRecDepth 20000 in
theorem ggX2_positionOf_X0_find : GoodIn wsX2_positionOf wsX0_find := goodIn_r _ [19, 20, 31] (by decide +kernel) (by decide +kernel)
set_option maxRecDepth 20000 in
theorem gX2_positionOf_X0_find : GoodIn wsX2_positionOf (wsV RX2 90 RX0 yX0_find wsX0_find) := goodIn_app (goodIn_of _ (by decide +kernel)) ggX2_positionOf_X0_find
theorem dX2_positionOf_0 : decode cX2_positionOf 0 = .ok (.iload_n 1, 1) := by decide +kernel
theorem dX2_positionOf_1 : decode cX2_positionOf 1 = .ok (.invokestatic 49, 3) := by decide +kernel
theorem dX2_positionOf_4 : decode cX2_positionOf 4 = .ok (.aload_n 0, 1) := by decide +kernel
theorem dX2_positionOf_5 : decode cX2_positionOf 5 = .ok (.invokevirtual 60, 3) := by decide +kernel
theorem dX2_positionOf_8 : decode cX2_positionOf 8 = .ok (.aload_n 0, 1) := by decide +kernel
theorem dX2_positionOf_9 : decode cX2_positionOf 9 = .ok (.getfield 19, 3) := by decide +kernel
theorem dX2_positionOf_12 : decode cX2_positionOf 12 = .ok (.iload_n 1, 1) := by decide +kernel
theorem dX2_positionOf_13 : decode cX2_positionOf 13 = .ok (.invokevirtual 90, 3) := by decide +kernel
theorem dX2_positionOf_16 : decode cX2_positionOf 16 = .ok (.ireturn, 1) := by decide +kernel
set_option maxRecDepth 20000 in
theorem ggX2_segments_X2_segmentOf : GoodIn wsX2_segments wsX2_segmentOf := goodIn_r _ [6] (by decide +kernel) (by decide +kernel)
set_option maxRecDepth 20000 in
theorem gX2_segments_X2_segmentOf : GoodIn wsX2_segments (va_wsS RX2 87 yX2_segmentOf wsX2_segmentOf) := goodIn_app (goodIn_of _ (by decide +kernel)) ggX2_segments_X2_segmentOf
theorem dX2_segments_0 : decode cX2_segments 0 = .ok (.aload_n 0, 1) := by decide +kernel
theorem dX2_segments_1 : decode cX2_segments 1 = .ok (.getfield 33, 3) := by decide +kernel
theorem dX2_segments_4 : decode cX2_segments 4 = .ok (.aload_n 0, 1) := by decide +kernel
theorem dX2_segments_5 : decode cX2_segments 5 = .ok (.getfield 37, 3) := by decide +kernel
theorem dX2_segments_8 : decode cX2_segments 8 = .ok (.if_icmp .gt 5, 3) := by decide +kernel
theorem dX2_segments_11 : decode cX2_segments 11 = .ok (.iconst 0, 1) := by decide +kernel
theorem dX2_segments_12 : decode cX2_segments 12 = .ok (.ireturn, 1) := by decide +kernel
theorem dX2_segments_13 : decode cX2_segments 13 = .ok (.aload_n 0, 1) := by decide +kernel
theorem dX2_segments_14 : decode cX2_segments 14 = .ok (.getfield 33, 3) := by decide +kernel
theorem dX2_segments_17 : decode cX2_segments 17 = .ok (.iconst 1, 1) := by decide +kernel
theorem dX2_segments_18 : decode cX2_segments 18 = .ok (.isub, 1) := by decide +kernel
theorem dX2_segments_19 : decode cX2_segments 19 = .ok (.invokestatic 87, 3) := by decide +kernel
theorem dX2_segments_22 : decode cX2_segments 22 = .ok (.aload_n 0, 1) := by decide +kernel
theorem dX2_segments_23 : decode cX2_segments 23 = .ok (.getfield 37, 3) := by decide +kernel
theorem dX2_segments_26 : decode cX2_segments 26 = .ok (.invokestatic 87, 3) := by decide +kernel
theorem dX2_segments_29 : decode cX2_segments 29 = .ok (.isub, 1) := by decide +kernel
theorem dX2_segments_30 : decode cX2_segments 30 = .ok (.iconst 1, 1) := by decide +kernel
theorem dX2_segments_31 : decode cX2_segments 31 = .ok (.iadd, 1) := by decide +kernel
theorem dX2_segments_32 : decode cX2_segments 32 = .ok (.ireturn, 1) := by decide +kernel
set_option maxRecDepth 20000 in
theorem ggX2_live_X2_needUp : GoodIn wsX2_live wsX2_needUp := goodIn_ca (goodIn_r _ [7, 8, 9, 10, 37, 38, 39, 40, 41, 42, 43, 44, 45, 46] (by decide +kernel) (by decide +kernel)) (goodIn_sub (fun _ h => List.mem_cons_of_mem _ (List.mem_append_right _ h)) (by decide +kernel))
set_option maxRecDepth 20000 in
theorem gX2_live_X2_needUp : GoodIn wsX2_live (wsV RX2 60 RX2 yX2_needUp wsX2_needUp) := goodIn_app (goodIn_of _ (by decide +kernel)) ggX2_live_X2_needUp
set_option maxRecDepth 20000 in
theorem ggX2_live_X2_liveFromTail : GoodIn wsX2_live wsX2_liveFromTail := goodIn_r _ [14, 2, 15, 16, 17, 6, 18, 19, 20, 21, 22, 23, 24, 25, 26, 27, 28, 29, 30, 31, 32, 33, 34, 35, 36, 37, 38, 39, 40, 41, 42, 43, 44, 45, 46, 47, 48, 49] (by decide +kernel) (by decide +kernel)
set_option maxRecDepth 20000 in
theorem gX2_live_X2_liveFromTail : GoodIn wsX2_live (wsV RX2 113 RX2 yX2_liveFromTail wsX2_liveFromTail) := goodIn_app (goodIn_of _ (by decide +kernel)) ggX2_live_X2_liveFromTail
theorem dX2_live_0 : decode cX2_live 0 = .ok (.aload_n 0, 1) := by decide +kernel
theorem dX2_live_1 : decode cX2_live 1 = .ok (.invokevirtual 60, 3) := by decide +kernel
theorem dX2_live_4 : decode cX2_live 4 = .ok (.aload_n 0, 1) := by decide +kernel
theorem dX2_live_5 : decode cX2_live 5 = .ok (.aload_n 0, 1) := by decide +kernel
theorem dX2_live_6 : decode cX2_live 6 = .ok (.getfield 33, 3) := by decide +kernel
theorem dX2_live_9 : decode cX2_live 9 = .ok (.aload_n 0, 1) := by decide +kernel
theorem dX2_live_10 : decode cX2_live 10 = .ok (.getfield 37, 3) := by decide +kernel
theorem dX2_live_13 : decode cX2_live 13 = .ok (.isub, 1) := by decide +kernel
theorem dX2_live_14 : decode cX2_live 14 = .ok (.invokevirtual 113, 3) := by decide +kernel
theorem dX2_live_17 : decode cX2_live 17 = .ok (.ireturn, 1) := by decide +kernel
set_option maxRecDepth 20000 in
theorem ggX2_toFree_X2_segmentOf : GoodIn wsX2_toFree wsX2_segmentOf := goodIn_r _ [6] (by decide +kernel) (by decide +kernel)
set_option maxRecDepth 20000 in
theorem gX2_toFree_X2_segmentOf : GoodIn wsX2_toFree (va_wsS RX2 87 yX2_segmentOf wsX2_segmentOf) := goodIn_app (goodIn_of _ (by decide +kernel)) ggX2_toFree_X2_segmentOf
theorem dX2_toFree_0 : decode cX2_toFree 0 = .ok (.aload_n 0, 1) := by decide +kernel
theorem dX2_toFree_1 : decode cX2_toFree 1 = .ok (.getfield 37, 3) := by decide +kernel
theorem dX2_toFree_4 : decode cX2_toFree 4 = .ok (.invokestatic 87, 3) := by decide +kernel
theorem dX2_toFree_7 : decode cX2_toFree 7 = .ok (.iconst 1, 1) := by decide +kernel
theorem dX2_toFree_8 : decode cX2_toFree 8 = .ok (.iadd, 1) := by decide +kernel
theorem dX2_toFree_9 : decode cX2_toFree 9 = .ok (.bipush 8, 2) := by decide +kernel
theorem dX2_toFree_11 : decode cX2_toFree 11 = .ok (.imul, 1) := by decide +kernel
theorem dX2_toFree_12 : decode cX2_toFree 12 = .ok (.aload_n 0, 1) := by decide +kernel
theorem dX2_toFree_13 : decode cX2_toFree 13 = .ok (.getfield 37, 3) := by decide +kernel
theorem dX2_toFree_16 : decode cX2_toFree 16 = .ok (.isub, 1) := by decide +kernel
theorem dX2_toFree_17 : decode cX2_toFree 17 = .ok (.istore_n 1, 1) := by decide +kernel
theorem dX2_toFree_18 : decode cX2_toFree 18 = .ok (.iload_n 1, 1) := by decide +kernel
theorem dX2_toFree_19 : decode cX2_toFree 19 = .ok (.aload_n 0, 1) := by decide +kernel
theorem dX2_toFree_20 : decode cX2_toFree 20 = .ok (.getfield 33, 3) := by decide +kernel
theorem dX2_toFree_23 : decode cX2_toFree 23 = .ok (.aload_n 0, 1) := by decide +kernel
theorem dX2_toFree_24 : decode cX2_toFree 24 = .ok (.getfield 37, 3) := by decide +kernel
theorem dX2_toFree_27 : decode cX2_toFree 27 = .ok (.isub, 1) := by decide +kernel
theorem dX2_toFree_28 : decode cX2_toFree 28 = .ok (.if_icmp .gt 7, 3) := by decide +kernel
theorem dX2_toFree_31 : decode cX2_toFree 31 = .ok (.iload_n 1, 1) := by decide +kernel
theorem dX2_toFree_32 : decode cX2_toFree 32 = .ok (.goto 4, 3) := by decide +kernel
theorem dX2_toFree_35 : decode cX2_toFree 35 = .ok (.iconst (-1), 1) := by decide +kernel
theorem dX2_toFree_36 : decode cX2_toFree 36 = .ok (.ireturn, 1) := by decide +kernel
set_option maxRecDepth 20000 in
theorem ggX2_wouldHave_X2_recover : GoodIn wsX2_wouldHave wsX2_recover := goodIn_r _ [6, 7, 8, 9, 10, 11, 12, 13, 14, 15, 16, 17, 18, 19, 20, 21, 22, 23, 24, 25, 26, 27, 28, 29, 30, 31, 5, 32, 33, 34, 35, 36, 37, 38, 39, 40, 41, 42, 43, 44, 45, 46, 47, 48, 49, 50, 51, 52, 57, 58, 59, 60, 61, 62, 63, 64, 65, 66, 67, 68, 69] (by decide +kernel) (by decide +kernel)
set_option maxRecDepth 20000 in
theorem gX2_wouldHave_X2_recover : GoodIn wsX2_wouldHave (wsV RX2 126 RX2 yX2_recover wsX2_recover) := goodIn_app (goodIn_of _ (by decide +kernel)) ggX2_wouldHave_X2_recover
set_option maxRecDepth 20000 in
theorem ggX2_wouldHave_X0_size : GoodIn wsX2_wouldHave wsX0_size := goodIn_r _ [56, 20, 67] (by decide +kernel) (by decide +kernel)
set_option maxRecDepth 20000 in
theorem gX2_wouldHave_X0_size : GoodIn wsX2_wouldHave (wsV RX2 129 RX0 yX0_size wsX0_size) := goodIn_app (goodIn_of _ (by decide +kernel)) ggX2_wouldHave_X0_size
theorem dX2_wouldHave_0 : decode cX2_wouldHave 0 = .ok (.aload_n 0, 1) := by decide +kernel
theorem dX2_wouldHave_1 : decode cX2_wouldHave 1 = .ok (.aload_n 0, 1) := by decide +kernel
theorem dX2_wouldHave_2 : decode cX2_wouldHave 2 = .ok (.getfield 26, 3) := by decide +kernel
theorem dX2_wouldHave_5 : decode cX2_wouldHave 5 = .ok (.invokevirtual 126, 3) := by decide +kernel
theorem dX2_wouldHave_8 : decode cX2_wouldHave 8 = .ok (.aload_n 0, 1) := by decide +kernel
theorem dX2_wouldHave_9 : decode cX2_wouldHave 9 = .ok (.getfield 26, 3) := by decide +kernel
theorem dX2_wouldHave_12 : decode cX2_wouldHave 12 = .ok (.invokevirtual 129, 3) := by decide +kernel
theorem dX2_wouldHave_15 : decode cX2_wouldHave 15 = .ok (.ireturn, 1) := by decide +kernel
theorem dX2_needKey_0 : decode cX2_needKey 0 = .ok (.iload_n 0, 1) := by decide +kernel
theorem dX2_needKey_1 : decode cX2_needKey 1 = .ok (.ifCond .lt 9, 3) := by decide +kernel
theorem dX2_needKey_4 : decode cX2_needKey 4 = .ok (.iload_n 0, 1) := by decide +kernel
theorem dX2_needKey_5 : decode cX2_needKey 5 = .ok (.bipush 64, 2) := by decide +kernel
theorem dX2_needKey_7 : decode cX2_needKey 7 = .ok (.if_icmp .lt 13, 3) := by decide +kernel
theorem dX2_needKey_10 : decode cX2_needKey 10 = .ok (.new 53, 3) := by decide +kernel
theorem dX2_needKey_13 : decode cX2_needKey 13 = .ok (.dup, 1) := by decide +kernel
theorem dX2_needKey_14 : decode cX2_needKey 14 = .ok (.ldc 133, 2) := by decide +kernel
theorem dX2_needKey_16 : decode cX2_needKey 16 = .ok (.invokespecial 57, 3) := by decide +kernel
theorem dX2_needKey_19 : decode cX2_needKey 19 = .ok (.athrow, 1) := by decide +kernel
theorem dX2_needKey_20 : decode cX2_needKey 20 = .ok (.return_, 1) := by decide +kernel
set_option maxRecDepth 20000 in
theorem ggX2_needRange_X2_needKey : GoodIn wsX2_needRange wsX2_needKey := goodIn_ca (goodIn_r _ [6, 1, 2] (by decide +kernel) (by decide +kernel)) (goodIn_sub (fun _ h => List.mem_cons_of_mem _ (List.mem_append_right _ h)) (by decide +kernel))
set_option maxRecDepth 20000 in
theorem gX2_needRange_X2_needKey : GoodIn wsX2_needRange (va_wsS RX2 49 yX2_needKey wsX2_needKey) := goodIn_app (goodIn_of _ (by decide +kernel)) ggX2_needRange_X2_needKey
theorem dX2_needRange_0 : decode cX2_needRange 0 = .ok (.iload_n 0, 1) := by decide +kernel
theorem dX2_needRange_1 : decode cX2_needRange 1 = .ok (.invokestatic 49, 3) := by decide +kernel
theorem dX2_needRange_4 : decode cX2_needRange 4 = .ok (.iload_n 1, 1) := by decide +kernel
theorem dX2_needRange_5 : decode cX2_needRange 5 = .ok (.invokestatic 49, 3) := by decide +kernel
theorem dX2_needRange_8 : decode cX2_needRange 8 = .ok (.iload_n 1, 1) := by decide +kernel
theorem dX2_needRange_9 : decode cX2_needRange 9 = .ok (.iload_n 0, 1) := by decide +kernel
theorem dX2_needRange_10 : decode cX2_needRange 10 = .ok (.if_icmp .ge 13, 3) := by decide +kernel
theorem dX2_needRange_13 : decode cX2_needRange 13 = .ok (.new 53, 3) := by decide +kernel
theorem dX2_needRange_16 : decode cX2_needRange 16 = .ok (.dup, 1) := by decide +kernel
theorem dX2_needRange_17 : decode cX2_needRange 17 = .ok (.ldc 135, 2) := by decide +kernel
theorem dX2_needRange_19 : decode cX2_needRange 19 = .ok (.invokespecial 57, 3) := by decide +kernel
theorem dX2_needRange_22 : decode cX2_needRange 22 = .ok (.athrow, 1) := by decide +kernel
theorem dX2_needRange_23 : decode cX2_needRange 23 = .ok (.return_, 1) := by decide +kernel
theorem dX2_needUp_0 : decode cX2_needUp 0 = .ok (.aload_n 0, 1) := by decide +kernel
theorem dX2_needUp_1 : decode cX2_needUp 1 = .ok (.getfield 29, 3) := by decide +kernel
theorem dX2_needUp_4 : decode cX2_needUp 4 = .ok (.ifCond .ne 13, 3) := by decide +kernel
theorem dX2_needUp_7 : decode cX2_needUp 7 = .ok (.new 74, 3) := by decide +kernel
theorem dX2_needUp_10 : decode cX2_needUp 10 = .ok (.dup, 1) := by decide +kernel
theorem dX2_needUp_11 : decode cX2_needUp 11 = .ok (.ldc 137, 2) := by decide +kernel
theorem dX2_needUp_13 : decode cX2_needUp 13 = .ok (.invokespecial 78, 3) := by decide +kernel
theorem dX2_needUp_16 : decode cX2_needUp 16 = .ok (.athrow, 1) := by decide +kernel
theorem dX2_needUp_17 : decode cX2_needUp 17 = .ok (.return_, 1) := by decide +kernel
set_option maxRecDepth 20000 in
theorem ggX2_needRoom_X2_segmentOf : GoodIn wsX2_needRoom wsX2_segmentOf := goodIn_r _ [8] (by decide +kernel) (by decide +kernel)
set_option maxRecDepth 20000 in
theorem gX2_needRoom_X2_segmentOf : GoodIn wsX2_needRoom (va_wsS RX2 87 yX2_segmentOf wsX2_segmentOf) := goodIn_app (goodIn_of _ (by decide +kernel)) ggX2_needRoom_X2_segmentOf
theorem dX2_needRoom_0 : decode cX2_needRoom 0 = .ok (.aload_n 0, 1) := by decide +kernel
theorem dX2_needRoom_1 : decode cX2_needRoom 1 = .ok (.getfield 37, 3) := by decide +kernel
theorem dX2_needRoom_4 : decode cX2_needRoom 4 = .ok (.invokestatic 87, 3) := by decide +kernel
theorem dX2_needRoom_7 : decode cX2_needRoom 7 = .ok (.bipush 8, 2) := by decide +kernel
theorem dX2_needRoom_9 : decode cX2_needRoom 9 = .ok (.imul, 1) := by decide +kernel
theorem dX2_needRoom_10 : decode cX2_needRoom 10 = .ok (.bipush 96, 2) := by decide +kernel
theorem dX2_needRoom_12 : decode cX2_needRoom 12 = .ok (.iadd, 1) := by decide +kernel
theorem dX2_needRoom_13 : decode cX2_needRoom 13 = .ok (.istore_n 2, 1) := by decide +kernel
theorem dX2_needRoom_14 : decode cX2_needRoom 14 = .ok (.iload_n 1, 1) := by decide +kernel
theorem dX2_needRoom_15 : decode cX2_needRoom 15 = .ok (.iload_n 2, 1) := by decide +kernel
theorem dX2_needRoom_16 : decode cX2_needRoom 16 = .ok (.aload_n 0, 1) := by decide +kernel
theorem dX2_needRoom_17 : decode cX2_needRoom 17 = .ok (.getfield 33, 3) := by decide +kernel
theorem dX2_needRoom_20 : decode cX2_needRoom 20 = .ok (.isub, 1) := by decide +kernel
theorem dX2_needRoom_21 : decode cX2_needRoom 21 = .ok (.if_icmp .le 13, 3) := by decide +kernel
theorem dX2_needRoom_24 : decode cX2_needRoom 24 = .ok (.new 74, 3) := by decide +kernel
theorem dX2_needRoom_27 : decode cX2_needRoom 27 = .ok (.dup, 1) := by decide +kernel
theorem dX2_needRoom_28 : decode cX2_needRoom 28 = .ok (.ldc 139, 2) := by decide +kernel
theorem dX2_needRoom_30 : decode cX2_needRoom 30 = .ok (.invokespecial 78, 3) := by decide +kernel
theorem dX2_needRoom_33 : decode cX2_needRoom 33 = .ok (.athrow, 1) := by decide +kernel
theorem dX2_needRoom_34 : decode cX2_needRoom 34 = .ok (.return_, 1) := by decide +kernel
theorem dX2_segmentOf_0 : decode cX2_segmentOf 0 = .ok (.iload_n 0, 1) := by decide +kernel
theorem dX2_segmentOf_1 : decode cX2_segmentOf 1 = .ok (.bipush 8, 2) := by decide +kernel
theorem dX2_segmentOf_3 : decode cX2_segmentOf 3 = .ok (.idiv, 1) := by decide +kernel
theorem dX2_segmentOf_4 : decode cX2_segmentOf 4 = .ok (.ireturn, 1) := by decide +kernel
set_option maxRecDepth 20000 in
theorem ggX2_valueOf_X0_find : GoodIn wsX2_valueOf wsX0_find := goodIn_r _ [7, 8, 29] (by decide +kernel) (by decide +kernel)
set_option maxRecDepth 20000 in
theorem gX2_valueOf_X0_find : GoodIn wsX2_valueOf (wsV RX2 90 RX0 yX0_find wsX0_find) := goodIn_app (goodIn_of _ (by decide +kernel)) ggX2_valueOf_X0_find
set_option maxRecDepth 20000 in
theorem ggX2_valueOf_X1_valueAt : GoodIn wsX2_valueOf wsX1_valueAt := goodIn_r _ [13, 14, 15, 16, 17, 18, 30, 31] (by decide +kernel) (by decide +kernel)
set_option maxRecDepth 20000 in
theorem gX2_valueOf_X1_valueAt : GoodIn wsX2_valueOf (wsV RX2 141 RX1 yX1_valueAt wsX1_valueAt) := goodIn_app (goodIn_of _ (by decide +kernel)) ggX2_valueOf_X1_valueAt
theorem dX2_valueOf_0 : decode cX2_valueOf 0 = .ok (.aload_n 0, 1) := by decide +kernel
theorem dX2_valueOf_1 : decode cX2_valueOf 1 = .ok (.getfield 12, 3) := by decide +kernel
theorem dX2_valueOf_4 : decode cX2_valueOf 4 = .ok (.aload_n 0, 1) := by decide +kernel
theorem dX2_valueOf_5 : decode cX2_valueOf 5 = .ok (.getfield 19, 3) := by decide +kernel
theorem dX2_valueOf_8 : decode cX2_valueOf 8 = .ok (.iload_n 1, 1) := by decide +kernel
theorem dX2_valueOf_9 : decode cX2_valueOf 9 = .ok (.invokevirtual 90, 3) := by decide +kernel
theorem dX2_valueOf_12 : decode cX2_valueOf 12 = .ok (.invokevirtual 141, 3) := by decide +kernel
theorem dX2_valueOf_15 : decode cX2_valueOf 15 = .ok (.ireturn, 1) := by decide +kernel
set_option maxRecDepth 20000 in
theorem ggX2_isLive_X1_keyAt : GoodIn wsX2_isLive wsX1_keyAt := goodIn_r _ [7, 8, 9, 10, 11, 12, 29, 30] (by decide +kernel) (by decide +kernel)
set_option maxRecDepth 20000 in
theorem gX2_isLive_X1_keyAt : GoodIn wsX2_isLive (wsV RX2 144 RX1 yX1_keyAt wsX1_keyAt) := goodIn_app (goodIn_of _ (by decide +kernel)) ggX2_isLive_X1_keyAt
set_option maxRecDepth 20000 in
theorem ggX2_isLive_X0_find : GoodIn wsX2_isLive wsX0_find := goodIn_r _ [17, 18, 31] (by decide +kernel) (by decide +kernel)
set_option maxRecDepth 20000 in
theorem gX2_isLive_X0_find : GoodIn wsX2_isLive (wsV RX2 90 RX0 yX0_find wsX0_find) := goodIn_app (goodIn_of _ (by decide +kernel)) ggX2_isLive_X0_find
theorem dX2_isLive_0 : decode cX2_isLive 0 = .ok (.aload_n 0, 1) := by decide +kernel
theorem dX2_isLive_1 : decode cX2_isLive 1 = .ok (.getfield 19, 3) := by decide +kernel
theorem dX2_isLive_4 : decode cX2_isLive 4 = .ok (.aload_n 0, 1) := by decide +kernel
theorem dX2_isLive_5 : decode cX2_isLive 5 = .ok (.getfield 12, 3) := by decide +kernel
theorem dX2_isLive_8 : decode cX2_isLive 8 = .ok (.iload_n 1, 1) := by decide +kernel
theorem dX2_isLive_9 : decode cX2_isLive 9 = .ok (.invokevirtual 144, 3) := by decide +kernel
theorem dX2_isLive_12 : decode cX2_isLive 12 = .ok (.invokevirtual 90, 3) := by decide +kernel
theorem dX2_isLive_15 : decode cX2_isLive 15 = .ok (.iload_n 1, 1) := by decide +kernel
theorem dX2_isLive_16 : decode cX2_isLive 16 = .ok (.if_icmp .ne 7, 3) := by decide +kernel
theorem dX2_isLive_19 : decode cX2_isLive 19 = .ok (.iconst 1, 1) := by decide +kernel
theorem dX2_isLive_20 : decode cX2_isLive 20 = .ok (.goto 4, 3) := by decide +kernel
theorem dX2_isLive_23 : decode cX2_isLive 23 = .ok (.iconst 0, 1) := by decide +kernel
theorem dX2_isLive_24 : decode cX2_isLive 24 = .ok (.ireturn, 1) := by decide +kernel
set_option maxRecDepth 20000 in
theorem ggX2_liveFromTail_X2_isLive : GoodIn wsX2_liveFromTail wsX2_isLive := goodIn_r _ [6, 7, 8, 9, 10, 11, 12, 13, 14, 15, 16, 17, 18, 19, 20, 21, 22, 23, 24, 25, 26, 27, 28, 29, 30, 31, 32, 33, 34, 35, 36, 37] (by decide +kernel) (by decide +kernel)
set_option maxRecDepth 20000 in
theorem gX2_liveFromTail_X2_isLive : GoodIn wsX2_liveFromTail (wsV RX2 147 RX2 yX2_isLive wsX2_isLive) := goodIn_app (goodIn_of _ (by decide +kernel)) ggX2_liveFromTail_X2_isLive
theorem dX2_liveFromTail_0 : decode cX2_liveFromTail 0 = .ok (.aload_n 0, 1) := by decide +kernel
theorem dX2_liveFromTail_1 : decode cX2_liveFromTail 1 = .ok (.getfield 37, 3) := by decide +kernel
theorem dX2_liveFromTail_4 : decode cX2_liveFromTail 4 = .ok (.iload_n 1, 1) := by decide +kernel
theorem dX2_liveFromTail_5 : decode cX2_liveFromTail 5 = .ok (.iadd, 1) := by decide +kernel
theorem dX2_liveFromTail_6 : decode cX2_liveFromTail 6 = .ok (.istore_n 2, 1) := by decide +kernel
theorem dX2_liveFromTail_7 : decode cX2_liveFromTail 7 = .ok (.iconst 0, 1) := by decide +kernel
theorem dX2_liveFromTail_8 : decode cX2_liveFromTail 8 = .ok (.istore_n 3, 1) := by decide +kernel
theorem dX2_liveFromTail_9 : decode cX2_liveFromTail 9 = .ok (.aload_n 0, 1) := by decide +kernel
theorem dX2_liveFromTail_10 : decode cX2_liveFromTail 10 = .ok (.getfield 37, 3) := by decide +kernel
theorem dX2_liveFromTail_13 : decode cX2_liveFromTail 13 = .ok (.istore 4, 2) := by decide +kernel
theorem dX2_liveFromTail_15 : decode cX2_liveFromTail 15 = .ok (.iload 4, 2) := by decide +kernel
theorem dX2_liveFromTail_17 : decode cX2_liveFromTail 17 = .ok (.iload_n 2, 1) := by decide +kernel
theorem dX2_liveFromTail_18 : decode cX2_liveFromTail 18 = .ok (.if_icmp .ge 21, 3) := by decide +kernel
theorem dX2_liveFromTail_21 : decode cX2_liveFromTail 21 = .ok (.aload_n 0, 1) := by decide +kernel
theorem dX2_liveFromTail_22 : decode cX2_liveFromTail 22 = .ok (.iload 4, 2) := by decide +kernel
theorem dX2_liveFromTail_24 : decode cX2_liveFromTail 24 = .ok (.invokevirtual 147, 3) := by decide +kernel
theorem dX2_liveFromTail_27 : decode cX2_liveFromTail 27 = .ok (.ifCond .eq 6, 3) := by decide +kernel
theorem dX2_liveFromTail_30 : decode cX2_liveFromTail 30 = .ok (.iinc 3 1, 3) := by decide +kernel
theorem dX2_liveFromTail_33 : decode cX2_liveFromTail 33 = .ok (.iinc 4 1, 3) := by decide +kernel
theorem dX2_liveFromTail_36 : decode cX2_liveFromTail 36 = .ok (.goto (-21), 3) := by decide +kernel
theorem dX2_liveFromTail_39 : decode cX2_liveFromTail 39 = .ok (.iload_n 3, 1) := by decide +kernel
theorem dX2_liveFromTail_40 : decode cX2_liveFromTail 40 = .ok (.ireturn, 1) := by decide +kernel
set_option maxRecDepth 20000 in
theorem ggX2_append_X1_store : GoodIn wsX2_append wsX1_store := goodIn_r _ [8, 9, 10, 11, 12, 13, 14, 44, 45] (by decide +kernel) (by decide +kernel)
set_option maxRecDepth 20000 in
theorem gX2_append_X1_store : GoodIn wsX2_append (wsV RX2 150 RX1 yX1_store wsX1_store) := goodIn_app (goodIn_of _ (by decide +kernel)) ggX2_append_X1_store
set_option maxRecDepth 20000 in
theorem ggX2_append_X2_follow : GoodIn wsX2_append wsX2_follow := goodIn_r _ [19, 2, 20, 21, 22, 7, 23, 10, 11, 12, 13, 14, 24, 25, 26, 27, 9, 28, 29, 30, 31, 32, 33, 34, 35, 36, 37, 38, 39, 40, 41, 42, 43, 44, 45, 46] (by decide +kernel) (by decide +kernel)
set_option maxRecDepth 20000 in
theorem gX2_append_X2_follow : GoodIn wsX2_append (wsV RX2 154 RX2 yX2_follow wsX2_follow) := goodIn_app (goodIn_of _ (by decide +kernel)) ggX2_append_X2_follow
theorem dX2_append_0 : decode cX2_append 0 = .ok (.aload_n 0, 1) := by decide +kernel
theorem dX2_append_1 : decode cX2_append 1 = .ok (.getfield 33, 3) := by decide +kernel
theorem dX2_append_4 : decode cX2_append 4 = .ok (.istore_n 3, 1) := by decide +kernel
theorem dX2_append_5 : decode cX2_append 5 = .ok (.aload_n 0, 1) := by decide +kernel
theorem dX2_append_6 : decode cX2_append 6 = .ok (.getfield 12, 3) := by decide +kernel
theorem dX2_append_9 : decode cX2_append 9 = .ok (.iload_n 3, 1) := by decide +kernel
theorem dX2_append_10 : decode cX2_append 10 = .ok (.iload_n 1, 1) := by decide +kernel
theorem dX2_append_11 : decode cX2_append 11 = .ok (.iload_n 2, 1) := by decide +kernel
theorem dX2_append_12 : decode cX2_append 12 = .ok (.invokevirtual 150, 3) := by decide +kernel
theorem dX2_append_15 : decode cX2_append 15 = .ok (.aload_n 0, 1) := by decide +kernel
theorem dX2_append_16 : decode cX2_append 16 = .ok (.aload_n 0, 1) := by decide +kernel
theorem dX2_append_17 : decode cX2_append 17 = .ok (.getfield 19, 3) := by decide +kernel
theorem dX2_append_20 : decode cX2_append 20 = .ok (.iload_n 3, 1) := by decide +kernel
theorem dX2_append_21 : decode cX2_append 21 = .ok (.invokevirtual 154, 3) := by decide +kernel
theorem dX2_append_24 : decode cX2_append 24 = .ok (.aload_n 0, 1) := by decide +kernel
theorem dX2_append_25 : decode cX2_append 25 = .ok (.iload_n 3, 1) := by decide +kernel
theorem dX2_append_26 : decode cX2_append 26 = .ok (.iconst 1, 1) := by decide +kernel
theorem dX2_append_27 : decode cX2_append 27 = .ok (.iadd, 1) := by decide +kernel
theorem dX2_append_28 : decode cX2_append 28 = .ok (.putfield 33, 3) := by decide +kernel
theorem dX2_append_31 : decode cX2_append 31 = .ok (.iload_n 3, 1) := by decide +kernel
theorem dX2_append_32 : decode cX2_append 32 = .ok (.ireturn, 1) := by decide +kernel
set_option maxRecDepth 20000 in
theorem ggX2_follow_X1_valueAt : GoodIn wsX2_follow wsX1_valueAt := goodIn_r _ [6, 7, 8, 9, 10, 11, 33, 34] (by decide +kernel) (by decide +kernel)
set_option maxRecDepth 20000 in
theorem gX2_follow_X1_valueAt : GoodIn wsX2_follow (wsV RX2 141 RX1 yX1_valueAt wsX1_valueAt) := goodIn_app (goodIn_of _ (by decide +kernel)) ggX2_follow_X1_valueAt
set_option maxRecDepth 20000 in
theorem ggX2_follow_X1_keyAt : GoodIn wsX2_follow wsX1_keyAt := goodIn_r _ [15, 16, 8, 9, 10, 11, 33, 34] (by decide +kernel) (by decide +kernel)
set_option maxRecDepth 20000 in
theorem gX2_follow_X1_keyAt : GoodIn wsX2_follow (wsV RX2 144 RX1 yX1_keyAt wsX1_keyAt) := goodIn_app (goodIn_of _ (by decide +kernel)) ggX2_follow_X1_keyAt
set_option maxRecDepth 20000 in
theorem ggX2_follow_X0_point : GoodIn wsX2_follow wsX0_point := goodIn_r _ [21, 22, 35] (by decide +kernel) (by decide +kernel)
set_option maxRecDepth 20000 in
theorem gX2_follow_X0_point : GoodIn wsX2_follow (wsV RX2 158 RX0 yX0_point wsX0_point) := goodIn_app (goodIn_of _ (by decide +kernel)) ggX2_follow_X0_point
theorem dX2_follow_0 : decode cX2_follow 0 = .ok (.aload_n 0, 1) := by decide +kernel
theorem dX2_follow_1 : decode cX2_follow 1 = .ok (.getfield 12, 3) := by decide +kernel
theorem dX2_follow_4 : decode cX2_follow 4 = .ok (.iload_n 2, 1) := by decide +kernel
theorem dX2_follow_5 : decode cX2_follow 5 = .ok (.invokevirtual 141, 3) := by decide +kernel
theorem dX2_follow_8 : decode cX2_follow 8 = .ok (.iconst (-1), 1) := by decide +kernel
theorem dX2_follow_9 : decode cX2_follow 9 = .ok (.if_icmp .ne 7, 3) := by decide +kernel
theorem dX2_follow_12 : decode cX2_follow 12 = .ok (.iconst 1, 1) := by decide +kernel
theorem dX2_follow_13 : decode cX2_follow 13 = .ok (.goto 4, 3) := by decide +kernel
theorem dX2_follow_16 : decode cX2_follow 16 = .ok (.iconst 0, 1) := by decide +kernel
theorem dX2_follow_17 : decode cX2_follow 17 = .ok (.istore_n 3, 1) := by decide +kernel
theorem dX2_follow_18 : decode cX2_follow 18 = .ok (.aload_n 1, 1) := by decide +kernel
theorem dX2_follow_19 : decode cX2_follow 19 = .ok (.aload_n 0, 1) := by decide +kernel
theorem dX2_follow_20 : decode cX2_follow 20 = .ok (.getfield 12, 3) := by decide +kernel
theorem dX2_follow_23 : decode cX2_follow 23 = .ok (.iload_n 2, 1) := by decide +kernel
theorem dX2_follow_24 : decode cX2_follow 24 = .ok (.invokevirtual 144, 3) := by decide +kernel
theorem dX2_follow_27 : decode cX2_follow 27 = .ok (.iload_n 3, 1) := by decide +kernel
theorem dX2_follow_28 : decode cX2_follow 28 = .ok (.ifCond .eq 7, 3) := by decide +kernel
theorem dX2_follow_31 : decode cX2_follow 31 = .ok (.iconst (-1), 1) := by decide +kernel
theorem dX2_follow_32 : decode cX2_follow 32 = .ok (.goto 4, 3) := by decide +kernel
theorem dX2_follow_35 : decode cX2_follow 35 = .ok (.iload_n 2, 1) := by decide +kernel
theorem dX2_follow_36 : decode cX2_follow 36 = .ok (.invokevirtual 158, 3) := by decide +kernel
theorem dX2_follow_39 : decode cX2_follow 39 = .ok (.return_, 1) := by decide +kernel
set_option maxRecDepth 20000 in
theorem ggX2_appendLiveAgain_X2_isLive : GoodIn wsX2_appendLiveAgain wsX2_isLive := goodIn_r _ [7, 8, 2, 9, 10, 11, 12, 13, 14, 15, 16, 17, 18, 19, 20, 21, 22, 23, 24, 47, 48, 49, 50, 51, 52, 53, 54, 55, 56, 57, 58, 59] (by decide +kernel) (by decide +kernel)
set_option maxRecDepth 20000 in
theorem gX2_appendLiveAgain_X2_isLive : GoodIn wsX2_appendLiveAgain (wsV RX2 147 RX2 yX2_isLive wsX2_isLive) := goodIn_app (goodIn_of _ (by decide +kernel)) ggX2_appendLiveAgain_X2_isLive
set_option maxRecDepth 20000 in
theorem ggX2_appendLiveAgain_X1_keyAt : GoodIn wsX2_appendLiveAgain wsX1_keyAt := goodIn_r _ [13, 14, 15, 16, 17, 18, 57, 58] (by decide +kernel) (by decide +kernel)
set_option maxRecDepth 20000 in
theorem gX2_appendLiveAgain_X1_keyAt : GoodIn wsX2_appendLiveAgain (wsV RX2 144 RX1 yX1_keyAt wsX1_keyAt) := goodIn_app (goodIn_of _ (by decide +kernel)) ggX2_appendLiveAgain_X1_keyAt
set_option maxRecDepth 20000 in
theorem ggX2_appendLiveAgain_X1_valueAt : GoodIn wsX2_appendLiveAgain wsX1_valueAt := goodIn_r _ [28, 29, 15, 16, 17, 18, 57, 58] (by decide +kernel) (by decide +kernel)
set_option maxRecDepth 20000 in
theorem gX2_appendLiveAgain_X1_valueAt : GoodIn wsX2_appendLiveAgain (wsV RX2 141 RX1 yX1_valueAt wsX1_valueAt) := goodIn_app (goodIn_of _ (by decide +kernel)) ggX2_appendLiveAgain_X1_valueAt
set_option maxRecDepth 20000 in
theorem ggX2_appendLiveAgain_X2_append : GoodIn wsX2_appendLiveAgain wsX2_append := goodIn_r _ [33, 34, 2, 8, 35, 36, 37, 12, 38, 14, 29, 15, 16, 17, 18, 39, 40, 41, 6, 42, 25, 26, 27, 28, 9, 10, 11, 13, 43, 44, 45, 22, 46, 24, 47, 48, 49, 50, 51, 52, 53, 54, 55, 56, 57, 58, 59] (by decide +kernel) (by decide +kernel)
set_option maxRecDepth 20000 in
theorem gX2_appendLiveAgain_X2_append : GoodIn wsX2_appendLiveAgain (wsV RX2 66 RX2 yX2_append wsX2_append) := goodIn_app (goodIn_of _ (by decide +kernel)) ggX2_appendLiveAgain_X2_append
theorem dX2_appendLiveAgain_0 : decode cX2_appendLiveAgain 0 = .ok (.aload_n 0, 1) := by decide +kernel
theorem dX2_appendLiveAgain_1 : decode cX2_appendLiveAgain 1 = .ok (.getfield 37, 3) := by decide +kernel
theorem dX2_appendLiveAgain_4 : decode cX2_appendLiveAgain 4 = .ok (.iload_n 1, 1) := by decide +kernel
theorem dX2_appendLiveAgain_5 : decode cX2_appendLiveAgain 5 = .ok (.iadd, 1) := by decide +kernel
theorem dX2_appendLiveAgain_6 : decode cX2_appendLiveAgain 6 = .ok (.istore_n 2, 1) := by decide +kernel
theorem dX2_appendLiveAgain_7 : decode cX2_appendLiveAgain 7 = .ok (.aload_n 0, 1) := by decide +kernel
theorem dX2_appendLiveAgain_8 : decode cX2_appendLiveAgain 8 = .ok (.getfield 37, 3) := by decide +kernel
theorem dX2_appendLiveAgain_11 : decode cX2_appendLiveAgain 11 = .ok (.istore_n 3, 1) := by decide +kernel
theorem dX2_appendLiveAgain_12 : decode cX2_appendLiveAgain 12 = .ok (.iload_n 3, 1) := by decide +kernel
theorem dX2_appendLiveAgain_13 : decode cX2_appendLiveAgain 13 = .ok (.iload_n 2, 1) := by decide +kernel
theorem dX2_appendLiveAgain_14 : decode cX2_appendLiveAgain 14 = .ok (.if_icmp .ge 38, 3) := by decide +kernel
theorem dX2_appendLiveAgain_17 : decode cX2_appendLiveAgain 17 = .ok (.aload_n 0, 1) := by decide +kernel
theorem dX2_appendLiveAgain_18 : decode cX2_appendLiveAgain 18 = .ok (.iload_n 3, 1) := by decide +kernel
theorem dX2_appendLiveAgain_19 : decode cX2_appendLiveAgain 19 = .ok (.invokevirtual 147, 3) := by decide +kernel
theorem dX2_appendLiveAgain_22 : decode cX2_appendLiveAgain 22 = .ok (.ifCond .eq 24, 3) := by decide +kernel
theorem dX2_appendLiveAgain_25 : decode cX2_appendLiveAgain 25 = .ok (.aload_n 0, 1) := by decide +kernel
theorem dX2_appendLiveAgain_26 : decode cX2_appendLiveAgain 26 = .ok (.aload_n 0, 1) := by decide +kernel
theorem dX2_appendLiveAgain_27 : decode cX2_appendLiveAgain 27 = .ok (.getfield 12, 3) := by decide +kernel
theorem dX2_appendLiveAgain_30 : decode cX2_appendLiveAgain 30 = .ok (.iload_n 3, 1) := by decide +kernel
theorem dX2_appendLiveAgain_31 : decode cX2_appendLiveAgain 31 = .ok (.invokevirtual 144, 3) := by decide +kernel
theorem dX2_appendLiveAgain_34 : decode cX2_appendLiveAgain 34 = .ok (.aload_n 0, 1) := by decide +kernel
theorem dX2_appendLiveAgain_35 : decode cX2_appendLiveAgain 35 = .ok (.getfield 12, 3) := by decide +kernel
theorem dX2_appendLiveAgain_38 : decode cX2_appendLiveAgain 38 = .ok (.iload_n 3, 1) := by decide +kernel
theorem dX2_appendLiveAgain_39 : decode cX2_appendLiveAgain 39 = .ok (.invokevirtual 141, 3) := by decide +kernel
theorem dX2_appendLiveAgain_42 : decode cX2_appendLiveAgain 42 = .ok (.invokevirtual 66, 3) := by decide +kernel
theorem dX2_appendLiveAgain_45 : decode cX2_appendLiveAgain 45 = .ok (.pop, 1) := by decide +kernel
theorem dX2_appendLiveAgain_46 : decode cX2_appendLiveAgain 46 = .ok (.iinc 3 1, 3) := by decide +kernel
theorem dX2_appendLiveAgain_49 : decode cX2_appendLiveAgain 49 = .ok (.goto (-37), 3) := by decide +kernel
theorem dX2_appendLiveAgain_52 : decode cX2_appendLiveAgain 52 = .ok (.return_, 1) := by decide +kernel
set_option maxRecDepth 20000 in
theorem ggX2_writeEntries_X2_writeOnce : GoodIn wsX2_writeEntries wsX2_writeOnce := goodIn_r _ [7, 8, 9, 10, 11, 6, 12, 2, 1, 13, 14, 15, 16, 17, 18, 19, 20, 21, 22, 23] (by decide +kernel) (by decide +kernel)
set_option maxRecDepth 20000 in
theorem gX2_writeEntries_X2_writeOnce : GoodIn wsX2_writeEntries (wsV RX2 102 RX2 yX2_writeOnce wsX2_writeOnce) := goodIn_app (goodIn_of _ (by decide +kernel)) ggX2_writeEntries_X2_writeOnce
theorem dX2_writeEntries_0 : decode cX2_writeEntries 0 = .ok (.aload_n 0, 1) := by decide +kernel
theorem dX2_writeEntries_1 : decode cX2_writeEntries 1 = .ok (.getfield 33, 3) := by decide +kernel
theorem dX2_writeEntries_4 : decode cX2_writeEntries 4 = .ok (.istore_n 1, 1) := by decide +kernel
theorem dX2_writeEntries_5 : decode cX2_writeEntries 5 = .ok (.aload_n 0, 1) := by decide +kernel
theorem dX2_writeEntries_6 : decode cX2_writeEntries 6 = .ok (.getfield 40, 3) := by decide +kernel
theorem dX2_writeEntries_9 : decode cX2_writeEntries 9 = .ok (.istore_n 2, 1) := by decide +kernel
theorem dX2_writeEntries_10 : decode cX2_writeEntries 10 = .ok (.iload_n 2, 1) := by decide +kernel
theorem dX2_writeEntries_11 : decode cX2_writeEntries 11 = .ok (.iload_n 1, 1) := by decide +kernel
theorem dX2_writeEntries_12 : decode cX2_writeEntries 12 = .ok (.if_icmp .ge 25, 3) := by decide +kernel
theorem dX2_writeEntries_15 : decode cX2_writeEntries 15 = .ok (.aload_n 0, 1) := by decide +kernel
theorem dX2_writeEntries_16 : decode cX2_writeEntries 16 = .ok (.invokevirtual 102, 3) := by decide +kernel
theorem dX2_writeEntries_19 : decode cX2_writeEntries 19 = .ok (.ifCond .ne 5, 3) := by decide +kernel
theorem dX2_writeEntries_22 : decode cX2_writeEntries 22 = .ok (.iconst 0, 1) := by decide +kernel
theorem dX2_writeEntries_23 : decode cX2_writeEntries 23 = .ok (.ireturn, 1) := by decide +kernel
theorem dX2_writeEntries_24 : decode cX2_writeEntries 24 = .ok (.aload_n 0, 1) := by decide +kernel
theorem dX2_writeEntries_25 : decode cX2_writeEntries 25 = .ok (.iload_n 2, 1) := by decide +kernel
theorem dX2_writeEntries_26 : decode cX2_writeEntries 26 = .ok (.iconst 1, 1) := by decide +kernel
theorem dX2_writeEntries_27 : decode cX2_writeEntries 27 = .ok (.iadd, 1) := by decide +kernel
theorem dX2_writeEntries_28 : decode cX2_writeEntries 28 = .ok (.putfield 40, 3) := by decide +kernel
theorem dX2_writeEntries_31 : decode cX2_writeEntries 31 = .ok (.iinc 2 1, 3) := by decide +kernel
theorem dX2_writeEntries_34 : decode cX2_writeEntries 34 = .ok (.goto (-24), 3) := by decide +kernel
theorem dX2_writeEntries_37 : decode cX2_writeEntries 37 = .ok (.iconst 1, 1) := by decide +kernel
theorem dX2_writeEntries_38 : decode cX2_writeEntries 38 = .ok (.ireturn, 1) := by decide +kernel
set_option maxRecDepth 20000 in
theorem ggX2_writeOnce_X2_losePower : GoodIn wsX2_writeOnce wsX2_losePower := goodIn_r _ [6, 7, 8, 9, 10, 11, 12, 13, 14, 15, 16, 17, 18, 19] (by decide +kernel) (by decide +kernel)
set_option maxRecDepth 20000 in
theorem gX2_writeOnce_X2_losePower : GoodIn wsX2_writeOnce (wsV RX2 121 RX2 yX2_losePower wsX2_losePower) := goodIn_app (goodIn_of _ (by decide +kernel)) ggX2_writeOnce_X2_losePower
theorem dX2_writeOnce_0 : decode cX2_writeOnce 0 = .ok (.aload_n 0, 1) := by decide +kernel
theorem dX2_writeOnce_1 : decode cX2_writeOnce 1 = .ok (.getfield 46, 3) := by decide +kernel
theorem dX2_writeOnce_4 : decode cX2_writeOnce 4 = .ok (.ifCond .ne 14, 3) := by decide +kernel
theorem dX2_writeOnce_7 : decode cX2_writeOnce 7 = .ok (.aload_n 0, 1) := by decide +kernel
theorem dX2_writeOnce_8 : decode cX2_writeOnce 8 = .ok (.iconst (-1), 1) := by decide +kernel
theorem dX2_writeOnce_9 : decode cX2_writeOnce 9 = .ok (.putfield 46, 3) := by decide +kernel
theorem dX2_writeOnce_12 : decode cX2_writeOnce 12 = .ok (.aload_n 0, 1) := by decide +kernel
theorem dX2_writeOnce_13 : decode cX2_writeOnce 13 = .ok (.invokevirtual 121, 3) := by decide +kernel
theorem dX2_writeOnce_16 : decode cX2_writeOnce 16 = .ok (.iconst 0, 1) := by decide +kernel
theorem dX2_writeOnce_17 : decode cX2_writeOnce 17 = .ok (.ireturn, 1) := by decide +kernel
theorem dX2_writeOnce_18 : decode cX2_writeOnce 18 = .ok (.aload_n 0, 1) := by decide +kernel
theorem dX2_writeOnce_19 : decode cX2_writeOnce 19 = .ok (.getfield 46, 3) := by decide +kernel
theorem dX2_writeOnce_22 : decode cX2_writeOnce 22 = .ok (.ifCond .le 13, 3) := by decide +kernel
theorem dX2_writeOnce_25 : decode cX2_writeOnce 25 = .ok (.aload_n 0, 1) := by decide +kernel
theorem dX2_writeOnce_26 : decode cX2_writeOnce 26 = .ok (.dup, 1) := by decide +kernel
theorem dX2_writeOnce_27 : decode cX2_writeOnce 27 = .ok (.getfield 46, 3) := by decide +kernel
theorem dX2_writeOnce_30 : decode cX2_writeOnce 30 = .ok (.iconst 1, 1) := by decide +kernel
theorem dX2_writeOnce_31 : decode cX2_writeOnce 31 = .ok (.isub, 1) := by decide +kernel
theorem dX2_writeOnce_32 : decode cX2_writeOnce 32 = .ok (.putfield 46, 3) := by decide +kernel
theorem dX2_writeOnce_35 : decode cX2_writeOnce 35 = .ok (.iconst 1, 1) := by decide +kernel
theorem dX2_writeOnce_36 : decode cX2_writeOnce 36 = .ok (.ireturn, 1) := by decide +kernel
theorem dX2_losePower_0 : decode cX2_losePower 0 = .ok (.aload_n 0, 1) := by decide +kernel
theorem dX2_losePower_1 : decode cX2_losePower 1 = .ok (.aload_n 0, 1) := by decide +kernel
theorem dX2_losePower_2 : decode cX2_losePower 2 = .ok (.getfield 40, 3) := by decide +kernel
theorem dX2_losePower_5 : decode cX2_losePower 5 = .ok (.putfield 33, 3) := by decide +kernel
theorem dX2_losePower_8 : decode cX2_losePower 8 = .ok (.aload_n 0, 1) := by decide +kernel
theorem dX2_losePower_9 : decode cX2_losePower 9 = .ok (.iconst 0, 1) := by decide +kernel
theorem dX2_losePower_10 : decode cX2_losePower 10 = .ok (.putfield 29, 3) := by decide +kernel
theorem dX2_losePower_13 : decode cX2_losePower 13 = .ok (.return_, 1) := by decide +kernel
set_option maxRecDepth 20000 in
theorem ggX2_recover_X0_takeFrom : GoodIn wsX2_recover wsX0_takeFrom := goodIn_r _ [13, 14, 15, 16, 17, 12, 18, 58] (by decide +kernel) (by decide +kernel)
set_option maxRecDepth 20000 in
theorem gX2_recover_X0_takeFrom : GoodIn wsX2_recover (wsV RX2 105 RX0 yX0_takeFrom wsX0_takeFrom) := goodIn_app (goodIn_of _ (by decide +kernel)) ggX2_recover_X0_takeFrom
set_option maxRecDepth 20000 in
theorem ggX2_recover_X0_dropBelow : GoodIn wsX2_recover wsX0_dropBelow := goodIn_r _ [22, 14, 58] (by decide +kernel) (by decide +kernel)
set_option maxRecDepth 20000 in
theorem gX2_recover_X0_dropBelow : GoodIn wsX2_recover (wsV RX2 161 RX0 yX0_dropBelow wsX0_dropBelow) := goodIn_app (goodIn_of _ (by decide +kernel)) ggX2_recover_X0_dropBelow
set_option maxRecDepth 20000 in
theorem ggX2_recover_X2_follow : GoodIn wsX2_recover wsX2_follow := goodIn_r _ [27, 28, 29, 30, 31, 32, 33, 34, 35, 36, 37, 38, 39, 40, 41, 42, 43, 44, 45, 46, 12, 47, 14, 48, 49, 50, 51, 52, 53, 54, 55, 56, 57, 59, 60, 58] (by decide +kernel) (by decide +kernel)
set_option maxRecDepth 20000 in
theorem gX2_recover_X2_follow : GoodIn wsX2_recover (wsV RX2 154 RX2 yX2_follow wsX2_follow) := goodIn_app (goodIn_of _ (by decide +kernel)) ggX2_recover_X2_follow
theorem dX2_recover_0 : decode cX2_recover 0 = .ok (.aload_n 1, 1) := by decide +kernel
theorem dX2_recover_1 : decode cX2_recover 1 = .ok (.aload_n 0, 1) := by decide +kernel
theorem dX2_recover_2 : decode cX2_recover 2 = .ok (.getfield 23, 3) := by decide +kernel
theorem dX2_recover_5 : decode cX2_recover 5 = .ok (.invokevirtual 105, 3) := by decide +kernel
theorem dX2_recover_8 : decode cX2_recover 8 = .ok (.aload_n 1, 1) := by decide +kernel
theorem dX2_recover_9 : decode cX2_recover 9 = .ok (.aload_n 0, 1) := by decide +kernel
theorem dX2_recover_10 : decode cX2_recover 10 = .ok (.getfield 37, 3) := by decide +kernel
theorem dX2_recover_13 : decode cX2_recover 13 = .ok (.invokevirtual 161, 3) := by decide +kernel
theorem dX2_recover_16 : decode cX2_recover 16 = .ok (.aload_n 0, 1) := by decide +kernel
theorem dX2_recover_17 : decode cX2_recover 17 = .ok (.getfield 43, 3) := by decide +kernel
theorem dX2_recover_20 : decode cX2_recover 20 = .ok (.aload_n 0, 1) := by decide +kernel
theorem dX2_recover_21 : decode cX2_recover 21 = .ok (.getfield 37, 3) := by decide +kernel
theorem dX2_recover_24 : decode cX2_recover 24 = .ok (.invokestatic 164, 3) := by decide +kernel
theorem dX2_recover_27 : decode cX2_recover 27 = .ok (.istore_n 2, 1) := by decide +kernel
theorem dX2_recover_28 : decode cX2_recover 28 = .ok (.iload_n 2, 1) := by decide +kernel
theorem dX2_recover_29 : decode cX2_recover 29 = .ok (.aload_n 0, 1) := by decide +kernel
theorem dX2_recover_30 : decode cX2_recover 30 = .ok (.getfield 40, 3) := by decide +kernel
theorem dX2_recover_33 : decode cX2_recover 33 = .ok (.if_icmp .ge 15, 3) := by decide +kernel
theorem dX2_recover_36 : decode cX2_recover 36 = .ok (.aload_n 0, 1) := by decide +kernel
theorem dX2_recover_37 : decode cX2_recover 37 = .ok (.aload_n 1, 1) := by decide +kernel
theorem dX2_recover_38 : decode cX2_recover 38 = .ok (.iload_n 2, 1) := by decide +kernel
theorem dX2_recover_39 : decode cX2_recover 39 = .ok (.invokevirtual 154, 3) := by decide +kernel
theorem dX2_recover_42 : decode cX2_recover 42 = .ok (.iinc 2 1, 3) := by decide +kernel
theorem dX2_recover_45 : decode cX2_recover 45 = .ok (.goto (-17), 3) := by decide +kernel
theorem dX2_recover_48 : decode cX2_recover 48 = .ok (.return_, 1) := by decide +kernel
end
section
theorem dX3_init_0 : decode cX3_init 0 = .ok (.aload_n 0, 1) := by decide +kernel
theorem dX3_init_1 : decode cX3_init 1 = .ok (.invokespecial 1, 3) := by decide +kernel
theorem dX3_init_4 : decode cX3_init 4 = .ok (.aload_n 0, 1) := by decide +kernel
theorem dX3_init_5 : decode cX3_init 5 = .ok (.sipush 128, 3) := by decide +kernel
theorem dX3_init_8 : decode cX3_init 8 = .ok (.newarray .int, 2) := by decide +kernel
theorem dX3_init_10 : decode cX3_init 10 = .ok (.putfield 7, 3) := by decide +kernel
theorem dX3_init_13 : decode cX3_init 13 = .ok (.aload_n 0, 1) := by decide +kernel
theorem dX3_init_14 : decode cX3_init 14 = .ok (.sipush 128, 3) := by decide +kernel
theorem dX3_init_17 : decode cX3_init 17 = .ok (.newarray .int, 2) := by decide +kernel
theorem dX3_init_19 : decode cX3_init 19 = .ok (.putfield 13, 3) := by decide +kernel
theorem dX3_init_22 : decode cX3_init 22 = .ok (.aload_n 0, 1) := by decide +kernel
theorem dX3_init_23 : decode cX3_init 23 = .ok (.bipush 64, 2) := by decide +kernel
theorem dX3_init_25 : decode cX3_init 25 = .ok (.newarray .int, 2) := by decide +kernel
theorem dX3_init_27 : decode cX3_init 27 = .ok (.putfield 16, 3) := by decide +kernel
theorem dX3_init_30 : decode cX3_init 30 = .ok (.aload_n 0, 1) := by decide +kernel
theorem dX3_init_31 : decode cX3_init 31 = .ok (.bipush 64, 2) := by decide +kernel
theorem dX3_init_33 : decode cX3_init 33 = .ok (.newarray .int, 2) := by decide +kernel
theorem dX3_init_35 : decode cX3_init 35 = .ok (.putfield 19, 3) := by decide +kernel
theorem dX3_init_38 : decode cX3_init 38 = .ok (.aload_n 0, 1) := by decide +kernel
theorem dX3_init_39 : decode cX3_init 39 = .ok (.bipush 64, 2) := by decide +kernel
theorem dX3_init_41 : decode cX3_init 41 = .ok (.newarray .int, 2) := by decide +kernel
theorem dX3_init_43 : decode cX3_init 43 = .ok (.putfield 22, 3) := by decide +kernel
theorem dX3_init_46 : decode cX3_init 46 = .ok (.aload_n 0, 1) := by decide +kernel
theorem dX3_init_47 : decode cX3_init 47 = .ok (.iconst (-1), 1) := by decide +kernel
theorem dX3_init_48 : decode cX3_init 48 = .ok (.putfield 25, 3) := by decide +kernel
theorem dX3_init_51 : decode cX3_init 51 = .ok (.iconst 0, 1) := by decide +kernel
theorem dX3_init_52 : decode cX3_init 52 = .ok (.istore_n 1, 1) := by decide +kernel
theorem dX3_init_53 : decode cX3_init 53 = .ok (.iload_n 1, 1) := by decide +kernel
theorem dX3_init_54 : decode cX3_init 54 = .ok (.bipush 64, 2) := by decide +kernel
theorem dX3_init_56 : decode cX3_init 56 = .ok (.if_icmp .ge 23, 3) := by decide +kernel
theorem dX3_init_59 : decode cX3_init 59 = .ok (.aload_n 0, 1) := by decide +kernel
theorem dX3_init_60 : decode cX3_init 60 = .ok (.getfield 16, 3) := by decide +kernel
theorem dX3_init_63 : decode cX3_init 63 = .ok (.iload_n 1, 1) := by decide +kernel
theorem dX3_init_64 : decode cX3_init 64 = .ok (.iconst (-1), 1) := by decide +kernel
theorem dX3_init_65 : decode cX3_init 65 = .ok (.iastore, 1) := by decide +kernel
theorem dX3_init_66 : decode cX3_init 66 = .ok (.aload_n 0, 1) := by decide +kernel
theorem dX3_init_67 : decode cX3_init 67 = .ok (.getfield 19, 3) := by decide +kernel
theorem dX3_init_70 : decode cX3_init 70 = .ok (.iload_n 1, 1) := by decide +kernel
theorem dX3_init_71 : decode cX3_init 71 = .ok (.iconst (-1), 1) := by decide +kernel
theorem dX3_init_72 : decode cX3_init 72 = .ok (.iastore, 1) := by decide +kernel
theorem dX3_init_73 : decode cX3_init 73 = .ok (.iinc 1 1, 3) := by decide +kernel
theorem dX3_init_76 : decode cX3_init 76 = .ok (.goto (-23), 3) := by decide +kernel
theorem dX3_init_79 : decode cX3_init 79 = .ok (.return_, 1) := by decide +kernel
theorem dX3_thrown_0 : decode cX3_thrown 0 = .ok (.aload_n 0, 1) := by decide +kernel
theorem dX3_thrown_1 : decode cX3_thrown 1 = .ok (.getfield 29, 3) := by decide +kernel
theorem dX3_thrown_4 : decode cX3_thrown 4 = .ok (.ireturn, 1) := by decide +kernel
theorem dX3_goes_0 : decode cX3_goes 0 = .ok (.aload_n 0, 1) := by decide +kernel
theorem dX3_goes_1 : decode cX3_goes 1 = .ok (.iload_n 1, 1) := by decide +kernel
theorem dX3_goes_2 : decode cX3_goes 2 = .ok (.ifCond .ne 7, 3) := by decide +kernel
theorem dX3_goes_5 : decode cX3_goes 5 = .ok (.iconst 1, 1) := by decide +kernel
theorem dX3_goes_6 : decode cX3_goes 6 = .ok (.goto 12, 3) := by decide +kernel
theorem dX3_goes_9 : decode cX3_goes 9 = .ok (.iload_n 2, 1) := by decide +kernel
theorem dX3_goes_10 : decode cX3_goes 10 = .ok (.ifCond .ne 7, 3) := by decide +kernel
theorem dX3_goes_13 : decode cX3_goes 13 = .ok (.iconst 2, 1) := by decide +kernel
theorem dX3_goes_14 : decode cX3_goes 14 = .ok (.goto 4, 3) := by decide +kernel
theorem dX3_goes_17 : decode cX3_goes 17 = .ok (.iconst 0, 1) := by decide +kernel
theorem dX3_goes_18 : decode cX3_goes 18 = .ok (.putfield 29, 3) := by decide +kernel
theorem dX3_goes_21 : decode cX3_goes 21 = .ok (.aload_n 0, 1) := by decide +kernel
theorem dX3_goes_22 : decode cX3_goes 22 = .ok (.getfield 29, 3) := by decide +kernel
theorem dX3_goes_25 : decode cX3_goes 25 = .ok (.ifCond .ne 7, 3) := by decide +kernel
theorem dX3_goes_28 : decode cX3_goes 28 = .ok (.iconst 1, 1) := by decide +kernel
theorem dX3_goes_29 : decode cX3_goes 29 = .ok (.goto 4, 3) := by decide +kernel
theorem dX3_goes_32 : decode cX3_goes 32 = .ok (.iconst 0, 1) := by decide +kernel
theorem dX3_goes_33 : decode cX3_goes 33 = .ok (.ireturn, 1) := by decide +kernel
theorem dX3_isKey_0 : decode cX3_isKey 0 = .ok (.iload_n 0, 1) := by decide +kernel
theorem dX3_isKey_1 : decode cX3_isKey 1 = .ok (.ifCond .lt 13, 3) := by decide +kernel
theorem dX3_isKey_4 : decode cX3_isKey 4 = .ok (.iload_n 0, 1) := by decide +kernel
theorem dX3_isKey_5 : decode cX3_isKey 5 = .ok (.bipush 64, 2) := by decide +kernel
theorem dX3_isKey_7 : decode cX3_isKey 7 = .ok (.if_icmp .ge 7, 3) := by decide +kernel
theorem dX3_isKey_10 : decode cX3_isKey 10 = .ok (.iconst 1, 1) := by decide +kernel
theorem dX3_isKey_11 : decode cX3_isKey 11 = .ok (.goto 4, 3) := by decide +kernel
theorem dX3_isKey_14 : decode cX3_isKey 14 = .ok (.iconst 0, 1) := by decide +kernel
theorem dX3_isKey_15 : decode cX3_isKey 15 = .ok (.ireturn, 1) := by decide +kernel
theorem dX3_segmentsOf_0 : decode cX3_segmentsOf 0 = .ok (.iload_n 0, 1) := by decide +kernel
theorem dX3_segmentsOf_1 : decode cX3_segmentsOf 1 = .ok (.iload_n 1, 1) := by decide +kernel
theorem dX3_segmentsOf_2 : decode cX3_segmentsOf 2 = .ok (.if_icmp .ne 7, 3) := by decide +kernel
theorem dX3_segmentsOf_5 : decode cX3_segmentsOf 5 = .ok (.iconst 0, 1) := by decide +kernel
theorem dX3_segmentsOf_6 : decode cX3_segmentsOf 6 = .ok (.goto 16, 3) := by decide +kernel
theorem dX3_segmentsOf_9 : decode cX3_segmentsOf 9 = .ok (.iload_n 1, 1) := by decide +kernel
theorem dX3_segmentsOf_10 : decode cX3_segmentsOf 10 = .ok (.iconst 1, 1) := by decide +kernel
theorem dX3_segmentsOf_11 : decode cX3_segmentsOf 11 = .ok (.isub, 1) := by decide +kernel
theorem dX3_segmentsOf_12 : decode cX3_segmentsOf 12 = .ok (.bipush 8, 2) := by decide +kernel
theorem dX3_segmentsOf_14 : decode cX3_segmentsOf 14 = .ok (.idiv, 1) := by decide +kernel
theorem dX3_segmentsOf_15 : decode cX3_segmentsOf 15 = .ok (.iload_n 0, 1) := by decide +kernel
theorem dX3_segmentsOf_16 : decode cX3_segmentsOf 16 = .ok (.bipush 8, 2) := by decide +kernel
theorem dX3_segmentsOf_18 : decode cX3_segmentsOf 18 = .ok (.idiv, 1) := by decide +kernel
theorem dX3_segmentsOf_19 : decode cX3_segmentsOf 19 = .ok (.isub, 1) := by decide +kernel
theorem dX3_segmentsOf_20 : decode cX3_segmentsOf 20 = .ok (.iconst 1, 1) := by decide +kernel
theorem dX3_segmentsOf_21 : decode cX3_segmentsOf 21 = .ok (.iadd, 1) := by decide +kernel
theorem dX3_segmentsOf_22 : decode cX3_segmentsOf 22 = .ok (.ireturn, 1) := by decide +kernel
set_option maxRecDepth 20000 in
theorem ggX3_canAppend_X3_segmentsOf : GoodIn wsX3_canAppend wsX3_segmentsOf := goodIn_r _ [6] (by decide +kernel) (by decide +kernel)
set_option maxRecDepth 20000 in
theorem gX3_canAppend_X3_segmentsOf : GoodIn wsX3_canAppend (va_wsS RX3 38 yX3_segmentsOf wsX3_segmentsOf) := goodIn_app (goodIn_of _ (by decide +kernel)) ggX3_canAppend_X3_segmentsOf
theorem dX3_canAppend_0 : decode cX3_canAppend 0 = .ok (.aload_n 0, 1) := by decide +kernel
theorem dX3_canAppend_1 : decode cX3_canAppend 1 = .ok (.getfield 32, 3) := by decide +kernel
theorem dX3_canAppend_4 : decode cX3_canAppend 4 = .ok (.aload_n 0, 1) := by decide +kernel
theorem dX3_canAppend_5 : decode cX3_canAppend 5 = .ok (.getfield 35, 3) := by decide +kernel
theorem dX3_canAppend_8 : decode cX3_canAppend 8 = .ok (.iload_n 1, 1) := by decide +kernel
theorem dX3_canAppend_9 : decode cX3_canAppend 9 = .ok (.iadd, 1) := by decide +kernel
theorem dX3_canAppend_10 : decode cX3_canAppend 10 = .ok (.invokestatic 38, 3) := by decide +kernel
theorem dX3_canAppend_13 : decode cX3_canAppend 13 = .ok (.bipush 12, 2) := by decide +kernel
theorem dX3_canAppend_15 : decode cX3_canAppend 15 = .ok (.if_icmp .gt 7, 3) := by decide +kernel
theorem dX3_canAppend_18 : decode cX3_canAppend 18 = .ok (.iconst 1, 1) := by decide +kernel
theorem dX3_canAppend_19 : decode cX3_canAppend 19 = .ok (.goto 4, 3) := by decide +kernel
theorem dX3_canAppend_22 : decode cX3_canAppend 22 = .ok (.iconst 0, 1) := by decide +kernel
theorem dX3_canAppend_23 : decode cX3_canAppend 23 = .ok (.ireturn, 1) := by decide +kernel
theorem dX3_appends_0 : decode cX3_appends 0 = .ok (.aload_n 0, 1) := by decide +kernel
theorem dX3_appends_1 : decode cX3_appends 1 = .ok (.getfield 7, 3) := by decide +kernel
theorem dX3_appends_4 : decode cX3_appends 4 = .ok (.aload_n 0, 1) := by decide +kernel
theorem dX3_appends_5 : decode cX3_appends 5 = .ok (.getfield 35, 3) := by decide +kernel
theorem dX3_appends_8 : decode cX3_appends 8 = .ok (.sipush 128, 3) := by decide +kernel
theorem dX3_appends_11 : decode cX3_appends 11 = .ok (.irem, 1) := by decide +kernel
theorem dX3_appends_12 : decode cX3_appends 12 = .ok (.iload_n 1, 1) := by decide +kernel
theorem dX3_appends_13 : decode cX3_appends 13 = .ok (.iastore, 1) := by decide +kernel
theorem dX3_appends_14 : decode cX3_appends 14 = .ok (.aload_n 0, 1) := by decide +kernel
theorem dX3_appends_15 : decode cX3_appends 15 = .ok (.getfield 13, 3) := by decide +kernel
theorem dX3_appends_18 : decode cX3_appends 18 = .ok (.aload_n 0, 1) := by decide +kernel
theorem dX3_appends_19 : decode cX3_appends 19 = .ok (.getfield 35, 3) := by decide +kernel
theorem dX3_appends_22 : decode cX3_appends 22 = .ok (.sipush 128, 3) := by decide +kernel
theorem dX3_appends_25 : decode cX3_appends 25 = .ok (.irem, 1) := by decide +kernel
theorem dX3_appends_26 : decode cX3_appends 26 = .ok (.iload_n 2, 1) := by decide +kernel
theorem dX3_appends_27 : decode cX3_appends 27 = .ok (.iastore, 1) := by decide +kernel
theorem dX3_appends_28 : decode cX3_appends 28 = .ok (.aload_n 0, 1) := by decide +kernel
theorem dX3_appends_29 : decode cX3_appends 29 = .ok (.dup, 1) := by decide +kernel
theorem dX3_appends_30 : decode cX3_appends 30 = .ok (.getfield 35, 3) := by decide +kernel
theorem dX3_appends_33 : decode cX3_appends 33 = .ok (.iconst 1, 1) := by decide +kernel
theorem dX3_appends_34 : decode cX3_appends 34 = .ok (.iadd, 1) := by decide +kernel
theorem dX3_appends_35 : decode cX3_appends 35 = .ok (.putfield 35, 3) := by decide +kernel
theorem dX3_appends_38 : decode cX3_appends 38 = .ok (.aload_n 0, 1) := by decide +kernel
theorem dX3_appends_39 : decode cX3_appends 39 = .ok (.getfield 35, 3) := by decide +kernel
theorem dX3_appends_42 : decode cX3_appends 42 = .ok (.iconst 1, 1) := by decide +kernel
theorem dX3_appends_43 : decode cX3_appends 43 = .ok (.isub, 1) := by decide +kernel
theorem dX3_appends_44 : decode cX3_appends 44 = .ok (.ireturn, 1) := by decide +kernel
theorem dX3_valueOf_0 : decode cX3_valueOf 0 = .ok (.aload_n 0, 1) := by decide +kernel
theorem dX3_valueOf_1 : decode cX3_valueOf 1 = .ok (.getfield 16, 3) := by decide +kernel
theorem dX3_valueOf_4 : decode cX3_valueOf 4 = .ok (.iload_n 1, 1) := by decide +kernel
theorem dX3_valueOf_5 : decode cX3_valueOf 5 = .ok (.iaload, 1) := by decide +kernel
theorem dX3_valueOf_6 : decode cX3_valueOf 6 = .ok (.ifCond .ge 7, 3) := by decide +kernel
theorem dX3_valueOf_9 : decode cX3_valueOf 9 = .ok (.iconst (-1), 1) := by decide +kernel
theorem dX3_valueOf_10 : decode cX3_valueOf 10 = .ok (.goto 18, 3) := by decide +kernel
theorem dX3_valueOf_13 : decode cX3_valueOf 13 = .ok (.aload_n 0, 1) := by decide +kernel
theorem dX3_valueOf_14 : decode cX3_valueOf 14 = .ok (.getfield 13, 3) := by decide +kernel
theorem dX3_valueOf_17 : decode cX3_valueOf 17 = .ok (.aload_n 0, 1) := by decide +kernel
theorem dX3_valueOf_18 : decode cX3_valueOf 18 = .ok (.getfield 16, 3) := by decide +kernel
theorem dX3_valueOf_21 : decode cX3_valueOf 21 = .ok (.iload_n 1, 1) := by decide +kernel
theorem dX3_valueOf_22 : decode cX3_valueOf 22 = .ok (.iaload, 1) := by decide +kernel
theorem dX3_valueOf_23 : decode cX3_valueOf 23 = .ok (.sipush 128, 3) := by decide +kernel
theorem dX3_valueOf_26 : decode cX3_valueOf 26 = .ok (.irem, 1) := by decide +kernel
theorem dX3_valueOf_27 : decode cX3_valueOf 27 = .ok (.iaload, 1) := by decide +kernel
theorem dX3_valueOf_28 : decode cX3_valueOf 28 = .ok (.ireturn, 1) := by decide +kernel
set_option maxRecDepth 20000 in
theorem ggX3_put_X3_isKey : GoodIn wsX3_put wsX3_isKey := goodIn_r _ [6] (by decide +kernel) (by decide +kernel)
set_option maxRecDepth 20000 in
theorem gX3_put_X3_isKey : GoodIn wsX3_put (va_wsS RX3 42 yX3_isKey wsX3_isKey) := goodIn_app (goodIn_of _ (by decide +kernel)) ggX3_put_X3_isKey
set_option maxRecDepth 20000 in
theorem ggX3_put_X3_canAppend : GoodIn wsX3_put wsX3_canAppend := goodIn_r _ [10, 11, 12, 13, 14, 5, 15, 27, 28, 29, 30, 31, 32, 33, 34, 35, 36, 37, 38] (by decide +kernel) (by decide +kernel)
set_option maxRecDepth 20000 in
theorem gX3_put_X3_canAppend : GoodIn wsX3_put (wsV RX3 50 RX3 yX3_canAppend wsX3_canAppend) := goodIn_app (goodIn_of _ (by decide +kernel)) ggX3_put_X3_canAppend
set_option maxRecDepth 20000 in
theorem ggX3_put_X3_goes : GoodIn wsX3_put wsX3_goes := goodIn_r _ [19, 20, 27, 28, 29, 30, 31, 32, 33, 34, 35, 36, 37, 38] (by decide +kernel) (by decide +kernel)
set_option maxRecDepth 20000 in
theorem gX3_put_X3_goes : GoodIn wsX3_put (wsV RX3 53 RX3 yX3_goes wsX3_goes) := goodIn_app (goodIn_of _ (by decide +kernel)) ggX3_put_X3_goes
set_option maxRecDepth 20000 in
theorem ggX3_put_X3_appends : GoodIn wsX3_put wsX3_appends := goodIn_r _ [24, 25, 12, 26, 27, 28, 29, 30, 31, 32, 33, 34, 35, 36, 37, 38] (by decide +kernel) (by decide +kernel)
set_option maxRecDepth 20000 in
theorem gX3_put_X3_appends : GoodIn wsX3_put (wsV RX3 57 RX3 yX3_appends wsX3_appends) := goodIn_app (goodIn_of _ (by decide +kernel)) ggX3_put_X3_appends
theorem dX3_put_0 : decode cX3_put 0 = .ok (.aload_n 0, 1) := by decide +kernel
theorem dX3_put_1 : decode cX3_put 1 = .ok (.iload_n 1, 1) := by decide +kernel
theorem dX3_put_2 : decode cX3_put 2 = .ok (.invokestatic 42, 3) := by decide +kernel
theorem dX3_put_5 : decode cX3_put 5 = .ok (.ifCond .eq 18, 3) := by decide +kernel
theorem dX3_put_8 : decode cX3_put 8 = .ok (.iload_n 2, 1) := by decide +kernel
theorem dX3_put_9 : decode cX3_put 9 = .ok (.ifCond .lt 14, 3) := by decide +kernel
theorem dX3_put_12 : decode cX3_put 12 = .ok (.iload_n 2, 1) := by decide +kernel
theorem dX3_put_13 : decode cX3_put 13 = .ok (.sipush 10000, 3) := by decide +kernel
theorem dX3_put_16 : decode cX3_put 16 = .ok (.if_icmp .ge 7, 3) := by decide +kernel
theorem dX3_put_19 : decode cX3_put 19 = .ok (.iconst 1, 1) := by decide +kernel
theorem dX3_put_20 : decode cX3_put 20 = .ok (.goto 4, 3) := by decide +kernel
theorem dX3_put_23 : decode cX3_put 23 = .ok (.iconst 0, 1) := by decide +kernel
theorem dX3_put_24 : decode cX3_put 24 = .ok (.aload_n 0, 1) := by decide +kernel
theorem dX3_put_25 : decode cX3_put 25 = .ok (.getfield 46, 3) := by decide +kernel
theorem dX3_put_28 : decode cX3_put 28 = .ok (.ifCond .ne 15, 3) := by decide +kernel
theorem dX3_put_31 : decode cX3_put 31 = .ok (.aload_n 0, 1) := by decide +kernel
theorem dX3_put_32 : decode cX3_put 32 = .ok (.iconst 1, 1) := by decide +kernel
theorem dX3_put_33 : decode cX3_put 33 = .ok (.invokevirtual 50, 3) := by decide +kernel
theorem dX3_put_36 : decode cX3_put 36 = .ok (.ifCond .eq 7, 3) := by decide +kernel
theorem dX3_put_39 : decode cX3_put 39 = .ok (.iconst 1, 1) := by decide +kernel
theorem dX3_put_40 : decode cX3_put 40 = .ok (.goto 4, 3) := by decide +kernel
theorem dX3_put_43 : decode cX3_put 43 = .ok (.iconst 0, 1) := by decide +kernel
theorem dX3_put_44 : decode cX3_put 44 = .ok (.invokevirtual 53, 3) := by decide +kernel
theorem dX3_put_47 : decode cX3_put 47 = .ok (.ifCond .ne 5, 3) := by decide +kernel
theorem dX3_put_50 : decode cX3_put 50 = .ok (.iconst 0, 1) := by decide +kernel
theorem dX3_put_51 : decode cX3_put 51 = .ok (.ireturn, 1) := by decide +kernel
theorem dX3_put_52 : decode cX3_put 52 = .ok (.aload_n 0, 1) := by decide +kernel
theorem dX3_put_53 : decode cX3_put 53 = .ok (.getfield 16, 3) := by decide +kernel
theorem dX3_put_56 : decode cX3_put 56 = .ok (.iload_n 1, 1) := by decide +kernel
theorem dX3_put_57 : decode cX3_put 57 = .ok (.aload_n 0, 1) := by decide +kernel
theorem dX3_put_58 : decode cX3_put 58 = .ok (.iload_n 1, 1) := by decide +kernel
theorem dX3_put_59 : decode cX3_put 59 = .ok (.iload_n 2, 1) := by decide +kernel
theorem dX3_put_60 : decode cX3_put 60 = .ok (.invokevirtual 57, 3) := by decide +kernel
theorem dX3_put_63 : decode cX3_put 63 = .ok (.iastore, 1) := by decide +kernel
theorem dX3_put_64 : decode cX3_put 64 = .ok (.aload_n 0, 1) := by decide +kernel
theorem dX3_put_65 : decode cX3_put 65 = .ok (.getfield 16, 3) := by decide +kernel
theorem dX3_put_68 : decode cX3_put 68 = .ok (.iload_n 1, 1) := by decide +kernel
theorem dX3_put_69 : decode cX3_put 69 = .ok (.iaload, 1) := by decide +kernel
theorem dX3_put_70 : decode cX3_put 70 = .ok (.ireturn, 1) := by decide +kernel
set_option maxRecDepth 20000 in
theorem ggX3_delete_X3_isKey : GoodIn wsX3_delete wsX3_isKey := goodIn_r _ [6] (by decide +kernel) (by decide +kernel)
set_option maxRecDepth 20000 in
theorem gX3_delete_X3_isKey : GoodIn wsX3_delete (va_wsS RX3 42 yX3_isKey wsX3_isKey) := goodIn_app (goodIn_of _ (by decide +kernel)) ggX3_delete_X3_isKey
set_option maxRecDepth 20000 in
theorem ggX3_delete_X3_canAppend : GoodIn wsX3_delete wsX3_canAppend := goodIn_r _ [10, 11, 12, 13, 14, 5, 15, 31, 32, 33, 34, 35, 36, 37, 38, 39, 40, 41, 42] (by decide +kernel) (by decide +kernel)
set_option maxRecDepth 20000 in
theorem gX3_delete_X3_canAppend : GoodIn wsX3_delete (wsV RX3 50 RX3 yX3_canAppend wsX3_canAppend) := goodIn_app (goodIn_of _ (by decide +kernel)) ggX3_delete_X3_canAppend
set_option maxRecDepth 20000 in
theorem ggX3_delete_X3_goes : GoodIn wsX3_delete wsX3_goes := goodIn_r _ [19, 20, 31, 32, 33, 34, 35, 36, 37, 38, 39, 40, 41, 42] (by decide +kernel) (by decide +kernel)
set_option maxRecDepth 20000 in
theorem gX3_delete_X3_goes : GoodIn wsX3_delete (wsV RX3 53 RX3 yX3_goes wsX3_goes) := goodIn_app (goodIn_of _ (by decide +kernel)) ggX3_delete_X3_goes
set_option maxRecDepth 20000 in
theorem ggX3_delete_X3_valueOf : GoodIn wsX3_delete wsX3_valueOf := goodIn_r _ [24, 2, 25, 31, 32, 33, 34, 35, 36, 37, 38, 39, 40, 41, 42] (by decide +kernel) (by decide +kernel)
set_option maxRecDepth 20000 in
theorem gX3_delete_X3_valueOf : GoodIn wsX3_delete (wsV RX3 60 RX3 yX3_valueOf wsX3_valueOf) := goodIn_app (goodIn_of _ (by decide +kernel)) ggX3_delete_X3_valueOf
set_option maxRecDepth 20000 in
theorem ggX3_delete_X3_appends : GoodIn wsX3_delete wsX3_appends := goodIn_r _ [29, 30, 12, 25, 31, 32, 33, 34, 35, 36, 37, 38, 39, 40, 41, 42] (by decide +kernel) (by decide +kernel)
set_option maxRecDepth 20000 in
theorem gX3_delete_X3_appends : GoodIn wsX3_delete (wsV RX3 57 RX3 yX3_appends wsX3_appends) := goodIn_app (goodIn_of _ (by decide +kernel)) ggX3_delete_X3_appends
theorem dX3_delete_0 : decode cX3_delete 0 = .ok (.iload_n 1, 1) := by decide +kernel
theorem dX3_delete_1 : decode cX3_delete 1 = .ok (.invokestatic 42, 3) := by decide +kernel
theorem dX3_delete_4 : decode cX3_delete 4 = .ok (.istore_n 2, 1) := by decide +kernel
theorem dX3_delete_5 : decode cX3_delete 5 = .ok (.aload_n 0, 1) := by decide +kernel
theorem dX3_delete_6 : decode cX3_delete 6 = .ok (.iload_n 2, 1) := by decide +kernel
theorem dX3_delete_7 : decode cX3_delete 7 = .ok (.iload_n 2, 1) := by decide +kernel
theorem dX3_delete_8 : decode cX3_delete 8 = .ok (.ifCond .eq 31, 3) := by decide +kernel
theorem dX3_delete_11 : decode cX3_delete 11 = .ok (.aload_n 0, 1) := by decide +kernel
theorem dX3_delete_12 : decode cX3_delete 12 = .ok (.getfield 46, 3) := by decide +kernel
theorem dX3_delete_15 : decode cX3_delete 15 = .ok (.ifCond .ne 24, 3) := by decide +kernel
theorem dX3_delete_18 : decode cX3_delete 18 = .ok (.aload_n 0, 1) := by decide +kernel
theorem dX3_delete_19 : decode cX3_delete 19 = .ok (.getfield 16, 3) := by decide +kernel
theorem dX3_delete_22 : decode cX3_delete 22 = .ok (.iload_n 1, 1) := by decide +kernel
theorem dX3_delete_23 : decode cX3_delete 23 = .ok (.iaload, 1) := by decide +kernel
theorem dX3_delete_24 : decode cX3_delete 24 = .ok (.ifCond .lt 15, 3) := by decide +kernel
theorem dX3_delete_27 : decode cX3_delete 27 = .ok (.aload_n 0, 1) := by decide +kernel
theorem dX3_delete_28 : decode cX3_delete 28 = .ok (.iconst 1, 1) := by decide +kernel
theorem dX3_delete_29 : decode cX3_delete 29 = .ok (.invokevirtual 50, 3) := by decide +kernel
theorem dX3_delete_32 : decode cX3_delete 32 = .ok (.ifCond .eq 7, 3) := by decide +kernel
theorem dX3_delete_35 : decode cX3_delete 35 = .ok (.iconst 1, 1) := by decide +kernel
theorem dX3_delete_36 : decode cX3_delete 36 = .ok (.goto 4, 3) := by decide +kernel
theorem dX3_delete_39 : decode cX3_delete 39 = .ok (.iconst 0, 1) := by decide +kernel
theorem dX3_delete_40 : decode cX3_delete 40 = .ok (.invokevirtual 53, 3) := by decide +kernel
theorem dX3_delete_43 : decode cX3_delete 43 = .ok (.ifCond .ne 5, 3) := by decide +kernel
theorem dX3_delete_46 : decode cX3_delete 46 = .ok (.iconst 0, 1) := by decide +kernel
theorem dX3_delete_47 : decode cX3_delete 47 = .ok (.ireturn, 1) := by decide +kernel
theorem dX3_delete_48 : decode cX3_delete 48 = .ok (.aload_n 0, 1) := by decide +kernel
theorem dX3_delete_49 : decode cX3_delete 49 = .ok (.iload_n 1, 1) := by decide +kernel
theorem dX3_delete_50 : decode cX3_delete 50 = .ok (.invokevirtual 60, 3) := by decide +kernel
theorem dX3_delete_53 : decode cX3_delete 53 = .ok (.istore_n 3, 1) := by decide +kernel
theorem dX3_delete_54 : decode cX3_delete 54 = .ok (.aload_n 0, 1) := by decide +kernel
theorem dX3_delete_55 : decode cX3_delete 55 = .ok (.iload_n 1, 1) := by decide +kernel
theorem dX3_delete_56 : decode cX3_delete 56 = .ok (.iconst (-1), 1) := by decide +kernel
theorem dX3_delete_57 : decode cX3_delete 57 = .ok (.invokevirtual 57, 3) := by decide +kernel
theorem dX3_delete_60 : decode cX3_delete 60 = .ok (.pop, 1) := by decide +kernel
theorem dX3_delete_61 : decode cX3_delete 61 = .ok (.aload_n 0, 1) := by decide +kernel
theorem dX3_delete_62 : decode cX3_delete 62 = .ok (.getfield 16, 3) := by decide +kernel
theorem dX3_delete_65 : decode cX3_delete 65 = .ok (.iload_n 1, 1) := by decide +kernel
theorem dX3_delete_66 : decode cX3_delete 66 = .ok (.iconst (-1), 1) := by decide +kernel
theorem dX3_delete_67 : decode cX3_delete 67 = .ok (.iastore, 1) := by decide +kernel
theorem dX3_delete_68 : decode cX3_delete 68 = .ok (.iload_n 3, 1) := by decide +kernel
theorem dX3_delete_69 : decode cX3_delete 69 = .ok (.ireturn, 1) := by decide +kernel
set_option maxRecDepth 20000 in
theorem ggX3_get_X3_isKey : GoodIn wsX3_get wsX3_isKey := goodIn_r _ [5] (by decide +kernel) (by decide +kernel)
set_option maxRecDepth 20000 in
theorem gX3_get_X3_isKey : GoodIn wsX3_get (va_wsS RX3 42 yX3_isKey wsX3_isKey) := goodIn_app (goodIn_of _ (by decide +kernel)) ggX3_get_X3_isKey
set_option maxRecDepth 20000 in
theorem ggX3_get_X3_goes : GoodIn wsX3_get wsX3_goes := goodIn_r _ [9, 10, 17, 18, 19, 20, 21, 22, 23, 24, 25, 26, 27, 28] (by decide +kernel) (by decide +kernel)
set_option maxRecDepth 20000 in
theorem gX3_get_X3_goes : GoodIn wsX3_get (wsV RX3 53 RX3 yX3_goes wsX3_goes) := goodIn_app (goodIn_of _ (by decide +kernel)) ggX3_get_X3_goes
set_option maxRecDepth 20000 in
theorem ggX3_get_X3_valueOf : GoodIn wsX3_get wsX3_valueOf := goodIn_r _ [14, 15, 16, 17, 18, 19, 20, 21, 22, 23, 24, 25, 26, 27, 28] (by decide +kernel) (by decide +kernel)
set_option maxRecDepth 20000 in
theorem gX3_get_X3_valueOf : GoodIn wsX3_get (wsV RX3 60 RX3 yX3_valueOf wsX3_valueOf) := goodIn_app (goodIn_of _ (by decide +kernel)) ggX3_get_X3_valueOf
theorem dX3_get_0 : decode cX3_get 0 = .ok (.aload_n 0, 1) := by decide +kernel
theorem dX3_get_1 : decode cX3_get 1 = .ok (.iload_n 1, 1) := by decide +kernel
theorem dX3_get_2 : decode cX3_get 2 = .ok (.invokestatic 42, 3) := by decide +kernel
theorem dX3_get_5 : decode cX3_get 5 = .ok (.aload_n 0, 1) := by decide +kernel
theorem dX3_get_6 : decode cX3_get 6 = .ok (.getfield 46, 3) := by decide +kernel
theorem dX3_get_9 : decode cX3_get 9 = .ok (.ifCond .ne 7, 3) := by decide +kernel
theorem dX3_get_12 : decode cX3_get 12 = .ok (.iconst 1, 1) := by decide +kernel
theorem dX3_get_13 : decode cX3_get 13 = .ok (.goto 4, 3) := by decide +kernel
theorem dX3_get_16 : decode cX3_get 16 = .ok (.iconst 0, 1) := by decide +kernel
theorem dX3_get_17 : decode cX3_get 17 = .ok (.invokevirtual 53, 3) := by decide +kernel
theorem dX3_get_20 : decode cX3_get 20 = .ok (.ifCond .eq 11, 3) := by decide +kernel
theorem dX3_get_23 : decode cX3_get 23 = .ok (.aload_n 0, 1) := by decide +kernel
theorem dX3_get_24 : decode cX3_get 24 = .ok (.iload_n 1, 1) := by decide +kernel
theorem dX3_get_25 : decode cX3_get 25 = .ok (.invokevirtual 60, 3) := by decide +kernel
theorem dX3_get_28 : decode cX3_get 28 = .ok (.goto 4, 3) := by decide +kernel
theorem dX3_get_31 : decode cX3_get 31 = .ok (.iconst 0, 1) := by decide +kernel
theorem dX3_get_32 : decode cX3_get 32 = .ok (.ireturn, 1) := by decide +kernel
set_option maxRecDepth 20000 in
theorem ggX3_next_X3_isKey : GoodIn wsX3_next wsX3_isKey := goodIn_r _ [6] (by decide +kernel) (by decide +kernel)
set_option maxRecDepth 20000 in
theorem gX3_next_X3_isKey : GoodIn wsX3_next (va_wsS RX3 42 yX3_isKey wsX3_isKey) := goodIn_app (goodIn_of _ (by decide +kernel)) ggX3_next_X3_isKey
set_option maxRecDepth 20000 in
theorem ggX3_next_X3_goes : GoodIn wsX3_next wsX3_goes := goodIn_r _ [10, 11, 12, 13, 14, 15, 16, 17, 18, 19, 20, 21, 22, 23] (by decide +kernel) (by decide +kernel)
set_option maxRecDepth 20000 in
theorem gX3_next_X3_goes : GoodIn wsX3_next (wsV RX3 53 RX3 yX3_goes wsX3_goes) := goodIn_app (goodIn_of _ (by decide +kernel)) ggX3_next_X3_goes
theorem dX3_next_0 : decode cX3_next 0 = .ok (.aload_n 0, 1) := by decide +kernel
theorem dX3_next_1 : decode cX3_next 1 = .ok (.iload_n 1, 1) := by decide +kernel
theorem dX3_next_2 : decode cX3_next 2 = .ok (.invokestatic 42, 3) := by decide +kernel
theorem dX3_next_5 : decode cX3_next 5 = .ok (.aload_n 0, 1) := by decide +kernel
theorem dX3_next_6 : decode cX3_next 6 = .ok (.getfield 46, 3) := by decide +kernel
theorem dX3_next_9 : decode cX3_next 9 = .ok (.ifCond .ne 7, 3) := by decide +kernel
theorem dX3_next_12 : decode cX3_next 12 = .ok (.iconst 1, 1) := by decide +kernel
theorem dX3_next_13 : decode cX3_next 13 = .ok (.goto 4, 3) := by decide +kernel
theorem dX3_next_16 : decode cX3_next 16 = .ok (.iconst 0, 1) := by decide +kernel
theorem dX3_next_17 : decode cX3_next 17 = .ok (.invokevirtual 53, 3) := by decide +kernel
theorem dX3_next_20 : decode cX3_next 20 = .ok (.ifCond .ne 5, 3) := by decide +kernel
theorem dX3_next_23 : decode cX3_next 23 = .ok (.iconst 0, 1) := by decide +kernel
theorem dX3_next_24 : decode cX3_next 24 = .ok (.ireturn, 1) := by decide +kernel
theorem dX3_next_25 : decode cX3_next 25 = .ok (.iconst (-1), 1) := by decide +kernel
theorem dX3_next_26 : decode cX3_next 26 = .ok (.istore_n 2, 1) := by decide +kernel
theorem dX3_next_27 : decode cX3_next 27 = .ok (.bipush 63, 2) := by decide +kernel
theorem dX3_next_29 : decode cX3_next 29 = .ok (.istore_n 3, 1) := by decide +kernel
theorem dX3_next_30 : decode cX3_next 30 = .ok (.iload_n 3, 1) := by decide +kernel
theorem dX3_next_31 : decode cX3_next 31 = .ok (.iload_n 1, 1) := by decide +kernel
theorem dX3_next_32 : decode cX3_next 32 = .ok (.if_icmp .lt 24, 3) := by decide +kernel
theorem dX3_next_35 : decode cX3_next 35 = .ok (.aload_n 0, 1) := by decide +kernel
theorem dX3_next_36 : decode cX3_next 36 = .ok (.getfield 16, 3) := by decide +kernel
theorem dX3_next_39 : decode cX3_next 39 = .ok (.iload_n 3, 1) := by decide +kernel
theorem dX3_next_40 : decode cX3_next 40 = .ok (.iaload, 1) := by decide +kernel
theorem dX3_next_41 : decode cX3_next 41 = .ok (.ifCond .lt 7, 3) := by decide +kernel
theorem dX3_next_44 : decode cX3_next 44 = .ok (.iload_n 3, 1) := by decide +kernel
theorem dX3_next_45 : decode cX3_next 45 = .ok (.goto 4, 3) := by decide +kernel
theorem dX3_next_48 : decode cX3_next 48 = .ok (.iload_n 2, 1) := by decide +kernel
theorem dX3_next_49 : decode cX3_next 49 = .ok (.istore_n 2, 1) := by decide +kernel
theorem dX3_next_50 : decode cX3_next 50 = .ok (.iinc 3 (-1), 3) := by decide +kernel
theorem dX3_next_53 : decode cX3_next 53 = .ok (.goto (-23), 3) := by decide +kernel
theorem dX3_next_56 : decode cX3_next 56 = .ok (.iload_n 2, 1) := by decide +kernel
theorem dX3_next_57 : decode cX3_next 57 = .ok (.ireturn, 1) := by decide +kernel
theorem dX3_isRange_0 : decode cX3_isRange 0 = .ok (.iload_n 0, 1) := by decide +kernel
theorem dX3_isRange_1 : decode cX3_isRange 1 = .ok (.ifCond .lt 18, 3) := by decide +kernel
theorem dX3_isRange_4 : decode cX3_isRange 4 = .ok (.iload_n 0, 1) := by decide +kernel
theorem dX3_isRange_5 : decode cX3_isRange 5 = .ok (.iload_n 1, 1) := by decide +kernel
theorem dX3_isRange_6 : decode cX3_isRange 6 = .ok (.if_icmp .gt 13, 3) := by decide +kernel
theorem dX3_isRange_9 : decode cX3_isRange 9 = .ok (.iload_n 1, 1) := by decide +kernel
theorem dX3_isRange_10 : decode cX3_isRange 10 = .ok (.bipush 64, 2) := by decide +kernel
theorem dX3_isRange_12 : decode cX3_isRange 12 = .ok (.if_icmp .ge 7, 3) := by decide +kernel
theorem dX3_isRange_15 : decode cX3_isRange 15 = .ok (.iconst 1, 1) := by decide +kernel
theorem dX3_isRange_16 : decode cX3_isRange 16 = .ok (.goto 4, 3) := by decide +kernel
theorem dX3_isRange_19 : decode cX3_isRange 19 = .ok (.iconst 0, 1) := by decide +kernel
theorem dX3_isRange_20 : decode cX3_isRange 20 = .ok (.ireturn, 1) := by decide +kernel
set_option maxRecDepth 20000 in
theorem ggX3_sum_X3_isRange : GoodIn wsX3_sum wsX3_isRange := goodIn_r _ [6] (by decide +kernel) (by decide +kernel)
set_option maxRecDepth 20000 in
theorem gX3_sum_X3_isRange : GoodIn wsX3_sum (va_wsS RX3 64 yX3_isRange wsX3_isRange) := goodIn_app (goodIn_of _ (by decide +kernel)) ggX3_sum_X3_isRange
set_option maxRecDepth 20000 in
theorem ggX3_sum_X3_goes : GoodIn wsX3_sum wsX3_goes := goodIn_r _ [10, 11, 17, 18, 19, 20, 21, 22, 23, 24, 25, 26, 27, 28] (by decide +kernel) (by decide +kernel)
set_option maxRecDepth 20000 in
theorem gX3_sum_X3_goes : GoodIn wsX3_sum (wsV RX3 53 RX3 yX3_goes wsX3_goes) := goodIn_app (goodIn_of _ (by decide +kernel)) ggX3_sum_X3_goes
set_option maxRecDepth 20000 in
theorem ggX3_sum_X3_valueOf : GoodIn wsX3_sum wsX3_valueOf := goodIn_r _ [15, 2, 16, 17, 18, 19, 20, 21, 22, 23, 24, 25, 26, 27, 28] (by decide +kernel) (by decide +kernel)
set_option maxRecDepth 20000 in
theorem gX3_sum_X3_valueOf : GoodIn wsX3_sum (wsV RX3 60 RX3 yX3_valueOf wsX3_valueOf) := goodIn_app (goodIn_of _ (by decide +kernel)) ggX3_sum_X3_valueOf
theorem dX3_sum_0 : decode cX3_sum 0 = .ok (.aload_n 0, 1) := by decide +kernel
theorem dX3_sum_1 : decode cX3_sum 1 = .ok (.iload_n 1, 1) := by decide +kernel
theorem dX3_sum_2 : decode cX3_sum 2 = .ok (.iload_n 2, 1) := by decide +kernel
theorem dX3_sum_3 : decode cX3_sum 3 = .ok (.invokestatic 64, 3) := by decide +kernel
theorem dX3_sum_6 : decode cX3_sum 6 = .ok (.aload_n 0, 1) := by decide +kernel
theorem dX3_sum_7 : decode cX3_sum 7 = .ok (.getfield 46, 3) := by decide +kernel
theorem dX3_sum_10 : decode cX3_sum 10 = .ok (.ifCond .ne 7, 3) := by decide +kernel
theorem dX3_sum_13 : decode cX3_sum 13 = .ok (.iconst 1, 1) := by decide +kernel
theorem dX3_sum_14 : decode cX3_sum 14 = .ok (.goto 4, 3) := by decide +kernel
theorem dX3_sum_17 : decode cX3_sum 17 = .ok (.iconst 0, 1) := by decide +kernel
theorem dX3_sum_18 : decode cX3_sum 18 = .ok (.invokevirtual 53, 3) := by decide +kernel
theorem dX3_sum_21 : decode cX3_sum 21 = .ok (.ifCond .ne 5, 3) := by decide +kernel
theorem dX3_sum_24 : decode cX3_sum 24 = .ok (.iconst 0, 1) := by decide +kernel
theorem dX3_sum_25 : decode cX3_sum 25 = .ok (.ireturn, 1) := by decide +kernel
theorem dX3_sum_26 : decode cX3_sum 26 = .ok (.iconst 0, 1) := by decide +kernel
theorem dX3_sum_27 : decode cX3_sum 27 = .ok (.istore_n 3, 1) := by decide +kernel
theorem dX3_sum_28 : decode cX3_sum 28 = .ok (.iload_n 1, 1) := by decide +kernel
theorem dX3_sum_29 : decode cX3_sum 29 = .ok (.istore 4, 2) := by decide +kernel
theorem dX3_sum_31 : decode cX3_sum 31 = .ok (.iload 4, 2) := by decide +kernel
theorem dX3_sum_33 : decode cX3_sum 33 = .ok (.iload_n 2, 1) := by decide +kernel
theorem dX3_sum_34 : decode cX3_sum 34 = .ok (.if_icmp .gt 32, 3) := by decide +kernel
theorem dX3_sum_37 : decode cX3_sum 37 = .ok (.iload_n 3, 1) := by decide +kernel
theorem dX3_sum_38 : decode cX3_sum 38 = .ok (.aload_n 0, 1) := by decide +kernel
theorem dX3_sum_39 : decode cX3_sum 39 = .ok (.getfield 16, 3) := by decide +kernel
theorem dX3_sum_42 : decode cX3_sum 42 = .ok (.iload 4, 2) := by decide +kernel
theorem dX3_sum_44 : decode cX3_sum 44 = .ok (.iaload, 1) := by decide +kernel
theorem dX3_sum_45 : decode cX3_sum 45 = .ok (.ifCond .lt 12, 3) := by decide +kernel
theorem dX3_sum_48 : decode cX3_sum 48 = .ok (.aload_n 0, 1) := by decide +kernel
theorem dX3_sum_49 : decode cX3_sum 49 = .ok (.iload 4, 2) := by decide +kernel
theorem dX3_sum_51 : decode cX3_sum 51 = .ok (.invokevirtual 60, 3) := by decide +kernel
theorem dX3_sum_54 : decode cX3_sum 54 = .ok (.goto 4, 3) := by decide +kernel
theorem dX3_sum_57 : decode cX3_sum 57 = .ok (.iconst 0, 1) := by decide +kernel
theorem dX3_sum_58 : decode cX3_sum 58 = .ok (.iadd, 1) := by decide +kernel
theorem dX3_sum_59 : decode cX3_sum 59 = .ok (.istore_n 3, 1) := by decide +kernel
theorem dX3_sum_60 : decode cX3_sum 60 = .ok (.iinc 4 1, 3) := by decide +kernel
theorem dX3_sum_63 : decode cX3_sum 63 = .ok (.goto (-32), 3) := by decide +kernel
theorem dX3_sum_66 : decode cX3_sum 66 = .ok (.iload_n 3, 1) := by decide +kernel
theorem dX3_sum_67 : decode cX3_sum 67 = .ok (.ireturn, 1) := by decide +kernel
set_option maxRecDepth 20000 in
theorem ggX3_fetches_X3_isRange : GoodIn wsX3_fetches wsX3_isRange := goodIn_r _ [8] (by decide +kernel) (by decide +kernel)
set_option maxRecDepth 20000 in
theorem gX3_fetches_X3_isRange : GoodIn wsX3_fetches (va_wsS RX3 64 yX3_isRange wsX3_isRange) := goodIn_app (goodIn_of _ (by decide +kernel)) ggX3_fetches_X3_isRange
set_option maxRecDepth 20000 in
theorem ggX3_fetches_X3_goes : GoodIn wsX3_fetches wsX3_goes := goodIn_r _ [12, 13, 14, 15, 16, 17, 18, 19, 20, 21, 22, 23, 24, 25] (by decide +kernel) (by decide +kernel)
set_option maxRecDepth 20000 in
theorem gX3_fetches_X3_goes : GoodIn wsX3_fetches (wsV RX3 53 RX3 yX3_goes wsX3_goes) := goodIn_app (goodIn_of _ (by decide +kernel)) ggX3_fetches_X3_goes
theorem dX3_fetches_0 : decode cX3_fetches 0 = .ok (.aload_n 0, 1) := by decide +kernel
theorem dX3_fetches_1 : decode cX3_fetches 1 = .ok (.iload_n 1, 1) := by decide +kernel
theorem dX3_fetches_2 : decode cX3_fetches 2 = .ok (.iload_n 2, 1) := by decide +kernel
theorem dX3_fetches_3 : decode cX3_fetches 3 = .ok (.invokestatic 64, 3) := by decide +kernel
theorem dX3_fetches_6 : decode cX3_fetches 6 = .ok (.aload_n 0, 1) := by decide +kernel
theorem dX3_fetches_7 : decode cX3_fetches 7 = .ok (.getfield 46, 3) := by decide +kernel
theorem dX3_fetches_10 : decode cX3_fetches 10 = .ok (.ifCond .ne 7, 3) := by decide +kernel
theorem dX3_fetches_13 : decode cX3_fetches 13 = .ok (.iconst 1, 1) := by decide +kernel
theorem dX3_fetches_14 : decode cX3_fetches 14 = .ok (.goto 4, 3) := by decide +kernel
theorem dX3_fetches_17 : decode cX3_fetches 17 = .ok (.iconst 0, 1) := by decide +kernel
theorem dX3_fetches_18 : decode cX3_fetches 18 = .ok (.invokevirtual 53, 3) := by decide +kernel
theorem dX3_fetches_21 : decode cX3_fetches 21 = .ok (.ifCond .ne 5, 3) := by decide +kernel
theorem dX3_fetches_24 : decode cX3_fetches 24 = .ok (.iconst 0, 1) := by decide +kernel
theorem dX3_fetches_25 : decode cX3_fetches 25 = .ok (.ireturn, 1) := by decide +kernel
theorem dX3_fetches_26 : decode cX3_fetches 26 = .ok (.iconst 0, 1) := by decide +kernel
theorem dX3_fetches_27 : decode cX3_fetches 27 = .ok (.istore_n 3, 1) := by decide +kernel
theorem dX3_fetches_28 : decode cX3_fetches 28 = .ok (.aload_n 0, 1) := by decide +kernel
theorem dX3_fetches_29 : decode cX3_fetches 29 = .ok (.getfield 32, 3) := by decide +kernel
theorem dX3_fetches_32 : decode cX3_fetches 32 = .ok (.bipush 8, 2) := by decide +kernel
theorem dX3_fetches_34 : decode cX3_fetches 34 = .ok (.idiv, 1) := by decide +kernel
theorem dX3_fetches_35 : decode cX3_fetches 35 = .ok (.istore 4, 2) := by decide +kernel
theorem dX3_fetches_37 : decode cX3_fetches 37 = .ok (.iload 4, 2) := by decide +kernel
theorem dX3_fetches_39 : decode cX3_fetches 39 = .ok (.aload_n 0, 1) := by decide +kernel
theorem dX3_fetches_40 : decode cX3_fetches 40 = .ok (.getfield 35, 3) := by decide +kernel
theorem dX3_fetches_43 : decode cX3_fetches 43 = .ok (.bipush 8, 2) := by decide +kernel
theorem dX3_fetches_45 : decode cX3_fetches 45 = .ok (.idiv, 1) := by decide +kernel
theorem dX3_fetches_46 : decode cX3_fetches 46 = .ok (.if_icmp .gt 77, 3) := by decide +kernel
theorem dX3_fetches_49 : decode cX3_fetches 49 = .ok (.iconst 0, 1) := by decide +kernel
theorem dX3_fetches_50 : decode cX3_fetches 50 = .ok (.istore 5, 2) := by decide +kernel
theorem dX3_fetches_52 : decode cX3_fetches 52 = .ok (.iload_n 1, 1) := by decide +kernel
theorem dX3_fetches_53 : decode cX3_fetches 53 = .ok (.istore 6, 2) := by decide +kernel
theorem dX3_fetches_55 : decode cX3_fetches 55 = .ok (.iload 6, 2) := by decide +kernel
theorem dX3_fetches_57 : decode cX3_fetches 57 = .ok (.iload_n 2, 1) := by decide +kernel
theorem dX3_fetches_58 : decode cX3_fetches 58 = .ok (.if_icmp .gt 46, 3) := by decide +kernel
theorem dX3_fetches_61 : decode cX3_fetches 61 = .ok (.iload 5, 2) := by decide +kernel
theorem dX3_fetches_63 : decode cX3_fetches 63 = .ok (.ifCond .ne 28, 3) := by decide +kernel
theorem dX3_fetches_66 : decode cX3_fetches 66 = .ok (.aload_n 0, 1) := by decide +kernel
theorem dX3_fetches_67 : decode cX3_fetches 67 = .ok (.getfield 16, 3) := by decide +kernel
theorem dX3_fetches_70 : decode cX3_fetches 70 = .ok (.iload 6, 2) := by decide +kernel
theorem dX3_fetches_72 : decode cX3_fetches 72 = .ok (.iaload, 1) := by decide +kernel
theorem dX3_fetches_73 : decode cX3_fetches 73 = .ok (.ifCond .lt 22, 3) := by decide +kernel
theorem dX3_fetches_76 : decode cX3_fetches 76 = .ok (.aload_n 0, 1) := by decide +kernel
theorem dX3_fetches_77 : decode cX3_fetches 77 = .ok (.getfield 16, 3) := by decide +kernel
theorem dX3_fetches_80 : decode cX3_fetches 80 = .ok (.iload 6, 2) := by decide +kernel
theorem dX3_fetches_82 : decode cX3_fetches 82 = .ok (.iaload, 1) := by decide +kernel
theorem dX3_fetches_83 : decode cX3_fetches 83 = .ok (.bipush 8, 2) := by decide +kernel
theorem dX3_fetches_85 : decode cX3_fetches 85 = .ok (.idiv, 1) := by decide +kernel
theorem dX3_fetches_86 : decode cX3_fetches 86 = .ok (.iload 4, 2) := by decide +kernel
theorem dX3_fetches_88 : decode cX3_fetches 88 = .ok (.if_icmp .ne 7, 3) := by decide +kernel
theorem dX3_fetches_91 : decode cX3_fetches 91 = .ok (.iconst 1, 1) := by decide +kernel
theorem dX3_fetches_92 : decode cX3_fetches 92 = .ok (.goto 4, 3) := by decide +kernel
theorem dX3_fetches_95 : decode cX3_fetches 95 = .ok (.iconst 0, 1) := by decide +kernel
theorem dX3_fetches_96 : decode cX3_fetches 96 = .ok (.istore 5, 2) := by decide +kernel
theorem dX3_fetches_98 : decode cX3_fetches 98 = .ok (.iinc 6 1, 3) := by decide +kernel
theorem dX3_fetches_101 : decode cX3_fetches 101 = .ok (.goto (-46), 3) := by decide +kernel
theorem dX3_fetches_104 : decode cX3_fetches 104 = .ok (.iload_n 3, 1) := by decide +kernel
theorem dX3_fetches_105 : decode cX3_fetches 105 = .ok (.iload 5, 2) := by decide +kernel
theorem dX3_fetches_107 : decode cX3_fetches 107 = .ok (.ifCond .eq 7, 3) := by decide +kernel
theorem dX3_fetches_110 : decode cX3_fetches 110 = .ok (.iconst 1, 1) := by decide +kernel
theorem dX3_fetches_111 : decode cX3_fetches 111 = .ok (.goto 4, 3) := by decide +kernel
theorem dX3_fetches_114 : decode cX3_fetches 114 = .ok (.iconst 0, 1) := by decide +kernel
theorem dX3_fetches_115 : decode cX3_fetches 115 = .ok (.iadd, 1) := by decide +kernel
theorem dX3_fetches_116 : decode cX3_fetches 116 = .ok (.istore_n 3, 1) := by decide +kernel
theorem dX3_fetches_117 : decode cX3_fetches 117 = .ok (.iinc 4 1, 3) := by decide +kernel
theorem dX3_fetches_120 : decode cX3_fetches 120 = .ok (.goto (-83), 3) := by decide +kernel
theorem dX3_fetches_123 : decode cX3_fetches 123 = .ok (.iload_n 3, 1) := by decide +kernel
theorem dX3_fetches_124 : decode cX3_fetches 124 = .ok (.ireturn, 1) := by decide +kernel
theorem dX3_writes_0 : decode cX3_writes 0 = .ok (.aload_n 0, 1) := by decide +kernel
theorem dX3_writes_1 : decode cX3_writes 1 = .ok (.getfield 25, 3) := by decide +kernel
theorem dX3_writes_4 : decode cX3_writes 4 = .ok (.ifCond .ne 15, 3) := by decide +kernel
theorem dX3_writes_7 : decode cX3_writes 7 = .ok (.aload_n 0, 1) := by decide +kernel
theorem dX3_writes_8 : decode cX3_writes 8 = .ok (.iconst (-1), 1) := by decide +kernel
theorem dX3_writes_9 : decode cX3_writes 9 = .ok (.putfield 25, 3) := by decide +kernel
theorem dX3_writes_12 : decode cX3_writes 12 = .ok (.aload_n 0, 1) := by decide +kernel
theorem dX3_writes_13 : decode cX3_writes 13 = .ok (.iconst 1, 1) := by decide +kernel
theorem dX3_writes_14 : decode cX3_writes 14 = .ok (.putfield 46, 3) := by decide +kernel
theorem dX3_writes_17 : decode cX3_writes 17 = .ok (.iconst 0, 1) := by decide +kernel
theorem dX3_writes_18 : decode cX3_writes 18 = .ok (.ireturn, 1) := by decide +kernel
theorem dX3_writes_19 : decode cX3_writes 19 = .ok (.aload_n 0, 1) := by decide +kernel
theorem dX3_writes_20 : decode cX3_writes 20 = .ok (.dup, 1) := by decide +kernel
theorem dX3_writes_21 : decode cX3_writes 21 = .ok (.getfield 25, 3) := by decide +kernel
theorem dX3_writes_24 : decode cX3_writes 24 = .ok (.aload_n 0, 1) := by decide +kernel
theorem dX3_writes_25 : decode cX3_writes 25 = .ok (.getfield 25, 3) := by decide +kernel
theorem dX3_writes_28 : decode cX3_writes 28 = .ok (.ifCond .le 7, 3) := by decide +kernel
theorem dX3_writes_31 : decode cX3_writes 31 = .ok (.iconst 1, 1) := by decide +kernel
theorem dX3_writes_32 : decode cX3_writes 32 = .ok (.goto 4, 3) := by decide +kernel
theorem dX3_writes_35 : decode cX3_writes 35 = .ok (.iconst 0, 1) := by decide +kernel
theorem dX3_writes_36 : decode cX3_writes 36 = .ok (.isub, 1) := by decide +kernel
theorem dX3_writes_37 : decode cX3_writes 37 = .ok (.putfield 25, 3) := by decide +kernel
theorem dX3_writes_40 : decode cX3_writes 40 = .ok (.iconst 1, 1) := by decide +kernel
theorem dX3_writes_41 : decode cX3_writes 41 = .ok (.ireturn, 1) := by decide +kernel
set_option maxRecDepth 20000 in
theorem ggX3_synchronizes_X3_writes : GoodIn wsX3_synchronizes wsX3_writes := goodIn_r _ [7, 8, 9, 10, 11, 12, 13, 14, 15, 16, 17, 18, 19, 20, 21] (by decide +kernel) (by decide +kernel)
set_option maxRecDepth 20000 in
theorem gX3_synchronizes_X3_writes : GoodIn wsX3_synchronizes (wsV RX3 71 RX3 yX3_writes wsX3_writes) := goodIn_app (goodIn_of _ (by decide +kernel)) ggX3_synchronizes_X3_writes
theorem dX3_synchronizes_0 : decode cX3_synchronizes 0 = .ok (.iconst 1, 1) := by decide +kernel
theorem dX3_synchronizes_1 : decode cX3_synchronizes 1 = .ok (.istore_n 1, 1) := by decide +kernel
theorem dX3_synchronizes_2 : decode cX3_synchronizes 2 = .ok (.aload_n 0, 1) := by decide +kernel
theorem dX3_synchronizes_3 : decode cX3_synchronizes 3 = .ok (.getfield 68, 3) := by decide +kernel
theorem dX3_synchronizes_6 : decode cX3_synchronizes 6 = .ok (.aload_n 0, 1) := by decide +kernel
theorem dX3_synchronizes_7 : decode cX3_synchronizes 7 = .ok (.getfield 35, 3) := by decide +kernel
theorem dX3_synchronizes_10 : decode cX3_synchronizes 10 = .ok (.if_icmp .ge 33, 3) := by decide +kernel
theorem dX3_synchronizes_13 : decode cX3_synchronizes 13 = .ok (.iload_n 1, 1) := by decide +kernel
theorem dX3_synchronizes_14 : decode cX3_synchronizes 14 = .ok (.ifCond .eq 29, 3) := by decide +kernel
theorem dX3_synchronizes_17 : decode cX3_synchronizes 17 = .ok (.aload_n 0, 1) := by decide +kernel
theorem dX3_synchronizes_18 : decode cX3_synchronizes 18 = .ok (.invokevirtual 71, 3) := by decide +kernel
theorem dX3_synchronizes_21 : decode cX3_synchronizes 21 = .ok (.istore_n 1, 1) := by decide +kernel
theorem dX3_synchronizes_22 : decode cX3_synchronizes 22 = .ok (.aload_n 0, 1) := by decide +kernel
theorem dX3_synchronizes_23 : decode cX3_synchronizes 23 = .ok (.dup, 1) := by decide +kernel
theorem dX3_synchronizes_24 : decode cX3_synchronizes 24 = .ok (.getfield 68, 3) := by decide +kernel
theorem dX3_synchronizes_27 : decode cX3_synchronizes 27 = .ok (.iload_n 1, 1) := by decide +kernel
theorem dX3_synchronizes_28 : decode cX3_synchronizes 28 = .ok (.ifCond .eq 7, 3) := by decide +kernel
theorem dX3_synchronizes_31 : decode cX3_synchronizes 31 = .ok (.iconst 1, 1) := by decide +kernel
theorem dX3_synchronizes_32 : decode cX3_synchronizes 32 = .ok (.goto 4, 3) := by decide +kernel
theorem dX3_synchronizes_35 : decode cX3_synchronizes 35 = .ok (.iconst 0, 1) := by decide +kernel
theorem dX3_synchronizes_36 : decode cX3_synchronizes 36 = .ok (.iadd, 1) := by decide +kernel
theorem dX3_synchronizes_37 : decode cX3_synchronizes 37 = .ok (.putfield 68, 3) := by decide +kernel
theorem dX3_synchronizes_40 : decode cX3_synchronizes 40 = .ok (.goto (-38), 3) := by decide +kernel
theorem dX3_synchronizes_43 : decode cX3_synchronizes 43 = .ok (.iload_n 1, 1) := by decide +kernel
theorem dX3_synchronizes_44 : decode cX3_synchronizes 44 = .ok (.ireturn, 1) := by decide +kernel
set_option maxRecDepth 20000 in
theorem ggX3_synchronize_X3_goes : GoodIn wsX3_synchronize wsX3_goes := goodIn_r _ [6, 7, 19, 20, 21, 22, 23, 24, 25, 26, 27, 28, 29, 30] (by decide +kernel) (by decide +kernel)
set_option maxRecDepth 20000 in
theorem gX3_synchronize_X3_goes : GoodIn wsX3_synchronize (wsV RX3 53 RX3 yX3_goes wsX3_goes) := goodIn_app (goodIn_of _ (by decide +kernel)) ggX3_synchronize_X3_goes
set_option maxRecDepth 20000 in
theorem ggX3_synchronize_X3_synchronizes : GoodIn wsX3_synchronize wsX3_synchronizes := goodIn_r _ [11, 12, 13, 14, 15, 16, 5, 17, 18, 1, 19, 20, 21, 22, 23, 24, 25, 26, 27, 28, 29, 30] (by decide +kernel) (by decide +kernel)
set_option maxRecDepth 20000 in
theorem gX3_synchronize_X3_synchronizes : GoodIn wsX3_synchronize (wsV RX3 75 RX3 yX3_synchronizes wsX3_synchronizes) := goodIn_app (goodIn_of _ (by decide +kernel)) ggX3_synchronize_X3_synchronizes
theorem dX3_synchronize_0 : decode cX3_synchronize 0 = .ok (.aload_n 0, 1) := by decide +kernel
theorem dX3_synchronize_1 : decode cX3_synchronize 1 = .ok (.aload_n 0, 1) := by decide +kernel
theorem dX3_synchronize_2 : decode cX3_synchronize 2 = .ok (.getfield 46, 3) := by decide +kernel
theorem dX3_synchronize_5 : decode cX3_synchronize 5 = .ok (.ifCond .ne 7, 3) := by decide +kernel
theorem dX3_synchronize_8 : decode cX3_synchronize 8 = .ok (.iconst 1, 1) := by decide +kernel
theorem dX3_synchronize_9 : decode cX3_synchronize 9 = .ok (.goto 4, 3) := by decide +kernel
theorem dX3_synchronize_12 : decode cX3_synchronize 12 = .ok (.iconst 0, 1) := by decide +kernel
theorem dX3_synchronize_13 : decode cX3_synchronize 13 = .ok (.iconst 1, 1) := by decide +kernel
theorem dX3_synchronize_14 : decode cX3_synchronize 14 = .ok (.invokevirtual 53, 3) := by decide +kernel
theorem dX3_synchronize_17 : decode cX3_synchronize 17 = .ok (.ifCond .eq 14, 3) := by decide +kernel
theorem dX3_synchronize_20 : decode cX3_synchronize 20 = .ok (.aload_n 0, 1) := by decide +kernel
theorem dX3_synchronize_21 : decode cX3_synchronize 21 = .ok (.invokevirtual 75, 3) := by decide +kernel
theorem dX3_synchronize_24 : decode cX3_synchronize 24 = .ok (.ifCond .eq 7, 3) := by decide +kernel
theorem dX3_synchronize_27 : decode cX3_synchronize 27 = .ok (.iconst 1, 1) := by decide +kernel
theorem dX3_synchronize_28 : decode cX3_synchronize 28 = .ok (.goto 4, 3) := by decide +kernel
theorem dX3_synchronize_31 : decode cX3_synchronize 31 = .ok (.iconst 0, 1) := by decide +kernel
theorem dX3_synchronize_32 : decode cX3_synchronize 32 = .ok (.ireturn, 1) := by decide +kernel
set_option maxRecDepth 20000 in
theorem ggX3_checkpoint_X3_goes : GoodIn wsX3_checkpoint wsX3_goes := goodIn_r _ [10, 11, 22, 23, 24, 25, 26, 27, 28, 29, 30, 31, 32, 33] (by decide +kernel) (by decide +kernel)
set_option maxRecDepth 20000 in
theorem gX3_checkpoint_X3_goes : GoodIn wsX3_checkpoint (wsV RX3 53 RX3 yX3_goes wsX3_goes) := goodIn_app (goodIn_of _ (by decide +kernel)) ggX3_checkpoint_X3_goes
set_option maxRecDepth 20000 in
theorem ggX3_checkpoint_X3_synchronizes : GoodIn wsX3_checkpoint wsX3_synchronizes := goodIn_r _ [15, 16, 4, 17, 18, 19, 9, 20, 21, 1, 22, 23, 24, 25, 26, 27, 28, 29, 30, 31, 32, 33] (by decide +kernel) (by decide +kernel)
set_option maxRecDepth 20000 in
theorem gX3_checkpoint_X3_synchronizes : GoodIn wsX3_checkpoint (wsV RX3 75 RX3 yX3_synchronizes wsX3_synchronizes) := goodIn_app (goodIn_of _ (by decide +kernel)) ggX3_checkpoint_X3_synchronizes
set_option maxRecDepth 20000 in
theorem ggX3_checkpoint_X3_writes : GoodIn wsX3_checkpoint wsX3_writes := goodIn_r _ [20, 21, 1, 22, 23, 24, 25, 26, 27, 28, 29, 30, 31, 32, 33] (by decide +kernel) (by decide +kernel)
set_option maxRecDepth 20000 in
theorem gX3_checkpoint_X3_writes : GoodIn wsX3_checkpoint (wsV RX3 71 RX3 yX3_writes wsX3_writes) := goodIn_app (goodIn_of _ (by decide +kernel)) ggX3_checkpoint_X3_writes
theorem dX3_checkpoint_0 : decode cX3_checkpoint 0 = .ok (.aload_n 0, 1) := by decide +kernel
theorem dX3_checkpoint_1 : decode cX3_checkpoint 1 = .ok (.aload_n 0, 1) := by decide +kernel
theorem dX3_checkpoint_2 : decode cX3_checkpoint 2 = .ok (.getfield 46, 3) := by decide +kernel
theorem dX3_checkpoint_5 : decode cX3_checkpoint 5 = .ok (.ifCond .ne 7, 3) := by decide +kernel
theorem dX3_checkpoint_8 : decode cX3_checkpoint 8 = .ok (.iconst 1, 1) := by decide +kernel
theorem dX3_checkpoint_9 : decode cX3_checkpoint 9 = .ok (.goto 4, 3) := by decide +kernel
theorem dX3_checkpoint_12 : decode cX3_checkpoint 12 = .ok (.iconst 0, 1) := by decide +kernel
theorem dX3_checkpoint_13 : decode cX3_checkpoint 13 = .ok (.iconst 1, 1) := by decide +kernel
theorem dX3_checkpoint_14 : decode cX3_checkpoint 14 = .ok (.invokevirtual 53, 3) := by decide +kernel
theorem dX3_checkpoint_17 : decode cX3_checkpoint 17 = .ok (.ifCond .eq 17, 3) := by decide +kernel
theorem dX3_checkpoint_20 : decode cX3_checkpoint 20 = .ok (.aload_n 0, 1) := by decide +kernel
theorem dX3_checkpoint_21 : decode cX3_checkpoint 21 = .ok (.invokevirtual 75, 3) := by decide +kernel
theorem dX3_checkpoint_24 : decode cX3_checkpoint 24 = .ok (.ifCond .eq 10, 3) := by decide +kernel
theorem dX3_checkpoint_27 : decode cX3_checkpoint 27 = .ok (.aload_n 0, 1) := by decide +kernel
theorem dX3_checkpoint_28 : decode cX3_checkpoint 28 = .ok (.invokevirtual 71, 3) := by decide +kernel
theorem dX3_checkpoint_31 : decode cX3_checkpoint 31 = .ok (.ifCond .ne 5, 3) := by decide +kernel
theorem dX3_checkpoint_34 : decode cX3_checkpoint 34 = .ok (.iconst 0, 1) := by decide +kernel
theorem dX3_checkpoint_35 : decode cX3_checkpoint 35 = .ok (.ireturn, 1) := by decide +kernel
theorem dX3_checkpoint_36 : decode cX3_checkpoint 36 = .ok (.iconst 0, 1) := by decide +kernel
theorem dX3_checkpoint_37 : decode cX3_checkpoint 37 = .ok (.istore_n 1, 1) := by decide +kernel
theorem dX3_checkpoint_38 : decode cX3_checkpoint 38 = .ok (.iload_n 1, 1) := by decide +kernel
theorem dX3_checkpoint_39 : decode cX3_checkpoint 39 = .ok (.bipush 64, 2) := by decide +kernel
theorem dX3_checkpoint_41 : decode cX3_checkpoint 41 = .ok (.if_icmp .ge 21, 3) := by decide +kernel
theorem dX3_checkpoint_44 : decode cX3_checkpoint 44 = .ok (.aload_n 0, 1) := by decide +kernel
theorem dX3_checkpoint_45 : decode cX3_checkpoint 45 = .ok (.getfield 19, 3) := by decide +kernel
theorem dX3_checkpoint_48 : decode cX3_checkpoint 48 = .ok (.iload_n 1, 1) := by decide +kernel
theorem dX3_checkpoint_49 : decode cX3_checkpoint 49 = .ok (.aload_n 0, 1) := by decide +kernel
theorem dX3_checkpoint_50 : decode cX3_checkpoint 50 = .ok (.getfield 16, 3) := by decide +kernel
theorem dX3_checkpoint_53 : decode cX3_checkpoint 53 = .ok (.iload_n 1, 1) := by decide +kernel
theorem dX3_checkpoint_54 : decode cX3_checkpoint 54 = .ok (.iaload, 1) := by decide +kernel
theorem dX3_checkpoint_55 : decode cX3_checkpoint 55 = .ok (.iastore, 1) := by decide +kernel
theorem dX3_checkpoint_56 : decode cX3_checkpoint 56 = .ok (.iinc 1 1, 3) := by decide +kernel
theorem dX3_checkpoint_59 : decode cX3_checkpoint 59 = .ok (.goto (-21), 3) := by decide +kernel
theorem dX3_checkpoint_62 : decode cX3_checkpoint 62 = .ok (.aload_n 0, 1) := by decide +kernel
theorem dX3_checkpoint_63 : decode cX3_checkpoint 63 = .ok (.aload_n 0, 1) := by decide +kernel
theorem dX3_checkpoint_64 : decode cX3_checkpoint 64 = .ok (.getfield 35, 3) := by decide +kernel
theorem dX3_checkpoint_67 : decode cX3_checkpoint 67 = .ok (.putfield 78, 3) := by decide +kernel
theorem dX3_checkpoint_70 : decode cX3_checkpoint 70 = .ok (.iconst 1, 1) := by decide +kernel
theorem dX3_checkpoint_71 : decode cX3_checkpoint 71 = .ok (.ireturn, 1) := by decide +kernel
theorem dX3_liveIn_0 : decode cX3_liveIn 0 = .ok (.iconst 0, 1) := by decide +kernel
theorem dX3_liveIn_1 : decode cX3_liveIn 1 = .ok (.istore_n 2, 1) := by decide +kernel
theorem dX3_liveIn_2 : decode cX3_liveIn 2 = .ok (.aload_n 0, 1) := by decide +kernel
theorem dX3_liveIn_3 : decode cX3_liveIn 3 = .ok (.getfield 32, 3) := by decide +kernel
theorem dX3_liveIn_6 : decode cX3_liveIn 6 = .ok (.istore_n 3, 1) := by decide +kernel
theorem dX3_liveIn_7 : decode cX3_liveIn 7 = .ok (.iload_n 3, 1) := by decide +kernel
theorem dX3_liveIn_8 : decode cX3_liveIn 8 = .ok (.aload_n 0, 1) := by decide +kernel
theorem dX3_liveIn_9 : decode cX3_liveIn 9 = .ok (.getfield 32, 3) := by decide +kernel
theorem dX3_liveIn_12 : decode cX3_liveIn 12 = .ok (.iload_n 1, 1) := by decide +kernel
theorem dX3_liveIn_13 : decode cX3_liveIn 13 = .ok (.iadd, 1) := by decide +kernel
theorem dX3_liveIn_14 : decode cX3_liveIn 14 = .ok (.if_icmp .ge 36, 3) := by decide +kernel
theorem dX3_liveIn_17 : decode cX3_liveIn 17 = .ok (.iload_n 2, 1) := by decide +kernel
theorem dX3_liveIn_18 : decode cX3_liveIn 18 = .ok (.aload_n 0, 1) := by decide +kernel
theorem dX3_liveIn_19 : decode cX3_liveIn 19 = .ok (.getfield 16, 3) := by decide +kernel
theorem dX3_liveIn_22 : decode cX3_liveIn 22 = .ok (.aload_n 0, 1) := by decide +kernel
theorem dX3_liveIn_23 : decode cX3_liveIn 23 = .ok (.getfield 7, 3) := by decide +kernel
theorem dX3_liveIn_26 : decode cX3_liveIn 26 = .ok (.iload_n 3, 1) := by decide +kernel
theorem dX3_liveIn_27 : decode cX3_liveIn 27 = .ok (.sipush 128, 3) := by decide +kernel
theorem dX3_liveIn_30 : decode cX3_liveIn 30 = .ok (.irem, 1) := by decide +kernel
theorem dX3_liveIn_31 : decode cX3_liveIn 31 = .ok (.iaload, 1) := by decide +kernel
theorem dX3_liveIn_32 : decode cX3_liveIn 32 = .ok (.iaload, 1) := by decide +kernel
theorem dX3_liveIn_33 : decode cX3_liveIn 33 = .ok (.iload_n 3, 1) := by decide +kernel
theorem dX3_liveIn_34 : decode cX3_liveIn 34 = .ok (.if_icmp .ne 7, 3) := by decide +kernel
theorem dX3_liveIn_37 : decode cX3_liveIn 37 = .ok (.iconst 1, 1) := by decide +kernel
theorem dX3_liveIn_38 : decode cX3_liveIn 38 = .ok (.goto 4, 3) := by decide +kernel
theorem dX3_liveIn_41 : decode cX3_liveIn 41 = .ok (.iconst 0, 1) := by decide +kernel
theorem dX3_liveIn_42 : decode cX3_liveIn 42 = .ok (.iadd, 1) := by decide +kernel
theorem dX3_liveIn_43 : decode cX3_liveIn 43 = .ok (.istore_n 2, 1) := by decide +kernel
theorem dX3_liveIn_44 : decode cX3_liveIn 44 = .ok (.iinc 3 1, 3) := by decide +kernel
theorem dX3_liveIn_47 : decode cX3_liveIn 47 = .ok (.goto (-40), 3) := by decide +kernel
theorem dX3_liveIn_50 : decode cX3_liveIn 50 = .ok (.iload_n 2, 1) := by decide +kernel
theorem dX3_liveIn_51 : decode cX3_liveIn 51 = .ok (.ireturn, 1) := by decide +kernel
set_option maxRecDepth 20000 in
theorem ggX3_collect_X3_liveIn : GoodIn wsX3_collect wsX3_liveIn := goodIn_r _ [11, 3, 5, 4, 38, 39, 40, 41, 42, 43, 44, 45, 46, 47, 48, 49] (by decide +kernel) (by decide +kernel)
set_option maxRecDepth 20000 in
theorem gX3_collect_X3_liveIn : GoodIn wsX3_collect (wsV RX3 81 RX3 yX3_liveIn wsX3_liveIn) := goodIn_app (goodIn_of _ (by decide +kernel)) ggX3_collect_X3_liveIn
set_option maxRecDepth 20000 in
theorem ggX3_collect_X3_canAppend : GoodIn wsX3_collect wsX3_canAppend := goodIn_r _ [15, 3, 2, 16, 17, 10, 18, 38, 39, 40, 41, 42, 43, 44, 45, 46, 47, 48, 49] (by decide +kernel) (by decide +kernel)
set_option maxRecDepth 20000 in
theorem gX3_collect_X3_canAppend : GoodIn wsX3_collect (wsV RX3 50 RX3 yX3_canAppend wsX3_canAppend) := goodIn_app (goodIn_of _ (by decide +kernel)) ggX3_collect_X3_canAppend
set_option maxRecDepth 20000 in
theorem ggX3_collect_X3_goes : GoodIn wsX3_collect wsX3_goes := goodIn_r _ [22, 23, 38, 39, 40, 41, 42, 43, 44, 45, 46, 47, 48, 49] (by decide +kernel) (by decide +kernel)
set_option maxRecDepth 20000 in
theorem gX3_collect_X3_goes : GoodIn wsX3_collect (wsV RX3 53 RX3 yX3_goes wsX3_goes) := goodIn_app (goodIn_of _ (by decide +kernel)) ggX3_collect_X3_goes
set_option maxRecDepth 20000 in
theorem ggX3_collect_X3_appends : GoodIn wsX3_collect wsX3_appends := goodIn_r _ [27, 4, 2, 6, 38, 39, 40, 41, 42, 43, 44, 45, 46, 47, 48, 49] (by decide +kernel) (by decide +kernel)
set_option maxRecDepth 20000 in
theorem gX3_collect_X3_appends : GoodIn wsX3_collect (wsV RX3 57 RX3 yX3_appends wsX3_appends) := goodIn_app (goodIn_of _ (by decide +kernel)) ggX3_collect_X3_appends
set_option maxRecDepth 20000 in
theorem ggX3_collect_X3_synchronizes : GoodIn wsX3_collect wsX3_synchronizes := goodIn_r _ [31, 32, 2, 33, 34, 35, 10, 36, 37, 1, 38, 39, 40, 41, 42, 43, 44, 45, 46, 47, 48, 49] (by decide +kernel) (by decide +kernel)
set_option maxRecDepth 20000 in
theorem gX3_collect_X3_synchronizes : GoodIn wsX3_collect (wsV RX3 75 RX3 yX3_synchronizes wsX3_synchronizes) := goodIn_app (goodIn_of _ (by decide +kernel)) ggX3_collect_X3_synchronizes
set_option maxRecDepth 20000 in
theorem ggX3_collect_X3_writes : GoodIn wsX3_collect wsX3_writes := goodIn_r _ [36, 37, 1, 38, 39, 40, 41, 42, 43, 44, 45, 46, 47, 48, 49] (by decide +kernel) (by decide +kernel)
set_option maxRecDepth 20000 in
theorem gX3_collect_X3_writes : GoodIn wsX3_collect (wsV RX3 71 RX3 yX3_writes wsX3_writes) := goodIn_app (goodIn_of _ (by decide +kernel)) ggX3_collect_X3_writes
theorem dX3_collect_0 : decode cX3_collect 0 = .ok (.iload_n 1, 1) := by decide +kernel
theorem dX3_collect_1 : decode cX3_collect 1 = .ok (.iconst 1, 1) := by decide +kernel
theorem dX3_collect_2 : decode cX3_collect 2 = .ok (.if_icmp .lt 13, 3) := by decide +kernel
theorem dX3_collect_5 : decode cX3_collect 5 = .ok (.iload_n 1, 1) := by decide +kernel
theorem dX3_collect_6 : decode cX3_collect 6 = .ok (.bipush 96, 2) := by decide +kernel
theorem dX3_collect_8 : decode cX3_collect 8 = .ok (.if_icmp .gt 7, 3) := by decide +kernel
theorem dX3_collect_11 : decode cX3_collect 11 = .ok (.iconst 1, 1) := by decide +kernel
theorem dX3_collect_12 : decode cX3_collect 12 = .ok (.goto 4, 3) := by decide +kernel
theorem dX3_collect_15 : decode cX3_collect 15 = .ok (.iconst 0, 1) := by decide +kernel
theorem dX3_collect_16 : decode cX3_collect 16 = .ok (.istore_n 2, 1) := by decide +kernel
theorem dX3_collect_17 : decode cX3_collect 17 = .ok (.aload_n 0, 1) := by decide +kernel
theorem dX3_collect_18 : decode cX3_collect 18 = .ok (.iload_n 2, 1) := by decide +kernel
theorem dX3_collect_19 : decode cX3_collect 19 = .ok (.iload_n 2, 1) := by decide +kernel
theorem dX3_collect_20 : decode cX3_collect 20 = .ok (.ifCond .eq 39, 3) := by decide +kernel
theorem dX3_collect_23 : decode cX3_collect 23 = .ok (.aload_n 0, 1) := by decide +kernel
theorem dX3_collect_24 : decode cX3_collect 24 = .ok (.getfield 46, 3) := by decide +kernel
theorem dX3_collect_27 : decode cX3_collect 27 = .ok (.ifCond .ne 32, 3) := by decide +kernel
theorem dX3_collect_30 : decode cX3_collect 30 = .ok (.aload_n 0, 1) := by decide +kernel
theorem dX3_collect_31 : decode cX3_collect 31 = .ok (.getfield 35, 3) := by decide +kernel
theorem dX3_collect_34 : decode cX3_collect 34 = .ok (.aload_n 0, 1) := by decide +kernel
theorem dX3_collect_35 : decode cX3_collect 35 = .ok (.getfield 32, 3) := by decide +kernel
theorem dX3_collect_38 : decode cX3_collect 38 = .ok (.isub, 1) := by decide +kernel
theorem dX3_collect_39 : decode cX3_collect 39 = .ok (.iload_n 1, 1) := by decide +kernel
theorem dX3_collect_40 : decode cX3_collect 40 = .ok (.if_icmp .lt 19, 3) := by decide +kernel
theorem dX3_collect_43 : decode cX3_collect 43 = .ok (.aload_n 0, 1) := by decide +kernel
theorem dX3_collect_44 : decode cX3_collect 44 = .ok (.aload_n 0, 1) := by decide +kernel
theorem dX3_collect_45 : decode cX3_collect 45 = .ok (.iload_n 1, 1) := by decide +kernel
theorem dX3_collect_46 : decode cX3_collect 46 = .ok (.invokevirtual 81, 3) := by decide +kernel
theorem dX3_collect_49 : decode cX3_collect 49 = .ok (.invokevirtual 50, 3) := by decide +kernel
theorem dX3_collect_52 : decode cX3_collect 52 = .ok (.ifCond .eq 7, 3) := by decide +kernel
theorem dX3_collect_55 : decode cX3_collect 55 = .ok (.iconst 1, 1) := by decide +kernel
theorem dX3_collect_56 : decode cX3_collect 56 = .ok (.goto 4, 3) := by decide +kernel
theorem dX3_collect_59 : decode cX3_collect 59 = .ok (.iconst 0, 1) := by decide +kernel
theorem dX3_collect_60 : decode cX3_collect 60 = .ok (.invokevirtual 53, 3) := by decide +kernel
theorem dX3_collect_63 : decode cX3_collect 63 = .ok (.ifCond .ne 5, 3) := by decide +kernel
theorem dX3_collect_66 : decode cX3_collect 66 = .ok (.iconst 0, 1) := by decide +kernel
theorem dX3_collect_67 : decode cX3_collect 67 = .ok (.ireturn, 1) := by decide +kernel
theorem dX3_collect_68 : decode cX3_collect 68 = .ok (.aload_n 0, 1) := by decide +kernel
theorem dX3_collect_69 : decode cX3_collect 69 = .ok (.getfield 32, 3) := by decide +kernel
theorem dX3_collect_72 : decode cX3_collect 72 = .ok (.istore_n 3, 1) := by decide +kernel
theorem dX3_collect_73 : decode cX3_collect 73 = .ok (.iload_n 3, 1) := by decide +kernel
theorem dX3_collect_74 : decode cX3_collect 74 = .ok (.aload_n 0, 1) := by decide +kernel
theorem dX3_collect_75 : decode cX3_collect 75 = .ok (.getfield 32, 3) := by decide +kernel
theorem dX3_collect_78 : decode cX3_collect 78 = .ok (.iload_n 1, 1) := by decide +kernel
theorem dX3_collect_79 : decode cX3_collect 79 = .ok (.iadd, 1) := by decide +kernel
theorem dX3_collect_80 : decode cX3_collect 80 = .ok (.if_icmp .ge 55, 3) := by decide +kernel
theorem dX3_collect_83 : decode cX3_collect 83 = .ok (.aload_n 0, 1) := by decide +kernel
theorem dX3_collect_84 : decode cX3_collect 84 = .ok (.getfield 7, 3) := by decide +kernel
theorem dX3_collect_87 : decode cX3_collect 87 = .ok (.iload_n 3, 1) := by decide +kernel
theorem dX3_collect_88 : decode cX3_collect 88 = .ok (.sipush 128, 3) := by decide +kernel
theorem dX3_collect_91 : decode cX3_collect 91 = .ok (.irem, 1) := by decide +kernel
theorem dX3_collect_92 : decode cX3_collect 92 = .ok (.iaload, 1) := by decide +kernel
theorem dX3_collect_93 : decode cX3_collect 93 = .ok (.istore 4, 2) := by decide +kernel
theorem dX3_collect_95 : decode cX3_collect 95 = .ok (.aload_n 0, 1) := by decide +kernel
theorem dX3_collect_96 : decode cX3_collect 96 = .ok (.getfield 16, 3) := by decide +kernel
theorem dX3_collect_99 : decode cX3_collect 99 = .ok (.iload 4, 2) := by decide +kernel
theorem dX3_collect_101 : decode cX3_collect 101 = .ok (.iaload, 1) := by decide +kernel
theorem dX3_collect_102 : decode cX3_collect 102 = .ok (.iload_n 3, 1) := by decide +kernel
theorem dX3_collect_103 : decode cX3_collect 103 = .ok (.if_icmp .ne 26, 3) := by decide +kernel
theorem dX3_collect_106 : decode cX3_collect 106 = .ok (.aload_n 0, 1) := by decide +kernel
theorem dX3_collect_107 : decode cX3_collect 107 = .ok (.getfield 16, 3) := by decide +kernel
theorem dX3_collect_110 : decode cX3_collect 110 = .ok (.iload 4, 2) := by decide +kernel
theorem dX3_collect_112 : decode cX3_collect 112 = .ok (.aload_n 0, 1) := by decide +kernel
theorem dX3_collect_113 : decode cX3_collect 113 = .ok (.iload 4, 2) := by decide +kernel
theorem dX3_collect_115 : decode cX3_collect 115 = .ok (.aload_n 0, 1) := by decide +kernel
theorem dX3_collect_116 : decode cX3_collect 116 = .ok (.getfield 13, 3) := by decide +kernel
theorem dX3_collect_119 : decode cX3_collect 119 = .ok (.iload_n 3, 1) := by decide +kernel
theorem dX3_collect_120 : decode cX3_collect 120 = .ok (.sipush 128, 3) := by decide +kernel
theorem dX3_collect_123 : decode cX3_collect 123 = .ok (.irem, 1) := by decide +kernel
theorem dX3_collect_124 : decode cX3_collect 124 = .ok (.iaload, 1) := by decide +kernel
theorem dX3_collect_125 : decode cX3_collect 125 = .ok (.invokevirtual 57, 3) := by decide +kernel
theorem dX3_collect_128 : decode cX3_collect 128 = .ok (.iastore, 1) := by decide +kernel
theorem dX3_collect_129 : decode cX3_collect 129 = .ok (.iinc 3 1, 3) := by decide +kernel
theorem dX3_collect_132 : decode cX3_collect 132 = .ok (.goto (-59), 3) := by decide +kernel
theorem dX3_collect_135 : decode cX3_collect 135 = .ok (.aload_n 0, 1) := by decide +kernel
theorem dX3_collect_136 : decode cX3_collect 136 = .ok (.invokevirtual 75, 3) := by decide +kernel
theorem dX3_collect_139 : decode cX3_collect 139 = .ok (.ifCond .eq 10, 3) := by decide +kernel
theorem dX3_collect_142 : decode cX3_collect 142 = .ok (.aload_n 0, 1) := by decide +kernel
theorem dX3_collect_143 : decode cX3_collect 143 = .ok (.invokevirtual 71, 3) := by decide +kernel
theorem dX3_collect_146 : decode cX3_collect 146 = .ok (.ifCond .ne 5, 3) := by decide +kernel
theorem dX3_collect_149 : decode cX3_collect 149 = .ok (.iconst 0, 1) := by decide +kernel
theorem dX3_collect_150 : decode cX3_collect 150 = .ok (.ireturn, 1) := by decide +kernel
theorem dX3_collect_151 : decode cX3_collect 151 = .ok (.aload_n 0, 1) := by decide +kernel
theorem dX3_collect_152 : decode cX3_collect 152 = .ok (.dup, 1) := by decide +kernel
theorem dX3_collect_153 : decode cX3_collect 153 = .ok (.getfield 32, 3) := by decide +kernel
theorem dX3_collect_156 : decode cX3_collect 156 = .ok (.iload_n 1, 1) := by decide +kernel
theorem dX3_collect_157 : decode cX3_collect 157 = .ok (.iadd, 1) := by decide +kernel
theorem dX3_collect_158 : decode cX3_collect 158 = .ok (.putfield 32, 3) := by decide +kernel
theorem dX3_collect_161 : decode cX3_collect 161 = .ok (.iconst 1, 1) := by decide +kernel
theorem dX3_collect_162 : decode cX3_collect 162 = .ok (.ireturn, 1) := by decide +kernel
set_option maxRecDepth 20000 in
theorem ggX3_failAfter_X3_goes : GoodIn wsX3_failAfter wsX3_goes := goodIn_r _ [6, 7, 8, 9, 10, 11, 12, 13, 14, 15, 16, 17, 18, 19] (by decide +kernel) (by decide +kernel)
set_option maxRecDepth 20000 in
theorem gX3_failAfter_X3_goes : GoodIn wsX3_failAfter (wsV RX3 53 RX3 yX3_goes wsX3_goes) := goodIn_app (goodIn_of _ (by decide +kernel)) ggX3_failAfter_X3_goes
theorem dX3_failAfter_0 : decode cX3_failAfter 0 = .ok (.aload_n 0, 1) := by decide +kernel
theorem dX3_failAfter_1 : decode cX3_failAfter 1 = .ok (.iload_n 1, 1) := by decide +kernel
theorem dX3_failAfter_2 : decode cX3_failAfter 2 = .ok (.iconst (-1), 1) := by decide +kernel
theorem dX3_failAfter_3 : decode cX3_failAfter 3 = .ok (.if_icmp .lt 14, 3) := by decide +kernel
theorem dX3_failAfter_6 : decode cX3_failAfter 6 = .ok (.iload_n 1, 1) := by decide +kernel
theorem dX3_failAfter_7 : decode cX3_failAfter 7 = .ok (.sipush 1000, 3) := by decide +kernel
theorem dX3_failAfter_10 : decode cX3_failAfter 10 = .ok (.if_icmp .gt 7, 3) := by decide +kernel
theorem dX3_failAfter_13 : decode cX3_failAfter 13 = .ok (.iconst 1, 1) := by decide +kernel
theorem dX3_failAfter_14 : decode cX3_failAfter 14 = .ok (.goto 4, 3) := by decide +kernel
theorem dX3_failAfter_17 : decode cX3_failAfter 17 = .ok (.iconst 0, 1) := by decide +kernel
theorem dX3_failAfter_18 : decode cX3_failAfter 18 = .ok (.iconst 1, 1) := by decide +kernel
theorem dX3_failAfter_19 : decode cX3_failAfter 19 = .ok (.invokevirtual 53, 3) := by decide +kernel
theorem dX3_failAfter_22 : decode cX3_failAfter 22 = .ok (.ifCond .eq 8, 3) := by decide +kernel
theorem dX3_failAfter_25 : decode cX3_failAfter 25 = .ok (.aload_n 0, 1) := by decide +kernel
theorem dX3_failAfter_26 : decode cX3_failAfter 26 = .ok (.iload_n 1, 1) := by decide +kernel
theorem dX3_failAfter_27 : decode cX3_failAfter 27 = .ok (.putfield 25, 3) := by decide +kernel
theorem dX3_failAfter_30 : decode cX3_failAfter 30 = .ok (.return_, 1) := by decide +kernel
set_option maxRecDepth 20000 in
theorem ggX3_crash_X3_goes : GoodIn wsX3_crash wsX3_goes := goodIn_r _ [8, 9, 10, 11, 12, 13, 14, 15, 16, 17, 18, 19, 20, 21] (by decide +kernel) (by decide +kernel)
set_option maxRecDepth 20000 in
theorem gX3_crash_X3_goes : GoodIn wsX3_crash (wsV RX3 53 RX3 yX3_goes wsX3_goes) := goodIn_app (goodIn_of _ (by decide +kernel)) ggX3_crash_X3_goes
theorem dX3_crash_0 : decode cX3_crash 0 = .ok (.aload_n 0, 1) := by decide +kernel
theorem dX3_crash_1 : decode cX3_crash 1 = .ok (.aload_n 0, 1) := by decide +kernel
theorem dX3_crash_2 : decode cX3_crash 2 = .ok (.getfield 46, 3) := by decide +kernel
theorem dX3_crash_5 : decode cX3_crash 5 = .ok (.ifCond .ne 7, 3) := by decide +kernel
theorem dX3_crash_8 : decode cX3_crash 8 = .ok (.iconst 1, 1) := by decide +kernel
theorem dX3_crash_9 : decode cX3_crash 9 = .ok (.goto 4, 3) := by decide +kernel
theorem dX3_crash_12 : decode cX3_crash 12 = .ok (.iconst 0, 1) := by decide +kernel
theorem dX3_crash_13 : decode cX3_crash 13 = .ok (.iconst 1, 1) := by decide +kernel
theorem dX3_crash_14 : decode cX3_crash 14 = .ok (.invokevirtual 53, 3) := by decide +kernel
theorem dX3_crash_17 : decode cX3_crash 17 = .ok (.ifCond .ne 5, 3) := by decide +kernel
theorem dX3_crash_20 : decode cX3_crash 20 = .ok (.iconst 0, 1) := by decide +kernel
theorem dX3_crash_21 : decode cX3_crash 21 = .ok (.ireturn, 1) := by decide +kernel
theorem dX3_crash_22 : decode cX3_crash 22 = .ok (.aload_n 0, 1) := by decide +kernel
theorem dX3_crash_23 : decode cX3_crash 23 = .ok (.iconst 1, 1) := by decide +kernel
theorem dX3_crash_24 : decode cX3_crash 24 = .ok (.putfield 46, 3) := by decide +kernel
theorem dX3_crash_27 : decode cX3_crash 27 = .ok (.aload_n 0, 1) := by decide +kernel
theorem dX3_crash_28 : decode cX3_crash 28 = .ok (.getfield 35, 3) := by decide +kernel
theorem dX3_crash_31 : decode cX3_crash 31 = .ok (.aload_n 0, 1) := by decide +kernel
theorem dX3_crash_32 : decode cX3_crash 32 = .ok (.getfield 68, 3) := by decide +kernel
theorem dX3_crash_35 : decode cX3_crash 35 = .ok (.isub, 1) := by decide +kernel
theorem dX3_crash_36 : decode cX3_crash 36 = .ok (.ireturn, 1) := by decide +kernel
theorem dX3_recovers_0 : decode cX3_recovers 0 = .ok (.iconst 0, 1) := by decide +kernel
theorem dX3_recovers_1 : decode cX3_recovers 1 = .ok (.istore_n 1, 1) := by decide +kernel
theorem dX3_recovers_2 : decode cX3_recovers 2 = .ok (.iload_n 1, 1) := by decide +kernel
theorem dX3_recovers_3 : decode cX3_recovers 3 = .ok (.bipush 64, 2) := by decide +kernel
theorem dX3_recovers_5 : decode cX3_recovers 5 = .ok (.if_icmp .ge 38, 3) := by decide +kernel
theorem dX3_recovers_8 : decode cX3_recovers 8 = .ok (.aload_n 0, 1) := by decide +kernel
theorem dX3_recovers_9 : decode cX3_recovers 9 = .ok (.getfield 22, 3) := by decide +kernel
theorem dX3_recovers_12 : decode cX3_recovers 12 = .ok (.iload_n 1, 1) := by decide +kernel
theorem dX3_recovers_13 : decode cX3_recovers 13 = .ok (.aload_n 0, 1) := by decide +kernel
theorem dX3_recovers_14 : decode cX3_recovers 14 = .ok (.getfield 19, 3) := by decide +kernel
theorem dX3_recovers_17 : decode cX3_recovers 17 = .ok (.iload_n 1, 1) := by decide +kernel
theorem dX3_recovers_18 : decode cX3_recovers 18 = .ok (.iaload, 1) := by decide +kernel
theorem dX3_recovers_19 : decode cX3_recovers 19 = .ok (.aload_n 0, 1) := by decide +kernel
theorem dX3_recovers_20 : decode cX3_recovers 20 = .ok (.getfield 32, 3) := by decide +kernel
theorem dX3_recovers_23 : decode cX3_recovers 23 = .ok (.if_icmp .ge 7, 3) := by decide +kernel
theorem dX3_recovers_26 : decode cX3_recovers 26 = .ok (.iconst (-1), 1) := by decide +kernel
theorem dX3_recovers_27 : decode cX3_recovers 27 = .ok (.goto 9, 3) := by decide +kernel
theorem dX3_recovers_30 : decode cX3_recovers 30 = .ok (.aload_n 0, 1) := by decide +kernel
theorem dX3_recovers_31 : decode cX3_recovers 31 = .ok (.getfield 19, 3) := by decide +kernel
theorem dX3_recovers_34 : decode cX3_recovers 34 = .ok (.iload_n 1, 1) := by decide +kernel
theorem dX3_recovers_35 : decode cX3_recovers 35 = .ok (.iaload, 1) := by decide +kernel
theorem dX3_recovers_36 : decode cX3_recovers 36 = .ok (.iastore, 1) := by decide +kernel
theorem dX3_recovers_37 : decode cX3_recovers 37 = .ok (.iinc 1 1, 3) := by decide +kernel
theorem dX3_recovers_40 : decode cX3_recovers 40 = .ok (.goto (-38), 3) := by decide +kernel
theorem dX3_recovers_43 : decode cX3_recovers 43 = .ok (.aload_n 0, 1) := by decide +kernel
theorem dX3_recovers_44 : decode cX3_recovers 44 = .ok (.getfield 78, 3) := by decide +kernel
theorem dX3_recovers_47 : decode cX3_recovers 47 = .ok (.aload_n 0, 1) := by decide +kernel
theorem dX3_recovers_48 : decode cX3_recovers 48 = .ok (.getfield 32, 3) := by decide +kernel
theorem dX3_recovers_51 : decode cX3_recovers 51 = .ok (.if_icmp .le 10, 3) := by decide +kernel
theorem dX3_recovers_54 : decode cX3_recovers 54 = .ok (.aload_n 0, 1) := by decide +kernel
theorem dX3_recovers_55 : decode cX3_recovers 55 = .ok (.getfield 78, 3) := by decide +kernel
theorem dX3_recovers_58 : decode cX3_recovers 58 = .ok (.goto 7, 3) := by decide +kernel
theorem dX3_recovers_61 : decode cX3_recovers 61 = .ok (.aload_n 0, 1) := by decide +kernel
theorem dX3_recovers_62 : decode cX3_recovers 62 = .ok (.getfield 32, 3) := by decide +kernel
theorem dX3_recovers_65 : decode cX3_recovers 65 = .ok (.istore_n 1, 1) := by decide +kernel
theorem dX3_recovers_66 : decode cX3_recovers 66 = .ok (.iload_n 1, 1) := by decide +kernel
theorem dX3_recovers_67 : decode cX3_recovers 67 = .ok (.aload_n 0, 1) := by decide +kernel
theorem dX3_recovers_68 : decode cX3_recovers 68 = .ok (.getfield 68, 3) := by decide +kernel
theorem dX3_recovers_71 : decode cX3_recovers 71 = .ok (.if_icmp .ge 42, 3) := by decide +kernel
theorem dX3_recovers_74 : decode cX3_recovers 74 = .ok (.aload_n 0, 1) := by decide +kernel
theorem dX3_recovers_75 : decode cX3_recovers 75 = .ok (.getfield 22, 3) := by decide +kernel
theorem dX3_recovers_78 : decode cX3_recovers 78 = .ok (.aload_n 0, 1) := by decide +kernel
theorem dX3_recovers_79 : decode cX3_recovers 79 = .ok (.getfield 7, 3) := by decide +kernel
theorem dX3_recovers_82 : decode cX3_recovers 82 = .ok (.iload_n 1, 1) := by decide +kernel
theorem dX3_recovers_83 : decode cX3_recovers 83 = .ok (.sipush 128, 3) := by decide +kernel
theorem dX3_recovers_86 : decode cX3_recovers 86 = .ok (.irem, 1) := by decide +kernel
theorem dX3_recovers_87 : decode cX3_recovers 87 = .ok (.iaload, 1) := by decide +kernel
theorem dX3_recovers_88 : decode cX3_recovers 88 = .ok (.aload_n 0, 1) := by decide +kernel
theorem dX3_recovers_89 : decode cX3_recovers 89 = .ok (.getfield 13, 3) := by decide +kernel
theorem dX3_recovers_92 : decode cX3_recovers 92 = .ok (.iload_n 1, 1) := by decide +kernel
theorem dX3_recovers_93 : decode cX3_recovers 93 = .ok (.sipush 128, 3) := by decide +kernel
theorem dX3_recovers_96 : decode cX3_recovers 96 = .ok (.irem, 1) := by decide +kernel
theorem dX3_recovers_97 : decode cX3_recovers 97 = .ok (.iaload, 1) := by decide +kernel
theorem dX3_recovers_98 : decode cX3_recovers 98 = .ok (.ifCond .ge 7, 3) := by decide +kernel
theorem dX3_recovers_101 : decode cX3_recovers 101 = .ok (.iconst (-1), 1) := by decide +kernel
theorem dX3_recovers_102 : decode cX3_recovers 102 = .ok (.goto 4, 3) := by decide +kernel
theorem dX3_recovers_105 : decode cX3_recovers 105 = .ok (.iload_n 1, 1) := by decide +kernel
theorem dX3_recovers_106 : decode cX3_recovers 106 = .ok (.iastore, 1) := by decide +kernel
theorem dX3_recovers_107 : decode cX3_recovers 107 = .ok (.iinc 1 1, 3) := by decide +kernel
theorem dX3_recovers_110 : decode cX3_recovers 110 = .ok (.goto (-44), 3) := by decide +kernel
theorem dX3_recovers_113 : decode cX3_recovers 113 = .ok (.iconst 0, 1) := by decide +kernel
theorem dX3_recovers_114 : decode cX3_recovers 114 = .ok (.istore_n 1, 1) := by decide +kernel
theorem dX3_recovers_115 : decode cX3_recovers 115 = .ok (.iconst 0, 1) := by decide +kernel
theorem dX3_recovers_116 : decode cX3_recovers 116 = .ok (.istore_n 2, 1) := by decide +kernel
theorem dX3_recovers_117 : decode cX3_recovers 117 = .ok (.iload_n 2, 1) := by decide +kernel
theorem dX3_recovers_118 : decode cX3_recovers 118 = .ok (.bipush 64, 2) := by decide +kernel
theorem dX3_recovers_120 : decode cX3_recovers 120 = .ok (.if_icmp .ge 26, 3) := by decide +kernel
theorem dX3_recovers_123 : decode cX3_recovers 123 = .ok (.iload_n 1, 1) := by decide +kernel
theorem dX3_recovers_124 : decode cX3_recovers 124 = .ok (.aload_n 0, 1) := by decide +kernel
theorem dX3_recovers_125 : decode cX3_recovers 125 = .ok (.getfield 22, 3) := by decide +kernel
theorem dX3_recovers_128 : decode cX3_recovers 128 = .ok (.iload_n 2, 1) := by decide +kernel
theorem dX3_recovers_129 : decode cX3_recovers 129 = .ok (.iaload, 1) := by decide +kernel
theorem dX3_recovers_130 : decode cX3_recovers 130 = .ok (.ifCond .lt 7, 3) := by decide +kernel
theorem dX3_recovers_133 : decode cX3_recovers 133 = .ok (.iconst 1, 1) := by decide +kernel
theorem dX3_recovers_134 : decode cX3_recovers 134 = .ok (.goto 4, 3) := by decide +kernel
theorem dX3_recovers_137 : decode cX3_recovers 137 = .ok (.iconst 0, 1) := by decide +kernel
theorem dX3_recovers_138 : decode cX3_recovers 138 = .ok (.iadd, 1) := by decide +kernel
theorem dX3_recovers_139 : decode cX3_recovers 139 = .ok (.istore_n 1, 1) := by decide +kernel
theorem dX3_recovers_140 : decode cX3_recovers 140 = .ok (.iinc 2 1, 3) := by decide +kernel
theorem dX3_recovers_143 : decode cX3_recovers 143 = .ok (.goto (-26), 3) := by decide +kernel
theorem dX3_recovers_146 : decode cX3_recovers 146 = .ok (.iload_n 1, 1) := by decide +kernel
theorem dX3_recovers_147 : decode cX3_recovers 147 = .ok (.ireturn, 1) := by decide +kernel
set_option maxRecDepth 20000 in
theorem ggX3_start_X3_goes : GoodIn wsX3_start wsX3_goes := goodIn_r _ [10, 11, 21, 22, 23, 24, 25, 26, 27, 28, 29, 30, 31, 32] (by decide +kernel) (by decide +kernel)
set_option maxRecDepth 20000 in
theorem gX3_start_X3_goes : GoodIn wsX3_start (wsV RX3 53 RX3 yX3_goes wsX3_goes) := goodIn_app (goodIn_of _ (by decide +kernel)) ggX3_start_X3_goes
set_option maxRecDepth 20000 in
theorem ggX3_start_X3_recovers : GoodIn wsX3_start wsX3_recovers := goodIn_r _ [15, 3, 16, 17, 18, 4, 19, 20, 21, 22, 23, 24, 25, 26, 27, 28, 29, 30, 31, 32] (by decide +kernel) (by decide +kernel)
set_option maxRecDepth 20000 in
theorem gX3_start_X3_recovers : GoodIn wsX3_start (wsV RX3 84 RX3 yX3_recovers wsX3_recovers) := goodIn_app (goodIn_of _ (by decide +kernel)) ggX3_start_X3_recovers
theorem dX3_start_0 : decode cX3_start 0 = .ok (.aload_n 0, 1) := by decide +kernel
theorem dX3_start_1 : decode cX3_start 1 = .ok (.aload_n 0, 1) := by decide +kernel
theorem dX3_start_2 : decode cX3_start 2 = .ok (.getfield 46, 3) := by decide +kernel
theorem dX3_start_5 : decode cX3_start 5 = .ok (.iconst 1, 1) := by decide +kernel
theorem dX3_start_6 : decode cX3_start 6 = .ok (.invokevirtual 53, 3) := by decide +kernel
theorem dX3_start_9 : decode cX3_start 9 = .ok (.ifCond .ne 5, 3) := by decide +kernel
theorem dX3_start_12 : decode cX3_start 12 = .ok (.iconst 0, 1) := by decide +kernel
theorem dX3_start_13 : decode cX3_start 13 = .ok (.ireturn, 1) := by decide +kernel
theorem dX3_start_14 : decode cX3_start 14 = .ok (.aload_n 0, 1) := by decide +kernel
theorem dX3_start_15 : decode cX3_start 15 = .ok (.invokevirtual 84, 3) := by decide +kernel
theorem dX3_start_18 : decode cX3_start 18 = .ok (.istore_n 1, 1) := by decide +kernel
theorem dX3_start_19 : decode cX3_start 19 = .ok (.iconst 0, 1) := by decide +kernel
theorem dX3_start_20 : decode cX3_start 20 = .ok (.istore_n 2, 1) := by decide +kernel
theorem dX3_start_21 : decode cX3_start 21 = .ok (.iload_n 2, 1) := by decide +kernel
theorem dX3_start_22 : decode cX3_start 22 = .ok (.bipush 64, 2) := by decide +kernel
theorem dX3_start_24 : decode cX3_start 24 = .ok (.if_icmp .ge 21, 3) := by decide +kernel
theorem dX3_start_27 : decode cX3_start 27 = .ok (.aload_n 0, 1) := by decide +kernel
theorem dX3_start_28 : decode cX3_start 28 = .ok (.getfield 16, 3) := by decide +kernel
theorem dX3_start_31 : decode cX3_start 31 = .ok (.iload_n 2, 1) := by decide +kernel
theorem dX3_start_32 : decode cX3_start 32 = .ok (.aload_n 0, 1) := by decide +kernel
theorem dX3_start_33 : decode cX3_start 33 = .ok (.getfield 22, 3) := by decide +kernel
theorem dX3_start_36 : decode cX3_start 36 = .ok (.iload_n 2, 1) := by decide +kernel
theorem dX3_start_37 : decode cX3_start 37 = .ok (.iaload, 1) := by decide +kernel
theorem dX3_start_38 : decode cX3_start 38 = .ok (.iastore, 1) := by decide +kernel
theorem dX3_start_39 : decode cX3_start 39 = .ok (.iinc 2 1, 3) := by decide +kernel
theorem dX3_start_42 : decode cX3_start 42 = .ok (.goto (-21), 3) := by decide +kernel
theorem dX3_start_45 : decode cX3_start 45 = .ok (.aload_n 0, 1) := by decide +kernel
theorem dX3_start_46 : decode cX3_start 46 = .ok (.aload_n 0, 1) := by decide +kernel
theorem dX3_start_47 : decode cX3_start 47 = .ok (.getfield 68, 3) := by decide +kernel
theorem dX3_start_50 : decode cX3_start 50 = .ok (.putfield 35, 3) := by decide +kernel
theorem dX3_start_53 : decode cX3_start 53 = .ok (.aload_n 0, 1) := by decide +kernel
theorem dX3_start_54 : decode cX3_start 54 = .ok (.iconst 0, 1) := by decide +kernel
theorem dX3_start_55 : decode cX3_start 55 = .ok (.putfield 46, 3) := by decide +kernel
theorem dX3_start_58 : decode cX3_start 58 = .ok (.iload_n 1, 1) := by decide +kernel
theorem dX3_start_59 : decode cX3_start 59 = .ok (.ireturn, 1) := by decide +kernel
theorem dX3_isUp_0 : decode cX3_isUp 0 = .ok (.aload_n 0, 1) := by decide +kernel
theorem dX3_isUp_1 : decode cX3_isUp 1 = .ok (.iconst 0, 1) := by decide +kernel
theorem dX3_isUp_2 : decode cX3_isUp 2 = .ok (.putfield 29, 3) := by decide +kernel
theorem dX3_isUp_5 : decode cX3_isUp 5 = .ok (.aload_n 0, 1) := by decide +kernel
theorem dX3_isUp_6 : decode cX3_isUp 6 = .ok (.getfield 46, 3) := by decide +kernel
theorem dX3_isUp_9 : decode cX3_isUp 9 = .ok (.ifCond .ne 7, 3) := by decide +kernel
theorem dX3_isUp_12 : decode cX3_isUp 12 = .ok (.iconst 1, 1) := by decide +kernel
theorem dX3_isUp_13 : decode cX3_isUp 13 = .ok (.goto 4, 3) := by decide +kernel
theorem dX3_isUp_16 : decode cX3_isUp 16 = .ok (.iconst 0, 1) := by decide +kernel
theorem dX3_isUp_17 : decode cX3_isUp 17 = .ok (.ireturn, 1) := by decide +kernel
theorem dX3_headOf_0 : decode cX3_headOf 0 = .ok (.aload_n 0, 1) := by decide +kernel
theorem dX3_headOf_1 : decode cX3_headOf 1 = .ok (.getfield 46, 3) := by decide +kernel
theorem dX3_headOf_4 : decode cX3_headOf 4 = .ok (.ifCond .eq 10, 3) := by decide +kernel
theorem dX3_headOf_7 : decode cX3_headOf 7 = .ok (.aload_n 0, 1) := by decide +kernel
theorem dX3_headOf_8 : decode cX3_headOf 8 = .ok (.getfield 68, 3) := by decide +kernel
theorem dX3_headOf_11 : decode cX3_headOf 11 = .ok (.goto 7, 3) := by decide +kernel
theorem dX3_headOf_14 : decode cX3_headOf 14 = .ok (.aload_n 0, 1) := by decide +kernel
theorem dX3_headOf_15 : decode cX3_headOf 15 = .ok (.getfield 35, 3) := by decide +kernel
theorem dX3_headOf_18 : decode cX3_headOf 18 = .ok (.ireturn, 1) := by decide +kernel
set_option maxRecDepth 20000 in
theorem ggX3_head_X3_headOf : GoodIn wsX3_head wsX3_headOf := goodIn_r _ [6, 7, 8, 9, 10, 11, 12, 13, 14, 15, 16, 17, 18, 19, 20, 21] (by decide +kernel) (by decide +kernel)
set_option maxRecDepth 20000 in
theorem gX3_head_X3_headOf : GoodIn wsX3_head (wsV RX3 88 RX3 yX3_headOf wsX3_headOf) := goodIn_app (goodIn_of _ (by decide +kernel)) ggX3_head_X3_headOf
theorem dX3_head_0 : decode cX3_head 0 = .ok (.aload_n 0, 1) := by decide +kernel
theorem dX3_head_1 : decode cX3_head 1 = .ok (.iconst 0, 1) := by decide +kernel
theorem dX3_head_2 : decode cX3_head 2 = .ok (.putfield 29, 3) := by decide +kernel
theorem dX3_head_5 : decode cX3_head 5 = .ok (.aload_n 0, 1) := by decide +kernel
theorem dX3_head_6 : decode cX3_head 6 = .ok (.invokevirtual 88, 3) := by decide +kernel
theorem dX3_head_9 : decode cX3_head 9 = .ok (.ireturn, 1) := by decide +kernel
theorem dX3_tail_0 : decode cX3_tail 0 = .ok (.aload_n 0, 1) := by decide +kernel
theorem dX3_tail_1 : decode cX3_tail 1 = .ok (.iconst 0, 1) := by decide +kernel
theorem dX3_tail_2 : decode cX3_tail 2 = .ok (.putfield 29, 3) := by decide +kernel
theorem dX3_tail_5 : decode cX3_tail 5 = .ok (.aload_n 0, 1) := by decide +kernel
theorem dX3_tail_6 : decode cX3_tail 6 = .ok (.getfield 32, 3) := by decide +kernel
theorem dX3_tail_9 : decode cX3_tail 9 = .ok (.ireturn, 1) := by decide +kernel
theorem dX3_written_0 : decode cX3_written 0 = .ok (.aload_n 0, 1) := by decide +kernel
theorem dX3_written_1 : decode cX3_written 1 = .ok (.iconst 0, 1) := by decide +kernel
theorem dX3_written_2 : decode cX3_written 2 = .ok (.putfield 29, 3) := by decide +kernel
theorem dX3_written_5 : decode cX3_written 5 = .ok (.aload_n 0, 1) := by decide +kernel
theorem dX3_written_6 : decode cX3_written 6 = .ok (.getfield 68, 3) := by decide +kernel
theorem dX3_written_9 : decode cX3_written 9 = .ok (.ireturn, 1) := by decide +kernel
theorem dX3_checkpointAt_0 : decode cX3_checkpointAt 0 = .ok (.aload_n 0, 1) := by decide +kernel
theorem dX3_checkpointAt_1 : decode cX3_checkpointAt 1 = .ok (.iconst 0, 1) := by decide +kernel
theorem dX3_checkpointAt_2 : decode cX3_checkpointAt 2 = .ok (.putfield 29, 3) := by decide +kernel
theorem dX3_checkpointAt_5 : decode cX3_checkpointAt 5 = .ok (.aload_n 0, 1) := by decide +kernel
theorem dX3_checkpointAt_6 : decode cX3_checkpointAt 6 = .ok (.getfield 78, 3) := by decide +kernel
theorem dX3_checkpointAt_9 : decode cX3_checkpointAt 9 = .ok (.ireturn, 1) := by decide +kernel
set_option maxRecDepth 20000 in
theorem ggX3_positionOf_X3_isKey : GoodIn wsX3_positionOf wsX3_isKey := goodIn_r _ [6] (by decide +kernel) (by decide +kernel)
set_option maxRecDepth 20000 in
theorem gX3_positionOf_X3_isKey : GoodIn wsX3_positionOf (va_wsS RX3 42 yX3_isKey wsX3_isKey) := goodIn_app (goodIn_of _ (by decide +kernel)) ggX3_positionOf_X3_isKey
set_option maxRecDepth 20000 in
theorem ggX3_positionOf_X3_goes : GoodIn wsX3_positionOf wsX3_goes := goodIn_r _ [10, 11, 12, 13, 14, 15, 16, 17, 18, 19, 20, 21, 22, 23] (by decide +kernel) (by decide +kernel)
set_option maxRecDepth 20000 in
theorem gX3_positionOf_X3_goes : GoodIn wsX3_positionOf (wsV RX3 53 RX3 yX3_goes wsX3_goes) := goodIn_app (goodIn_of _ (by decide +kernel)) ggX3_positionOf_X3_goes
theorem dX3_positionOf_0 : decode cX3_positionOf 0 = .ok (.aload_n 0, 1) := by decide +kernel
theorem dX3_positionOf_1 : decode cX3_positionOf 1 = .ok (.iload_n 1, 1) := by decide +kernel
theorem dX3_positionOf_2 : decode cX3_positionOf 2 = .ok (.invokestatic 42, 3) := by decide +kernel
theorem dX3_positionOf_5 : decode cX3_positionOf 5 = .ok (.aload_n 0, 1) := by decide +kernel
theorem dX3_positionOf_6 : decode cX3_positionOf 6 = .ok (.getfield 46, 3) := by decide +kernel
theorem dX3_positionOf_9 : decode cX3_positionOf 9 = .ok (.ifCond .ne 7, 3) := by decide +kernel
theorem dX3_positionOf_12 : decode cX3_positionOf 12 = .ok (.iconst 1, 1) := by decide +kernel
theorem dX3_positionOf_13 : decode cX3_positionOf 13 = .ok (.goto 4, 3) := by decide +kernel
theorem dX3_positionOf_16 : decode cX3_positionOf 16 = .ok (.iconst 0, 1) := by decide +kernel
theorem dX3_positionOf_17 : decode cX3_positionOf 17 = .ok (.invokevirtual 53, 3) := by decide +kernel
theorem dX3_positionOf_20 : decode cX3_positionOf 20 = .ok (.ifCond .eq 12, 3) := by decide +kernel
theorem dX3_positionOf_23 : decode cX3_positionOf 23 = .ok (.aload_n 0, 1) := by decide +kernel
theorem dX3_positionOf_24 : decode cX3_positionOf 24 = .ok (.getfield 16, 3) := by decide +kernel
theorem dX3_positionOf_27 : decode cX3_positionOf 27 = .ok (.iload_n 1, 1) := by decide +kernel
theorem dX3_positionOf_28 : decode cX3_positionOf 28 = .ok (.iaload, 1) := by decide +kernel
theorem dX3_positionOf_29 : decode cX3_positionOf 29 = .ok (.goto 4, 3) := by decide +kernel
theorem dX3_positionOf_32 : decode cX3_positionOf 32 = .ok (.iconst 0, 1) := by decide +kernel
theorem dX3_positionOf_33 : decode cX3_positionOf 33 = .ok (.ireturn, 1) := by decide +kernel
set_option maxRecDepth 20000 in
theorem ggX3_segments_X3_headOf : GoodIn wsX3_segments wsX3_headOf := goodIn_r _ [7, 8, 9, 10, 14, 15, 16, 17, 18, 19, 20, 21, 22, 23, 24, 25] (by decide +kernel) (by decide +kernel)
set_option maxRecDepth 20000 in
theorem gX3_segments_X3_headOf : GoodIn wsX3_segments (wsV RX3 88 RX3 yX3_headOf wsX3_headOf) := goodIn_app (goodIn_of _ (by decide +kernel)) ggX3_segments_X3_headOf
set_option maxRecDepth 20000 in
theorem ggX3_segments_X3_segmentsOf : GoodIn wsX3_segments wsX3_segmentsOf := goodIn_r _ [13] (by decide +kernel) (by decide +kernel)
set_option maxRecDepth 20000 in
theorem gX3_segments_X3_segmentsOf : GoodIn wsX3_segments (va_wsS RX3 38 yX3_segmentsOf wsX3_segmentsOf) := goodIn_app (goodIn_of _ (by decide +kernel)) ggX3_segments_X3_segmentsOf
theorem dX3_segments_0 : decode cX3_segments 0 = .ok (.aload_n 0, 1) := by decide +kernel
theorem dX3_segments_1 : decode cX3_segments 1 = .ok (.iconst 0, 1) := by decide +kernel
theorem dX3_segments_2 : decode cX3_segments 2 = .ok (.putfield 29, 3) := by decide +kernel
theorem dX3_segments_5 : decode cX3_segments 5 = .ok (.aload_n 0, 1) := by decide +kernel
theorem dX3_segments_6 : decode cX3_segments 6 = .ok (.getfield 32, 3) := by decide +kernel
theorem dX3_segments_9 : decode cX3_segments 9 = .ok (.aload_n 0, 1) := by decide +kernel
theorem dX3_segments_10 : decode cX3_segments 10 = .ok (.invokevirtual 88, 3) := by decide +kernel
theorem dX3_segments_13 : decode cX3_segments 13 = .ok (.invokestatic 38, 3) := by decide +kernel
theorem dX3_segments_16 : decode cX3_segments 16 = .ok (.ireturn, 1) := by decide +kernel
set_option maxRecDepth 20000 in
theorem ggX3_live_X3_goes : GoodIn wsX3_live wsX3_goes := goodIn_r _ [7, 8, 9, 10, 11, 12, 13, 14, 15, 16, 17, 18, 19, 20] (by decide +kernel) (by decide +kernel)
set_option maxRecDepth 20000 in
theorem gX3_live_X3_goes : GoodIn wsX3_live (wsV RX3 53 RX3 yX3_goes wsX3_goes) := goodIn_app (goodIn_of _ (by decide +kernel)) ggX3_live_X3_goes
theorem dX3_live_0 : decode cX3_live 0 = .ok (.aload_n 0, 1) := by decide +kernel
theorem dX3_live_1 : decode cX3_live 1 = .ok (.aload_n 0, 1) := by decide +kernel
theorem dX3_live_2 : decode cX3_live 2 = .ok (.getfield 46, 3) := by decide +kernel
theorem dX3_live_5 : decode cX3_live 5 = .ok (.ifCond .ne 7, 3) := by decide +kernel
theorem dX3_live_8 : decode cX3_live 8 = .ok (.iconst 1, 1) := by decide +kernel
theorem dX3_live_9 : decode cX3_live 9 = .ok (.goto 4, 3) := by decide +kernel
theorem dX3_live_12 : decode cX3_live 12 = .ok (.iconst 0, 1) := by decide +kernel
theorem dX3_live_13 : decode cX3_live 13 = .ok (.iconst 1, 1) := by decide +kernel
theorem dX3_live_14 : decode cX3_live 14 = .ok (.invokevirtual 53, 3) := by decide +kernel
theorem dX3_live_17 : decode cX3_live 17 = .ok (.ifCond .ne 5, 3) := by decide +kernel
theorem dX3_live_20 : decode cX3_live 20 = .ok (.iconst 0, 1) := by decide +kernel
theorem dX3_live_21 : decode cX3_live 21 = .ok (.ireturn, 1) := by decide +kernel
theorem dX3_live_22 : decode cX3_live 22 = .ok (.iconst 0, 1) := by decide +kernel
theorem dX3_live_23 : decode cX3_live 23 = .ok (.istore_n 1, 1) := by decide +kernel
theorem dX3_live_24 : decode cX3_live 24 = .ok (.iconst 0, 1) := by decide +kernel
theorem dX3_live_25 : decode cX3_live 25 = .ok (.istore_n 2, 1) := by decide +kernel
theorem dX3_live_26 : decode cX3_live 26 = .ok (.iload_n 2, 1) := by decide +kernel
theorem dX3_live_27 : decode cX3_live 27 = .ok (.bipush 64, 2) := by decide +kernel
theorem dX3_live_29 : decode cX3_live 29 = .ok (.if_icmp .ge 26, 3) := by decide +kernel
theorem dX3_live_32 : decode cX3_live 32 = .ok (.iload_n 1, 1) := by decide +kernel
theorem dX3_live_33 : decode cX3_live 33 = .ok (.aload_n 0, 1) := by decide +kernel
theorem dX3_live_34 : decode cX3_live 34 = .ok (.getfield 16, 3) := by decide +kernel
theorem dX3_live_37 : decode cX3_live 37 = .ok (.iload_n 2, 1) := by decide +kernel
theorem dX3_live_38 : decode cX3_live 38 = .ok (.iaload, 1) := by decide +kernel
theorem dX3_live_39 : decode cX3_live 39 = .ok (.ifCond .lt 7, 3) := by decide +kernel
theorem dX3_live_42 : decode cX3_live 42 = .ok (.iconst 1, 1) := by decide +kernel
theorem dX3_live_43 : decode cX3_live 43 = .ok (.goto 4, 3) := by decide +kernel
theorem dX3_live_46 : decode cX3_live 46 = .ok (.iconst 0, 1) := by decide +kernel
theorem dX3_live_47 : decode cX3_live 47 = .ok (.iadd, 1) := by decide +kernel
theorem dX3_live_48 : decode cX3_live 48 = .ok (.istore_n 1, 1) := by decide +kernel
theorem dX3_live_49 : decode cX3_live 49 = .ok (.iinc 2 1, 3) := by decide +kernel
theorem dX3_live_52 : decode cX3_live 52 = .ok (.goto (-26), 3) := by decide +kernel
theorem dX3_live_55 : decode cX3_live 55 = .ok (.iload_n 1, 1) := by decide +kernel
theorem dX3_live_56 : decode cX3_live 56 = .ok (.ireturn, 1) := by decide +kernel
set_option maxRecDepth 20000 in
theorem ggX3_toFree_X3_headOf : GoodIn wsX3_toFree wsX3_headOf := goodIn_r _ [7, 8, 9, 10, 11, 12, 13, 14, 15, 16, 17, 18, 19, 20, 21, 22] (by decide +kernel) (by decide +kernel)
set_option maxRecDepth 20000 in
theorem gX3_toFree_X3_headOf : GoodIn wsX3_toFree (wsV RX3 88 RX3 yX3_headOf wsX3_headOf) := goodIn_app (goodIn_of _ (by decide +kernel)) ggX3_toFree_X3_headOf
theorem dX3_toFree_0 : decode cX3_toFree 0 = .ok (.aload_n 0, 1) := by decide +kernel
theorem dX3_toFree_1 : decode cX3_toFree 1 = .ok (.iconst 0, 1) := by decide +kernel
theorem dX3_toFree_2 : decode cX3_toFree 2 = .ok (.putfield 29, 3) := by decide +kernel
theorem dX3_toFree_5 : decode cX3_toFree 5 = .ok (.bipush 8, 2) := by decide +kernel
theorem dX3_toFree_7 : decode cX3_toFree 7 = .ok (.aload_n 0, 1) := by decide +kernel
theorem dX3_toFree_8 : decode cX3_toFree 8 = .ok (.getfield 32, 3) := by decide +kernel
theorem dX3_toFree_11 : decode cX3_toFree 11 = .ok (.bipush 8, 2) := by decide +kernel
theorem dX3_toFree_13 : decode cX3_toFree 13 = .ok (.irem, 1) := by decide +kernel
theorem dX3_toFree_14 : decode cX3_toFree 14 = .ok (.isub, 1) := by decide +kernel
theorem dX3_toFree_15 : decode cX3_toFree 15 = .ok (.istore_n 1, 1) := by decide +kernel
theorem dX3_toFree_16 : decode cX3_toFree 16 = .ok (.aload_n 0, 1) := by decide +kernel
theorem dX3_toFree_17 : decode cX3_toFree 17 = .ok (.invokevirtual 88, 3) := by decide +kernel
theorem dX3_toFree_20 : decode cX3_toFree 20 = .ok (.aload_n 0, 1) := by decide +kernel
theorem dX3_toFree_21 : decode cX3_toFree 21 = .ok (.getfield 32, 3) := by decide +kernel
theorem dX3_toFree_24 : decode cX3_toFree 24 = .ok (.isub, 1) := by decide +kernel
theorem dX3_toFree_25 : decode cX3_toFree 25 = .ok (.iload_n 1, 1) := by decide +kernel
theorem dX3_toFree_26 : decode cX3_toFree 26 = .ok (.if_icmp .ge 7, 3) := by decide +kernel
theorem dX3_toFree_29 : decode cX3_toFree 29 = .ok (.iconst (-1), 1) := by decide +kernel
theorem dX3_toFree_30 : decode cX3_toFree 30 = .ok (.goto 4, 3) := by decide +kernel
theorem dX3_toFree_33 : decode cX3_toFree 33 = .ok (.iload_n 1, 1) := by decide +kernel
theorem dX3_toFree_34 : decode cX3_toFree 34 = .ok (.ireturn, 1) := by decide +kernel
set_option maxRecDepth 20000 in
theorem ggX3_wouldHave_X3_recovers : GoodIn wsX3_wouldHave wsX3_recovers := goodIn_r _ [6, 7, 8, 9, 10, 11, 12, 13, 14, 15, 16, 17, 18, 19, 20, 21, 22, 23, 24, 25] (by decide +kernel) (by decide +kernel)
set_option maxRecDepth 20000 in
theorem gX3_wouldHave_X3_recovers : GoodIn wsX3_wouldHave (wsV RX3 84 RX3 yX3_recovers wsX3_recovers) := goodIn_app (goodIn_of _ (by decide +kernel)) ggX3_wouldHave_X3_recovers
theorem dX3_wouldHave_0 : decode cX3_wouldHave 0 = .ok (.aload_n 0, 1) := by decide +kernel
theorem dX3_wouldHave_1 : decode cX3_wouldHave 1 = .ok (.iconst 0, 1) := by decide +kernel
theorem dX3_wouldHave_2 : decode cX3_wouldHave 2 = .ok (.putfield 29, 3) := by decide +kernel
theorem dX3_wouldHave_5 : decode cX3_wouldHave 5 = .ok (.aload_n 0, 1) := by decide +kernel
theorem dX3_wouldHave_6 : decode cX3_wouldHave 6 = .ok (.invokevirtual 84, 3) := by decide +kernel
theorem dX3_wouldHave_9 : decode cX3_wouldHave 9 = .ok (.ireturn, 1) := by decide +kernel
end
section
theorem dJ6_bitCount_0f7a4_0 : decode cJ6_bitCount_0f7a4 0 = .ok (.iload_n 0, 1) := by decide +kernel
theorem dJ6_bitCount_0f7a4_1 : decode cJ6_bitCount_0f7a4 1 = .ok (.iload_n 0, 1) := by decide +kernel
theorem dJ6_bitCount_0f7a4_2 : decode cJ6_bitCount_0f7a4 2 = .ok (.iconst 1, 1) := by decide +kernel
theorem dJ6_bitCount_0f7a4_3 : decode cJ6_bitCount_0f7a4 3 = .ok (.iushr, 1) := by decide +kernel
theorem dJ6_bitCount_0f7a4_4 : decode cJ6_bitCount_0f7a4 4 = .ok (.ldc_w 265, 3) := by decide +kernel
theorem dJ6_bitCount_0f7a4_7 : decode cJ6_bitCount_0f7a4 7 = .ok (.iand, 1) := by decide +kernel
theorem dJ6_bitCount_0f7a4_8 : decode cJ6_bitCount_0f7a4 8 = .ok (.isub, 1) := by decide +kernel
theorem dJ6_bitCount_0f7a4_9 : decode cJ6_bitCount_0f7a4 9 = .ok (.istore_n 0, 1) := by decide +kernel
theorem dJ6_bitCount_0f7a4_10 : decode cJ6_bitCount_0f7a4 10 = .ok (.iload_n 0, 1) := by decide +kernel
theorem dJ6_bitCount_0f7a4_11 : decode cJ6_bitCount_0f7a4 11 = .ok (.ldc_w 266, 3) := by decide +kernel
theorem dJ6_bitCount_0f7a4_14 : decode cJ6_bitCount_0f7a4 14 = .ok (.iand, 1) := by decide +kernel
theorem dJ6_bitCount_0f7a4_15 : decode cJ6_bitCount_0f7a4 15 = .ok (.iload_n 0, 1) := by decide +kernel
theorem dJ6_bitCount_0f7a4_16 : decode cJ6_bitCount_0f7a4 16 = .ok (.iconst 2, 1) := by decide +kernel
theorem dJ6_bitCount_0f7a4_17 : decode cJ6_bitCount_0f7a4 17 = .ok (.iushr, 1) := by decide +kernel
theorem dJ6_bitCount_0f7a4_18 : decode cJ6_bitCount_0f7a4 18 = .ok (.ldc_w 266, 3) := by decide +kernel
theorem dJ6_bitCount_0f7a4_21 : decode cJ6_bitCount_0f7a4 21 = .ok (.iand, 1) := by decide +kernel
theorem dJ6_bitCount_0f7a4_22 : decode cJ6_bitCount_0f7a4 22 = .ok (.iadd, 1) := by decide +kernel
theorem dJ6_bitCount_0f7a4_23 : decode cJ6_bitCount_0f7a4 23 = .ok (.istore_n 0, 1) := by decide +kernel
theorem dJ6_bitCount_0f7a4_24 : decode cJ6_bitCount_0f7a4 24 = .ok (.iload_n 0, 1) := by decide +kernel
theorem dJ6_bitCount_0f7a4_25 : decode cJ6_bitCount_0f7a4 25 = .ok (.iload_n 0, 1) := by decide +kernel
theorem dJ6_bitCount_0f7a4_26 : decode cJ6_bitCount_0f7a4 26 = .ok (.iconst 4, 1) := by decide +kernel
theorem dJ6_bitCount_0f7a4_27 : decode cJ6_bitCount_0f7a4 27 = .ok (.iushr, 1) := by decide +kernel
theorem dJ6_bitCount_0f7a4_28 : decode cJ6_bitCount_0f7a4 28 = .ok (.iadd, 1) := by decide +kernel
theorem dJ6_bitCount_0f7a4_29 : decode cJ6_bitCount_0f7a4 29 = .ok (.ldc_w 267, 3) := by decide +kernel
theorem dJ6_bitCount_0f7a4_32 : decode cJ6_bitCount_0f7a4 32 = .ok (.iand, 1) := by decide +kernel
theorem dJ6_bitCount_0f7a4_33 : decode cJ6_bitCount_0f7a4 33 = .ok (.istore_n 0, 1) := by decide +kernel
theorem dJ6_bitCount_0f7a4_34 : decode cJ6_bitCount_0f7a4 34 = .ok (.iload_n 0, 1) := by decide +kernel
theorem dJ6_bitCount_0f7a4_35 : decode cJ6_bitCount_0f7a4 35 = .ok (.iload_n 0, 1) := by decide +kernel
theorem dJ6_bitCount_0f7a4_36 : decode cJ6_bitCount_0f7a4 36 = .ok (.bipush 8, 2) := by decide +kernel
theorem dJ6_bitCount_0f7a4_38 : decode cJ6_bitCount_0f7a4 38 = .ok (.iushr, 1) := by decide +kernel
theorem dJ6_bitCount_0f7a4_39 : decode cJ6_bitCount_0f7a4 39 = .ok (.iadd, 1) := by decide +kernel
theorem dJ6_bitCount_0f7a4_40 : decode cJ6_bitCount_0f7a4 40 = .ok (.istore_n 0, 1) := by decide +kernel
theorem dJ6_bitCount_0f7a4_41 : decode cJ6_bitCount_0f7a4 41 = .ok (.iload_n 0, 1) := by decide +kernel
theorem dJ6_bitCount_0f7a4_42 : decode cJ6_bitCount_0f7a4 42 = .ok (.iload_n 0, 1) := by decide +kernel
theorem dJ6_bitCount_0f7a4_43 : decode cJ6_bitCount_0f7a4 43 = .ok (.bipush 16, 2) := by decide +kernel
theorem dJ6_bitCount_0f7a4_45 : decode cJ6_bitCount_0f7a4 45 = .ok (.iushr, 1) := by decide +kernel
theorem dJ6_bitCount_0f7a4_46 : decode cJ6_bitCount_0f7a4 46 = .ok (.iadd, 1) := by decide +kernel
theorem dJ6_bitCount_0f7a4_47 : decode cJ6_bitCount_0f7a4 47 = .ok (.istore_n 0, 1) := by decide +kernel
theorem dJ6_bitCount_0f7a4_48 : decode cJ6_bitCount_0f7a4 48 = .ok (.iload_n 0, 1) := by decide +kernel
theorem dJ6_bitCount_0f7a4_49 : decode cJ6_bitCount_0f7a4 49 = .ok (.bipush 63, 2) := by decide +kernel
theorem dJ6_bitCount_0f7a4_51 : decode cJ6_bitCount_0f7a4 51 = .ok (.iand, 1) := by decide +kernel
theorem dJ6_bitCount_0f7a4_52 : decode cJ6_bitCount_0f7a4 52 = .ok (.ireturn, 1) := by decide +kernel
theorem dJ9_floorMod_7cf53_0 : decode cJ9_floorMod_7cf53 0 = .ok (.iload_n 0, 1) := by decide +kernel
theorem dJ9_floorMod_7cf53_1 : decode cJ9_floorMod_7cf53 1 = .ok (.iload_n 1, 1) := by decide +kernel
theorem dJ9_floorMod_7cf53_2 : decode cJ9_floorMod_7cf53 2 = .ok (.irem, 1) := by decide +kernel
theorem dJ9_floorMod_7cf53_3 : decode cJ9_floorMod_7cf53 3 = .ok (.istore_n 2, 1) := by decide +kernel
theorem dJ9_floorMod_7cf53_4 : decode cJ9_floorMod_7cf53 4 = .ok (.iload_n 0, 1) := by decide +kernel
theorem dJ9_floorMod_7cf53_5 : decode cJ9_floorMod_7cf53 5 = .ok (.iload_n 1, 1) := by decide +kernel
theorem dJ9_floorMod_7cf53_6 : decode cJ9_floorMod_7cf53 6 = .ok (.ixor, 1) := by decide +kernel
theorem dJ9_floorMod_7cf53_7 : decode cJ9_floorMod_7cf53 7 = .ok (.ifCond .ge 11, 3) := by decide +kernel
theorem dJ9_floorMod_7cf53_10 : decode cJ9_floorMod_7cf53 10 = .ok (.iload_n 2, 1) := by decide +kernel
theorem dJ9_floorMod_7cf53_11 : decode cJ9_floorMod_7cf53 11 = .ok (.ifCond .eq 7, 3) := by decide +kernel
theorem dJ9_floorMod_7cf53_14 : decode cJ9_floorMod_7cf53 14 = .ok (.iload_n 2, 1) := by decide +kernel
theorem dJ9_floorMod_7cf53_15 : decode cJ9_floorMod_7cf53 15 = .ok (.iload_n 1, 1) := by decide +kernel
theorem dJ9_floorMod_7cf53_16 : decode cJ9_floorMod_7cf53 16 = .ok (.iadd, 1) := by decide +kernel
theorem dJ9_floorMod_7cf53_17 : decode cJ9_floorMod_7cf53 17 = .ok (.ireturn, 1) := by decide +kernel
theorem dJ9_floorMod_7cf53_18 : decode cJ9_floorMod_7cf53 18 = .ok (.iload_n 2, 1) := by decide +kernel
theorem dJ9_floorMod_7cf53_19 : decode cJ9_floorMod_7cf53 19 = .ok (.ireturn, 1) := by decide +kernel
theorem dJ9_max_7cf53_0 : decode cJ9_max_7cf53 0 = .ok (.iload_n 0, 1) := by decide +kernel
theorem dJ9_max_7cf53_1 : decode cJ9_max_7cf53 1 = .ok (.iload_n 1, 1) := by decide +kernel
theorem dJ9_max_7cf53_2 : decode cJ9_max_7cf53 2 = .ok (.if_icmp .lt 7, 3) := by decide +kernel
theorem dJ9_max_7cf53_5 : decode cJ9_max_7cf53 5 = .ok (.iload_n 0, 1) := by decide +kernel
theorem dJ9_max_7cf53_6 : decode cJ9_max_7cf53 6 = .ok (.goto 4, 3) := by decide +kernel
theorem dJ9_max_7cf53_9 : decode cJ9_max_7cf53 9 = .ok (.iload_n 1, 1) := by decide +kernel
theorem dJ9_max_7cf53_10 : decode cJ9_max_7cf53 10 = .ok (.ireturn, 1) := by decide +kernel
theorem dJ7_fill_53178_0 : decode cJ7_fill_53178 0 = .ok (.iconst 0, 1) := by decide +kernel
theorem dJ7_fill_53178_1 : decode cJ7_fill_53178 1 = .ok (.istore_n 2, 1) := by decide +kernel
theorem dJ7_fill_53178_2 : decode cJ7_fill_53178 2 = .ok (.aload_n 0, 1) := by decide +kernel
theorem dJ7_fill_53178_3 : decode cJ7_fill_53178 3 = .ok (.arraylength, 1) := by decide +kernel
theorem dJ7_fill_53178_4 : decode cJ7_fill_53178 4 = .ok (.istore_n 3, 1) := by decide +kernel
theorem dJ7_fill_53178_5 : decode cJ7_fill_53178 5 = .ok (.iload_n 2, 1) := by decide +kernel
theorem dJ7_fill_53178_6 : decode cJ7_fill_53178 6 = .ok (.iload_n 3, 1) := by decide +kernel
theorem dJ7_fill_53178_7 : decode cJ7_fill_53178 7 = .ok (.if_icmp .ge 13, 3) := by decide +kernel
theorem dJ7_fill_53178_10 : decode cJ7_fill_53178 10 = .ok (.aload_n 0, 1) := by decide +kernel
theorem dJ7_fill_53178_11 : decode cJ7_fill_53178 11 = .ok (.iload_n 2, 1) := by decide +kernel
theorem dJ7_fill_53178_12 : decode cJ7_fill_53178 12 = .ok (.iload_n 1, 1) := by decide +kernel
theorem dJ7_fill_53178_13 : decode cJ7_fill_53178 13 = .ok (.iastore, 1) := by decide +kernel
theorem dJ7_fill_53178_14 : decode cJ7_fill_53178 14 = .ok (.iinc 2 1, 3) := by decide +kernel
theorem dJ7_fill_53178_17 : decode cJ7_fill_53178 17 = .ok (.goto (-12), 3) := by decide +kernel
theorem dJ7_fill_53178_20 : decode cJ7_fill_53178 20 = .ok (.return_, 1) := by decide +kernel
set_option maxRecDepth 20000 in
theorem ggL_put_X2_put : GoodIn wsL_put wsX2_put := goodIn_ca (goodIn_ca (goodIn_r _ [7, 8, 9, 10, 11, 6, 12, 13, 14, 15, 16, 17, 18, 19, 20, 21, 22, 23, 24, 25, 26, 27, 28, 29, 30, 31, 32, 33, 34, 35, 36, 37, 38, 39, 40, 41, 42, 43, 44, 45, 46, 47, 48, 49, 50, 51, 52, 53, 54, 55, 56, 57, 58, 59, 60, 61, 62, 63, 64, 65, 66, 67, 68, 69, 70, 71, 72, 73, 74, 75, 76] (by decide +kernel) (by decide +kernel)) (goodIn_sub (fun _ h => List.mem_cons_of_mem _ (List.mem_append_left _ (List.mem_append_right _ h))) (by decide +kernel))) (goodIn_sub (fun _ h => List.mem_cons_of_mem _ (List.mem_append_right _ h)) (by decide +kernel))
set_option maxRecDepth 20000 in
theorem gL_put_X2_put : GoodIn wsL_put (wsV RL 7 RX2 yX2_put wsX2_put) := goodIn_app (goodIn_of _ (by decide +kernel)) ggL_put_X2_put
theorem dL_put_0 : decode cL_put 0 = .ok (.aload_n 3, 1) := by decide +kernel
theorem dL_put_1 : decode cL_put 1 = .ok (.iconst 0, 1) := by decide +kernel
theorem dL_put_2 : decode cL_put 2 = .ok (.aload_n 0, 1) := by decide +kernel
theorem dL_put_3 : decode cL_put 3 = .ok (.iload_n 1, 1) := by decide +kernel
theorem dL_put_4 : decode cL_put 4 = .ok (.iload_n 2, 1) := by decide +kernel
theorem dL_put_5 : decode cL_put 5 = .ok (.invokevirtual 7, 3) := by decide +kernel
theorem dL_put_8 : decode cL_put 8 = .ok (.i2l, 1) := by decide +kernel
theorem dL_put_9 : decode cL_put 9 = .ok (.lastore, 1) := by decide +kernel
theorem dL_put_10 : decode cL_put 10 = .ok (.goto 11, 3) := by decide +kernel
theorem dL_put_13 : decode cL_put 13 = .ok (.astore 4, 2) := by decide +kernel
theorem dL_put_15 : decode cL_put 15 = .ok (.iconst 1, 1) := by decide +kernel
theorem dL_put_16 : decode cL_put 16 = .ok (.ireturn, 1) := by decide +kernel
theorem dL_put_17 : decode cL_put 17 = .ok (.astore 4, 2) := by decide +kernel
theorem dL_put_19 : decode cL_put 19 = .ok (.iconst 2, 1) := by decide +kernel
theorem dL_put_20 : decode cL_put 20 = .ok (.ireturn, 1) := by decide +kernel
theorem dL_put_21 : decode cL_put 21 = .ok (.iconst 0, 1) := by decide +kernel
theorem dL_put_22 : decode cL_put 22 = .ok (.ireturn, 1) := by decide +kernel
set_option maxRecDepth 20000 in
theorem ggL_delete_X2_delete : GoodIn wsL_delete wsX2_delete := goodIn_ca (goodIn_ca (goodIn_r _ [7, 8, 9, 10, 11, 12, 6, 13, 14, 15, 16, 17, 18, 19, 20, 21, 22, 23, 24, 25, 26, 27, 28, 29, 30, 31, 32, 33, 34, 35, 36, 37, 38, 39, 40, 41, 42, 43, 44, 45, 46, 47, 48, 49, 50, 51, 52, 53, 54, 55, 56, 57, 58, 59, 60, 61, 62, 63, 64, 65, 66, 67, 68, 69, 70, 71, 72, 73, 74, 75, 76, 77, 78, 79, 80, 81, 82, 83, 84, 85, 86, 87, 88, 89] (by decide +kernel) (by decide +kernel)) (goodIn_sub (fun _ h => List.mem_cons_of_mem _ (List.mem_append_left _ (List.mem_append_right _ h))) (by decide +kernel))) (goodIn_sub (fun _ h => List.mem_cons_of_mem _ (List.mem_append_right _ h)) (by decide +kernel))
set_option maxRecDepth 20000 in
theorem gL_delete_X2_delete : GoodIn wsL_delete (wsV RL 17 RX2 yX2_delete wsX2_delete) := goodIn_app (goodIn_of _ (by decide +kernel)) ggL_delete_X2_delete
theorem dL_delete_0 : decode cL_delete 0 = .ok (.aload_n 2, 1) := by decide +kernel
theorem dL_delete_1 : decode cL_delete 1 = .ok (.iconst 0, 1) := by decide +kernel
theorem dL_delete_2 : decode cL_delete 2 = .ok (.aload_n 0, 1) := by decide +kernel
theorem dL_delete_3 : decode cL_delete 3 = .ok (.iload_n 1, 1) := by decide +kernel
theorem dL_delete_4 : decode cL_delete 4 = .ok (.invokevirtual 17, 3) := by decide +kernel
theorem dL_delete_7 : decode cL_delete 7 = .ok (.i2l, 1) := by decide +kernel
theorem dL_delete_8 : decode cL_delete 8 = .ok (.lastore, 1) := by decide +kernel
theorem dL_delete_9 : decode cL_delete 9 = .ok (.goto 9, 3) := by decide +kernel
theorem dL_delete_12 : decode cL_delete 12 = .ok (.astore_n 3, 1) := by decide +kernel
theorem dL_delete_13 : decode cL_delete 13 = .ok (.iconst 1, 1) := by decide +kernel
theorem dL_delete_14 : decode cL_delete 14 = .ok (.ireturn, 1) := by decide +kernel
theorem dL_delete_15 : decode cL_delete 15 = .ok (.astore_n 3, 1) := by decide +kernel
theorem dL_delete_16 : decode cL_delete 16 = .ok (.iconst 2, 1) := by decide +kernel
theorem dL_delete_17 : decode cL_delete 17 = .ok (.ireturn, 1) := by decide +kernel
theorem dL_delete_18 : decode cL_delete 18 = .ok (.iconst 0, 1) := by decide +kernel
theorem dL_delete_19 : decode cL_delete 19 = .ok (.ireturn, 1) := by decide +kernel
set_option maxRecDepth 20000 in
theorem ggL_get_X2_get : GoodIn wsL_get wsX2_get := goodIn_ca (goodIn_ca (goodIn_r _ [7, 8, 9, 10, 6, 11, 12, 13, 14, 15, 16, 17, 18, 19, 20, 21, 22, 23, 24, 25, 26, 27, 28, 29, 30, 31, 32, 33, 34, 35, 36, 37, 38, 39, 40, 41, 42, 43, 44, 45, 46, 47, 48, 49, 50, 51, 52, 53, 54, 55, 56, 57, 58, 59] (by decide +kernel) (by decide +kernel)) (goodIn_sub (fun _ h => List.mem_cons_of_mem _ (List.mem_append_left _ (List.mem_append_right _ h))) (by decide +kernel))) (goodIn_sub (fun _ h => List.mem_cons_of_mem _ (List.mem_append_right _ h)) (by decide +kernel))
set_option maxRecDepth 20000 in
theorem gL_get_X2_get : GoodIn wsL_get (wsV RL 21 RX2 yX2_get wsX2_get) := goodIn_app (goodIn_of _ (by decide +kernel)) ggL_get_X2_get
theorem dL_get_0 : decode cL_get 0 = .ok (.aload_n 2, 1) := by decide +kernel
theorem dL_get_1 : decode cL_get 1 = .ok (.iconst 0, 1) := by decide +kernel
theorem dL_get_2 : decode cL_get 2 = .ok (.aload_n 0, 1) := by decide +kernel
theorem dL_get_3 : decode cL_get 3 = .ok (.iload_n 1, 1) := by decide +kernel
theorem dL_get_4 : decode cL_get 4 = .ok (.invokevirtual 21, 3) := by decide +kernel
theorem dL_get_7 : decode cL_get 7 = .ok (.i2l, 1) := by decide +kernel
theorem dL_get_8 : decode cL_get 8 = .ok (.lastore, 1) := by decide +kernel
theorem dL_get_9 : decode cL_get 9 = .ok (.goto 9, 3) := by decide +kernel
theorem dL_get_12 : decode cL_get 12 = .ok (.astore_n 3, 1) := by decide +kernel
theorem dL_get_13 : decode cL_get 13 = .ok (.iconst 1, 1) := by decide +kernel
theorem dL_get_14 : decode cL_get 14 = .ok (.ireturn, 1) := by decide +kernel
theorem dL_get_15 : decode cL_get 15 = .ok (.astore_n 3, 1) := by decide +kernel
theorem dL_get_16 : decode cL_get 16 = .ok (.iconst 2, 1) := by decide +kernel
theorem dL_get_17 : decode cL_get 17 = .ok (.ireturn, 1) := by decide +kernel
theorem dL_get_18 : decode cL_get 18 = .ok (.iconst 0, 1) := by decide +kernel
theorem dL_get_19 : decode cL_get 19 = .ok (.ireturn, 1) := by decide +kernel
set_option maxRecDepth 20000 in
theorem ggL_next_X2_next : GoodIn wsL_next wsX2_next := goodIn_ca (goodIn_ca (goodIn_r _ [7, 8, 9, 10, 6, 11, 12, 13, 14, 15, 16, 17, 18, 19, 20, 21, 22, 23, 24, 25, 26, 27, 28, 29, 30, 31, 32, 33, 34, 35, 36, 37, 38, 39, 40, 41] (by decide +kernel) (by decide +kernel)) (goodIn_sub (fun _ h => List.mem_cons_of_mem _ (List.mem_append_left _ (List.mem_append_right _ h))) (by decide +kernel))) (goodIn_sub (fun _ h => List.mem_cons_of_mem _ (List.mem_append_right _ h)) (by decide +kernel))
set_option maxRecDepth 20000 in
theorem gL_next_X2_next : GoodIn wsL_next (wsV RL 24 RX2 yX2_next wsX2_next) := goodIn_app (goodIn_of _ (by decide +kernel)) ggL_next_X2_next
theorem dL_next_0 : decode cL_next 0 = .ok (.aload_n 2, 1) := by decide +kernel
theorem dL_next_1 : decode cL_next 1 = .ok (.iconst 0, 1) := by decide +kernel
theorem dL_next_2 : decode cL_next 2 = .ok (.aload_n 0, 1) := by decide +kernel
theorem dL_next_3 : decode cL_next 3 = .ok (.iload_n 1, 1) := by decide +kernel
theorem dL_next_4 : decode cL_next 4 = .ok (.invokevirtual 24, 3) := by decide +kernel
theorem dL_next_7 : decode cL_next 7 = .ok (.i2l, 1) := by decide +kernel
theorem dL_next_8 : decode cL_next 8 = .ok (.lastore, 1) := by decide +kernel
theorem dL_next_9 : decode cL_next 9 = .ok (.goto 9, 3) := by decide +kernel
theorem dL_next_12 : decode cL_next 12 = .ok (.astore_n 3, 1) := by decide +kernel
theorem dL_next_13 : decode cL_next 13 = .ok (.iconst 1, 1) := by decide +kernel
theorem dL_next_14 : decode cL_next 14 = .ok (.ireturn, 1) := by decide +kernel
theorem dL_next_15 : decode cL_next 15 = .ok (.astore_n 3, 1) := by decide +kernel
theorem dL_next_16 : decode cL_next 16 = .ok (.iconst 2, 1) := by decide +kernel
theorem dL_next_17 : decode cL_next 17 = .ok (.ireturn, 1) := by decide +kernel
theorem dL_next_18 : decode cL_next 18 = .ok (.iconst 0, 1) := by decide +kernel
theorem dL_next_19 : decode cL_next 19 = .ok (.ireturn, 1) := by decide +kernel
set_option maxRecDepth 20000 in
theorem ggL_sum_X2_sum : GoodIn wsL_sum wsX2_sum := goodIn_ca (goodIn_ca (goodIn_r _ [7, 8, 9, 10, 6, 11, 12, 13, 14, 15, 16, 17, 18, 19, 20, 21, 22, 23, 24, 25, 26, 27, 28, 29, 30, 31, 32, 33, 34, 35, 36, 37, 38, 39, 40, 41, 42, 43, 44, 45, 46, 47, 48, 49, 50, 51, 52, 53, 54, 55, 56, 57, 58, 59, 60, 61, 62] (by decide +kernel) (by decide +kernel)) (goodIn_sub (fun _ h => List.mem_cons_of_mem _ (List.mem_append_left _ (List.mem_append_right _ h))) (by decide +kernel))) (goodIn_sub (fun _ h => List.mem_cons_of_mem _ (List.mem_append_right _ h)) (by decide +kernel))
set_option maxRecDepth 20000 in
theorem gL_sum_X2_sum : GoodIn wsL_sum (wsV RL 27 RX2 yX2_sum wsX2_sum) := goodIn_app (goodIn_of _ (by decide +kernel)) ggL_sum_X2_sum
theorem dL_sum_0 : decode cL_sum 0 = .ok (.aload_n 3, 1) := by decide +kernel
theorem dL_sum_1 : decode cL_sum 1 = .ok (.iconst 0, 1) := by decide +kernel
theorem dL_sum_2 : decode cL_sum 2 = .ok (.aload_n 0, 1) := by decide +kernel
theorem dL_sum_3 : decode cL_sum 3 = .ok (.iload_n 1, 1) := by decide +kernel
theorem dL_sum_4 : decode cL_sum 4 = .ok (.iload_n 2, 1) := by decide +kernel
theorem dL_sum_5 : decode cL_sum 5 = .ok (.invokevirtual 27, 3) := by decide +kernel
theorem dL_sum_8 : decode cL_sum 8 = .ok (.i2l, 1) := by decide +kernel
theorem dL_sum_9 : decode cL_sum 9 = .ok (.lastore, 1) := by decide +kernel
theorem dL_sum_10 : decode cL_sum 10 = .ok (.goto 11, 3) := by decide +kernel
theorem dL_sum_13 : decode cL_sum 13 = .ok (.astore 4, 2) := by decide +kernel
theorem dL_sum_15 : decode cL_sum 15 = .ok (.iconst 1, 1) := by decide +kernel
theorem dL_sum_16 : decode cL_sum 16 = .ok (.ireturn, 1) := by decide +kernel
theorem dL_sum_17 : decode cL_sum 17 = .ok (.astore 4, 2) := by decide +kernel
theorem dL_sum_19 : decode cL_sum 19 = .ok (.iconst 2, 1) := by decide +kernel
theorem dL_sum_20 : decode cL_sum 20 = .ok (.ireturn, 1) := by decide +kernel
theorem dL_sum_21 : decode cL_sum 21 = .ok (.iconst 0, 1) := by decide +kernel
theorem dL_sum_22 : decode cL_sum 22 = .ok (.ireturn, 1) := by decide +kernel
set_option maxRecDepth 20000 in
theorem ggL_fetches_X2_fetches : GoodIn wsL_fetches wsX2_fetches := goodIn_ca (goodIn_ca (goodIn_r _ [7, 8, 9, 10, 11, 6, 12, 13, 14, 15, 16, 17, 18, 19, 20, 21, 22, 23, 24, 25, 26, 27, 28, 29, 30, 31, 32, 33, 34, 35, 36, 37, 38, 39, 40, 41, 42, 43, 44, 45, 46, 47, 48, 49, 50, 51, 52, 53, 54, 55, 56] (by decide +kernel) (by decide +kernel)) (goodIn_sub (fun _ h => List.mem_cons_of_mem _ (List.mem_append_left _ (List.mem_append_right _ h))) (by decide +kernel))) (goodIn_sub (fun _ h => List.mem_cons_of_mem _ (List.mem_append_right _ h)) (by decide +kernel))
set_option maxRecDepth 20000 in
theorem gL_fetches_X2_fetches : GoodIn wsL_fetches (wsV RL 30 RX2 yX2_fetches wsX2_fetches) := goodIn_app (goodIn_of _ (by decide +kernel)) ggL_fetches_X2_fetches
theorem dL_fetches_0 : decode cL_fetches 0 = .ok (.aload_n 3, 1) := by decide +kernel
theorem dL_fetches_1 : decode cL_fetches 1 = .ok (.iconst 0, 1) := by decide +kernel
theorem dL_fetches_2 : decode cL_fetches 2 = .ok (.aload_n 0, 1) := by decide +kernel
theorem dL_fetches_3 : decode cL_fetches 3 = .ok (.iload_n 1, 1) := by decide +kernel
theorem dL_fetches_4 : decode cL_fetches 4 = .ok (.iload_n 2, 1) := by decide +kernel
theorem dL_fetches_5 : decode cL_fetches 5 = .ok (.invokevirtual 30, 3) := by decide +kernel
theorem dL_fetches_8 : decode cL_fetches 8 = .ok (.i2l, 1) := by decide +kernel
theorem dL_fetches_9 : decode cL_fetches 9 = .ok (.lastore, 1) := by decide +kernel
theorem dL_fetches_10 : decode cL_fetches 10 = .ok (.goto 11, 3) := by decide +kernel
theorem dL_fetches_13 : decode cL_fetches 13 = .ok (.astore 4, 2) := by decide +kernel
theorem dL_fetches_15 : decode cL_fetches 15 = .ok (.iconst 1, 1) := by decide +kernel
theorem dL_fetches_16 : decode cL_fetches 16 = .ok (.ireturn, 1) := by decide +kernel
theorem dL_fetches_17 : decode cL_fetches 17 = .ok (.astore 4, 2) := by decide +kernel
theorem dL_fetches_19 : decode cL_fetches 19 = .ok (.iconst 2, 1) := by decide +kernel
theorem dL_fetches_20 : decode cL_fetches 20 = .ok (.ireturn, 1) := by decide +kernel
theorem dL_fetches_21 : decode cL_fetches 21 = .ok (.iconst 0, 1) := by decide +kernel
theorem dL_fetches_22 : decode cL_fetches 22 = .ok (.ireturn, 1) := by decide +kernel
set_option maxRecDepth 20000 in
theorem ggL_synchronize_X2_synchronize : GoodIn wsL_synchronize wsX2_synchronize := goodIn_ca (goodIn_r _ [6, 7, 8, 9, 5, 10, 11, 12, 13, 14, 15, 16, 17, 18, 19, 20, 21, 22, 23, 24, 25, 26, 27, 28, 29, 30, 31, 32, 33, 34, 35, 36, 37, 38] (by decide +kernel) (by decide +kernel)) (goodIn_sub (fun _ h => List.mem_cons_of_mem _ (List.mem_append_right _ h)) (by decide +kernel))
set_option maxRecDepth 20000 in
theorem gL_synchronize_X2_synchronize : GoodIn wsL_synchronize (wsV RL 33 RX2 yX2_synchronize wsX2_synchronize) := goodIn_app (goodIn_of _ (by decide +kernel)) ggL_synchronize_X2_synchronize
theorem dL_synchronize_0 : decode cL_synchronize 0 = .ok (.aload_n 1, 1) := by decide +kernel
theorem dL_synchronize_1 : decode cL_synchronize 1 = .ok (.iconst 0, 1) := by decide +kernel
theorem dL_synchronize_2 : decode cL_synchronize 2 = .ok (.aload_n 0, 1) := by decide +kernel
theorem dL_synchronize_3 : decode cL_synchronize 3 = .ok (.invokevirtual 33, 3) := by decide +kernel
theorem dL_synchronize_6 : decode cL_synchronize 6 = .ok (.ifCond .eq 7, 3) := by decide +kernel
theorem dL_synchronize_9 : decode cL_synchronize 9 = .ok (.lconst 1, 1) := by decide +kernel
theorem dL_synchronize_10 : decode cL_synchronize 10 = .ok (.goto 4, 3) := by decide +kernel
theorem dL_synchronize_13 : decode cL_synchronize 13 = .ok (.lconst 0, 1) := by decide +kernel
theorem dL_synchronize_14 : decode cL_synchronize 14 = .ok (.lastore, 1) := by decide +kernel
theorem dL_synchronize_15 : decode cL_synchronize 15 = .ok (.goto 6, 3) := by decide +kernel
theorem dL_synchronize_18 : decode cL_synchronize 18 = .ok (.astore_n 2, 1) := by decide +kernel
theorem dL_synchronize_19 : decode cL_synchronize 19 = .ok (.iconst 1, 1) := by decide +kernel
theorem dL_synchronize_20 : decode cL_synchronize 20 = .ok (.ireturn, 1) := by decide +kernel
theorem dL_synchronize_21 : decode cL_synchronize 21 = .ok (.iconst 0, 1) := by decide +kernel
theorem dL_synchronize_22 : decode cL_synchronize 22 = .ok (.ireturn, 1) := by decide +kernel
set_option maxRecDepth 20000 in
theorem ggL_checkpoint_X2_checkpoint : GoodIn wsL_checkpoint wsX2_checkpoint := goodIn_ca (goodIn_r _ [6, 7, 8, 9, 10, 11, 12, 13, 5, 14, 15, 16, 17, 18, 19, 20, 21, 22, 23, 24, 25, 26, 27, 28, 29, 30, 31, 32, 33, 34, 35, 36, 37, 38, 39, 40, 41, 42, 43, 44, 45, 46, 47, 48, 49, 50, 51, 52] (by decide +kernel) (by decide +kernel)) (goodIn_sub (fun _ h => List.mem_cons_of_mem _ (List.mem_append_right _ h)) (by decide +kernel))
set_option maxRecDepth 20000 in
theorem gL_checkpoint_X2_checkpoint : GoodIn wsL_checkpoint (wsV RL 37 RX2 yX2_checkpoint wsX2_checkpoint) := goodIn_app (goodIn_of _ (by decide +kernel)) ggL_checkpoint_X2_checkpoint
theorem dL_checkpoint_0 : decode cL_checkpoint 0 = .ok (.aload_n 1, 1) := by decide +kernel
theorem dL_checkpoint_1 : decode cL_checkpoint 1 = .ok (.iconst 0, 1) := by decide +kernel
theorem dL_checkpoint_2 : decode cL_checkpoint 2 = .ok (.aload_n 0, 1) := by decide +kernel
theorem dL_checkpoint_3 : decode cL_checkpoint 3 = .ok (.invokevirtual 37, 3) := by decide +kernel
theorem dL_checkpoint_6 : decode cL_checkpoint 6 = .ok (.ifCond .eq 7, 3) := by decide +kernel
theorem dL_checkpoint_9 : decode cL_checkpoint 9 = .ok (.lconst 1, 1) := by decide +kernel
theorem dL_checkpoint_10 : decode cL_checkpoint 10 = .ok (.goto 4, 3) := by decide +kernel
theorem dL_checkpoint_13 : decode cL_checkpoint 13 = .ok (.lconst 0, 1) := by decide +kernel
theorem dL_checkpoint_14 : decode cL_checkpoint 14 = .ok (.lastore, 1) := by decide +kernel
theorem dL_checkpoint_15 : decode cL_checkpoint 15 = .ok (.goto 6, 3) := by decide +kernel
theorem dL_checkpoint_18 : decode cL_checkpoint 18 = .ok (.astore_n 2, 1) := by decide +kernel
theorem dL_checkpoint_19 : decode cL_checkpoint 19 = .ok (.iconst 1, 1) := by decide +kernel
theorem dL_checkpoint_20 : decode cL_checkpoint 20 = .ok (.ireturn, 1) := by decide +kernel
theorem dL_checkpoint_21 : decode cL_checkpoint 21 = .ok (.iconst 0, 1) := by decide +kernel
theorem dL_checkpoint_22 : decode cL_checkpoint 22 = .ok (.ireturn, 1) := by decide +kernel
set_option maxRecDepth 20000 in
theorem ggL_collect_X2_collect : GoodIn wsL_collect wsX2_collect := goodIn_ca (goodIn_ca (goodIn_r _ [7, 8, 9, 10, 11, 12, 13, 14, 15, 16, 6, 17, 18, 19, 20, 21, 22, 23, 24, 25, 26, 27, 28, 29, 30, 31, 32, 33, 34, 35, 36, 37, 38, 39, 40, 41, 42, 43, 44, 45, 46, 47, 48, 49, 50, 51, 52, 53, 54, 55, 56, 57, 58, 59, 60, 61, 62, 63, 64, 65, 66, 67, 68, 69, 70, 71, 72, 73, 74, 75, 76, 77, 78, 79, 80, 81, 82, 83, 84, 85, 86, 87, 88, 89, 90, 91, 92, 93, 94, 95, 96, 97, 98, 99, 100, 101, 102, 103] (by decide +kernel) (by decide +kernel)) (goodIn_sub (fun _ h => List.mem_cons_of_mem _ (List.mem_append_left _ (List.mem_append_right _ h))) (by decide +kernel))) (goodIn_sub (fun _ h => List.mem_cons_of_mem _ (List.mem_append_right _ h)) (by decide +kernel))
set_option maxRecDepth 20000 in
theorem gL_collect_X2_collect : GoodIn wsL_collect (wsV RL 40 RX2 yX2_collect wsX2_collect) := goodIn_app (goodIn_of _ (by decide +kernel)) ggL_collect_X2_collect
theorem dL_collect_0 : decode cL_collect 0 = .ok (.aload_n 2, 1) := by decide +kernel
theorem dL_collect_1 : decode cL_collect 1 = .ok (.iconst 0, 1) := by decide +kernel
theorem dL_collect_2 : decode cL_collect 2 = .ok (.aload_n 0, 1) := by decide +kernel
theorem dL_collect_3 : decode cL_collect 3 = .ok (.iload_n 1, 1) := by decide +kernel
theorem dL_collect_4 : decode cL_collect 4 = .ok (.invokevirtual 40, 3) := by decide +kernel
theorem dL_collect_7 : decode cL_collect 7 = .ok (.ifCond .eq 7, 3) := by decide +kernel
theorem dL_collect_10 : decode cL_collect 10 = .ok (.lconst 1, 1) := by decide +kernel
theorem dL_collect_11 : decode cL_collect 11 = .ok (.goto 4, 3) := by decide +kernel
theorem dL_collect_14 : decode cL_collect 14 = .ok (.lconst 0, 1) := by decide +kernel
theorem dL_collect_15 : decode cL_collect 15 = .ok (.lastore, 1) := by decide +kernel
theorem dL_collect_16 : decode cL_collect 16 = .ok (.goto 9, 3) := by decide +kernel
theorem dL_collect_19 : decode cL_collect 19 = .ok (.astore_n 3, 1) := by decide +kernel
theorem dL_collect_20 : decode cL_collect 20 = .ok (.iconst 1, 1) := by decide +kernel
theorem dL_collect_21 : decode cL_collect 21 = .ok (.ireturn, 1) := by decide +kernel
theorem dL_collect_22 : decode cL_collect 22 = .ok (.astore_n 3, 1) := by decide +kernel
theorem dL_collect_23 : decode cL_collect 23 = .ok (.iconst 2, 1) := by decide +kernel
theorem dL_collect_24 : decode cL_collect 24 = .ok (.ireturn, 1) := by decide +kernel
theorem dL_collect_25 : decode cL_collect 25 = .ok (.iconst 0, 1) := by decide +kernel
theorem dL_collect_26 : decode cL_collect 26 = .ok (.ireturn, 1) := by decide +kernel
set_option maxRecDepth 20000 in
theorem ggL_failAfter_X2_failAfter : GoodIn wsL_failAfter wsX2_failAfter := goodIn_ca (goodIn_r _ [6, 7, 8, 9, 10, 11, 12, 13, 14, 15, 16, 17, 18, 19] (by decide +kernel) (by decide +kernel)) (goodIn_sub (fun _ h => List.mem_cons_of_mem _ (List.mem_append_right _ h)) (by decide +kernel))
set_option maxRecDepth 20000 in
theorem gL_failAfter_X2_failAfter : GoodIn wsL_failAfter (wsV RL 44 RX2 yX2_failAfter wsX2_failAfter) := goodIn_app (goodIn_of _ (by decide +kernel)) ggL_failAfter_X2_failAfter
theorem dL_failAfter_0 : decode cL_failAfter 0 = .ok (.aload_n 0, 1) := by decide +kernel
theorem dL_failAfter_1 : decode cL_failAfter 1 = .ok (.iload_n 1, 1) := by decide +kernel
theorem dL_failAfter_2 : decode cL_failAfter 2 = .ok (.invokevirtual 44, 3) := by decide +kernel
theorem dL_failAfter_5 : decode cL_failAfter 5 = .ok (.goto 6, 3) := by decide +kernel
theorem dL_failAfter_8 : decode cL_failAfter 8 = .ok (.astore_n 2, 1) := by decide +kernel
theorem dL_failAfter_9 : decode cL_failAfter 9 = .ok (.iconst 1, 1) := by decide +kernel
theorem dL_failAfter_10 : decode cL_failAfter 10 = .ok (.ireturn, 1) := by decide +kernel
theorem dL_failAfter_11 : decode cL_failAfter 11 = .ok (.iconst 0, 1) := by decide +kernel
theorem dL_failAfter_12 : decode cL_failAfter 12 = .ok (.ireturn, 1) := by decide +kernel
set_option maxRecDepth 20000 in
theorem ggL_crash_X2_crash : GoodIn wsL_crash wsX2_crash := goodIn_ca (goodIn_r _ [6, 7, 8, 9, 10, 11, 5, 12, 13, 14, 15, 16, 17, 18, 19, 20, 21, 22, 23, 24, 25, 26, 27, 28, 29] (by decide +kernel) (by decide +kernel)) (goodIn_sub (fun _ h => List.mem_cons_of_mem _ (List.mem_append_right _ h)) (by decide +kernel))
set_option maxRecDepth 20000 in
theorem gL_crash_X2_crash : GoodIn wsL_crash (wsV RL 48 RX2 yX2_crash wsX2_crash) := goodIn_app (goodIn_of _ (by decide +kernel)) ggL_crash_X2_crash
theorem dL_crash_0 : decode cL_crash 0 = .ok (.aload_n 1, 1) := by decide +kernel
theorem dL_crash_1 : decode cL_crash 1 = .ok (.iconst 0, 1) := by decide +kernel
theorem dL_crash_2 : decode cL_crash 2 = .ok (.aload_n 0, 1) := by decide +kernel
theorem dL_crash_3 : decode cL_crash 3 = .ok (.invokevirtual 48, 3) := by decide +kernel
theorem dL_crash_6 : decode cL_crash 6 = .ok (.i2l, 1) := by decide +kernel
theorem dL_crash_7 : decode cL_crash 7 = .ok (.lastore, 1) := by decide +kernel
theorem dL_crash_8 : decode cL_crash 8 = .ok (.goto 6, 3) := by decide +kernel
theorem dL_crash_11 : decode cL_crash 11 = .ok (.astore_n 2, 1) := by decide +kernel
theorem dL_crash_12 : decode cL_crash 12 = .ok (.iconst 1, 1) := by decide +kernel
theorem dL_crash_13 : decode cL_crash 13 = .ok (.ireturn, 1) := by decide +kernel
theorem dL_crash_14 : decode cL_crash 14 = .ok (.iconst 0, 1) := by decide +kernel
theorem dL_crash_15 : decode cL_crash 15 = .ok (.ireturn, 1) := by decide +kernel
set_option maxRecDepth 20000 in
theorem ggL_start_X2_start : GoodIn wsL_start wsX2_start := goodIn_ca (goodIn_r _ [6, 7, 8, 9, 10, 11, 12, 13, 5, 14, 15, 16, 17, 18, 19, 20, 21, 22, 23, 24, 25, 26, 27, 28, 29, 30, 31, 32, 33, 34, 35, 36, 37, 38, 39, 40, 41, 42, 43, 44, 45, 46, 47, 48, 49, 50, 51, 52, 53, 54, 55, 56, 57, 58, 59, 60, 61, 62, 63, 64, 65, 66, 67, 68, 69, 70, 71, 72, 73, 74, 75, 76, 77] (by decide +kernel) (by decide +kernel)) (goodIn_sub (fun _ h => List.mem_cons_of_mem _ (List.mem_append_right _ h)) (by decide +kernel))
set_option maxRecDepth 20000 in
theorem gL_start_X2_start : GoodIn wsL_start (wsV RL 52 RX2 yX2_start wsX2_start) := goodIn_app (goodIn_of _ (by decide +kernel)) ggL_start_X2_start
theorem dL_start_0 : decode cL_start 0 = .ok (.aload_n 1, 1) := by decide +kernel
theorem dL_start_1 : decode cL_start 1 = .ok (.iconst 0, 1) := by decide +kernel
theorem dL_start_2 : decode cL_start 2 = .ok (.aload_n 0, 1) := by decide +kernel
theorem dL_start_3 : decode cL_start 3 = .ok (.invokevirtual 52, 3) := by decide +kernel
theorem dL_start_6 : decode cL_start 6 = .ok (.i2l, 1) := by decide +kernel
theorem dL_start_7 : decode cL_start 7 = .ok (.lastore, 1) := by decide +kernel
theorem dL_start_8 : decode cL_start 8 = .ok (.goto 6, 3) := by decide +kernel
theorem dL_start_11 : decode cL_start 11 = .ok (.astore_n 2, 1) := by decide +kernel
theorem dL_start_12 : decode cL_start 12 = .ok (.iconst 1, 1) := by decide +kernel
theorem dL_start_13 : decode cL_start 13 = .ok (.ireturn, 1) := by decide +kernel
theorem dL_start_14 : decode cL_start 14 = .ok (.iconst 0, 1) := by decide +kernel
theorem dL_start_15 : decode cL_start 15 = .ok (.ireturn, 1) := by decide +kernel
set_option maxRecDepth 20000 in
theorem ggL_positionOf_X2_positionOf : GoodIn wsL_positionOf wsX2_positionOf := goodIn_ca (goodIn_ca (goodIn_r _ [7, 8, 9, 10, 6, 11, 12, 13, 14, 15, 16, 17, 18, 19, 20, 21, 22, 23, 24, 25, 26, 27, 28, 29, 30, 31, 32, 33, 34, 35, 36, 37] (by decide +kernel) (by decide +kernel)) (goodIn_sub (fun _ h => List.mem_cons_of_mem _ (List.mem_append_left _ (List.mem_append_right _ h))) (by decide +kernel))) (goodIn_sub (fun _ h => List.mem_cons_of_mem _ (List.mem_append_right _ h)) (by decide +kernel))
set_option maxRecDepth 20000 in
theorem gL_positionOf_X2_positionOf : GoodIn wsL_positionOf (wsV RL 55 RX2 yX2_positionOf wsX2_positionOf) := goodIn_app (goodIn_of _ (by decide +kernel)) ggL_positionOf_X2_positionOf
theorem dL_positionOf_0 : decode cL_positionOf 0 = .ok (.aload_n 2, 1) := by decide +kernel
theorem dL_positionOf_1 : decode cL_positionOf 1 = .ok (.iconst 0, 1) := by decide +kernel
theorem dL_positionOf_2 : decode cL_positionOf 2 = .ok (.aload_n 0, 1) := by decide +kernel
theorem dL_positionOf_3 : decode cL_positionOf 3 = .ok (.iload_n 1, 1) := by decide +kernel
theorem dL_positionOf_4 : decode cL_positionOf 4 = .ok (.invokevirtual 55, 3) := by decide +kernel
theorem dL_positionOf_7 : decode cL_positionOf 7 = .ok (.i2l, 1) := by decide +kernel
theorem dL_positionOf_8 : decode cL_positionOf 8 = .ok (.lastore, 1) := by decide +kernel
theorem dL_positionOf_9 : decode cL_positionOf 9 = .ok (.goto 9, 3) := by decide +kernel
theorem dL_positionOf_12 : decode cL_positionOf 12 = .ok (.astore_n 3, 1) := by decide +kernel
theorem dL_positionOf_13 : decode cL_positionOf 13 = .ok (.iconst 1, 1) := by decide +kernel
theorem dL_positionOf_14 : decode cL_positionOf 14 = .ok (.ireturn, 1) := by decide +kernel
theorem dL_positionOf_15 : decode cL_positionOf 15 = .ok (.astore_n 3, 1) := by decide +kernel
theorem dL_positionOf_16 : decode cL_positionOf 16 = .ok (.iconst 2, 1) := by decide +kernel
theorem dL_positionOf_17 : decode cL_positionOf 17 = .ok (.ireturn, 1) := by decide +kernel
theorem dL_positionOf_18 : decode cL_positionOf 18 = .ok (.iconst 0, 1) := by decide +kernel
theorem dL_positionOf_19 : decode cL_positionOf 19 = .ok (.ireturn, 1) := by decide +kernel
set_option maxRecDepth 20000 in
theorem ggL_live_X2_live : GoodIn wsL_live wsX2_live := goodIn_ca (goodIn_r _ [6, 7, 8, 9, 10, 11, 5, 12, 13, 14, 15, 16, 17, 18, 19, 20, 21, 22, 23, 24, 25, 26, 27, 28, 29, 30, 31, 32, 33, 34, 35, 36, 37, 38, 39, 40, 41, 42, 43, 44, 45, 46, 47, 48, 49, 50, 51, 52, 53, 54] (by decide +kernel) (by decide +kernel)) (goodIn_sub (fun _ h => List.mem_cons_of_mem _ (List.mem_append_right _ h)) (by decide +kernel))
set_option maxRecDepth 20000 in
theorem gL_live_X2_live : GoodIn wsL_live (wsV RL 58 RX2 yX2_live wsX2_live) := goodIn_app (goodIn_of _ (by decide +kernel)) ggL_live_X2_live
theorem dL_live_0 : decode cL_live 0 = .ok (.aload_n 1, 1) := by decide +kernel
theorem dL_live_1 : decode cL_live 1 = .ok (.iconst 0, 1) := by decide +kernel
theorem dL_live_2 : decode cL_live 2 = .ok (.aload_n 0, 1) := by decide +kernel
theorem dL_live_3 : decode cL_live 3 = .ok (.invokevirtual 58, 3) := by decide +kernel
theorem dL_live_6 : decode cL_live 6 = .ok (.i2l, 1) := by decide +kernel
theorem dL_live_7 : decode cL_live 7 = .ok (.lastore, 1) := by decide +kernel
theorem dL_live_8 : decode cL_live 8 = .ok (.goto 6, 3) := by decide +kernel
theorem dL_live_11 : decode cL_live 11 = .ok (.astore_n 2, 1) := by decide +kernel
theorem dL_live_12 : decode cL_live 12 = .ok (.iconst 1, 1) := by decide +kernel
theorem dL_live_13 : decode cL_live 13 = .ok (.ireturn, 1) := by decide +kernel
theorem dL_live_14 : decode cL_live 14 = .ok (.iconst 0, 1) := by decide +kernel
theorem dL_live_15 : decode cL_live 15 = .ok (.ireturn, 1) := by decide +kernel
set_option maxRecDepth 20000 in
theorem ggL_law_X2_init : GoodIn wsL_law wsX2_init := goodIn_r _ [9, 10, 11, 12, 13, 14, 15, 16, 17, 18, 19, 20, 21, 22, 23, 24, 25, 26, 27, 28, 29, 30, 31, 32, 33, 34, 35, 36, 37, 38, 39, 40, 41, 42, 43, 44, 466, 467, 444, 445, 446, 447, 448, 449, 450, 451, 452, 453, 468] (by decide +kernel) (by decide +kernel)
set_option maxRecDepth 20000 in
theorem gL_law_X2_init : GoodIn wsL_law (wsX2_init) := ggL_law_X2_init
set_option maxRecDepth 20000 in
theorem ggL_law_X3_init : GoodIn wsL_law wsX3_init := goodIn_r _ [47, 48, 11, 12, 33, 49, 50, 51, 52, 53, 54, 454, 455, 456, 457, 458, 459, 460, 461, 462, 463, 464, 465] (by decide +kernel) (by decide +kernel)
set_option maxRecDepth 20000 in
theorem gL_law_X3_init : GoodIn wsL_law (wsX3_init) := ggL_law_X3_init
set_option maxRecDepth 20000 in
theorem ggL_law_L_put : GoodIn wsL_law wsL_put := goodIn_ca (goodIn_ca (goodIn_r _ [58, 59, 60, 61, 62, 63, 2, 64, 65, 66, 67, 68, 69, 70, 71, 72, 73, 74, 75, 23, 76, 77, 78, 79, 25, 24, 80, 81, 82, 83, 84, 85, 86, 16, 20, 87, 88, 89, 15, 90, 34, 35, 91, 92, 93, 94, 95, 96, 97, 98, 99, 100, 101, 102, 103, 104, 105, 106, 107, 108, 109, 19, 110, 40, 444, 445, 446, 447, 448, 449, 450, 451, 452, 453, 466, 467, 468] (by decide +kernel) (by decide +kernel)) (goodIn_sub (fun _ h => List.mem_append_left _ (List.mem_append_right _ h)) (by decide +kernel))) (goodIn_sub (fun _ h => List.mem_append_right _ h) (by decide +kernel))
set_option maxRecDepth 20000 in
theorem gL_law_L_put : GoodIn wsL_law (va_wsS RL 65 yL_put wsL_put) := goodIn_app (goodIn_of _ (by decide +kernel)) ggL_law_L_put
set_option maxRecDepth 20000 in
theorem ggL_law_X3_put : GoodIn wsL_law wsX3_put := goodIn_r _ [114, 115, 51, 116, 117, 5, 118, 119, 120, 121, 122, 123, 124, 125, 126, 127, 128, 129, 130, 131, 132, 133, 134, 135, 136, 49, 50, 454, 455, 456, 457, 458, 459, 460, 461, 462, 463, 464, 465] (by decide +kernel) (by decide +kernel)
set_option maxRecDepth 20000 in
theorem gL_law_X3_put : GoodIn wsL_law (wsV RL 70 RX3 yX3_put wsX3_put) := goodIn_app (goodIn_of _ (by decide +kernel)) ggL_law_X3_put
set_option maxRecDepth 20000 in
theorem ggL_law_X3_thrown : GoodIn wsL_law wsX3_thrown := goodIn_r _ [140, 132, 454, 455, 456, 457, 458, 459, 460, 461, 462, 463, 464, 465] (by decide +kernel) (by decide +kernel)
set_option maxRecDepth 20000 in
theorem gL_law_X3_thrown : GoodIn wsL_law (wsV RL 71 RX3 yX3_thrown wsX3_thrown) := goodIn_app (goodIn_of _ (by decide +kernel)) ggL_law_X3_thrown
set_option maxRecDepth 20000 in
theorem ggL_law_L_delete : GoodIn wsL_law wsL_delete := goodIn_ca (goodIn_ca (goodIn_r _ [143, 59, 60, 144, 145, 146, 2, 147, 74, 75, 20, 67, 68, 69, 65, 66, 70, 71, 72, 73, 23, 148, 149, 150, 19, 151, 152, 153, 154, 155, 40, 76, 77, 78, 79, 25, 24, 80, 81, 82, 156, 157, 158, 159, 16, 160, 99, 100, 101, 15, 102, 35, 91, 92, 93, 94, 83, 84, 85, 86, 87, 88, 89, 90, 34, 95, 96, 97, 98, 103, 104, 105, 106, 107, 108, 109, 110, 444, 445, 446, 447, 448, 449, 450, 451, 452, 453, 468, 466, 467] (by decide +kernel) (by decide +kernel)) (goodIn_sub (fun _ h => List.mem_append_right _ h) (by decide +kernel))) (goodIn_sub (fun _ h => List.mem_append_left _ (List.mem_append_right _ h)) (by decide +kernel))
set_option maxRecDepth 20000 in
theorem gL_law_L_delete : GoodIn wsL_law (va_wsS RL 74 yL_delete wsL_delete) := goodIn_app (goodIn_of _ (by decide +kernel)) ggL_law_L_delete
set_option maxRecDepth 20000 in
theorem ggL_law_X3_delete : GoodIn wsL_law wsX3_delete := goodIn_r _ [164, 115, 51, 116, 117, 5, 118, 119, 120, 121, 122, 123, 124, 125, 126, 127, 128, 129, 130, 131, 132, 165, 166, 167, 168, 50, 133, 134, 135, 136, 49, 454, 455, 456, 457, 458, 459, 460, 461, 462, 463, 464, 465] (by decide +kernel) (by decide +kernel)
set_option maxRecDepth 20000 in
theorem gL_law_X3_delete : GoodIn wsL_law (wsV RL 77 RX3 yX3_delete wsX3_delete) := goodIn_app (goodIn_of _ (by decide +kernel)) ggL_law_X3_delete
set_option maxRecDepth 20000 in
theorem ggL_law_L_get : GoodIn wsL_law wsL_get := goodIn_ca (goodIn_ca (goodIn_r _ [171, 59, 60, 172, 173, 174, 2, 175, 20, 67, 68, 69, 65, 66, 70, 71, 72, 73, 74, 75, 23, 148, 149, 150, 19, 151, 152, 153, 154, 155, 40, 156, 157, 158, 159, 16, 160, 99, 100, 101, 15, 102, 35, 91, 92, 93, 94, 444, 445, 446, 447, 448, 449, 450, 451, 452, 453, 468, 466, 467] (by decide +kernel) (by decide +kernel)) (goodIn_sub (fun _ h => List.mem_append_left _ (List.mem_append_right _ h)) (by decide +kernel))) (goodIn_sub (fun _ h => List.mem_append_right _ h) (by decide +kernel))
set_option maxRecDepth 20000 in
theorem gL_law_L_get : GoodIn wsL_law (va_wsS RL 78 yL_get wsL_get) := goodIn_app (goodIn_of _ (by decide +kernel)) ggL_law_L_get
set_option maxRecDepth 20000 in
theorem ggL_law_X3_get : GoodIn wsL_law wsX3_get := goodIn_r _ [179, 115, 116, 117, 5, 118, 128, 129, 130, 131, 132, 165, 166, 167, 168, 51, 50, 454, 455, 456, 457, 458, 459, 460, 461, 462, 463, 464, 465] (by decide +kernel) (by decide +kernel)
set_option maxRecDepth 20000 in
theorem gL_law_X3_get : GoodIn wsL_law (wsV RL 80 RX3 yX3_get wsX3_get) := goodIn_app (goodIn_of _ (by decide +kernel)) ggL_law_X3_get
set_option maxRecDepth 20000 in
theorem ggL_law_L_next : GoodIn wsL_law wsL_next := goodIn_ca (goodIn_ca (goodIn_r _ [182, 59, 60, 183, 184, 185, 2, 186, 20, 67, 68, 69, 65, 66, 70, 71, 72, 73, 74, 75, 23, 148, 149, 150, 19, 151, 152, 153, 154, 155, 40, 444, 445, 446, 447, 448, 449, 450, 451, 452, 453, 468] (by decide +kernel) (by decide +kernel)) (goodIn_sub (fun _ h => List.mem_append_left _ (List.mem_append_right _ h)) (by decide +kernel))) (goodIn_sub (fun _ h => List.mem_append_right _ h) (by decide +kernel))
set_option maxRecDepth 20000 in
theorem gL_law_L_next : GoodIn wsL_law (va_wsS RL 81 yL_next wsL_next) := goodIn_app (goodIn_of _ (by decide +kernel)) ggL_law_L_next
set_option maxRecDepth 20000 in
theorem ggL_law_X3_next : GoodIn wsL_law wsX3_next := goodIn_r _ [190, 115, 51, 116, 117, 5, 118, 128, 129, 130, 131, 132, 454, 455, 456, 457, 458, 459, 460, 461, 462, 463, 464, 465] (by decide +kernel) (by decide +kernel)
set_option maxRecDepth 20000 in
theorem gL_law_X3_next : GoodIn wsL_law (wsV RL 83 RX3 yX3_next wsX3_next) := goodIn_app (goodIn_of _ (by decide +kernel)) ggL_law_X3_next
set_option maxRecDepth 20000 in
theorem ggL_law_L_sum : GoodIn wsL_law wsL_sum := goodIn_ca (goodIn_ca (goodIn_r _ [193, 59, 60, 194, 195, 196, 2, 197, 20, 198, 199, 200, 65, 66, 67, 68, 69, 70, 71, 72, 73, 74, 75, 23, 148, 149, 150, 19, 151, 152, 153, 154, 155, 40, 156, 157, 158, 159, 16, 160, 99, 100, 101, 15, 102, 35, 91, 92, 93, 94, 444, 445, 446, 447, 448, 449, 450, 451, 452, 453, 468, 466, 467] (by decide +kernel) (by decide +kernel)) (goodIn_sub (fun _ h => List.mem_append_left _ (List.mem_append_right _ h)) (by decide +kernel))) (goodIn_sub (fun _ h => List.mem_append_right _ h) (by decide +kernel))
set_option maxRecDepth 20000 in
theorem gL_law_L_sum : GoodIn wsL_law (va_wsS RL 84 yL_sum wsL_sum) := goodIn_app (goodIn_of _ (by decide +kernel)) ggL_law_L_sum
set_option maxRecDepth 20000 in
theorem ggL_law_X3_sum : GoodIn wsL_law wsX3_sum := goodIn_r _ [204, 115, 51, 205, 206, 5, 207, 128, 129, 130, 131, 132, 165, 166, 167, 168, 50, 454, 455, 456, 457, 458, 459, 460, 461, 462, 463, 464, 465] (by decide +kernel) (by decide +kernel)
set_option maxRecDepth 20000 in
theorem gL_law_X3_sum : GoodIn wsL_law (wsV RL 86 RX3 yX3_sum wsX3_sum) := goodIn_app (goodIn_of _ (by decide +kernel)) ggL_law_X3_sum
set_option maxRecDepth 20000 in
theorem ggL_law_L_fetches : GoodIn wsL_law wsL_fetches := goodIn_ca (goodIn_ca (goodIn_r _ [210, 59, 60, 211, 212, 213, 2, 214, 25, 20, 198, 199, 200, 65, 66, 67, 68, 69, 70, 71, 72, 73, 74, 75, 23, 80, 81, 82, 148, 149, 150, 19, 151, 152, 153, 154, 155, 40, 160, 215, 216, 217, 218, 219, 220, 221, 444, 445, 446, 447, 448, 449, 450, 451, 452, 453, 468] (by decide +kernel) (by decide +kernel)) (goodIn_sub (fun _ h => List.mem_append_left _ (List.mem_append_right _ h)) (by decide +kernel))) (goodIn_sub (fun _ h => List.mem_append_right _ h) (by decide +kernel))
set_option maxRecDepth 20000 in
theorem gL_law_L_fetches : GoodIn wsL_law (va_wsS RL 87 yL_fetches wsL_fetches) := goodIn_app (goodIn_of _ (by decide +kernel)) ggL_law_L_fetches
set_option maxRecDepth 20000 in
theorem ggL_law_X3_fetches : GoodIn wsL_law wsX3_fetches := goodIn_r _ [225, 115, 123, 124, 51, 205, 206, 5, 207, 128, 129, 130, 131, 132, 454, 455, 456, 457, 458, 459, 460, 461, 462, 463, 464, 465] (by decide +kernel) (by decide +kernel)
set_option maxRecDepth 20000 in
theorem gL_law_X3_fetches : GoodIn wsL_law (wsV RL 89 RX3 yX3_fetches wsX3_fetches) := goodIn_app (goodIn_of _ (by decide +kernel)) ggL_law_X3_fetches
set_option maxRecDepth 20000 in
theorem ggL_law_L_synchronize : GoodIn wsL_law wsL_synchronize := goodIn_ca (goodIn_r _ [228, 60, 229, 230, 231, 2, 232, 70, 71, 72, 73, 74, 75, 23, 233, 234, 235, 236, 24, 26, 237, 238, 239, 240, 28, 241, 242, 243, 244, 444, 445, 446, 447, 448, 449, 450, 451, 452, 453] (by decide +kernel) (by decide +kernel)) (goodIn_sub (fun _ h => List.mem_append_right _ h) (by decide +kernel))
set_option maxRecDepth 20000 in
theorem gL_law_L_synchronize : GoodIn wsL_law (va_wsS RL 90 yL_synchronize wsL_synchronize) := goodIn_app (goodIn_of _ (by decide +kernel)) ggL_law_L_synchronize
set_option maxRecDepth 20000 in
theorem ggL_law_X3_synchronize : GoodIn wsL_law wsX3_synchronize := goodIn_r _ [248, 115, 128, 129, 130, 5, 131, 132, 249, 250, 251, 252, 253, 124, 254, 255, 256, 257, 54, 454, 455, 456, 457, 458, 459, 460, 461, 462, 463, 464, 465] (by decide +kernel) (by decide +kernel)
set_option maxRecDepth 20000 in
theorem gL_law_X3_synchronize : GoodIn wsL_law (wsV RL 93 RX3 yX3_synchronize wsX3_synchronize) := goodIn_app (goodIn_of _ (by decide +kernel)) ggL_law_X3_synchronize
set_option maxRecDepth 20000 in
theorem ggL_law_L_checkpoint : GoodIn wsL_law wsL_checkpoint := goodIn_ca (goodIn_r _ [260, 60, 261, 262, 263, 2, 264, 21, 20, 24, 27, 70, 71, 72, 73, 74, 75, 23, 233, 234, 235, 236, 26, 237, 238, 239, 240, 28, 241, 242, 243, 244, 265, 266, 267, 19, 268, 40, 152, 153, 154, 155, 444, 445, 446, 447, 448, 449, 450, 451, 452, 453, 468] (by decide +kernel) (by decide +kernel)) (goodIn_sub (fun _ h => List.mem_append_right _ h) (by decide +kernel))
set_option maxRecDepth 20000 in
theorem gL_law_L_checkpoint : GoodIn wsL_law (va_wsS RL 94 yL_checkpoint wsL_checkpoint) := goodIn_app (goodIn_of _ (by decide +kernel)) ggL_law_L_checkpoint
set_option maxRecDepth 20000 in
theorem ggL_law_X3_checkpoint : GoodIn wsL_law wsX3_checkpoint := goodIn_r _ [272, 115, 52, 51, 124, 273, 128, 129, 130, 5, 131, 132, 249, 250, 251, 252, 253, 254, 255, 256, 257, 54, 454, 455, 456, 457, 458, 459, 460, 461, 462, 463, 464, 465] (by decide +kernel) (by decide +kernel)
set_option maxRecDepth 20000 in
theorem gL_law_X3_checkpoint : GoodIn wsL_law (wsV RL 96 RX3 yX3_checkpoint wsX3_checkpoint) := goodIn_app (goodIn_of _ (by decide +kernel)) ggL_law_X3_checkpoint
set_option maxRecDepth 20000 in
theorem ggL_law_L_collect : GoodIn wsL_law wsL_collect := goodIn_ca (goodIn_ca (goodIn_r _ [276, 59, 60, 277, 278, 279, 2, 280, 65, 66, 74, 75, 24, 25, 70, 71, 72, 73, 23, 281, 282, 283, 284, 285, 286, 287, 288, 20, 16, 103, 104, 105, 15, 106, 34, 91, 92, 93, 94, 160, 153, 154, 19, 155, 40, 76, 77, 78, 79, 80, 81, 82, 289, 290, 291, 292, 99, 100, 101, 102, 35, 83, 84, 85, 86, 87, 88, 89, 90, 95, 96, 97, 98, 107, 108, 109, 110, 233, 234, 235, 236, 26, 237, 238, 239, 240, 28, 241, 242, 243, 244, 444, 445, 446, 447, 448, 449, 450, 451, 452, 453, 466, 467, 468] (by decide +kernel) (by decide +kernel)) (goodIn_sub (fun _ h => List.mem_append_left _ (List.mem_append_right _ h)) (by decide +kernel))) (goodIn_sub (fun _ h => List.mem_append_right _ h) (by decide +kernel))
set_option maxRecDepth 20000 in
theorem gL_law_L_collect : GoodIn wsL_law (va_wsS RL 97 yL_collect wsL_collect) := goodIn_app (goodIn_of _ (by decide +kernel)) ggL_law_L_collect
set_option maxRecDepth 20000 in
theorem ggL_law_X3_collect : GoodIn wsL_law wsX3_collect := goodIn_r _ [296, 115, 124, 123, 49, 51, 50, 297, 298, 299, 5, 300, 119, 120, 121, 122, 125, 126, 127, 128, 129, 130, 131, 132, 133, 134, 135, 136, 249, 250, 251, 252, 253, 254, 255, 256, 257, 54, 454, 455, 456, 457, 458, 459, 460, 461, 462, 463, 464, 465] (by decide +kernel) (by decide +kernel)
set_option maxRecDepth 20000 in
theorem gL_law_X3_collect : GoodIn wsL_law (wsV RL 99 RX3 yX3_collect wsX3_collect) := goodIn_app (goodIn_of _ (by decide +kernel)) ggL_law_X3_collect
set_option maxRecDepth 20000 in
theorem ggL_law_L_failAfter : GoodIn wsL_law wsL_failAfter := goodIn_ca (goodIn_r _ [303, 59, 304, 305, 306, 2, 307, 65, 66, 28, 444, 445, 446, 447, 448, 449, 450, 451, 452, 453] (by decide +kernel) (by decide +kernel)) (goodIn_sub (fun _ h => List.mem_append_left _ (List.mem_append_right _ h)) (by decide +kernel))
set_option maxRecDepth 20000 in
theorem gL_law_L_failAfter : GoodIn wsL_law (va_wsS RL 100 yL_failAfter wsL_failAfter) := goodIn_app (goodIn_of _ (by decide +kernel)) ggL_law_L_failAfter
set_option maxRecDepth 20000 in
theorem ggL_law_X3_failAfter : GoodIn wsL_law wsX3_failAfter := goodIn_r _ [311, 54, 128, 129, 130, 5, 131, 132, 454, 455, 456, 457, 458, 459, 460, 461, 462, 463, 464, 465] (by decide +kernel) (by decide +kernel)
set_option maxRecDepth 20000 in
theorem gL_law_X3_failAfter : GoodIn wsL_law (wsV RL 103 RX3 yX3_failAfter wsX3_failAfter) := goodIn_app (goodIn_of _ (by decide +kernel)) ggL_law_X3_failAfter
set_option maxRecDepth 20000 in
theorem ggL_law_L_crash : GoodIn wsL_law wsL_crash := goodIn_ca (goodIn_r _ [314, 60, 315, 316, 317, 2, 318, 24, 26, 70, 71, 72, 73, 74, 75, 23, 241, 242, 243, 244, 444, 445, 446, 447, 448, 449, 450, 451, 452, 453] (by decide +kernel) (by decide +kernel)) (goodIn_sub (fun _ h => List.mem_append_right _ h) (by decide +kernel))
set_option maxRecDepth 20000 in
theorem gL_law_L_crash : GoodIn wsL_law (va_wsS RL 104 yL_crash wsL_crash) := goodIn_app (goodIn_of _ (by decide +kernel)) ggL_law_L_crash
set_option maxRecDepth 20000 in
theorem ggL_law_X3_crash : GoodIn wsL_law wsX3_crash := goodIn_r _ [322, 115, 124, 253, 128, 129, 130, 5, 131, 132, 454, 455, 456, 457, 458, 459, 460, 461, 462, 463, 464, 465] (by decide +kernel) (by decide +kernel)
set_option maxRecDepth 20000 in
theorem gL_law_X3_crash : GoodIn wsL_law (wsV RL 106 RX3 yX3_crash wsX3_crash) := goodIn_app (goodIn_of _ (by decide +kernel)) ggL_law_X3_crash
set_option maxRecDepth 20000 in
theorem ggL_law_L_start : GoodIn wsL_law wsL_start := goodIn_ca (goodIn_r _ [325, 60, 326, 327, 328, 2, 329, 74, 75, 23, 20, 330, 331, 332, 333, 21, 25, 27, 334, 335, 336, 337, 26, 265, 266, 267, 19, 268, 40, 152, 153, 154, 155, 338, 339, 340, 341, 95, 96, 97, 98, 16, 99, 100, 101, 15, 102, 35, 91, 92, 93, 94, 103, 104, 105, 106, 34, 107, 108, 109, 110, 342, 343, 344, 345, 444, 445, 446, 447, 448, 449, 450, 451, 452, 453, 468, 466, 467] (by decide +kernel) (by decide +kernel)) (goodIn_sub (fun _ h => List.mem_append_right _ h) (by decide +kernel))
set_option maxRecDepth 20000 in
theorem gL_law_L_start : GoodIn wsL_law (va_wsS RL 107 yL_start wsL_start) := goodIn_app (goodIn_of _ (by decide +kernel)) ggL_law_L_start
set_option maxRecDepth 20000 in
theorem ggL_law_X3_start : GoodIn wsL_law wsX3_start := goodIn_r _ [349, 115, 51, 53, 253, 124, 128, 129, 130, 5, 131, 132, 350, 351, 352, 353, 52, 123, 273, 49, 50, 454, 455, 456, 457, 458, 459, 460, 461, 462, 463, 464, 465] (by decide +kernel) (by decide +kernel)
set_option maxRecDepth 20000 in
theorem gL_law_X3_start : GoodIn wsL_law (wsV RL 109 RX3 yX3_start wsX3_start) := goodIn_app (goodIn_of _ (by decide +kernel)) ggL_law_X3_start
set_option maxRecDepth 20000 in
theorem ggL_law_X2_isUp : GoodIn wsL_law wsX2_isUp := goodIn_r _ [357, 23, 444, 445, 446, 447, 448, 449, 450, 451, 452, 453] (by decide +kernel) (by decide +kernel)
set_option maxRecDepth 20000 in
theorem gL_law_X2_isUp : GoodIn wsL_law (wsV RL 110 RX2 yX2_isUp wsX2_isUp) := goodIn_app (goodIn_of _ (by decide +kernel)) ggL_law_X2_isUp
set_option maxRecDepth 20000 in
theorem ggL_law_X3_isUp : GoodIn wsL_law wsX3_isUp := goodIn_r _ [361, 132, 115, 454, 455, 456, 457, 458, 459, 460, 461, 462, 463, 464, 465] (by decide +kernel) (by decide +kernel)
set_option maxRecDepth 20000 in
theorem gL_law_X3_isUp : GoodIn wsL_law (wsV RL 113 RX3 yX3_isUp wsX3_isUp) := goodIn_app (goodIn_of _ (by decide +kernel)) ggL_law_X3_isUp
set_option maxRecDepth 20000 in
theorem ggL_law_X2_head : GoodIn wsL_law wsX2_head := goodIn_r _ [365, 24, 444, 445, 446, 447, 448, 449, 450, 451, 452, 453] (by decide +kernel) (by decide +kernel)
set_option maxRecDepth 20000 in
theorem gL_law_X2_head : GoodIn wsL_law (wsV RL 114 RX2 yX2_head wsX2_head) := goodIn_app (goodIn_of _ (by decide +kernel)) ggL_law_X2_head
set_option maxRecDepth 20000 in
theorem ggL_law_X3_head : GoodIn wsL_law wsX3_head := goodIn_r _ [369, 132, 370, 371, 372, 5, 373, 115, 253, 124, 454, 455, 456, 457, 458, 459, 460, 461, 462, 463, 464, 465] (by decide +kernel) (by decide +kernel)
set_option maxRecDepth 20000 in
theorem gL_law_X3_head : GoodIn wsL_law (wsV RL 117 RX3 yX3_head wsX3_head) := goodIn_app (goodIn_of _ (by decide +kernel)) ggL_law_X3_head
set_option maxRecDepth 20000 in
theorem ggL_law_X2_tail : GoodIn wsL_law wsX2_tail := goodIn_r _ [377, 25, 444, 445, 446, 447, 448, 449, 450, 451, 452, 453] (by decide +kernel) (by decide +kernel)
set_option maxRecDepth 20000 in
theorem gL_law_X2_tail : GoodIn wsL_law (wsV RL 118 RX2 yX2_tail wsX2_tail) := goodIn_app (goodIn_of _ (by decide +kernel)) ggL_law_X2_tail
set_option maxRecDepth 20000 in
theorem ggL_law_X3_tail : GoodIn wsL_law wsX3_tail := goodIn_r _ [381, 132, 123, 454, 455, 456, 457, 458, 459, 460, 461, 462, 463, 464, 465] (by decide +kernel) (by decide +kernel)
set_option maxRecDepth 20000 in
theorem gL_law_X3_tail : GoodIn wsL_law (wsV RL 121 RX3 yX3_tail wsX3_tail) := goodIn_app (goodIn_of _ (by decide +kernel)) ggL_law_X3_tail
set_option maxRecDepth 20000 in
theorem ggL_law_X2_written : GoodIn wsL_law wsX2_written := goodIn_r _ [385, 26, 444, 445, 446, 447, 448, 449, 450, 451, 452, 453] (by decide +kernel) (by decide +kernel)
set_option maxRecDepth 20000 in
theorem gL_law_X2_written : GoodIn wsL_law (wsV RL 122 RX2 yX2_written wsX2_written) := goodIn_app (goodIn_of _ (by decide +kernel)) ggL_law_X2_written
set_option maxRecDepth 20000 in
theorem ggL_law_X3_written : GoodIn wsL_law wsX3_written := goodIn_r _ [389, 132, 253, 454, 455, 456, 457, 458, 459, 460, 461, 462, 463, 464, 465] (by decide +kernel) (by decide +kernel)
set_option maxRecDepth 20000 in
theorem gL_law_X3_written : GoodIn wsL_law (wsV RL 125 RX3 yX3_written wsX3_written) := goodIn_app (goodIn_of _ (by decide +kernel)) ggL_law_X3_written
set_option maxRecDepth 20000 in
theorem ggL_law_X2_checkpointAt : GoodIn wsL_law wsX2_checkpointAt := goodIn_r _ [393, 27, 444, 445, 446, 447, 448, 449, 450, 451, 452, 453] (by decide +kernel) (by decide +kernel)
set_option maxRecDepth 20000 in
theorem gL_law_X2_checkpointAt : GoodIn wsL_law (wsV RL 126 RX2 yX2_checkpointAt wsX2_checkpointAt) := goodIn_app (goodIn_of _ (by decide +kernel)) ggL_law_X2_checkpointAt
set_option maxRecDepth 20000 in
theorem ggL_law_X3_checkpointAt : GoodIn wsL_law wsX3_checkpointAt := goodIn_r _ [397, 132, 273, 454, 455, 456, 457, 458, 459, 460, 461, 462, 463, 464, 465] (by decide +kernel) (by decide +kernel)
set_option maxRecDepth 20000 in
theorem gL_law_X3_checkpointAt : GoodIn wsL_law (wsV RL 129 RX3 yX3_checkpointAt wsX3_checkpointAt) := goodIn_app (goodIn_of _ (by decide +kernel)) ggL_law_X3_checkpointAt
set_option maxRecDepth 20000 in
theorem ggL_law_L_positionOf : GoodIn wsL_law wsL_positionOf := goodIn_ca (goodIn_ca (goodIn_r _ [400, 59, 60, 401, 402, 403, 2, 404, 20, 67, 68, 69, 65, 66, 70, 71, 72, 73, 74, 75, 23, 160, 153, 154, 19, 155, 40, 444, 445, 446, 447, 448, 449, 450, 451, 452, 453, 468] (by decide +kernel) (by decide +kernel)) (goodIn_sub (fun _ h => List.mem_append_left _ (List.mem_append_right _ h)) (by decide +kernel))) (goodIn_sub (fun _ h => List.mem_append_right _ h) (by decide +kernel))
set_option maxRecDepth 20000 in
theorem gL_law_L_positionOf : GoodIn wsL_law (va_wsS RL 130 yL_positionOf wsL_positionOf) := goodIn_app (goodIn_of _ (by decide +kernel)) ggL_law_L_positionOf
set_option maxRecDepth 20000 in
theorem ggL_law_X3_positionOf : GoodIn wsL_law wsX3_positionOf := goodIn_r _ [408, 115, 51, 116, 117, 5, 118, 128, 129, 130, 131, 132, 454, 455, 456, 457, 458, 459, 460, 461, 462, 463, 464, 465] (by decide +kernel) (by decide +kernel)
set_option maxRecDepth 20000 in
theorem gL_law_X3_positionOf : GoodIn wsL_law (wsV RL 132 RX3 yX3_positionOf wsX3_positionOf) := goodIn_app (goodIn_of _ (by decide +kernel)) ggL_law_X3_positionOf
set_option maxRecDepth 20000 in
theorem ggL_law_X2_segments : GoodIn wsL_law wsX2_segments := goodIn_r _ [412, 24, 25, 80, 81, 2, 82, 444, 445, 446, 447, 448, 449, 450, 451, 452, 453] (by decide +kernel) (by decide +kernel)
set_option maxRecDepth 20000 in
theorem gL_law_X2_segments : GoodIn wsL_law (wsV RL 133 RX2 yX2_segments wsX2_segments) := goodIn_app (goodIn_of _ (by decide +kernel)) ggL_law_X2_segments
set_option maxRecDepth 20000 in
theorem ggL_law_X3_segments : GoodIn wsL_law wsX3_segments := goodIn_r _ [416, 132, 123, 370, 371, 372, 5, 373, 115, 253, 124, 125, 126, 127, 454, 455, 456, 457, 458, 459, 460, 461, 462, 463, 464, 465] (by decide +kernel) (by decide +kernel)
set_option maxRecDepth 20000 in
theorem gL_law_X3_segments : GoodIn wsL_law (wsV RL 136 RX3 yX3_segments wsX3_segments) := goodIn_app (goodIn_of _ (by decide +kernel)) ggL_law_X3_segments
set_option maxRecDepth 20000 in
theorem ggL_law_L_live : GoodIn wsL_law wsL_live := goodIn_ca (goodIn_r _ [419, 60, 420, 421, 422, 2, 423, 24, 25, 70, 71, 72, 73, 74, 75, 23, 281, 282, 283, 284, 285, 286, 287, 288, 20, 16, 103, 104, 105, 15, 106, 34, 91, 92, 93, 94, 160, 153, 154, 19, 155, 40, 444, 445, 446, 447, 448, 449, 450, 451, 452, 453, 466, 467, 468] (by decide +kernel) (by decide +kernel)) (goodIn_sub (fun _ h => List.mem_append_right _ h) (by decide +kernel))
set_option maxRecDepth 20000 in
theorem gL_law_L_live : GoodIn wsL_law (va_wsS RL 137 yL_live wsL_live) := goodIn_app (goodIn_of _ (by decide +kernel)) ggL_law_L_live
set_option maxRecDepth 20000 in
theorem ggL_law_X3_live : GoodIn wsL_law wsX3_live := goodIn_r _ [427, 115, 51, 128, 129, 130, 5, 131, 132, 454, 455, 456, 457, 458, 459, 460, 461, 462, 463, 464, 465] (by decide +kernel) (by decide +kernel)
set_option maxRecDepth 20000 in
theorem gL_law_X3_live : GoodIn wsL_law (wsV RL 139 RX3 yX3_live wsX3_live) := goodIn_app (goodIn_of _ (by decide +kernel)) ggL_law_X3_live
set_option maxRecDepth 20000 in
theorem ggL_law_X2_toFree : GoodIn wsL_law wsX2_toFree := goodIn_r _ [431, 25, 24, 80, 81, 2, 82, 444, 445, 446, 447, 448, 449, 450, 451, 452, 453] (by decide +kernel) (by decide +kernel)
set_option maxRecDepth 20000 in
theorem gL_law_X2_toFree : GoodIn wsL_law (wsV RL 140 RX2 yX2_toFree wsX2_toFree) := goodIn_app (goodIn_of _ (by decide +kernel)) ggL_law_X2_toFree
set_option maxRecDepth 20000 in
theorem ggL_law_X3_toFree : GoodIn wsL_law wsX3_toFree := goodIn_r _ [435, 132, 123, 370, 371, 372, 5, 373, 115, 253, 124, 454, 455, 456, 457, 458, 459, 460, 461, 462, 463, 464, 465] (by decide +kernel) (by decide +kernel)
set_option maxRecDepth 20000 in
theorem gL_law_X3_toFree : GoodIn wsL_law (wsV RL 143 RX3 yX3_toFree wsX3_toFree) := goodIn_app (goodIn_of _ (by decide +kernel)) ggL_law_X3_toFree
set_option maxRecDepth 20000 in
theorem ggL_law_X2_wouldHave : GoodIn wsL_law wsX2_wouldHave := goodIn_r _ [439, 22, 330, 331, 332, 2, 333, 21, 25, 27, 334, 335, 336, 337, 26, 265, 266, 267, 19, 268, 40, 152, 153, 154, 155, 338, 339, 340, 341, 95, 96, 97, 98, 16, 99, 100, 101, 15, 102, 35, 91, 92, 93, 94, 103, 104, 105, 106, 34, 107, 108, 109, 110, 342, 343, 344, 345, 444, 445, 446, 447, 448, 449, 450, 451, 452, 453, 468, 466, 467] (by decide +kernel) (by decide +kernel)
set_option maxRecDepth 20000 in
theorem gL_law_X2_wouldHave : GoodIn wsL_law (wsV RL 144 RX2 yX2_wouldHave wsX2_wouldHave) := goodIn_app (goodIn_of _ (by decide +kernel)) ggL_law_X2_wouldHave
set_option maxRecDepth 20000 in
theorem ggL_law_X3_wouldHave : GoodIn wsL_law wsX3_wouldHave := goodIn_r _ [443, 132, 350, 351, 352, 5, 353, 53, 52, 123, 273, 253, 49, 50, 454, 455, 456, 457, 458, 459, 460, 461, 462, 463, 464, 465] (by decide +kernel) (by decide +kernel)
set_option maxRecDepth 20000 in
theorem gL_law_X3_wouldHave : GoodIn wsL_law (wsV RL 147 RX3 yX3_wouldHave wsX3_wouldHave) := goodIn_app (goodIn_of _ (by decide +kernel)) ggL_law_X3_wouldHave
theorem dL_law_0 : decode cL_law 0 = .ok (.new 8, 3) := by decide +kernel
theorem dL_law_3 : decode cL_law 3 = .ok (.dup, 1) := by decide +kernel
theorem dL_law_4 : decode cL_law 4 = .ok (.invokespecial 61, 3) := by decide +kernel
theorem dL_law_7 : decode cL_law 7 = .ok (.astore_n 1, 1) := by decide +kernel
theorem dL_law_8 : decode cL_law 8 = .ok (.new 62, 3) := by decide +kernel
theorem dL_law_11 : decode cL_law 11 = .ok (.dup, 1) := by decide +kernel
theorem dL_law_12 : decode cL_law 12 = .ok (.invokespecial 64, 3) := by decide +kernel
theorem dL_law_15 : decode cL_law 15 = .ok (.astore_n 2, 1) := by decide +kernel
theorem dL_law_16 : decode cL_law 16 = .ok (.iconst 1, 1) := by decide +kernel
theorem dL_law_17 : decode cL_law 17 = .ok (.newarray .long, 2) := by decide +kernel
theorem dL_law_19 : decode cL_law 19 = .ok (.astore_n 3, 1) := by decide +kernel
theorem dL_law_20 : decode cL_law 20 = .ok (.iconst 0, 1) := by decide +kernel
theorem dL_law_21 : decode cL_law 21 = .ok (.istore 4, 2) := by decide +kernel
theorem dL_law_23 : decode cL_law 23 = .ok (.iload 4, 2) := by decide +kernel
theorem dL_law_25 : decode cL_law 25 = .ok (.aload_n 0, 1) := by decide +kernel
theorem dL_law_26 : decode cL_law 26 = .ok (.arraylength, 1) := by decide +kernel
theorem dL_law_27 : decode cL_law 27 = .ok (.iconst 3, 1) := by decide +kernel
theorem dL_law_28 : decode cL_law 28 = .ok (.isub, 1) := by decide +kernel
theorem dL_law_29 : decode cL_law 29 = .ok (.if_icmp .gt 982, 3) := by decide +kernel
theorem dL_law_32 : decode cL_law 32 = .ok (.aload_n 0, 1) := by decide +kernel
theorem dL_law_33 : decode cL_law 33 = .ok (.iload 4, 2) := by decide +kernel
theorem dL_law_35 : decode cL_law 35 = .ok (.iaload, 1) := by decide +kernel
theorem dL_law_36 : decode cL_law 36 = .ok (.bipush 31, 2) := by decide +kernel
theorem dL_law_38 : decode cL_law 38 = .ok (.iand, 1) := by decide +kernel
theorem dL_law_39 : decode cL_law 39 = .ok (.tableswitch 966 0 21 #[101, 169, 225, 281, 337, 405, 473, 524, 575, 638, 674, 718, 762, 775, 788, 801, 814, 827, 883, 896, 940, 953], 101) := by decide +kernel
theorem dL_law_140 : decode cL_law 140 = .ok (.aload_n 1, 1) := by decide +kernel
theorem dL_law_141 : decode cL_law 141 = .ok (.aload_n 0, 1) := by decide +kernel
theorem dL_law_142 : decode cL_law 142 = .ok (.iload 4, 2) := by decide +kernel
theorem dL_law_144 : decode cL_law 144 = .ok (.iconst 1, 1) := by decide +kernel
theorem dL_law_145 : decode cL_law 145 = .ok (.iadd, 1) := by decide +kernel
theorem dL_law_146 : decode cL_law 146 = .ok (.iaload, 1) := by decide +kernel
theorem dL_law_147 : decode cL_law 147 = .ok (.aload_n 0, 1) := by decide +kernel
theorem dL_law_148 : decode cL_law 148 = .ok (.iload 4, 2) := by decide +kernel
theorem dL_law_150 : decode cL_law 150 = .ok (.iconst 2, 1) := by decide +kernel
theorem dL_law_151 : decode cL_law 151 = .ok (.iadd, 1) := by decide +kernel
theorem dL_law_152 : decode cL_law 152 = .ok (.iaload, 1) := by decide +kernel
theorem dL_law_153 : decode cL_law 153 = .ok (.aload_n 3, 1) := by decide +kernel
theorem dL_law_154 : decode cL_law 154 = .ok (.invokestatic 65, 3) := by decide +kernel
theorem dL_law_157 : decode cL_law 157 = .ok (.istore 5, 2) := by decide +kernel
theorem dL_law_159 : decode cL_law 159 = .ok (.aload_n 2, 1) := by decide +kernel
theorem dL_law_160 : decode cL_law 160 = .ok (.aload_n 0, 1) := by decide +kernel
theorem dL_law_161 : decode cL_law 161 = .ok (.iload 4, 2) := by decide +kernel
theorem dL_law_163 : decode cL_law 163 = .ok (.iconst 1, 1) := by decide +kernel
theorem dL_law_164 : decode cL_law 164 = .ok (.iadd, 1) := by decide +kernel
theorem dL_law_165 : decode cL_law 165 = .ok (.iaload, 1) := by decide +kernel
theorem dL_law_166 : decode cL_law 166 = .ok (.aload_n 0, 1) := by decide +kernel
theorem dL_law_167 : decode cL_law 167 = .ok (.iload 4, 2) := by decide +kernel
theorem dL_law_169 : decode cL_law 169 = .ok (.iconst 2, 1) := by decide +kernel
theorem dL_law_170 : decode cL_law 170 = .ok (.iadd, 1) := by decide +kernel
theorem dL_law_171 : decode cL_law 171 = .ok (.iaload, 1) := by decide +kernel
theorem dL_law_172 : decode cL_law 172 = .ok (.invokevirtual 70, 3) := by decide +kernel
theorem dL_law_175 : decode cL_law 175 = .ok (.istore 6, 2) := by decide +kernel
theorem dL_law_177 : decode cL_law 177 = .ok (.aload_n 2, 1) := by decide +kernel
theorem dL_law_178 : decode cL_law 178 = .ok (.invokevirtual 71, 3) := by decide +kernel
theorem dL_law_181 : decode cL_law 181 = .ok (.iload 5, 2) := by decide +kernel
theorem dL_law_183 : decode cL_law 183 = .ok (.if_icmp .eq 5, 3) := by decide +kernel
theorem dL_law_186 : decode cL_law 186 = .ok (.iconst 0, 1) := by decide +kernel
theorem dL_law_187 : decode cL_law 187 = .ok (.ireturn, 1) := by decide +kernel
theorem dL_law_188 : decode cL_law 188 = .ok (.iload 5, 2) := by decide +kernel
theorem dL_law_190 : decode cL_law 190 = .ok (.ifCond .ne 15, 3) := by decide +kernel
theorem dL_law_193 : decode cL_law 193 = .ok (.aload_n 3, 1) := by decide +kernel
theorem dL_law_194 : decode cL_law 194 = .ok (.iconst 0, 1) := by decide +kernel
theorem dL_law_195 : decode cL_law 195 = .ok (.laload, 1) := by decide +kernel
theorem dL_law_196 : decode cL_law 196 = .ok (.iload 6, 2) := by decide +kernel
theorem dL_law_198 : decode cL_law 198 = .ok (.i2l, 1) := by decide +kernel
theorem dL_law_199 : decode cL_law 199 = .ok (.lcmp, 1) := by decide +kernel
theorem dL_law_200 : decode cL_law 200 = .ok (.ifCond .eq 5, 3) := by decide +kernel
theorem dL_law_203 : decode cL_law 203 = .ok (.iconst 0, 1) := by decide +kernel
theorem dL_law_204 : decode cL_law 204 = .ok (.ireturn, 1) := by decide +kernel
theorem dL_law_205 : decode cL_law 205 = .ok (.goto 800, 3) := by decide +kernel
theorem dL_law_208 : decode cL_law 208 = .ok (.aload_n 1, 1) := by decide +kernel
theorem dL_law_209 : decode cL_law 209 = .ok (.aload_n 0, 1) := by decide +kernel
theorem dL_law_210 : decode cL_law 210 = .ok (.iload 4, 2) := by decide +kernel
theorem dL_law_212 : decode cL_law 212 = .ok (.iconst 1, 1) := by decide +kernel
theorem dL_law_213 : decode cL_law 213 = .ok (.iadd, 1) := by decide +kernel
theorem dL_law_214 : decode cL_law 214 = .ok (.iaload, 1) := by decide +kernel
theorem dL_law_215 : decode cL_law 215 = .ok (.aload_n 3, 1) := by decide +kernel
theorem dL_law_216 : decode cL_law 216 = .ok (.invokestatic 74, 3) := by decide +kernel
theorem dL_law_219 : decode cL_law 219 = .ok (.istore 5, 2) := by decide +kernel
theorem dL_law_221 : decode cL_law 221 = .ok (.aload_n 2, 1) := by decide +kernel
theorem dL_law_222 : decode cL_law 222 = .ok (.aload_n 0, 1) := by decide +kernel
theorem dL_law_223 : decode cL_law 223 = .ok (.iload 4, 2) := by decide +kernel
theorem dL_law_225 : decode cL_law 225 = .ok (.iconst 1, 1) := by decide +kernel
theorem dL_law_226 : decode cL_law 226 = .ok (.iadd, 1) := by decide +kernel
theorem dL_law_227 : decode cL_law 227 = .ok (.iaload, 1) := by decide +kernel
theorem dL_law_228 : decode cL_law 228 = .ok (.invokevirtual 77, 3) := by decide +kernel
theorem dL_law_231 : decode cL_law 231 = .ok (.istore 6, 2) := by decide +kernel
theorem dL_law_233 : decode cL_law 233 = .ok (.aload_n 2, 1) := by decide +kernel
theorem dL_law_234 : decode cL_law 234 = .ok (.invokevirtual 71, 3) := by decide +kernel
theorem dL_law_237 : decode cL_law 237 = .ok (.iload 5, 2) := by decide +kernel
theorem dL_law_239 : decode cL_law 239 = .ok (.if_icmp .eq 5, 3) := by decide +kernel
theorem dL_law_242 : decode cL_law 242 = .ok (.iconst 0, 1) := by decide +kernel
theorem dL_law_243 : decode cL_law 243 = .ok (.ireturn, 1) := by decide +kernel
theorem dL_law_244 : decode cL_law 244 = .ok (.iload 5, 2) := by decide +kernel
theorem dL_law_246 : decode cL_law 246 = .ok (.ifCond .ne 15, 3) := by decide +kernel
theorem dL_law_249 : decode cL_law 249 = .ok (.aload_n 3, 1) := by decide +kernel
theorem dL_law_250 : decode cL_law 250 = .ok (.iconst 0, 1) := by decide +kernel
theorem dL_law_251 : decode cL_law 251 = .ok (.laload, 1) := by decide +kernel
theorem dL_law_252 : decode cL_law 252 = .ok (.iload 6, 2) := by decide +kernel
theorem dL_law_254 : decode cL_law 254 = .ok (.i2l, 1) := by decide +kernel
theorem dL_law_255 : decode cL_law 255 = .ok (.lcmp, 1) := by decide +kernel
theorem dL_law_256 : decode cL_law 256 = .ok (.ifCond .eq 5, 3) := by decide +kernel
theorem dL_law_259 : decode cL_law 259 = .ok (.iconst 0, 1) := by decide +kernel
theorem dL_law_260 : decode cL_law 260 = .ok (.ireturn, 1) := by decide +kernel
theorem dL_law_261 : decode cL_law 261 = .ok (.goto 744, 3) := by decide +kernel
theorem dL_law_264 : decode cL_law 264 = .ok (.aload_n 1, 1) := by decide +kernel
theorem dL_law_265 : decode cL_law 265 = .ok (.aload_n 0, 1) := by decide +kernel
theorem dL_law_266 : decode cL_law 266 = .ok (.iload 4, 2) := by decide +kernel
theorem dL_law_268 : decode cL_law 268 = .ok (.iconst 1, 1) := by decide +kernel
theorem dL_law_269 : decode cL_law 269 = .ok (.iadd, 1) := by decide +kernel
theorem dL_law_270 : decode cL_law 270 = .ok (.iaload, 1) := by decide +kernel
theorem dL_law_271 : decode cL_law 271 = .ok (.aload_n 3, 1) := by decide +kernel
theorem dL_law_272 : decode cL_law 272 = .ok (.invokestatic 78, 3) := by decide +kernel
theorem dL_law_275 : decode cL_law 275 = .ok (.istore 5, 2) := by decide +kernel
theorem dL_law_277 : decode cL_law 277 = .ok (.aload_n 2, 1) := by decide +kernel
theorem dL_law_278 : decode cL_law 278 = .ok (.aload_n 0, 1) := by decide +kernel
theorem dL_law_279 : decode cL_law 279 = .ok (.iload 4, 2) := by decide +kernel
theorem dL_law_281 : decode cL_law 281 = .ok (.iconst 1, 1) := by decide +kernel
theorem dL_law_282 : decode cL_law 282 = .ok (.iadd, 1) := by decide +kernel
theorem dL_law_283 : decode cL_law 283 = .ok (.iaload, 1) := by decide +kernel
theorem dL_law_284 : decode cL_law 284 = .ok (.invokevirtual 80, 3) := by decide +kernel
theorem dL_law_287 : decode cL_law 287 = .ok (.istore 6, 2) := by decide +kernel
theorem dL_law_289 : decode cL_law 289 = .ok (.aload_n 2, 1) := by decide +kernel
theorem dL_law_290 : decode cL_law 290 = .ok (.invokevirtual 71, 3) := by decide +kernel
theorem dL_law_293 : decode cL_law 293 = .ok (.iload 5, 2) := by decide +kernel
theorem dL_law_295 : decode cL_law 295 = .ok (.if_icmp .eq 5, 3) := by decide +kernel
theorem dL_law_298 : decode cL_law 298 = .ok (.iconst 0, 1) := by decide +kernel
theorem dL_law_299 : decode cL_law 299 = .ok (.ireturn, 1) := by decide +kernel
theorem dL_law_300 : decode cL_law 300 = .ok (.iload 5, 2) := by decide +kernel
theorem dL_law_302 : decode cL_law 302 = .ok (.ifCond .ne 15, 3) := by decide +kernel
theorem dL_law_305 : decode cL_law 305 = .ok (.aload_n 3, 1) := by decide +kernel
theorem dL_law_306 : decode cL_law 306 = .ok (.iconst 0, 1) := by decide +kernel
theorem dL_law_307 : decode cL_law 307 = .ok (.laload, 1) := by decide +kernel
theorem dL_law_308 : decode cL_law 308 = .ok (.iload 6, 2) := by decide +kernel
theorem dL_law_310 : decode cL_law 310 = .ok (.i2l, 1) := by decide +kernel
theorem dL_law_311 : decode cL_law 311 = .ok (.lcmp, 1) := by decide +kernel
theorem dL_law_312 : decode cL_law 312 = .ok (.ifCond .eq 5, 3) := by decide +kernel
theorem dL_law_315 : decode cL_law 315 = .ok (.iconst 0, 1) := by decide +kernel
theorem dL_law_316 : decode cL_law 316 = .ok (.ireturn, 1) := by decide +kernel
theorem dL_law_317 : decode cL_law 317 = .ok (.goto 688, 3) := by decide +kernel
theorem dL_law_320 : decode cL_law 320 = .ok (.aload_n 1, 1) := by decide +kernel
theorem dL_law_321 : decode cL_law 321 = .ok (.aload_n 0, 1) := by decide +kernel
theorem dL_law_322 : decode cL_law 322 = .ok (.iload 4, 2) := by decide +kernel
theorem dL_law_324 : decode cL_law 324 = .ok (.iconst 1, 1) := by decide +kernel
theorem dL_law_325 : decode cL_law 325 = .ok (.iadd, 1) := by decide +kernel
theorem dL_law_326 : decode cL_law 326 = .ok (.iaload, 1) := by decide +kernel
theorem dL_law_327 : decode cL_law 327 = .ok (.aload_n 3, 1) := by decide +kernel
theorem dL_law_328 : decode cL_law 328 = .ok (.invokestatic 81, 3) := by decide +kernel
theorem dL_law_331 : decode cL_law 331 = .ok (.istore 5, 2) := by decide +kernel
theorem dL_law_333 : decode cL_law 333 = .ok (.aload_n 2, 1) := by decide +kernel
theorem dL_law_334 : decode cL_law 334 = .ok (.aload_n 0, 1) := by decide +kernel
theorem dL_law_335 : decode cL_law 335 = .ok (.iload 4, 2) := by decide +kernel
theorem dL_law_337 : decode cL_law 337 = .ok (.iconst 1, 1) := by decide +kernel
theorem dL_law_338 : decode cL_law 338 = .ok (.iadd, 1) := by decide +kernel
theorem dL_law_339 : decode cL_law 339 = .ok (.iaload, 1) := by decide +kernel
theorem dL_law_340 : decode cL_law 340 = .ok (.invokevirtual 83, 3) := by decide +kernel
theorem dL_law_343 : decode cL_law 343 = .ok (.istore 6, 2) := by decide +kernel
theorem dL_law_345 : decode cL_law 345 = .ok (.aload_n 2, 1) := by decide +kernel
theorem dL_law_346 : decode cL_law 346 = .ok (.invokevirtual 71, 3) := by decide +kernel
theorem dL_law_349 : decode cL_law 349 = .ok (.iload 5, 2) := by decide +kernel
theorem dL_law_351 : decode cL_law 351 = .ok (.if_icmp .eq 5, 3) := by decide +kernel
theorem dL_law_354 : decode cL_law 354 = .ok (.iconst 0, 1) := by decide +kernel
theorem dL_law_355 : decode cL_law 355 = .ok (.ireturn, 1) := by decide +kernel
theorem dL_law_356 : decode cL_law 356 = .ok (.iload 5, 2) := by decide +kernel
theorem dL_law_358 : decode cL_law 358 = .ok (.ifCond .ne 15, 3) := by decide +kernel
theorem dL_law_361 : decode cL_law 361 = .ok (.aload_n 3, 1) := by decide +kernel
theorem dL_law_362 : decode cL_law 362 = .ok (.iconst 0, 1) := by decide +kernel
theorem dL_law_363 : decode cL_law 363 = .ok (.laload, 1) := by decide +kernel
theorem dL_law_364 : decode cL_law 364 = .ok (.iload 6, 2) := by decide +kernel
theorem dL_law_366 : decode cL_law 366 = .ok (.i2l, 1) := by decide +kernel
theorem dL_law_367 : decode cL_law 367 = .ok (.lcmp, 1) := by decide +kernel
theorem dL_law_368 : decode cL_law 368 = .ok (.ifCond .eq 5, 3) := by decide +kernel
theorem dL_law_371 : decode cL_law 371 = .ok (.iconst 0, 1) := by decide +kernel
theorem dL_law_372 : decode cL_law 372 = .ok (.ireturn, 1) := by decide +kernel
theorem dL_law_373 : decode cL_law 373 = .ok (.goto 632, 3) := by decide +kernel
theorem dL_law_376 : decode cL_law 376 = .ok (.aload_n 1, 1) := by decide +kernel
theorem dL_law_377 : decode cL_law 377 = .ok (.aload_n 0, 1) := by decide +kernel
theorem dL_law_378 : decode cL_law 378 = .ok (.iload 4, 2) := by decide +kernel
theorem dL_law_380 : decode cL_law 380 = .ok (.iconst 1, 1) := by decide +kernel
theorem dL_law_381 : decode cL_law 381 = .ok (.iadd, 1) := by decide +kernel
theorem dL_law_382 : decode cL_law 382 = .ok (.iaload, 1) := by decide +kernel
theorem dL_law_383 : decode cL_law 383 = .ok (.aload_n 0, 1) := by decide +kernel
theorem dL_law_384 : decode cL_law 384 = .ok (.iload 4, 2) := by decide +kernel
theorem dL_law_386 : decode cL_law 386 = .ok (.iconst 2, 1) := by decide +kernel
theorem dL_law_387 : decode cL_law 387 = .ok (.iadd, 1) := by decide +kernel
theorem dL_law_388 : decode cL_law 388 = .ok (.iaload, 1) := by decide +kernel
theorem dL_law_389 : decode cL_law 389 = .ok (.aload_n 3, 1) := by decide +kernel
theorem dL_law_390 : decode cL_law 390 = .ok (.invokestatic 84, 3) := by decide +kernel
theorem dL_law_393 : decode cL_law 393 = .ok (.istore 5, 2) := by decide +kernel
theorem dL_law_395 : decode cL_law 395 = .ok (.aload_n 2, 1) := by decide +kernel
theorem dL_law_396 : decode cL_law 396 = .ok (.aload_n 0, 1) := by decide +kernel
theorem dL_law_397 : decode cL_law 397 = .ok (.iload 4, 2) := by decide +kernel
theorem dL_law_399 : decode cL_law 399 = .ok (.iconst 1, 1) := by decide +kernel
theorem dL_law_400 : decode cL_law 400 = .ok (.iadd, 1) := by decide +kernel
theorem dL_law_401 : decode cL_law 401 = .ok (.iaload, 1) := by decide +kernel
theorem dL_law_402 : decode cL_law 402 = .ok (.aload_n 0, 1) := by decide +kernel
theorem dL_law_403 : decode cL_law 403 = .ok (.iload 4, 2) := by decide +kernel
theorem dL_law_405 : decode cL_law 405 = .ok (.iconst 2, 1) := by decide +kernel
theorem dL_law_406 : decode cL_law 406 = .ok (.iadd, 1) := by decide +kernel
theorem dL_law_407 : decode cL_law 407 = .ok (.iaload, 1) := by decide +kernel
theorem dL_law_408 : decode cL_law 408 = .ok (.invokevirtual 86, 3) := by decide +kernel
theorem dL_law_411 : decode cL_law 411 = .ok (.istore 6, 2) := by decide +kernel
theorem dL_law_413 : decode cL_law 413 = .ok (.aload_n 2, 1) := by decide +kernel
theorem dL_law_414 : decode cL_law 414 = .ok (.invokevirtual 71, 3) := by decide +kernel
theorem dL_law_417 : decode cL_law 417 = .ok (.iload 5, 2) := by decide +kernel
theorem dL_law_419 : decode cL_law 419 = .ok (.if_icmp .eq 5, 3) := by decide +kernel
theorem dL_law_422 : decode cL_law 422 = .ok (.iconst 0, 1) := by decide +kernel
theorem dL_law_423 : decode cL_law 423 = .ok (.ireturn, 1) := by decide +kernel
theorem dL_law_424 : decode cL_law 424 = .ok (.iload 5, 2) := by decide +kernel
theorem dL_law_426 : decode cL_law 426 = .ok (.ifCond .ne 15, 3) := by decide +kernel
theorem dL_law_429 : decode cL_law 429 = .ok (.aload_n 3, 1) := by decide +kernel
theorem dL_law_430 : decode cL_law 430 = .ok (.iconst 0, 1) := by decide +kernel
theorem dL_law_431 : decode cL_law 431 = .ok (.laload, 1) := by decide +kernel
theorem dL_law_432 : decode cL_law 432 = .ok (.iload 6, 2) := by decide +kernel
theorem dL_law_434 : decode cL_law 434 = .ok (.i2l, 1) := by decide +kernel
theorem dL_law_435 : decode cL_law 435 = .ok (.lcmp, 1) := by decide +kernel
theorem dL_law_436 : decode cL_law 436 = .ok (.ifCond .eq 5, 3) := by decide +kernel
theorem dL_law_439 : decode cL_law 439 = .ok (.iconst 0, 1) := by decide +kernel
theorem dL_law_440 : decode cL_law 440 = .ok (.ireturn, 1) := by decide +kernel
theorem dL_law_441 : decode cL_law 441 = .ok (.goto 564, 3) := by decide +kernel
theorem dL_law_444 : decode cL_law 444 = .ok (.aload_n 1, 1) := by decide +kernel
theorem dL_law_445 : decode cL_law 445 = .ok (.aload_n 0, 1) := by decide +kernel
theorem dL_law_446 : decode cL_law 446 = .ok (.iload 4, 2) := by decide +kernel
theorem dL_law_448 : decode cL_law 448 = .ok (.iconst 1, 1) := by decide +kernel
theorem dL_law_449 : decode cL_law 449 = .ok (.iadd, 1) := by decide +kernel
theorem dL_law_450 : decode cL_law 450 = .ok (.iaload, 1) := by decide +kernel
theorem dL_law_451 : decode cL_law 451 = .ok (.aload_n 0, 1) := by decide +kernel
theorem dL_law_452 : decode cL_law 452 = .ok (.iload 4, 2) := by decide +kernel
theorem dL_law_454 : decode cL_law 454 = .ok (.iconst 2, 1) := by decide +kernel
theorem dL_law_455 : decode cL_law 455 = .ok (.iadd, 1) := by decide +kernel
theorem dL_law_456 : decode cL_law 456 = .ok (.iaload, 1) := by decide +kernel
theorem dL_law_457 : decode cL_law 457 = .ok (.aload_n 3, 1) := by decide +kernel
theorem dL_law_458 : decode cL_law 458 = .ok (.invokestatic 87, 3) := by decide +kernel
theorem dL_law_461 : decode cL_law 461 = .ok (.istore 5, 2) := by decide +kernel
theorem dL_law_463 : decode cL_law 463 = .ok (.aload_n 2, 1) := by decide +kernel
theorem dL_law_464 : decode cL_law 464 = .ok (.aload_n 0, 1) := by decide +kernel
theorem dL_law_465 : decode cL_law 465 = .ok (.iload 4, 2) := by decide +kernel
theorem dL_law_467 : decode cL_law 467 = .ok (.iconst 1, 1) := by decide +kernel
theorem dL_law_468 : decode cL_law 468 = .ok (.iadd, 1) := by decide +kernel
theorem dL_law_469 : decode cL_law 469 = .ok (.iaload, 1) := by decide +kernel
theorem dL_law_470 : decode cL_law 470 = .ok (.aload_n 0, 1) := by decide +kernel
theorem dL_law_471 : decode cL_law 471 = .ok (.iload 4, 2) := by decide +kernel
theorem dL_law_473 : decode cL_law 473 = .ok (.iconst 2, 1) := by decide +kernel
theorem dL_law_474 : decode cL_law 474 = .ok (.iadd, 1) := by decide +kernel
theorem dL_law_475 : decode cL_law 475 = .ok (.iaload, 1) := by decide +kernel
theorem dL_law_476 : decode cL_law 476 = .ok (.invokevirtual 89, 3) := by decide +kernel
theorem dL_law_479 : decode cL_law 479 = .ok (.istore 6, 2) := by decide +kernel
theorem dL_law_481 : decode cL_law 481 = .ok (.aload_n 2, 1) := by decide +kernel
theorem dL_law_482 : decode cL_law 482 = .ok (.invokevirtual 71, 3) := by decide +kernel
theorem dL_law_485 : decode cL_law 485 = .ok (.iload 5, 2) := by decide +kernel
theorem dL_law_487 : decode cL_law 487 = .ok (.if_icmp .eq 5, 3) := by decide +kernel
theorem dL_law_490 : decode cL_law 490 = .ok (.iconst 0, 1) := by decide +kernel
theorem dL_law_491 : decode cL_law 491 = .ok (.ireturn, 1) := by decide +kernel
theorem dL_law_492 : decode cL_law 492 = .ok (.iload 5, 2) := by decide +kernel
theorem dL_law_494 : decode cL_law 494 = .ok (.ifCond .ne 15, 3) := by decide +kernel
theorem dL_law_497 : decode cL_law 497 = .ok (.aload_n 3, 1) := by decide +kernel
theorem dL_law_498 : decode cL_law 498 = .ok (.iconst 0, 1) := by decide +kernel
theorem dL_law_499 : decode cL_law 499 = .ok (.laload, 1) := by decide +kernel
theorem dL_law_500 : decode cL_law 500 = .ok (.iload 6, 2) := by decide +kernel
theorem dL_law_502 : decode cL_law 502 = .ok (.i2l, 1) := by decide +kernel
theorem dL_law_503 : decode cL_law 503 = .ok (.lcmp, 1) := by decide +kernel
theorem dL_law_504 : decode cL_law 504 = .ok (.ifCond .eq 5, 3) := by decide +kernel
theorem dL_law_507 : decode cL_law 507 = .ok (.iconst 0, 1) := by decide +kernel
theorem dL_law_508 : decode cL_law 508 = .ok (.ireturn, 1) := by decide +kernel
theorem dL_law_509 : decode cL_law 509 = .ok (.goto 496, 3) := by decide +kernel
theorem dL_law_512 : decode cL_law 512 = .ok (.aload_n 1, 1) := by decide +kernel
theorem dL_law_513 : decode cL_law 513 = .ok (.aload_n 3, 1) := by decide +kernel
theorem dL_law_514 : decode cL_law 514 = .ok (.invokestatic 90, 3) := by decide +kernel
theorem dL_law_517 : decode cL_law 517 = .ok (.istore 5, 2) := by decide +kernel
theorem dL_law_519 : decode cL_law 519 = .ok (.aload_n 2, 1) := by decide +kernel
theorem dL_law_520 : decode cL_law 520 = .ok (.invokevirtual 93, 3) := by decide +kernel
theorem dL_law_523 : decode cL_law 523 = .ok (.istore 6, 2) := by decide +kernel
theorem dL_law_525 : decode cL_law 525 = .ok (.aload_n 2, 1) := by decide +kernel
theorem dL_law_526 : decode cL_law 526 = .ok (.invokevirtual 71, 3) := by decide +kernel
theorem dL_law_529 : decode cL_law 529 = .ok (.iload 5, 2) := by decide +kernel
theorem dL_law_531 : decode cL_law 531 = .ok (.if_icmp .eq 5, 3) := by decide +kernel
theorem dL_law_534 : decode cL_law 534 = .ok (.iconst 0, 1) := by decide +kernel
theorem dL_law_535 : decode cL_law 535 = .ok (.ireturn, 1) := by decide +kernel
theorem dL_law_536 : decode cL_law 536 = .ok (.iload 5, 2) := by decide +kernel
theorem dL_law_538 : decode cL_law 538 = .ok (.ifCond .ne 22, 3) := by decide +kernel
theorem dL_law_541 : decode cL_law 541 = .ok (.aload_n 3, 1) := by decide +kernel
theorem dL_law_542 : decode cL_law 542 = .ok (.iconst 0, 1) := by decide +kernel
theorem dL_law_543 : decode cL_law 543 = .ok (.laload, 1) := by decide +kernel
theorem dL_law_544 : decode cL_law 544 = .ok (.iload 6, 2) := by decide +kernel
theorem dL_law_546 : decode cL_law 546 = .ok (.ifCond .eq 7, 3) := by decide +kernel
theorem dL_law_549 : decode cL_law 549 = .ok (.lconst 1, 1) := by decide +kernel
theorem dL_law_550 : decode cL_law 550 = .ok (.goto 4, 3) := by decide +kernel
theorem dL_law_553 : decode cL_law 553 = .ok (.lconst 0, 1) := by decide +kernel
theorem dL_law_554 : decode cL_law 554 = .ok (.lcmp, 1) := by decide +kernel
theorem dL_law_555 : decode cL_law 555 = .ok (.ifCond .eq 5, 3) := by decide +kernel
theorem dL_law_558 : decode cL_law 558 = .ok (.iconst 0, 1) := by decide +kernel
theorem dL_law_559 : decode cL_law 559 = .ok (.ireturn, 1) := by decide +kernel
theorem dL_law_560 : decode cL_law 560 = .ok (.goto 445, 3) := by decide +kernel
theorem dL_law_563 : decode cL_law 563 = .ok (.aload_n 1, 1) := by decide +kernel
theorem dL_law_564 : decode cL_law 564 = .ok (.aload_n 3, 1) := by decide +kernel
theorem dL_law_565 : decode cL_law 565 = .ok (.invokestatic 94, 3) := by decide +kernel
theorem dL_law_568 : decode cL_law 568 = .ok (.istore 5, 2) := by decide +kernel
theorem dL_law_570 : decode cL_law 570 = .ok (.aload_n 2, 1) := by decide +kernel
theorem dL_law_571 : decode cL_law 571 = .ok (.invokevirtual 96, 3) := by decide +kernel
theorem dL_law_574 : decode cL_law 574 = .ok (.istore 6, 2) := by decide +kernel
theorem dL_law_576 : decode cL_law 576 = .ok (.aload_n 2, 1) := by decide +kernel
theorem dL_law_577 : decode cL_law 577 = .ok (.invokevirtual 71, 3) := by decide +kernel
theorem dL_law_580 : decode cL_law 580 = .ok (.iload 5, 2) := by decide +kernel
theorem dL_law_582 : decode cL_law 582 = .ok (.if_icmp .eq 5, 3) := by decide +kernel
theorem dL_law_585 : decode cL_law 585 = .ok (.iconst 0, 1) := by decide +kernel
theorem dL_law_586 : decode cL_law 586 = .ok (.ireturn, 1) := by decide +kernel
theorem dL_law_587 : decode cL_law 587 = .ok (.iload 5, 2) := by decide +kernel
theorem dL_law_589 : decode cL_law 589 = .ok (.ifCond .ne 22, 3) := by decide +kernel
theorem dL_law_592 : decode cL_law 592 = .ok (.aload_n 3, 1) := by decide +kernel
theorem dL_law_593 : decode cL_law 593 = .ok (.iconst 0, 1) := by decide +kernel
theorem dL_law_594 : decode cL_law 594 = .ok (.laload, 1) := by decide +kernel
theorem dL_law_595 : decode cL_law 595 = .ok (.iload 6, 2) := by decide +kernel
theorem dL_law_597 : decode cL_law 597 = .ok (.ifCond .eq 7, 3) := by decide +kernel
theorem dL_law_600 : decode cL_law 600 = .ok (.lconst 1, 1) := by decide +kernel
theorem dL_law_601 : decode cL_law 601 = .ok (.goto 4, 3) := by decide +kernel
theorem dL_law_604 : decode cL_law 604 = .ok (.lconst 0, 1) := by decide +kernel
theorem dL_law_605 : decode cL_law 605 = .ok (.lcmp, 1) := by decide +kernel
theorem dL_law_606 : decode cL_law 606 = .ok (.ifCond .eq 5, 3) := by decide +kernel
theorem dL_law_609 : decode cL_law 609 = .ok (.iconst 0, 1) := by decide +kernel
theorem dL_law_610 : decode cL_law 610 = .ok (.ireturn, 1) := by decide +kernel
theorem dL_law_611 : decode cL_law 611 = .ok (.goto 394, 3) := by decide +kernel
theorem dL_law_614 : decode cL_law 614 = .ok (.aload_n 1, 1) := by decide +kernel
theorem dL_law_615 : decode cL_law 615 = .ok (.aload_n 0, 1) := by decide +kernel
theorem dL_law_616 : decode cL_law 616 = .ok (.iload 4, 2) := by decide +kernel
theorem dL_law_618 : decode cL_law 618 = .ok (.iconst 1, 1) := by decide +kernel
theorem dL_law_619 : decode cL_law 619 = .ok (.iadd, 1) := by decide +kernel
theorem dL_law_620 : decode cL_law 620 = .ok (.iaload, 1) := by decide +kernel
theorem dL_law_621 : decode cL_law 621 = .ok (.aload_n 3, 1) := by decide +kernel
theorem dL_law_622 : decode cL_law 622 = .ok (.invokestatic 97, 3) := by decide +kernel
theorem dL_law_625 : decode cL_law 625 = .ok (.istore 5, 2) := by decide +kernel
theorem dL_law_627 : decode cL_law 627 = .ok (.aload_n 2, 1) := by decide +kernel
theorem dL_law_628 : decode cL_law 628 = .ok (.aload_n 0, 1) := by decide +kernel
theorem dL_law_629 : decode cL_law 629 = .ok (.iload 4, 2) := by decide +kernel
theorem dL_law_631 : decode cL_law 631 = .ok (.iconst 1, 1) := by decide +kernel
theorem dL_law_632 : decode cL_law 632 = .ok (.iadd, 1) := by decide +kernel
theorem dL_law_633 : decode cL_law 633 = .ok (.iaload, 1) := by decide +kernel
theorem dL_law_634 : decode cL_law 634 = .ok (.invokevirtual 99, 3) := by decide +kernel
theorem dL_law_637 : decode cL_law 637 = .ok (.istore 6, 2) := by decide +kernel
theorem dL_law_639 : decode cL_law 639 = .ok (.aload_n 2, 1) := by decide +kernel
theorem dL_law_640 : decode cL_law 640 = .ok (.invokevirtual 71, 3) := by decide +kernel
theorem dL_law_643 : decode cL_law 643 = .ok (.iload 5, 2) := by decide +kernel
theorem dL_law_645 : decode cL_law 645 = .ok (.if_icmp .eq 5, 3) := by decide +kernel
theorem dL_law_648 : decode cL_law 648 = .ok (.iconst 0, 1) := by decide +kernel
theorem dL_law_649 : decode cL_law 649 = .ok (.ireturn, 1) := by decide +kernel
theorem dL_law_650 : decode cL_law 650 = .ok (.iload 5, 2) := by decide +kernel
theorem dL_law_652 : decode cL_law 652 = .ok (.ifCond .ne 22, 3) := by decide +kernel
theorem dL_law_655 : decode cL_law 655 = .ok (.aload_n 3, 1) := by decide +kernel
theorem dL_law_656 : decode cL_law 656 = .ok (.iconst 0, 1) := by decide +kernel
theorem dL_law_657 : decode cL_law 657 = .ok (.laload, 1) := by decide +kernel
theorem dL_law_658 : decode cL_law 658 = .ok (.iload 6, 2) := by decide +kernel
theorem dL_law_660 : decode cL_law 660 = .ok (.ifCond .eq 7, 3) := by decide +kernel
theorem dL_law_663 : decode cL_law 663 = .ok (.lconst 1, 1) := by decide +kernel
theorem dL_law_664 : decode cL_law 664 = .ok (.goto 4, 3) := by decide +kernel
theorem dL_law_667 : decode cL_law 667 = .ok (.lconst 0, 1) := by decide +kernel
theorem dL_law_668 : decode cL_law 668 = .ok (.lcmp, 1) := by decide +kernel
theorem dL_law_669 : decode cL_law 669 = .ok (.ifCond .eq 5, 3) := by decide +kernel
theorem dL_law_672 : decode cL_law 672 = .ok (.iconst 0, 1) := by decide +kernel
theorem dL_law_673 : decode cL_law 673 = .ok (.ireturn, 1) := by decide +kernel
theorem dL_law_674 : decode cL_law 674 = .ok (.goto 331, 3) := by decide +kernel
theorem dL_law_677 : decode cL_law 677 = .ok (.aload_n 1, 1) := by decide +kernel
theorem dL_law_678 : decode cL_law 678 = .ok (.aload_n 0, 1) := by decide +kernel
theorem dL_law_679 : decode cL_law 679 = .ok (.iload 4, 2) := by decide +kernel
theorem dL_law_681 : decode cL_law 681 = .ok (.iconst 1, 1) := by decide +kernel
theorem dL_law_682 : decode cL_law 682 = .ok (.iadd, 1) := by decide +kernel
theorem dL_law_683 : decode cL_law 683 = .ok (.iaload, 1) := by decide +kernel
theorem dL_law_684 : decode cL_law 684 = .ok (.invokestatic 100, 3) := by decide +kernel
theorem dL_law_687 : decode cL_law 687 = .ok (.istore 5, 2) := by decide +kernel
theorem dL_law_689 : decode cL_law 689 = .ok (.aload_n 2, 1) := by decide +kernel
theorem dL_law_690 : decode cL_law 690 = .ok (.aload_n 0, 1) := by decide +kernel
theorem dL_law_691 : decode cL_law 691 = .ok (.iload 4, 2) := by decide +kernel
theorem dL_law_693 : decode cL_law 693 = .ok (.iconst 1, 1) := by decide +kernel
theorem dL_law_694 : decode cL_law 694 = .ok (.iadd, 1) := by decide +kernel
theorem dL_law_695 : decode cL_law 695 = .ok (.iaload, 1) := by decide +kernel
theorem dL_law_696 : decode cL_law 696 = .ok (.invokevirtual 103, 3) := by decide +kernel
theorem dL_law_699 : decode cL_law 699 = .ok (.aload_n 2, 1) := by decide +kernel
theorem dL_law_700 : decode cL_law 700 = .ok (.invokevirtual 71, 3) := by decide +kernel
theorem dL_law_703 : decode cL_law 703 = .ok (.iload 5, 2) := by decide +kernel
theorem dL_law_705 : decode cL_law 705 = .ok (.if_icmp .eq 5, 3) := by decide +kernel
theorem dL_law_708 : decode cL_law 708 = .ok (.iconst 0, 1) := by decide +kernel
theorem dL_law_709 : decode cL_law 709 = .ok (.ireturn, 1) := by decide +kernel
theorem dL_law_710 : decode cL_law 710 = .ok (.goto 295, 3) := by decide +kernel
theorem dL_law_713 : decode cL_law 713 = .ok (.aload_n 1, 1) := by decide +kernel
theorem dL_law_714 : decode cL_law 714 = .ok (.aload_n 3, 1) := by decide +kernel
theorem dL_law_715 : decode cL_law 715 = .ok (.invokestatic 104, 3) := by decide +kernel
theorem dL_law_718 : decode cL_law 718 = .ok (.istore 5, 2) := by decide +kernel
theorem dL_law_720 : decode cL_law 720 = .ok (.aload_n 2, 1) := by decide +kernel
theorem dL_law_721 : decode cL_law 721 = .ok (.invokevirtual 106, 3) := by decide +kernel
theorem dL_law_724 : decode cL_law 724 = .ok (.istore 6, 2) := by decide +kernel
theorem dL_law_726 : decode cL_law 726 = .ok (.aload_n 2, 1) := by decide +kernel
theorem dL_law_727 : decode cL_law 727 = .ok (.invokevirtual 71, 3) := by decide +kernel
theorem dL_law_730 : decode cL_law 730 = .ok (.iload 5, 2) := by decide +kernel
theorem dL_law_732 : decode cL_law 732 = .ok (.if_icmp .eq 5, 3) := by decide +kernel
theorem dL_law_735 : decode cL_law 735 = .ok (.iconst 0, 1) := by decide +kernel
theorem dL_law_736 : decode cL_law 736 = .ok (.ireturn, 1) := by decide +kernel
theorem dL_law_737 : decode cL_law 737 = .ok (.iload 5, 2) := by decide +kernel
theorem dL_law_739 : decode cL_law 739 = .ok (.ifCond .ne 15, 3) := by decide +kernel
theorem dL_law_742 : decode cL_law 742 = .ok (.aload_n 3, 1) := by decide +kernel
theorem dL_law_743 : decode cL_law 743 = .ok (.iconst 0, 1) := by decide +kernel
theorem dL_law_744 : decode cL_law 744 = .ok (.laload, 1) := by decide +kernel
theorem dL_law_745 : decode cL_law 745 = .ok (.iload 6, 2) := by decide +kernel
theorem dL_law_747 : decode cL_law 747 = .ok (.i2l, 1) := by decide +kernel
theorem dL_law_748 : decode cL_law 748 = .ok (.lcmp, 1) := by decide +kernel
theorem dL_law_749 : decode cL_law 749 = .ok (.ifCond .eq 5, 3) := by decide +kernel
theorem dL_law_752 : decode cL_law 752 = .ok (.iconst 0, 1) := by decide +kernel
theorem dL_law_753 : decode cL_law 753 = .ok (.ireturn, 1) := by decide +kernel
theorem dL_law_754 : decode cL_law 754 = .ok (.goto 251, 3) := by decide +kernel
theorem dL_law_757 : decode cL_law 757 = .ok (.aload_n 1, 1) := by decide +kernel
theorem dL_law_758 : decode cL_law 758 = .ok (.aload_n 3, 1) := by decide +kernel
theorem dL_law_759 : decode cL_law 759 = .ok (.invokestatic 107, 3) := by decide +kernel
theorem dL_law_762 : decode cL_law 762 = .ok (.istore 5, 2) := by decide +kernel
theorem dL_law_764 : decode cL_law 764 = .ok (.aload_n 2, 1) := by decide +kernel
theorem dL_law_765 : decode cL_law 765 = .ok (.invokevirtual 109, 3) := by decide +kernel
theorem dL_law_768 : decode cL_law 768 = .ok (.istore 6, 2) := by decide +kernel
theorem dL_law_770 : decode cL_law 770 = .ok (.aload_n 2, 1) := by decide +kernel
theorem dL_law_771 : decode cL_law 771 = .ok (.invokevirtual 71, 3) := by decide +kernel
theorem dL_law_774 : decode cL_law 774 = .ok (.iload 5, 2) := by decide +kernel
theorem dL_law_776 : decode cL_law 776 = .ok (.if_icmp .eq 5, 3) := by decide +kernel
theorem dL_law_779 : decode cL_law 779 = .ok (.iconst 0, 1) := by decide +kernel
theorem dL_law_780 : decode cL_law 780 = .ok (.ireturn, 1) := by decide +kernel
theorem dL_law_781 : decode cL_law 781 = .ok (.iload 5, 2) := by decide +kernel
theorem dL_law_783 : decode cL_law 783 = .ok (.ifCond .ne 15, 3) := by decide +kernel
theorem dL_law_786 : decode cL_law 786 = .ok (.aload_n 3, 1) := by decide +kernel
theorem dL_law_787 : decode cL_law 787 = .ok (.iconst 0, 1) := by decide +kernel
theorem dL_law_788 : decode cL_law 788 = .ok (.laload, 1) := by decide +kernel
theorem dL_law_789 : decode cL_law 789 = .ok (.iload 6, 2) := by decide +kernel
theorem dL_law_791 : decode cL_law 791 = .ok (.i2l, 1) := by decide +kernel
theorem dL_law_792 : decode cL_law 792 = .ok (.lcmp, 1) := by decide +kernel
theorem dL_law_793 : decode cL_law 793 = .ok (.ifCond .eq 5, 3) := by decide +kernel
theorem dL_law_796 : decode cL_law 796 = .ok (.iconst 0, 1) := by decide +kernel
theorem dL_law_797 : decode cL_law 797 = .ok (.ireturn, 1) := by decide +kernel
theorem dL_law_798 : decode cL_law 798 = .ok (.goto 207, 3) := by decide +kernel
theorem dL_law_801 : decode cL_law 801 = .ok (.aload_n 1, 1) := by decide +kernel
theorem dL_law_802 : decode cL_law 802 = .ok (.invokevirtual 110, 3) := by decide +kernel
theorem dL_law_805 : decode cL_law 805 = .ok (.aload_n 2, 1) := by decide +kernel
theorem dL_law_806 : decode cL_law 806 = .ok (.invokevirtual 113, 3) := by decide +kernel
theorem dL_law_809 : decode cL_law 809 = .ok (.if_icmp .eq 196, 3) := by decide +kernel
theorem dL_law_812 : decode cL_law 812 = .ok (.iconst 0, 1) := by decide +kernel
theorem dL_law_813 : decode cL_law 813 = .ok (.ireturn, 1) := by decide +kernel
theorem dL_law_814 : decode cL_law 814 = .ok (.aload_n 1, 1) := by decide +kernel
theorem dL_law_815 : decode cL_law 815 = .ok (.invokevirtual 114, 3) := by decide +kernel
theorem dL_law_818 : decode cL_law 818 = .ok (.aload_n 2, 1) := by decide +kernel
theorem dL_law_819 : decode cL_law 819 = .ok (.invokevirtual 117, 3) := by decide +kernel
theorem dL_law_822 : decode cL_law 822 = .ok (.if_icmp .eq 183, 3) := by decide +kernel
theorem dL_law_825 : decode cL_law 825 = .ok (.iconst 0, 1) := by decide +kernel
theorem dL_law_826 : decode cL_law 826 = .ok (.ireturn, 1) := by decide +kernel
theorem dL_law_827 : decode cL_law 827 = .ok (.aload_n 1, 1) := by decide +kernel
theorem dL_law_828 : decode cL_law 828 = .ok (.invokevirtual 118, 3) := by decide +kernel
theorem dL_law_831 : decode cL_law 831 = .ok (.aload_n 2, 1) := by decide +kernel
theorem dL_law_832 : decode cL_law 832 = .ok (.invokevirtual 121, 3) := by decide +kernel
theorem dL_law_835 : decode cL_law 835 = .ok (.if_icmp .eq 170, 3) := by decide +kernel
theorem dL_law_838 : decode cL_law 838 = .ok (.iconst 0, 1) := by decide +kernel
theorem dL_law_839 : decode cL_law 839 = .ok (.ireturn, 1) := by decide +kernel
theorem dL_law_840 : decode cL_law 840 = .ok (.aload_n 1, 1) := by decide +kernel
theorem dL_law_841 : decode cL_law 841 = .ok (.invokevirtual 122, 3) := by decide +kernel
theorem dL_law_844 : decode cL_law 844 = .ok (.aload_n 2, 1) := by decide +kernel
theorem dL_law_845 : decode cL_law 845 = .ok (.invokevirtual 125, 3) := by decide +kernel
theorem dL_law_848 : decode cL_law 848 = .ok (.if_icmp .eq 157, 3) := by decide +kernel
theorem dL_law_851 : decode cL_law 851 = .ok (.iconst 0, 1) := by decide +kernel
theorem dL_law_852 : decode cL_law 852 = .ok (.ireturn, 1) := by decide +kernel
theorem dL_law_853 : decode cL_law 853 = .ok (.aload_n 1, 1) := by decide +kernel
theorem dL_law_854 : decode cL_law 854 = .ok (.invokevirtual 126, 3) := by decide +kernel
theorem dL_law_857 : decode cL_law 857 = .ok (.aload_n 2, 1) := by decide +kernel
theorem dL_law_858 : decode cL_law 858 = .ok (.invokevirtual 129, 3) := by decide +kernel
theorem dL_law_861 : decode cL_law 861 = .ok (.if_icmp .eq 144, 3) := by decide +kernel
theorem dL_law_864 : decode cL_law 864 = .ok (.iconst 0, 1) := by decide +kernel
theorem dL_law_865 : decode cL_law 865 = .ok (.ireturn, 1) := by decide +kernel
theorem dL_law_866 : decode cL_law 866 = .ok (.aload_n 1, 1) := by decide +kernel
theorem dL_law_867 : decode cL_law 867 = .ok (.aload_n 0, 1) := by decide +kernel
theorem dL_law_868 : decode cL_law 868 = .ok (.iload 4, 2) := by decide +kernel
theorem dL_law_870 : decode cL_law 870 = .ok (.iconst 1, 1) := by decide +kernel
theorem dL_law_871 : decode cL_law 871 = .ok (.iadd, 1) := by decide +kernel
theorem dL_law_872 : decode cL_law 872 = .ok (.iaload, 1) := by decide +kernel
theorem dL_law_873 : decode cL_law 873 = .ok (.aload_n 3, 1) := by decide +kernel
theorem dL_law_874 : decode cL_law 874 = .ok (.invokestatic 130, 3) := by decide +kernel
theorem dL_law_877 : decode cL_law 877 = .ok (.istore 5, 2) := by decide +kernel
theorem dL_law_879 : decode cL_law 879 = .ok (.aload_n 2, 1) := by decide +kernel
theorem dL_law_880 : decode cL_law 880 = .ok (.aload_n 0, 1) := by decide +kernel
theorem dL_law_881 : decode cL_law 881 = .ok (.iload 4, 2) := by decide +kernel
theorem dL_law_883 : decode cL_law 883 = .ok (.iconst 1, 1) := by decide +kernel
theorem dL_law_884 : decode cL_law 884 = .ok (.iadd, 1) := by decide +kernel
theorem dL_law_885 : decode cL_law 885 = .ok (.iaload, 1) := by decide +kernel
theorem dL_law_886 : decode cL_law 886 = .ok (.invokevirtual 132, 3) := by decide +kernel
theorem dL_law_889 : decode cL_law 889 = .ok (.istore 6, 2) := by decide +kernel
theorem dL_law_891 : decode cL_law 891 = .ok (.aload_n 2, 1) := by decide +kernel
theorem dL_law_892 : decode cL_law 892 = .ok (.invokevirtual 71, 3) := by decide +kernel
theorem dL_law_895 : decode cL_law 895 = .ok (.iload 5, 2) := by decide +kernel
theorem dL_law_897 : decode cL_law 897 = .ok (.if_icmp .eq 5, 3) := by decide +kernel
theorem dL_law_900 : decode cL_law 900 = .ok (.iconst 0, 1) := by decide +kernel
theorem dL_law_901 : decode cL_law 901 = .ok (.ireturn, 1) := by decide +kernel
theorem dL_law_902 : decode cL_law 902 = .ok (.iload 5, 2) := by decide +kernel
theorem dL_law_904 : decode cL_law 904 = .ok (.ifCond .ne 15, 3) := by decide +kernel
theorem dL_law_907 : decode cL_law 907 = .ok (.aload_n 3, 1) := by decide +kernel
theorem dL_law_908 : decode cL_law 908 = .ok (.iconst 0, 1) := by decide +kernel
theorem dL_law_909 : decode cL_law 909 = .ok (.laload, 1) := by decide +kernel
theorem dL_law_910 : decode cL_law 910 = .ok (.iload 6, 2) := by decide +kernel
theorem dL_law_912 : decode cL_law 912 = .ok (.i2l, 1) := by decide +kernel
theorem dL_law_913 : decode cL_law 913 = .ok (.lcmp, 1) := by decide +kernel
theorem dL_law_914 : decode cL_law 914 = .ok (.ifCond .eq 5, 3) := by decide +kernel
theorem dL_law_917 : decode cL_law 917 = .ok (.iconst 0, 1) := by decide +kernel
theorem dL_law_918 : decode cL_law 918 = .ok (.ireturn, 1) := by decide +kernel
theorem dL_law_919 : decode cL_law 919 = .ok (.goto 86, 3) := by decide +kernel
theorem dL_law_922 : decode cL_law 922 = .ok (.aload_n 1, 1) := by decide +kernel
theorem dL_law_923 : decode cL_law 923 = .ok (.invokevirtual 133, 3) := by decide +kernel
theorem dL_law_926 : decode cL_law 926 = .ok (.aload_n 2, 1) := by decide +kernel
theorem dL_law_927 : decode cL_law 927 = .ok (.invokevirtual 136, 3) := by decide +kernel
theorem dL_law_930 : decode cL_law 930 = .ok (.if_icmp .eq 75, 3) := by decide +kernel
theorem dL_law_933 : decode cL_law 933 = .ok (.iconst 0, 1) := by decide +kernel
theorem dL_law_934 : decode cL_law 934 = .ok (.ireturn, 1) := by decide +kernel
theorem dL_law_935 : decode cL_law 935 = .ok (.aload_n 1, 1) := by decide +kernel
theorem dL_law_936 : decode cL_law 936 = .ok (.aload_n 3, 1) := by decide +kernel
theorem dL_law_937 : decode cL_law 937 = .ok (.invokestatic 137, 3) := by decide +kernel
theorem dL_law_940 : decode cL_law 940 = .ok (.istore 5, 2) := by decide +kernel
theorem dL_law_942 : decode cL_law 942 = .ok (.aload_n 2, 1) := by decide +kernel
theorem dL_law_943 : decode cL_law 943 = .ok (.invokevirtual 139, 3) := by decide +kernel
theorem dL_law_946 : decode cL_law 946 = .ok (.istore 6, 2) := by decide +kernel
theorem dL_law_948 : decode cL_law 948 = .ok (.aload_n 2, 1) := by decide +kernel
theorem dL_law_949 : decode cL_law 949 = .ok (.invokevirtual 71, 3) := by decide +kernel
theorem dL_law_952 : decode cL_law 952 = .ok (.iload 5, 2) := by decide +kernel
theorem dL_law_954 : decode cL_law 954 = .ok (.if_icmp .eq 5, 3) := by decide +kernel
theorem dL_law_957 : decode cL_law 957 = .ok (.iconst 0, 1) := by decide +kernel
theorem dL_law_958 : decode cL_law 958 = .ok (.ireturn, 1) := by decide +kernel
theorem dL_law_959 : decode cL_law 959 = .ok (.iload 5, 2) := by decide +kernel
theorem dL_law_961 : decode cL_law 961 = .ok (.ifCond .ne 15, 3) := by decide +kernel
theorem dL_law_964 : decode cL_law 964 = .ok (.aload_n 3, 1) := by decide +kernel
theorem dL_law_965 : decode cL_law 965 = .ok (.iconst 0, 1) := by decide +kernel
theorem dL_law_966 : decode cL_law 966 = .ok (.laload, 1) := by decide +kernel
theorem dL_law_967 : decode cL_law 967 = .ok (.iload 6, 2) := by decide +kernel
theorem dL_law_969 : decode cL_law 969 = .ok (.i2l, 1) := by decide +kernel
theorem dL_law_970 : decode cL_law 970 = .ok (.lcmp, 1) := by decide +kernel
theorem dL_law_971 : decode cL_law 971 = .ok (.ifCond .eq 5, 3) := by decide +kernel
theorem dL_law_974 : decode cL_law 974 = .ok (.iconst 0, 1) := by decide +kernel
theorem dL_law_975 : decode cL_law 975 = .ok (.ireturn, 1) := by decide +kernel
theorem dL_law_976 : decode cL_law 976 = .ok (.goto 29, 3) := by decide +kernel
theorem dL_law_979 : decode cL_law 979 = .ok (.aload_n 1, 1) := by decide +kernel
theorem dL_law_980 : decode cL_law 980 = .ok (.invokevirtual 140, 3) := by decide +kernel
theorem dL_law_983 : decode cL_law 983 = .ok (.aload_n 2, 1) := by decide +kernel
theorem dL_law_984 : decode cL_law 984 = .ok (.invokevirtual 143, 3) := by decide +kernel
theorem dL_law_987 : decode cL_law 987 = .ok (.if_icmp .eq 18, 3) := by decide +kernel
theorem dL_law_990 : decode cL_law 990 = .ok (.iconst 0, 1) := by decide +kernel
theorem dL_law_991 : decode cL_law 991 = .ok (.ireturn, 1) := by decide +kernel
theorem dL_law_992 : decode cL_law 992 = .ok (.aload_n 1, 1) := by decide +kernel
theorem dL_law_993 : decode cL_law 993 = .ok (.invokevirtual 144, 3) := by decide +kernel
theorem dL_law_996 : decode cL_law 996 = .ok (.aload_n 2, 1) := by decide +kernel
theorem dL_law_997 : decode cL_law 997 = .ok (.invokevirtual 147, 3) := by decide +kernel
theorem dL_law_1000 : decode cL_law 1000 = .ok (.if_icmp .eq 5, 3) := by decide +kernel
theorem dL_law_1003 : decode cL_law 1003 = .ok (.iconst 0, 1) := by decide +kernel
theorem dL_law_1004 : decode cL_law 1004 = .ok (.ireturn, 1) := by decide +kernel
theorem dL_law_1005 : decode cL_law 1005 = .ok (.iinc 4 3, 3) := by decide +kernel
theorem dL_law_1008 : decode cL_law 1008 = .ok (.goto (-985), 3) := by decide +kernel
theorem dL_law_1011 : decode cL_law 1011 = .ok (.iconst 1, 1) := by decide +kernel
theorem dL_law_1012 : decode cL_law 1012 = .ok (.ireturn, 1) := by decide +kernel
end
section
abbrev KS : Type := (Nat → Int32) × (Nat → Int32) × (Nat → Int32) × (Nat → Int32) × (Nat → Int32) × Int32 × Int32 × Int32 × Int32 × Int32 × Int32
def kLk (z : KS) : Nat → Int32 := z.1
def kLv (z : KS) : Nat → Int32 := z.2.1
def kIx (z : KS) : Nat → Int32 := z.2.2.1
def kCi (z : KS) : Nat → Int32 := z.2.2.2.1
def kTr (z : KS) : Nat → Int32 := z.2.2.2.2.1
def kUp (z : KS) : Int32 := z.2.2.2.2.2.1
def kHd (z : KS) : Int32 := z.2.2.2.2.2.2.1
def kTl (z : KS) : Int32 := z.2.2.2.2.2.2.2.1
def kWr (z : KS) : Int32 := z.2.2.2.2.2.2.2.2.1
def kCt (z : KS) : Int32 := z.2.2.2.2.2.2.2.2.2.1
def kAh (z : KS) : Int32 := z.2.2.2.2.2.2.2.2.2.2
def kSLk (z : KS) (v : Nat → Int32) : KS := (v, kLv z, kIx z, kCi z, kTr z, kUp z, kHd z, kTl z, kWr z, kCt z, kAh z)
def kSLv (z : KS) (v : Nat → Int32) : KS := (kLk z, v, kIx z, kCi z, kTr z, kUp z, kHd z, kTl z, kWr z, kCt z, kAh z)
def kSIx (z : KS) (v : Nat → Int32) : KS := (kLk z, kLv z, v, kCi z, kTr z, kUp z, kHd z, kTl z, kWr z, kCt z, kAh z)
def kSCi (z : KS) (v : Nat → Int32) : KS := (kLk z, kLv z, kIx z, v, kTr z, kUp z, kHd z, kTl z, kWr z, kCt z, kAh z)
def kSTr (z : KS) (v : Nat → Int32) : KS := (kLk z, kLv z, kIx z, kCi z, v, kUp z, kHd z, kTl z, kWr z, kCt z, kAh z)
def kSUp (z : KS) (v : Int32) : KS := (kLk z, kLv z, kIx z, kCi z, kTr z, v, kHd z, kTl z, kWr z, kCt z, kAh z)
def kSHd (z : KS) (v : Int32) : KS := (kLk z, kLv z, kIx z, kCi z, kTr z, kUp z, v, kTl z, kWr z, kCt z, kAh z)
def kSTl (z : KS) (v : Int32) : KS := (kLk z, kLv z, kIx z, kCi z, kTr z, kUp z, kHd z, v, kWr z, kCt z, kAh z)
def kSWr (z : KS) (v : Int32) : KS := (kLk z, kLv z, kIx z, kCi z, kTr z, kUp z, kHd z, kTl z, v, kCt z, kAh z)
def kSCt (z : KS) (v : Int32) : KS := (kLk z, kLv z, kIx z, kCi z, kTr z, kUp z, kHd z, kTl z, kWr z, v, kAh z)
def kSAh (z : KS) (v : Int32) : KS := (kLk z, kLv z, kIx z, kCi z, kTr z, kUp z, kHd z, kTl z, kWr z, kCt z, v)
abbrev MS : Type := (Nat → Int32) × (Nat → Int32) × (Nat → Int32) × (Nat → Int32) × (Nat → Int32) × Int32 × Int32 × Int32 × Int32 × Int32 × Int32 × Int32
def mKy (z : MS) : Nat → Int32 := z.1
def mVl (z : MS) : Nat → Int32 := z.2.1
def mIx (z : MS) : Nat → Int32 := z.2.2.1
def mKp (z : MS) : Nat → Int32 := z.2.2.2.1
def mTr (z : MS) : Nat → Int32 := z.2.2.2.2.1
def mHd (z : MS) : Int32 := z.2.2.2.2.2.1
def mTl (z : MS) : Int32 := z.2.2.2.2.2.2.1
def mWr (z : MS) : Int32 := z.2.2.2.2.2.2.2.1
def mCp (z : MS) : Int32 := z.2.2.2.2.2.2.2.2.1
def mCh (z : MS) : Int32 := z.2.2.2.2.2.2.2.2.2.1
def mDn (z : MS) : Int32 := z.2.2.2.2.2.2.2.2.2.2.1
def mTh (z : MS) : Int32 := z.2.2.2.2.2.2.2.2.2.2.2
def mSKy (z : MS) (v : Nat → Int32) : MS := (v, mVl z, mIx z, mKp z, mTr z, mHd z, mTl z, mWr z, mCp z, mCh z, mDn z, mTh z)
def mSVl (z : MS) (v : Nat → Int32) : MS := (mKy z, v, mIx z, mKp z, mTr z, mHd z, mTl z, mWr z, mCp z, mCh z, mDn z, mTh z)
def mSIx (z : MS) (v : Nat → Int32) : MS := (mKy z, mVl z, v, mKp z, mTr z, mHd z, mTl z, mWr z, mCp z, mCh z, mDn z, mTh z)
def mSKp (z : MS) (v : Nat → Int32) : MS := (mKy z, mVl z, mIx z, v, mTr z, mHd z, mTl z, mWr z, mCp z, mCh z, mDn z, mTh z)
def mSTr (z : MS) (v : Nat → Int32) : MS := (mKy z, mVl z, mIx z, mKp z, v, mHd z, mTl z, mWr z, mCp z, mCh z, mDn z, mTh z)
def mSHd (z : MS) (v : Int32) : MS := (mKy z, mVl z, mIx z, mKp z, mTr z, v, mTl z, mWr z, mCp z, mCh z, mDn z, mTh z)
def mSTl (z : MS) (v : Int32) : MS := (mKy z, mVl z, mIx z, mKp z, mTr z, mHd z, v, mWr z, mCp z, mCh z, mDn z, mTh z)
def mSWr (z : MS) (v : Int32) : MS := (mKy z, mVl z, mIx z, mKp z, mTr z, mHd z, mTl z, v, mCp z, mCh z, mDn z, mTh z)
def mSCp (z : MS) (v : Int32) : MS := (mKy z, mVl z, mIx z, mKp z, mTr z, mHd z, mTl z, mWr z, v, mCh z, mDn z, mTh z)
def mSCh (z : MS) (v : Int32) : MS := (mKy z, mVl z, mIx z, mKp z, mTr z, mHd z, mTl z, mWr z, mCp z, v, mDn z, mTh z)
def mSDn (z : MS) (v : Int32) : MS := (mKy z, mVl z, mIx z, mKp z, mTr z, mHd z, mTl z, mWr z, mCp z, mCh z, v, mTh z)
def mSTh (z : MS) (v : Int32) : MS := (mKy z, mVl z, mIx z, mKp z, mTr z, mHd z, mTl z, mWr z, mCp z, mCh z, mDn z, v)
def kSG (z : KS) (v : (Nat → Int32) × (Nat → Int32)) : KS := kSLv (kSLk z v.1) v.2
/-- an index: its object at a, its row at b -/
def iW (cI : ClassId) (a b : Nat) (f : Nat → Int32) : va_W := [(a, .inr (0, [.ref b])), (b, .inl (cI, 64, .inl f))]
/-- two indices -/
def jW (cI : ClassId) (a b a2 b2 : Nat) (g f : Nat → Int32) : va_W := [(a, .inr (0, [.ref b])), (b, .inl (cI, 64, .inl f)), (a2, .inr (0, [.ref b2])), (b2, .inl (cI, 64, .inl g))]
/-- the log: its object at a, keys at b, values at c -/
def gW (cI : ClassId) (a b c : Nat) (f : (Nat → Int32) × (Nat → Int32)) : va_W := [(a, .inr (1, [.ref b, .ref c])), (b, .inl (cI, 96, .inl f.1)), (c, .inl (cI, 96, .inl f.2))]
/-- the class's ten cells -/
def kW (cI : ClassId) (h : Nat → Nat) (z : KS) : va_W := [(h 0, .inr (2, [.ref (h 1), .ref (h 2), .ref (h 3), .ref (h 4), .int (kUp z), .int (kHd z), .int (kTl z), .int (kWr z), .int (kCt z), .int (kAh z)])), (h 1, .inr (1, [.ref (h 5), .ref (h 6)])), (h 2, .inr (0, [.ref (h 7)])), (h 3, .inr (0, [.ref (h 8)])), (h 4, .inr (0, [.ref (h 9)])), (h 5, .inl (cI, 96, .inl (kLk z))), (h 6, .inl (cI, 96, .inl (kLv z))), (h 7, .inl (cI, 64, .inl (kIx z))), (h 8, .inl (cI, 64, .inl (kCi z))), (h 9, .inl (cI, 64, .inl (kTr z)))]
/-- the reference's six cells -/
def mW (cI : ClassId) (h : Nat → Nat) (z : MS) : va_W := [(h 0, .inr (3, [.ref (h 1), .ref (h 2), .ref (h 3), .ref (h 4), .ref (h 5), .int (mHd z), .int (mTl z), .int (mWr z), .int (mCp z), .int (mCh z), .int (mDn z), .int (mTh z)])), (h 1, .inl (cI, 128, .inl (mKy z))), (h 2, .inl (cI, 128, .inl (mVl z))), (h 3, .inl (cI, 64, .inl (mIx z))), (h 4, .inl (cI, 64, .inl (mKp z))), (h 5, .inl (cI, 64, .inl (mTr z)))]
/-- nothing -/
def eW : va_W := []
/-- a boolean's int -/
def bz (v : Int32) : Prop := v = 0 ∨ v = 1
theorem bz0 : bz 0 := Or.inl rfl
theorem bz1 : bz 1 := Or.inr rfl
theorem bz_ite {c : Prop} [Decidable c] {a b : Int32} (h1 : bz a) (h2 : bz b) : bz (if c then a else b) := by
  split
  · exact h1
  · exact h2
theorem bz_nar {v : Int32} (h : bz v) : narrow .boolean (.int v) = .int v := by
  rcases h with rfl | rfl <;> rfl
theorem bz_fit {v : Int32} (h : bz v) : fits .boolean (.int v) = true := by
  rcases h with rfl | rfl <;> rfl
theorem in_guard {x y : Int32} {n : Nat} (hy : y = Int32.ofNat n) (hn : n < 2 ^ 31) (h0 : ¬ x < 0) (h1 : ¬ y ≤ x) : vp_in x n := by
  subst hy
  rcases pk_ix x hn with h | h | ⟨j, hj, rfl⟩
  · exact absurd h h0
  · exact absurd h h1
  · exact vp_in_nI hj hn
def pW (D : va_G) (tys : List (ClassId × FieldType)) (ws : va_W) (sz : Nat) : State → Prop := fun U => U.heap.size = sz ∧ va_P D vwCl ws U.heap ∧ va_K D vwCl tys U ∧ va_D (fun _ => True) ws
def qW (D : va_G) (tys : List (ClassId × FieldType)) (A : Nat → Prop) {S : Type} (w : S → va_W) : S → State → Prop := fun u t => va_P D vwCl (w u) t.heap ∧ va_K D vwCl tys t ∧ va_D A (w u)
theorem pW_blind {D : va_G} {tys : List (ClassId × FieldType)} {ws : va_W} {sz : Nat} {av : List Value} : FrameBlind (va_Pc av (pW D tys ws sz)) := by
  intro a U g mk q
  obtain ⟨q0, q1, qP, qK, qD⟩ := q
  exact ⟨q0, q1, qP, va_K.moved (u := U) (U := U.calling g mk a) (Vm.Alike.refl U.vm) qK, qD⟩
theorem pW_at {D : va_G} {tys : List (ClassId × FieldType)} {wc : va_W} {s : State} {H : Heap} {B : Nat → Prop} (hP : va_P D vwCl wc H) (hK : va_K D vwCl tys s) (hD : va_D B wc) (As : List Value) : ∀ U : State, U.heap = H → s.WarmedH U.vm → va_Pc As (pW D tys wc H.size) As.toArray U := fun U hU hW => ⟨rfl, by rw [hU], by rw [hU]; exact hP, va_K.moved hW.alike hK, hD.weaken (fun _ _ _ _ => trivial)⟩
theorem pW_S {D : va_G} {tys : List (ClassId × FieldType)} {wc : va_W} {s : State} {H : Heap} {B : Nat → Prop} {As : List Value} (hP : va_P D vwCl wc H) (hK : va_K D vwCl tys s) (hD : va_D B wc) : PreS s H (va_Pc As (pW D tys wc H.size)) As := ⟨pW_blind, pW_at hP hK hD As⟩
theorem pW_V {D : va_G} {tys : List (ClassId × FieldType)} {wc : va_W} {s : State} {H : Heap} {B : Nat → Prop} {As : List Value} {C : String} {T : u_T} {N a q0 ci : Nat} {fs : List Value} (hP : va_P D vwCl wc H) (hK : va_K D vwCl tys s) (hD : va_D B wc) (hc : vwCl[ci]? = some (C, T, N)) (he : wc[q0]? = some (a, .inr (ci, fs))) : PreV s H C a (va_Pc (.ref a :: As) (pW D tys wc H.size)) As := ⟨pW_blind, va_recv hK hP hc he, pW_at hP hK hD (.ref a :: As)⟩
theorem map_fm {α β : Type} {is : List α} {f : α → Option β} {l : List β} (h : is.map f = l.map some) : is.filterMap f = l := by
  have h1 : is.filterMap f = (is.map f).filterMap id := by rw [List.filterMap_map]; rfl
  rw [h1, h, List.filterMap_map]
  show List.filterMap some l = l
  exact List.filterMap_some
section CALLS
variable {p : Program} {l : Launch} {e : Env} {R : Room} {s : State} {m : MethodId} {args : Array Value} {below : List Frame} {meth : Method} {c : Code} {H : Heap} {locs : List Loc} {cells slots : Nat} {Q : State → Prop}
variable {mc ms : Nat} {A : Nat → Prop} {H0 : Heap} {a : Array Value} {pc : Nat} {ls : Array Slot} {st0 rest : List Value} {D : va_G} {tys : List (ClassId × FieldType)} {ws wc wr : va_W}
theorem rnd {isR pm isC : List Nat} (hn : (va_nd isR && va_nd pm && isR.all (fun i => !isC.contains i)) = true) : va_nd isR = true ∧ va_nd pm = true ∧ ∀ i ∈ isR, i ∉ isC := by
  simp only [Bool.and_eq_true] at hn
  refine ⟨hn.1.1, hn.1.2, fun i hi hc => ?_⟩
  have h := List.all_eq_true.mp hn.2 i hi
  rw [List.contains_iff_mem.mpr hc] at h
  cases h
/-- behind a call that answers an int: the caller's world W2, out of the callee's w1 and the rest wr -/
theorem rcI {S : Type} {post : Int32 → S → Prop} {w1 W2 : S → va_W}
    (hr : va_Run p l e R s m args below meth c H locs cells slots mc ms (F0 m pc ls st0) rest (va_Qi post (qW D tys (va_A wc H.size) w1) (va_A wc H.size) a) (va_A wc H.size))
    (hP : va_P D vwCl ws H) (hD : va_D A ws) (hS : va_S A H0 H locs) (hA : ∀ q, H0.size ≤ q → A q)
    (isC isR pm : List Nat) (hC : isC.map (fun i => ws[i]?) = wc.map some) (hR : isR.map (fun i => ws[i]?) = wr.map some) (hn : (va_nd isR && va_nd pm && isR.all (fun i => !isC.contains i)) = true)
    (h2 : ∀ u, pm.map (fun i => (wr ++ w1 u)[i]?) = (W2 u).map some)
    (kk : ∀ (r : Int32) (u : S) (H1 : Heap) (locs1 : List Loc), post r u → va_P D vwCl (W2 u) H1 → va_D A (W2 u) → va_S A H0 H1 locs1 → W p l e R s m args below meth c H1 locs1 (cells + mc) (slots + ms) Q (F0 m (pc + 3) ls (.int r :: rest))) :
    W p l e R s m args below meth c H locs cells slots Q (F0 m pc ls st0) := by
  obtain ⟨n1, n2, n3⟩ := rnd hn
  have hF := va_free (wc := wc) hD hS hA isC hC
  refine va_calli hr hS (fun q _ h => hF q h) hF (fun r u t H1 locs1 ht hvm hw hB hz hk hS1 => ?_)
  obtain ⟨hP1, hK1, hD1⟩ := hB
  rw [ht] at hP1
  obtain ⟨hP2, hD2⟩ := va_join hP hD isC isR hC hR n1 n3 hk hF hP1 hD1
  exact kk r u H1 locs1 hw (hP2.sub pm (map_fm (h2 u))) (hD2.sub pm n2 (h2 u)) hS1
theorem rcV {S : Type} {post : S → Prop} {w1 W2 : S → va_W}
    (hr : va_Run p l e R s m args below meth c H locs cells slots mc ms (F0 m pc ls st0) rest (va_Qv post (qW D tys (va_A wc H.size) w1) (va_A wc H.size) a) (va_A wc H.size))
    (hP : va_P D vwCl ws H) (hD : va_D A ws) (hS : va_S A H0 H locs) (hA : ∀ q, H0.size ≤ q → A q)
    (isC isR pm : List Nat) (hC : isC.map (fun i => ws[i]?) = wc.map some) (hR : isR.map (fun i => ws[i]?) = wr.map some) (hn : (va_nd isR && va_nd pm && isR.all (fun i => !isC.contains i)) = true)
    (h2 : ∀ u, pm.map (fun i => (wr ++ w1 u)[i]?) = (W2 u).map some)
    (kk : ∀ (u : S) (H1 : Heap) (locs1 : List Loc), post u → va_P D vwCl (W2 u) H1 → va_D A (W2 u) → va_S A H0 H1 locs1 → W p l e R s m args below meth c H1 locs1 (cells + mc) (slots + ms) Q (F0 m (pc + 3) ls rest)) :
    W p l e R s m args below meth c H locs cells slots Q (F0 m pc ls st0) := by
  obtain ⟨n1, n2, n3⟩ := rnd hn
  have hF := va_free (wc := wc) hD hS hA isC hC
  refine va_callv hr hS (fun q _ h => hF q h) hF (fun u t H1 locs1 ht hvm hw hB hz hk hS1 => ?_)
  obtain ⟨hP1, hK1, hD1⟩ := hB
  rw [ht] at hP1
  obtain ⟨hP2, hD2⟩ := va_join hP hD isC isR hC hR n1 n3 hk hF hP1 hD1
  exact kk u H1 locs1 hw (hP2.sub pm (map_fm (h2 u))) (hD2.sub pm n2 (h2 u)) hS1
/-- the end with an int -/
theorem rI {cc : ByteArray} {S : Type} {post : Int32 → S → Prop} {w : S → va_W} (u : S) {v : Int32} (hexec : p.tables.exec = Jvm.exec) (hb : c.code = cc) (hr : meth.sig.returnType = some .int) (hlocks : meth.locks = false)
    (hP : va_P D vwCl (w u) H) (hK : va_K D vwCl tys s) (hD : va_D A (w u)) (hS : va_S A s.heap H locs) (hc : cells ≤ mc) (hs : slots ≤ ms) (hdg : decode cc pc = .ok (.ireturn, 1)) (hpost : post v u) :
    W p l e R s m args below meth c H locs cells slots (MQ below (va_Qi post (qW D tys A w) A) args s mc ms A) (F0 m pc ls [.int v]) := by
  refine W.widen hc hs ?_
  exact W.iret hexec hb hr (fun t ht hW => ⟨⟨v, u, rfl, hpost, by rw [ht]; exact hP, va_K.moved hW.alike hK, hD⟩, hS.F ht⟩) hS.2.2 hdg
theorem rZ {cc : ByteArray} {S : Type} {post : Int32 → S → Prop} {w : S → va_W} (u : S) {v : Int32} (hexec : p.tables.exec = Jvm.exec) (hb : c.code = cc) (hr : meth.sig.returnType = some .boolean) (hlocks : meth.locks = false)
    (hP : va_P D vwCl (w u) H) (hK : va_K D vwCl tys s) (hD : va_D A (w u)) (hS : va_S A s.heap H locs) (hc : cells ≤ mc) (hs : slots ≤ ms) (hdg : decode cc pc = .ok (.ireturn, 1)) (hz : bz v) (hpost : post v u) :
    W p l e R s m args below meth c H locs cells slots (MQ below (va_Qi post (qW D tys A w) A) args s mc ms A) (F0 m pc ls [.int v]) := by
  refine W.widen hc hs ?_
  exact W.zret hexec hb hr (bz_nar hz) (fun t ht hW => ⟨⟨v, u, rfl, hpost, by rw [ht]; exact hP, va_K.moved hW.alike hK, hD⟩, hS.F ht⟩) hS.2.2 hdg
theorem rV {cc : ByteArray} {S : Type} {post : S → Prop} {w : S → va_W} (u : S) (hexec : p.tables.exec = Jvm.exec) (hb : c.code = cc) (hr : meth.sig.returnType = none) (hlocks : meth.locks = false)
    (hP : va_P D vwCl (w u) H) (hK : va_K D vwCl tys s) (hD : va_D A (w u)) (hS : va_S A s.heap H locs) (hc : cells ≤ mc) (hs : slots ≤ ms) (hdg : decode cc pc = .ok (.return_, 1)) (hpost : post u) :
    W p l e R s m args below meth c H locs cells slots (MQ below (va_Qv post (qW D tys A w) A) args s mc ms A) (F0 m pc ls []) := by
  refine W.widen hc hs ?_
  exact W.vret hexec hb hr (fun t ht hW => ⟨⟨u, rfl, hpost, by rw [ht]; exact hP, va_K.moved hW.alike hK, hD⟩, hS.F ht⟩) hS.2.2 hdg
end CALLS
-- ===== methods that throw =====
def zTx : List (Nat × String) := [(55, "a value is 0 to 9999"), (76, "the key is not there"), (109, "entries are 1 to 96"), (111, "the log has fewer entries"), (119, "writes are 0 to 1000, or NONE"), (124, "the store is up"), (133, "a key is 0 to 63"), (135, "a range ends where it begins or behind it"), (137, "the store is down"), (139, "the log would need a 13th segment")]
def zStr (U : State) : Prop := ∀ q ∈ zTx, ∃ sa : Nat, vk_R RX2 q.1 q.2 sa U
def zZ (A : Nat → Prop) (U : State) : Prop := vx_Zq Bundle.tN "UNASSIGNED_STACK" Bundle.steD A U U.heap ∧ vx_Zq Bundle.tN "SUPPRESSED_SENTINEL" Bundle.listD A U U.heap ∧ zStr U
def pX (D : va_G) (tys : List (ClassId × FieldType)) (ws : va_W) (sz : Nat) : State → Prop := fun U => pW D tys ws sz U ∧ zZ (va_A ws sz) U
def kX (E : String) (n : Nat) : Prop := (n = 1 ∧ E = "java/lang/IllegalArgumentException") ∨ (n = 2 ∧ E = "java/lang/IllegalStateException")
/-- what a throw leaves: everything as it was -/
def xC (D : va_G) (tys : List (ClassId × FieldType)) (A : Nat → Prop) (ws : va_W) (n : Nat) : String → State → State → Prop := fun E st t => kX E n ∧ va_P D vwCl ws t.heap ∧ va_D A ws ∧ va_F A st t
/-- no return -/
def bQ : Array Value → State → Outcome → State → Prop := fun _ _ _ _ => False
theorem zStr.moved {s U : State} (h : zStr s) (hW : s.WarmedH U.vm) : zStr U := fun q hq => by
  obtain ⟨sa, hsa⟩ := h q hq
  exact ⟨sa, vk_R.warm hW hsa⟩
theorem zStr.call {U : State} {g : JFrame} {mk : MethodId} {a : Array Value} (h : zStr U) : zStr (U.calling g mk a) := fun q hq => by
  obtain ⟨sa, hsa⟩ := h q hq
  exact ⟨sa, vk_R.same (u := U) rfl hsa⟩
theorem pX_blind {D : va_G} {tys : List (ClassId × FieldType)} {ws : va_W} {sz : Nat} {av : List Value} : FrameBlind (va_Pc av (pX D tys ws sz)) := by
  intro a U g mk q
  obtain ⟨q0, q1, z1, z2, z3⟩ := q
  have h := (pW_blind (D := D) (tys := tys) (ws := ws) (sz := sz) (av := av)) a U g mk ⟨q0, q1⟩
  exact ⟨h.1, h.2, vx_Zq.moved (u := U) (U := U.calling g mk a) (Vm.Alike.refl U.vm) z1, vx_Zq.moved (u := U) (U := U.calling g mk a) (Vm.Alike.refl U.vm) z2, zStr.call z3⟩
theorem zZ_at {A B : Nat → Prop} {s : State} {H : Heap} {locs : List Loc} (hZ : zZ A s) (hS : va_S A s.heap H locs) (hB : ∀ q, B q → A q) : ∀ U : State, U.heap = H → s.WarmedH U.vm → zZ B U := by
  intro U hU hW
  subst hU
  exact ⟨((vx_Zq.moved hW.alike hZ.1).kept hS.2.1).narrow hB, ((vx_Zq.moved hW.alike hZ.2.1).kept hS.2.1).narrow hB, hZ.2.2.moved hW⟩
section XCALLS
variable {p : Program} {l : Launch} {e : Env} {R : Room} {s : State} {m : MethodId} {args : Array Value} {below : List Frame} {meth : Method} {c : Code} {H : Heap} {locs : List Loc} {cells slots : Nat} {Q : State → Prop}
variable {mc ms : Nat} {A : Nat → Prop} {H0 : Heap} {a : Array Value} {pc : Nat} {ls : Array Slot} {st0 rest : List Value} {D : va_G} {tys : List (ClassId × FieldType)} {ws wc wr : va_W}
theorem pX_S {B : Nat → Prop} {As : List Value} (hP : va_P D vwCl wc H) (hK : va_K D vwCl tys s) (hD : va_D B wc) (hZ : zZ A s) (hS : va_S A s.heap H locs) (hB : ∀ q, va_A wc H.size q → A q) : PreS s H (va_Pc As (pX D tys wc H.size)) As :=
  ⟨pX_blind, fun U hU hW => ⟨rfl, (pW_at hP hK hD As U hU hW).2, zZ_at hZ hS hB U hU hW⟩⟩
theorem pX_V {B : Nat → Prop} {As : List Value} {C : String} {T : u_T} {N b q0 ci : Nat} {fs : List Value} (hP : va_P D vwCl wc H) (hK : va_K D vwCl tys s) (hD : va_D B wc) (hZ : zZ A s) (hS : va_S A s.heap H locs) (hB : ∀ q, va_A wc H.size q → A q) (hc : vwCl[ci]? = some (C, T, N)) (he : wc[q0]? = some (b, .inr (ci, fs))) : PreV s H C b (va_Pc (.ref b :: As) (pX D tys wc H.size)) As :=
  ⟨pX_blind, va_recv hK hP hc he, fun U hU hW => ⟨rfl, (pW_at hP hK hD (.ref b :: As) U hU hW).2, zZ_at hZ hS hB U hU hW⟩⟩
/-- a callee that throws, and never returns: what the caller sees -/
theorem rxC {n : Nat} (hr : vx_Run p l e R s m args below meth c H locs cells slots mc ms (F0 m pc ls st0) rest (bQ a) (xC D tys (va_A wc H.size) wc n) (va_A wc H.size))
    (hP : va_P D vwCl ws H) (hD : va_D A ws) (hS : va_S A H0 H locs) (hA : ∀ q, H0.size ≤ q → A q)
    (isC isR pm : List Nat) (hC : isC.map (fun i => ws[i]?) = wc.map some) (hR : isR.map (fun i => ws[i]?) = wr.map some) (hn : (va_nd isR && va_nd pm && isR.all (fun i => !isC.contains i)) = true)
    (h2 : pm.map (fun i => (wr ++ wc)[i]?) = ws.map some)
    (kx : ∀ (E : String) (ce : Cell) (q9 : Addr) (H1 : Heap) (locs1 : List Loc), kX E n → va_P D vwCl ws H1 → va_S A H0 H1 locs1 → H1[q9]? = some ce → ce.vm = .none → s.vm.findClass E = some ce.cls → vx_W p l e R s m args below meth c H1 locs1 (cells + mc) (slots + ms) Q (F0 m pc ls rest) q9) :
    W p l e R s m args below meth c H locs cells slots Q (F0 m pc ls st0) := by
  obtain ⟨n1, n2, n3⟩ := rnd hn
  have hF := va_free (wc := wc) hD hS hA isC hC
  intro T hT X
  rcases hr T hT X with ⟨v, st₀, t, T', L, h0, X', hL, e1, e2, hF9, st⟩ | ⟨q, st₀, t, T', L, E, ce, h0, X', hL, e1, e2, ⟨hk, hP1, hD1, hFr⟩, hce, hcv, hcl, st⟩
  · exact hF9.elim
  · obtain ⟨k1, k2, k3⟩ := vx_keep h0 e1 hS (fun q _ h => hF q h) hF hL hFr
    obtain ⟨hP2, hD2⟩ := va_join hP hD isC isR hC hR n1 n3 k2 hF (by rw [e1]; exact hP1) hD1
    obtain ⟨t2, a1, b1⟩ := kx E ce q T'.heap (locs ++ L) hk (hP2.sub pm (map_fm h2)) k3 (by rw [e1]; exact hce) hcv hcl T' rfl X'
    exact ⟨t2, st.trans a1, b1⟩
/-- .. and the caller does not catch it -/
theorem rxO {n : Nat} (hr : vx_Run p l e R s m args below meth c H locs cells slots 1 6 (F0 m pc ls st0) rest (bQ a) (xC D tys (va_A wc H.size) wc n) (va_A wc H.size))
    (hP : va_P D vwCl ws H) (hD : va_D A ws) (hS : va_S A s.heap H locs) (hA : ∀ q, s.heap.size ≤ q → A q)
    (isC isR pm : List Nat) (hC : isC.map (fun i => ws[i]?) = wc.map some) (hR : isR.map (fun i => ws[i]?) = wr.map some) (hn : (va_nd isR && va_nd pm && isR.all (fun i => !isC.contains i)) = true)
    (h2 : pm.map (fun i => (wr ++ wc)[i]?) = ws.map some) (ht : ∀ x ∈ c.exceptionTable.toList, False) (hlocks : meth.locks = false) (hc : cells + 1 ≤ 1) (hs : slots + 6 ≤ 6) {n9 : Nat} (e9 : n9 = n) :
    W p l e R s m args below meth c H locs cells slots (vx_MQ below bQ (xC D tys A ws n9) args s 1 6 A) (F0 m pc ls st0) := by
  subst e9
  refine rxC hr hP hD hS hA isC isR pm hC hR hn h2 (fun E ce q9 H1 locs1 hk hP1 hS1 hce hcv hcl => ?_)
  exact vx_out (fun x hx => (ht x hx).elim) hlocks hce hcv hcl (fun t ht9 _ => ⟨hk, by rw [ht9]; exact hP1, hD, hS1.F ht9⟩) hS1.2.2 hc hs
/-- 'throw new E(text)' of the class -/
theorem rT {cc : ByteArray} {Ts : List Cond} {cls text : String} {ik is ic n : Nat} (hexec : p.tables.exec = Jvm.exec) (hb : c.code = cc) (hl : l.stackTraces = false) (hown : s.vm.findClass RX2 = some m.cls) (hts : ∀ w ∈ Ts, w.before args s = true)
    (hcls : Bundle.fit cls = true) (hk : Cond.classLink RX2 ik cls ∈ Ts) (hini : Cond.initialized cls ∈ Ts)
    (hat : ∀ w ∈ vx_atS RX2 ic cls ["java/lang/RuntimeException", "java/lang/Exception"], w ∈ Ts)
    (hgood : (Cond.classLink RX2 ik cls :: Cond.initialized cls :: vx_atS RX2 ic cls ["java/lang/RuntimeException", "java/lang/Exception"]).all vx_ot = true)
    (hZ : zZ A s) (htx : (is, text) ∈ zTx) (hS : va_S A s.heap H locs) (hD : va_D A ws) (hP : va_P D vwCl ws H) (hsize : ls.size = c.maxLocals)
    (d0 : decode cc pc = .ok (.new ik, 3)) (d3 : decode cc (pc + 3) = .ok (.dup, 1)) (d4 : decode cc (pc + 4) = .ok (.ldc is, 2)) (d6 : decode cc (pc + 6) = .ok (.invokespecial ic, 3)) (d9 : decode cc (pc + 9) = .ok (.athrow, 1))
    (ht : ∀ x ∈ c.exceptionTable.toList, False) (hRf : 5 < R.frames) (hRl : (rest.map fun v => v.category).sum + 82 ≤ R.locals) (hRc : cells + 1 ≤ R.cells) (hRs : slots + 6 ≤ R.slots) (hlocks : meth.locks = false) (hkx : kX cls n) (hc : cells + 1 ≤ 1) (hs : slots + 6 ≤ 6) :
    W p l e R s m args below meth c H locs cells slots (vx_MQ below bQ (xC D tys A ws n) args s 1 6 A) (F0 m pc ls rest) := by
  obtain ⟨sa, hsa⟩ := hZ.2.2 (is, text) htx
  refine vx_throwS (names := ["java/lang/RuntimeException", "java/lang/Exception"]) (sa := sa) hexec hb hl hown hcls (by decide +kernel) (hts _ hk) (hts _ hini) hsa (fun w hw => hts w (hat w hw)) (fun w hw => List.all_eq_true.mp hgood w hw) hZ.1 hZ.2.1 hS hsize d0 d3 d4 d6 d9 (fun x hx => (ht x hx).elim) hRf hRl hRc hRs hlocks (fun t hal hz hkp => ⟨hkx, ?_, hD, ?_⟩) hS.2.2 hc hs
  · exact hP.kept (fun k q hq => hkp _ (va_at.lt (hP k q hq)))
  · exact ⟨Nat.le_trans hS.1 hz, fun q h1 h2 => by rw [hkp q (Nat.lt_of_lt_of_le h1 hS.1)]; exact hS.2.1 q h1 h2⟩
end XCALLS
end
