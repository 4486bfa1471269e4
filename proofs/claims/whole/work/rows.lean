section
-- ===== PART A: goes FIRST, ahead of the names: the tables' words, and 'selects' of the private methods out of them =====
/-- a private method of a class that the tables say can be made, by its rows of tables_1 -/
def lw_okq (q : MethodName × Nat) : Prop := (q.1.cls ≠ "java/lang/invoke/MethodHandle" ∧ q.1.cls ≠ "java/lang/invoke/VarHandle") ∧ Cond.instantiable q.1.cls q.2 ∈ tables_1 ∧ Cond.privateMethod q.1 ∈ tables_1 ∧ Cond.instanceMethod q.1 ∈ tables_1
theorem lw_p0 : lw_okq (⟨"java/lang/Throwable", "fillInStackTrace", "(I)Ljava/lang/Throwable;"⟩, 6) := ⟨⟨by decide +kernel, by decide +kernel⟩, List.mem_of_getElem? (i := 213) (by decide +kernel), List.mem_of_getElem? (i := 211) (by decide +kernel), List.mem_of_getElem? (i := 212) (by decide +kernel)⟩
theorem lw_p1 : lw_okq (⟨"WayTables", "requireTable", "()V"⟩, 9) := ⟨⟨by decide +kernel, by decide +kernel⟩, List.mem_of_getElem? (i := 17) (by decide +kernel), List.mem_of_getElem? (i := 330) (by decide +kernel), List.mem_of_getElem? (i := 331) (by decide +kernel)⟩
theorem lw_p2 : lw_okq (⟨"WayTables", "areMasksRight", "()Z"⟩, 9) := ⟨⟨by decide +kernel, by decide +kernel⟩, List.mem_of_getElem? (i := 17) (by decide +kernel), List.mem_of_getElem? (i := 338) (by decide +kernel), List.mem_of_getElem? (i := 339) (by decide +kernel)⟩
theorem lw_p3 : lw_okq (⟨"WayTables", "askedMask", "(I)J"⟩, 9) := ⟨⟨by decide +kernel, by decide +kernel⟩, List.mem_of_getElem? (i := 17) (by decide +kernel), List.mem_of_getElem? (i := 342) (by decide +kernel), List.mem_of_getElem? (i := 343) (by decide +kernel)⟩
theorem lw_p4 : lw_okq (⟨"WayTables", "findAsked", "()I"⟩, 9) := ⟨⟨by decide +kernel, by decide +kernel⟩, List.mem_of_getElem? (i := 17) (by decide +kernel), List.mem_of_getElem? (i := 350) (by decide +kernel), List.mem_of_getElem? (i := 351) (by decide +kernel)⟩
theorem lw_p5 : lw_okq (⟨"WayTables", "isAsked", "(I)Z"⟩, 9) := ⟨⟨by decide +kernel, by decide +kernel⟩, List.mem_of_getElem? (i := 17) (by decide +kernel), List.mem_of_getElem? (i := 354) (by decide +kernel), List.mem_of_getElem? (i := 355) (by decide +kernel)⟩
theorem lw_p6 : lw_okq (⟨"WayTables", "hasRoom", "()Z"⟩, 9) := ⟨⟨by decide +kernel, by decide +kernel⟩, List.mem_of_getElem? (i := 17) (by decide +kernel), List.mem_of_getElem? (i := 361) (by decide +kernel), List.mem_of_getElem? (i := 362) (by decide +kernel)⟩
theorem lw_p7 : lw_okq (⟨"WayTables", "addAsked", "(IIJ)V"⟩, 9) := ⟨⟨by decide +kernel, by decide +kernel⟩, List.mem_of_getElem? (i := 17) (by decide +kernel), List.mem_of_getElem? (i := 375) (by decide +kernel), List.mem_of_getElem? (i := 376) (by decide +kernel)⟩
theorem lw_p8 : lw_okq (⟨"WayTables$Entries", "copy", "(II)V"⟩, 7) := ⟨⟨by decide +kernel, by decide +kernel⟩, List.mem_of_getElem? (i := 46) (by decide +kernel), List.mem_of_getElem? (i := 407) (by decide +kernel), List.mem_of_getElem? (i := 408) (by decide +kernel)⟩
theorem lw_p9 : lw_okq (⟨"WayTables", "fitsAsked", "(I)Z"⟩, 9) := ⟨⟨by decide +kernel, by decide +kernel⟩, List.mem_of_getElem? (i := 17) (by decide +kernel), List.mem_of_getElem? (i := 423) (by decide +kernel), List.mem_of_getElem? (i := 424) (by decide +kernel)⟩
theorem lw_p10 : lw_okq (⟨"WayTablesModel", "has", "(I)Z"⟩, 18) := ⟨⟨by decide +kernel, by decide +kernel⟩, List.mem_of_getElem? (i := 431) (by decide +kernel), List.mem_of_getElem? (i := 504) (by decide +kernel), List.mem_of_getElem? (i := 505) (by decide +kernel)⟩
theorem lw_p11 : lw_okq (⟨"WayTablesModel", "hashed", "()Z"⟩, 18) := ⟨⟨by decide +kernel, by decide +kernel⟩, List.mem_of_getElem? (i := 431) (by decide +kernel), List.mem_of_getElem? (i := 512) (by decide +kernel), List.mem_of_getElem? (i := 513) (by decide +kernel)⟩
theorem lw_p12 : lw_okq (⟨"WayTablesModel", "masksAreRight", "()Z"⟩, 18) := ⟨⟨by decide +kernel, by decide +kernel⟩, List.mem_of_getElem? (i := 431) (by decide +kernel), List.mem_of_getElem? (i := 524) (by decide +kernel), List.mem_of_getElem? (i := 525) (by decide +kernel)⟩
theorem lw_p13 : lw_okq (⟨"WayTablesModel", "ones", "(I)J"⟩, 18) := ⟨⟨by decide +kernel, by decide +kernel⟩, List.mem_of_getElem? (i := 431) (by decide +kernel), List.mem_of_getElem? (i := 528) (by decide +kernel), List.mem_of_getElem? (i := 529) (by decide +kernel)⟩
theorem lw_p14 : lw_okq (⟨"WayTablesModel", "there", "()I"⟩, 18) := ⟨⟨by decide +kernel, by decide +kernel⟩, List.mem_of_getElem? (i := 431) (by decide +kernel), List.mem_of_getElem? (i := 533) (by decide +kernel), List.mem_of_getElem? (i := 534) (by decide +kernel)⟩
theorem lw_p15 : lw_okq (⟨"WayTablesModel", "most", "()I"⟩, 18) := ⟨⟨by decide +kernel, by decide +kernel⟩, List.mem_of_getElem? (i := 431) (by decide +kernel), List.mem_of_getElem? (i := 537) (by decide +kernel), List.mem_of_getElem? (i := 538) (by decide +kernel)⟩
def lw_privs_1 : List (MethodName × Nat) := [(⟨"java/lang/Throwable", "fillInStackTrace", "(I)Ljava/lang/Throwable;"⟩, 6), (⟨"WayTables", "requireTable", "()V"⟩, 9), (⟨"WayTables", "areMasksRight", "()Z"⟩, 9), (⟨"WayTables", "askedMask", "(I)J"⟩, 9), (⟨"WayTables", "findAsked", "()I"⟩, 9), (⟨"WayTables", "isAsked", "(I)Z"⟩, 9), (⟨"WayTables", "hasRoom", "()Z"⟩, 9), (⟨"WayTables", "addAsked", "(IIJ)V"⟩, 9), (⟨"WayTables$Entries", "copy", "(II)V"⟩, 7), (⟨"WayTables", "fitsAsked", "(I)Z"⟩, 9), (⟨"WayTablesModel", "has", "(I)Z"⟩, 18), (⟨"WayTablesModel", "hashed", "()Z"⟩, 18), (⟨"WayTablesModel", "masksAreRight", "()Z"⟩, 18), (⟨"WayTablesModel", "ones", "(I)J"⟩, 18), (⟨"WayTablesModel", "there", "()I"⟩, 18), (⟨"WayTablesModel", "most", "()I"⟩, 18)]
theorem lw_r1 : ∀ q ∈ lw_privs_1, lw_okq q := List.forall_mem_cons.mpr ⟨lw_p0, List.forall_mem_cons.mpr ⟨lw_p1, List.forall_mem_cons.mpr ⟨lw_p2, List.forall_mem_cons.mpr ⟨lw_p3, List.forall_mem_cons.mpr ⟨lw_p4, List.forall_mem_cons.mpr ⟨lw_p5, List.forall_mem_cons.mpr ⟨lw_p6, List.forall_mem_cons.mpr ⟨lw_p7, List.forall_mem_cons.mpr ⟨lw_p8, List.forall_mem_cons.mpr ⟨lw_p9, List.forall_mem_cons.mpr ⟨lw_p10, List.forall_mem_cons.mpr ⟨lw_p11, List.forall_mem_cons.mpr ⟨lw_p12, List.forall_mem_cons.mpr ⟨lw_p13, List.forall_mem_cons.mpr ⟨lw_p14, List.forall_mem_cons.mpr ⟨lw_p15, fun _ h => absurd h List.not_mem_nil⟩⟩⟩⟩⟩⟩⟩⟩⟩⟩⟩⟩⟩⟩⟩⟩
theorem lw_p16 : lw_okq (⟨"WayTablesModel", "write", "(IIIJ)V"⟩, 18) := ⟨⟨by decide +kernel, by decide +kernel⟩, List.mem_of_getElem? (i := 431) (by decide +kernel), List.mem_of_getElem? (i := 541) (by decide +kernel), List.mem_of_getElem? (i := 542) (by decide +kernel)⟩
theorem lw_p17 : lw_okq (⟨"WayTablesModel", "above", "()I"⟩, 18) := ⟨⟨by decide +kernel, by decide +kernel⟩, List.mem_of_getElem? (i := 431) (by decide +kernel), List.mem_of_getElem? (i := 545) (by decide +kernel), List.mem_of_getElem? (i := 546) (by decide +kernel)⟩
theorem lw_p18 : lw_okq (⟨"WayTablesModel", "bucketOf", "([JI)I"⟩, 18) := ⟨⟨by decide +kernel, by decide +kernel⟩, List.mem_of_getElem? (i := 431) (by decide +kernel), List.mem_of_getElem? (i := 549) (by decide +kernel), List.mem_of_getElem? (i := 550) (by decide +kernel)⟩
theorem lw_p19 : lw_okq (⟨"WayTablesModel", "matches", "(I)Z"⟩, 18) := ⟨⟨by decide +kernel, by decide +kernel⟩, List.mem_of_getElem? (i := 431) (by decide +kernel), List.mem_of_getElem? (i := 566) (by decide +kernel), List.mem_of_getElem? (i := 567) (by decide +kernel)⟩
theorem lw_p20 : lw_okq (⟨"WayTablesModel", "prefixOnes", "(I)I"⟩, 18) := ⟨⟨by decide +kernel, by decide +kernel⟩, List.mem_of_getElem? (i := 431) (by decide +kernel), List.mem_of_getElem? (i := 570) (by decide +kernel), List.mem_of_getElem? (i := 571) (by decide +kernel)⟩
def lw_privs_2 : List (MethodName × Nat) := [(⟨"WayTablesModel", "write", "(IIIJ)V"⟩, 18), (⟨"WayTablesModel", "above", "()I"⟩, 18), (⟨"WayTablesModel", "bucketOf", "([JI)I"⟩, 18), (⟨"WayTablesModel", "matches", "(I)Z"⟩, 18), (⟨"WayTablesModel", "prefixOnes", "(I)I"⟩, 18)]
theorem lw_r2 : ∀ q ∈ lw_privs_2, lw_okq q := List.forall_mem_cons.mpr ⟨lw_p16, List.forall_mem_cons.mpr ⟨lw_p17, List.forall_mem_cons.mpr ⟨lw_p18, List.forall_mem_cons.mpr ⟨lw_p19, List.forall_mem_cons.mpr ⟨lw_p20, fun _ h => absurd h List.not_mem_nil⟩⟩⟩⟩⟩
def lw_privs : List (MethodName × Nat) := lw_privs_1 ++ (lw_privs_2)
def lw_tbl : List Cond := k2_sels lw_privs ++ tables_1
theorem lw_privs_ok : ∀ q ∈ lw_privs, lw_okq q := by
  show ∀ q ∈ lw_privs_1 ++ (lw_privs_2), lw_okq q
  exact List.forall_mem_append.mpr ⟨lw_r1, lw_r2⟩
end
section
/-! ===== BEGIN words of one list among another's, by their places ===== -/
theorem goodIn_r {big : List Cond} (ws : List Cond) (ps : List Nat) (hp : ws = ps.filterMap (fun i => big[i]?)) (h : ws.all goodWord = true) : GoodIn big ws := by
  intro w hw
  have h1 := List.all_eq_true.mp h w hw
  rw [hp] at hw
  obtain ⟨i, -, hi⟩ := List.mem_filterMap.mp hw
  have hm : w ∈ big := by first | exact List.mem_of_getElem? hi | exact List.getElem?_mem hi
  exact ⟨hm, good_of_word h1⟩
theorem goodIn_app {big a b : List Cond} (ha : GoodIn big a) (hb : GoodIn big b) : GoodIn big (a ++ b) := fun w h => (List.mem_append.mp h).elim (ha w) (hb w)
theorem goodIn_ca {big a b : List Cond} {c : Cond} (ha : GoodIn big (c :: a)) (hb : GoodIn big b) : GoodIn big (c :: (a ++ b)) := fun w h => (List.mem_cons.mp h).elim (fun e => ha w (List.mem_cons.mpr (Or.inl e))) (fun h => (List.mem_append.mp h).elim (fun h => ha w (List.mem_cons.mpr (Or.inr h))) (hb w))
theorem goodIn_sub {big ws : List Cond} (hm : ∀ w ∈ ws, w ∈ big) (h : ws.all goodWord = true) : GoodIn big ws := fun w hw => ⟨hm w hw, good_of_word (List.all_eq_true.mp h w hw)⟩
/-! ===== END ===== -/

/-! ===== BEGIN exceptions that leave a method, and their catching by the caller (launches without stack traces) ===== -/
section VXA
/-! The laws vx_back, vx_callV, vx_callS, vx_callSW, vx_throw0, vx_throwS follow proofs of the library, with one case more: JvmDerived/Free/Laws.lean (Back.of_free), Shelf42/LK1.lean (callV, callS), Shelf/KitTraced.lean (throwNew0V, throwNewS). -/
/-- where a method has thrown q: the class by its name, the cell, what was written, the world -/
def vx_T (XC : String → State → State → Prop) (st : State) (q : Addr) (t : State) (mc ms : Nat) (free : Addr → Prop) : Prop :=
  ∃ (E : String) (ce : Cell) (L : List Loc), XC E st t ∧ t.heap[q]? = some ce ∧ ce.vm = .none ∧ st.vm.findClass E = some ce.cls ∧ st.WarmedH t.vm ∧ st.sameButNew ({ t with vm := st.vm } : State) L mc ms ∧ ∀ z ∈ L, free z.base
def vx_Q (Qc : Array Value → State → Outcome → State → Prop) (XC : String → State → State → Prop) (mc ms : Nat) (free : Addr → Prop) : Array Value → State → Outcome → State → Prop := fun a st o t =>
  (Qc a st o t ∧ ∃ L, FrameEnd st o t L mc ms ∧ ∀ q ∈ L, free q.base) ∨ ∃ q, o = .threw q ∧ vx_T XC st q t mc ms free
/-- a callee that returns or throws -/
def vx_Met (l : Launch) (y : MethodName) (ws : List Cond) (rm : Room) (Pc : Array Value → State → Prop) (Qc : Array Value → State → Outcome → State → Prop) (XC : String → State → State → Prop) (mc ms : Nat) (free : Addr → Prop) : Prop :=
  MetFree l y (headSpec ws rm) Pc (fun _ _ _ _ _ => True) (vx_Q Qc XC mc ms free)
def vx_Post (XC : String → State → State → Prop) (mc ms : Nat) (free : Addr → Prop) : Pt → Array Value → Addr → Pt → Prop := fun A a q B =>
  ∃ (g : JFrame) (mk : MethodId) (t : State) (L : List Loc) (E : String) (ce : Cell), B.U.heap = t.heap ∧ B.U.vm = t.vm ∧ XC E (A.U.calling g mk a) t ∧ t.heap[q]? = some ce ∧ ce.vm = .none ∧ A.U.vm.findClass E = some ce.cls ∧ B.locs = A.locs ++ L ∧ (∀ z ∈ L, free z.base) ∧ B.cells = A.cells + mc ∧ B.slots = A.slots + ms
def vx_Back (l : Launch) (R : Room) (p : Program) (e : Env) (below : List Frame) (s : State) (sargs : Array Value) (y : MethodName) (len W9 : Nat)
    (Pre : Pt → Array Value → Prop) (Post : Pt → Array Value → Option Value → Pt → Prop) (PostX : Pt → Array Value → Addr → Pt → Prop) : Prop :=
  ∀ (m : MethodId) (meth : Method) (c : Code) (A : Pt) (g : JFrame) (ig : Instr) (mk : MethodId) (a : Array Value),
    Stand p l e R s m sargs below meth c A.U A.locs A.cells A.slots → g.method = m → g.locals.size = c.maxLocals → decode c.code g.pc = .ok (ig, len) →
    2 * g.monitorRoom + (g.stack.map fun v => v.category).sum ≤ W9 → A.U.methodNamed? y = some mk → Pre A a →
    (∃ (v : Option Value) (B : Pt), Stand p l e R s m sargs below meth c B.U B.locs B.cells B.slots ∧ Post A a v B ∧
      Steps p.tables e below (doInvoke e (A.U.setTop g) [] mk a).1 (B.U.setTop { g with pc := g.pc + len, stack := v.toList ++ g.stack })) ∨
    (∃ (q : Addr) (B : Pt), Stand p l e R s m sargs below meth c B.U B.locs B.cells B.slots ∧ PostX A a q B ∧
      Steps p.tables e below (doInvoke e (A.U.setTop g) [] mk a).1 ((B.U.setTop g).pushFrame (.throwing q)))
section Payer
variable {l : Launch} {R : Room} {p : Program} {e : Env} {below : List Frame} {s : State} {sargs : Array Value} {y : MethodName} {len W9 : Nat}
theorem vx_back {ws : List Cond} {rm : Room} {Pc : Array Value → State → Prop} {Qc : Array Value → State → Outcome → State → Prop} {XC : String → State → State → Prop} {mc ms : Nat} {free : Addr → Prop} {bytes : ByteArray} {maxL : Nat} {ret : Option FieldType}
    (hM : vx_Met l y ws rm Pc Qc XC mc ms free) (hblind : FrameBlind Pc) (hrc : rm.cells = mc) (hrs : rm.slots = ms)
    (hframes : rm.frames + 1 ≤ R.frames) (hlocals : W9 + (maxL + 11) + rm.locals ≤ R.locals)
    (hws : ∀ w ∈ ws, ∀ a' U, s.WarmedH U.vm → w.before a' U = true) (hcode : Cond.code y bytes maxL ret ∈ ws) (hinit : ∀ a' U, s.WarmedH U.vm → (Cond.initialized y.cls).before a' U = true) :
    vx_Back l R p e below s sargs y len W9 (PreOf R mc ms Pc) (PostOf Qc mc ms free) (vx_Post XC mc ms free) := by
  intro m meth c A g ig mk a X hg hsize hdg hW hn hp
  have h1 : (headSpec ws rm).pre.before a A.U = true := atoms_intro fun w hw => hws w hw _ _ X.warmed
  have h2 : (Cond.code y bytes maxL ret).before a A.U = true := hws _ hcode _ _ X.warmed
  have h3 : (Cond.initialized y.cls).before a A.U = true := hinit _ _ X.warmed
  have h4 : A.cells + (headSpec ws rm).room.cells ≤ R.cells := by rw [show (headSpec ws rm).room.cells = mc from hrc]; exact hp.1
  have h5 : A.slots + (headSpec ws rm).room.slots ≤ R.slots := by rw [show (headSpec ws rm).room.slots = ms from hrs]; exact hp.2.1
  have hPc : Pc a (A.U.calling g mk a) := hblind _ _ _ _ hp.2.2
  obtain ⟨U, Ls, c0, s0⟩ := A
  dsimp only [Pt.U, Pt.locs, Pt.cells, Pt.slots] at h1 h2 h3 h4 h5 X hn hPc ⊢
  obtain ⟨methY, cY, hmY, hcY, -, hlY, -, -, -, -⟩ := Cond.code_spec hn h2
  obtain ⟨kY, hkY, -⟩ := className_of_methodNamed hn
  have hinitY : kY.init = .initialized := Cond.initialized_spec (findClass_of_methodNamed hn) hkY h3
  have h : At U g.method c below := by rw [hg]; exact X.here
  have hlocals9 : W9 + (maxL + 11) + (headSpec ws rm).room.locals ≤ R.locals := hlocals
  have happ : (headSpec ws rm).appliesLoose y e.platform (U.calling g mk a) = true :=
    Spec.appliesLoose_calling (g := g) h hdg hn hkY hinitY
      (X.room_calling (g := g) (R' := (headSpec ws rm).room) hsize hmY hcY hframes (by rw [hlY]; omega) h4 h5) h1
  obtain ⟨mid, hmid⟩ := h.above
  have hfr : (U.setTop g).frames = (.java g :: mid) ++ below := by rw [State.frames_setTop' g h.top, hmid]; rfl
  obtain ⟨o, s₂, hsteps, -, hend, hq⟩ := Steps.callFree hM p X.admits X.cas X.clock (acts := []) hfr happ hPc trivial
  have hq' : vx_Q Qc XC mc ms free a (U.calling g mk a) o s₂ := hq
  rw [State.frames_setTop' g h.top] at hend
  obtain ⟨g₀, hg0⟩ := Option.isSome_iff_exists.mp h.top
  obtain ⟨r, hr⟩ := State.topJava?_eq_some.mp hg0
  have hr' : (({ U with heap := s₂.heap, slotsUsed := s₂.slotsUsed } : State).setVm s₂.vm).frames = .java g₀ :: r := hr
  rcases hq' with ⟨hqc, L, hfe, hL⟩ | ⟨q, rfl, E, ce, L, hx, hce, hcv, hcl, hW₂, hsm, hL⟩
  · obtain ⟨⟨v, rfl⟩, hW₂, e2, q2, q3, q4, q5, q6⟩ := id hfe
    have e3 : s₂ = ({ (U.calling g mk a).setFrames s₂.frames with heap := s₂.heap, slotsUsed := s₂.slotsUsed } : State).setVm s₂.vm := by
      have : s₂ = ({ s₂ with vm := (U.calling g mk a).vm } : State).setVm s₂.vm := rfl
      rw [e2] at this
      exact this
    obtain ⟨c₂, i₂, len₂, hc₂, hd₂, hf₂⟩ := hend
    have hW' : U.WarmedH s₂.vm := hW₂
    have hcc : c₂ = c := by
      have h1 : s₂.code? g.method = U.code? g.method := by
        rw [State.code?_eq, State.code?_eq, hW'.alike.method?]
      exact Option.some.inj (hc₂.symm.trans (h1.trans h.code))
    subst hcc
    have hlen : len₂ = len := by rw [hdg] at hd₂; cases hd₂; rfl
    subst hlen
    have hs₂ : s₂ = (({ U with heap := s₂.heap, slotsUsed := s₂.slotsUsed } : State).setVm s₂.vm).setTop { g with pc := g.pc + len₂, stack := v.toList ++ g.stack } := by
      refine e3.trans ?_
      rw [hf₂, State.calling_eq h.top, State.setFrames_setFrames, State.setTop_of_frames _ hr', hr]
      rfl
    have hsame : U.sameButNew ({ U with heap := s₂.heap, slotsUsed := s₂.slotsUsed } : State) L mc ms := by
      refine ⟨?_, q2, q3, q4, q5, q6⟩
      obtain ⟨t, ht, -⟩ := State.frames_cons hr
      show ({ U with heap := s₂.heap, slotsUsed := s₂.slotsUsed } : State) = { U.setFrames U.frames with heap := s₂.heap, slotsUsed := s₂.slotsUsed }
      rw [State.setFrames_self ht]
    subst hg
    refine Or.inl ⟨v, ⟨(({ U with heap := s₂.heap, slotsUsed := s₂.slotsUsed } : State).setVm s₂.vm), Ls ++ L, c0 + mc, s0 + ms⟩,
      ⟨X.admits, X.cas, X.clock, X.frames, X.room, X.hears, X.method, X.code, (X.here.setHeapUsed s₂.heap s₂.slotsUsed).setVm hW'.alike, X.tail, State.WarmedH.trans X.warmed hW', X.limits, X.bytes, X.same.trans (hsame.setVm s.vm)⟩,
      ⟨g, mk, s₂, L, rfl, rfl, hqc, rfl, hL, rfl, rfl⟩, ?_⟩
    show Steps p.tables e below _ ((({ U with heap := s₂.heap, slotsUsed := s₂.slotsUsed } : State).setVm s₂.vm).setTop { g with pc := g.pc + len₂, stack := v.toList ++ g.stack })
    rw [← hs₂]
    exact hsteps
  · obtain ⟨e2, q2, q3, q4, q5, q6⟩ := id hsm
    have e3 : s₂ = ({ (U.calling g mk a).setFrames s₂.frames with heap := s₂.heap, slotsUsed := s₂.slotsUsed } : State).setVm s₂.vm := by
      have : s₂ = ({ s₂ with vm := (U.calling g mk a).vm } : State).setVm s₂.vm := rfl
      rw [e2] at this
      exact this
    have hf₂ : s₂.frames = .throwing q :: .java g :: U.frames.tail := hend
    have hW' : U.WarmedH s₂.vm := hW₂
    have hs₂ : s₂ = ((({ U with heap := s₂.heap, slotsUsed := s₂.slotsUsed } : State).setVm s₂.vm).setTop g).pushFrame (.throwing q) := by
      refine e3.trans ?_
      rw [hf₂, State.calling_eq h.top, State.setFrames_setFrames, State.pushFrame, State.frames_setTop _ hr', State.setTop_of_frames _ hr', State.setFrames_setFrames, hr]
      rfl
    have hsame : U.sameButNew ({ U with heap := s₂.heap, slotsUsed := s₂.slotsUsed } : State) L mc ms := by
      refine ⟨?_, q2, q3, q4, q5, q6⟩
      obtain ⟨t, ht, -⟩ := State.frames_cons hr
      show ({ U with heap := s₂.heap, slotsUsed := s₂.slotsUsed } : State) = { U.setFrames U.frames with heap := s₂.heap, slotsUsed := s₂.slotsUsed }
      rw [State.setFrames_self ht]
    subst hg
    refine Or.inr ⟨q, ⟨(({ U with heap := s₂.heap, slotsUsed := s₂.slotsUsed } : State).setVm s₂.vm), Ls ++ L, c0 + mc, s0 + ms⟩,
      ⟨X.admits, X.cas, X.clock, X.frames, X.room, X.hears, X.method, X.code, (X.here.setHeapUsed s₂.heap s₂.slotsUsed).setVm hW'.alike, X.tail, State.WarmedH.trans X.warmed hW', X.limits, X.bytes, X.same.trans (hsame.setVm s.vm)⟩,
      ⟨g, mk, s₂, L, E, ce, rfl, rfl, hx, hce, hcv, hcl, rfl, hL, rfl, rfl⟩, ?_⟩
    show Steps p.tables e below _ (((({ U with heap := s₂.heap, slotsUsed := s₂.slotsUsed } : State).setVm s₂.vm).setTop g).pushFrame (.throwing q))
    rw [← hs₂]
    exact hsteps
end Payer
section Calls
variable {p : Program} {l : Launch} {e : Env} {R : Room} {s : State} {m : MethodId} {args : Array Value} {below : List Frame} {meth : Method} {c : Code} {T : State} {locs : List Loc} {cells slots : Nat}
theorem vx_callV (X : Stand p l e R s m args below meth c T locs cells slots) (hexec : p.tables.exec = Jvm.exec) {own C : String} {index : Nat} {y : MethodName} {bytes : ByteArray} {maxL : Nat} {ret : Option FieldType}
    (hown : s.vm.findClass own = some m.cls) (hlink : (Cond.methodLink own index y).before args s = true) (hinst : (Cond.instanceMethod y).before args s = true) (hsel : (Cond.selects C y y).before args s = true)
    (hcode : (Cond.code y bytes maxL ret).before args s = true) (hy : y.cls ≠ "java/lang/invoke/MethodHandle" ∧ y.cls ≠ "java/lang/invoke/VarHandle")
    {W9 : Nat} {Pre : Pt → Array Value → Prop} {Post : Pt → Array Value → Option Value → Pt → Prop} {PostX : Pt → Array Value → Addr → Pt → Prop} (hK : vx_Back l R p e below s args y 3 W9 Pre Post PostX)
    {b : Addr} {cellB : Cell} (hcell : T.heap[b]? = some cellB) (hobj : cellB.vm.isStatics = false) (hcls : s.vm.findClass C = some cellB.cls)
    {g : JFrame} (hg : g.method = m) (hsize : g.locals.size = c.maxLocals) {argsL rest : List Value} (hlen : ∀ sig, parseMethodDescriptor y.desc = some sig → argsL.length = sig.parameters.length)
    (hstack : g.stack = argsL.reverse ++ .ref b :: rest) (hW : 2 * g.monitorRoom + (rest.map fun v => v.category).sum ≤ W9) (hdg : decode c.code g.pc = .ok (.invokevirtual index, 3))
    (hpre : ∀ vm₁, s.WarmedH vm₁ → Pre ⟨T.setVm vm₁, locs, cells, slots⟩ (Value.ref b :: argsL).toArray) :
    (∃ (v : Option Value) (vm₁ : Vm) (B : Pt), s.WarmedH vm₁ ∧ Stand p l e R s m args below meth c B.U B.locs B.cells B.slots ∧ Post ⟨T.setVm vm₁, locs, cells, slots⟩ (Value.ref b :: argsL).toArray v B ∧
      ∀ target, Steps p.tables e below (B.U.setTop { g with pc := g.pc + 3, stack := v.toList ++ rest }) target → Steps p.tables e below (T.setTop g) target) ∨
    (∃ (q : Addr) (vm₁ : Vm) (B : Pt), s.WarmedH vm₁ ∧ Stand p l e R s m args below meth c B.U B.locs B.cells B.slots ∧ PostX ⟨T.setVm vm₁, locs, cells, slots⟩ (Value.ref b :: argsL).toArray q B ∧
      Steps p.tables e below (T.setTop g) ((B.U.setTop { g with stack := rest }).pushFrame (.throwing q))) := by
  obtain ⟨mk, methM, hnamed, hmethM, hstM, habM⟩ := Cond.instanceMethod_spec hinst
  obtain ⟨methM', cM, hmethM', -, -, -, -, -, -, hsigM⟩ := Cond.code_spec hnamed hcode
  cases hmethM.symm.trans hmethM'
  obtain ⟨c2, r2, m2, q1, q2, q3, q4, kP, hkP, hkPi⟩ := Cond.selects_spec hsel
  cases hcls.symm.trans q1
  cases (State.methodFound?_of_named hnamed hy).symm.trans q2
  cases hnamed.symm.trans q3
  have hselP : selectMethod e.platform s.vm cellB.cls mk = .method mk := by rw [Launch.admits_selectMethod X.admits]; exact q4
  obtain ⟨vm₁, X₁, hstep₁⟩ := X.invokevirtual hexec hown hlink hnamed hmethM hstM hkP hkPi hy (a := b) (cell := cellB) hcell
    (fun z h => by rw [h] at hobj; cases hobj) hselP hmethM habM hkP hkPi (g := g) hg (argsL := argsL) (rest := rest) (hlen _ hsigM) hstack hdg
  rcases hK m meth c ⟨T.setVm vm₁, locs, cells, slots⟩ { g with stack := rest } (.invokevirtual index) mk (Value.ref b :: argsL).toArray X₁ hg hsize hdg hW (X₁.named hnamed) (hpre vm₁ X₁.warmed) with ⟨v, B, X', hpost, hsteps⟩ | ⟨q, B, X', hpost, hsteps⟩
  · exact Or.inl ⟨v, vm₁, B, X₁.warmed, X', hpost, fun target h => hstep₁ _ fun acts => by rw [doInvoke_state]; exact hsteps.trans h⟩
  · exact Or.inr ⟨q, vm₁, B, X₁.warmed, X', hpost, hstep₁ _ fun acts => by rw [doInvoke_state]; exact hsteps⟩
theorem vx_callS (X : Stand p l e R s m args below meth c T locs cells slots) (hexec : p.tables.exec = Jvm.exec) {own : String} {index : Nat} {y : MethodName} {bytes : ByteArray} {maxL : Nat} {ret : Option FieldType}
    (hown : s.vm.findClass own = some m.cls) (hlink : (Cond.methodLink own index y).before args s = true) (hstat : (Cond.static y).before args s = true) (hinit : (Cond.initialized y.cls).before args s = true)
    (hcode : (Cond.code y bytes maxL ret).before args s = true) (hy : y.cls ≠ "java/lang/invoke/MethodHandle" ∧ y.cls ≠ "java/lang/invoke/VarHandle")
    {W9 : Nat} {Pre : Pt → Array Value → Prop} {Post : Pt → Array Value → Option Value → Pt → Prop} {PostX : Pt → Array Value → Addr → Pt → Prop} (hK : vx_Back l R p e below s args y 3 W9 Pre Post PostX)
    {g : JFrame} (hg : g.method = m) (hsize : g.locals.size = c.maxLocals) {argsL rest : List Value} (hlen : ∀ sig, parseMethodDescriptor y.desc = some sig → argsL.length = sig.parameters.length)
    (hstack : g.stack = argsL.reverse ++ rest) (hW : 2 * g.monitorRoom + (rest.map fun v => v.category).sum ≤ W9) (hdg : decode c.code g.pc = .ok (.invokestatic index, 3))
    (hpre : ∀ vm₁, s.WarmedH vm₁ → Pre ⟨T.setVm vm₁, locs, cells, slots⟩ argsL.toArray) :
    (∃ (v : Option Value) (vm₁ : Vm) (B : Pt), s.WarmedH vm₁ ∧ Stand p l e R s m args below meth c B.U B.locs B.cells B.slots ∧ Post ⟨T.setVm vm₁, locs, cells, slots⟩ argsL.toArray v B ∧
      ∀ target, Steps p.tables e below (B.U.setTop { g with pc := g.pc + 3, stack := v.toList ++ rest }) target → Steps p.tables e below (T.setTop g) target) ∨
    (∃ (q : Addr) (vm₁ : Vm) (B : Pt), s.WarmedH vm₁ ∧ Stand p l e R s m args below meth c B.U B.locs B.cells B.slots ∧ PostX ⟨T.setVm vm₁, locs, cells, slots⟩ argsL.toArray q B ∧
      Steps p.tables e below (T.setTop g) ((B.U.setTop { g with stack := rest }).pushFrame (.throwing q))) := by
  obtain ⟨mk, hnamed⟩ := Cond.code_named hcode
  obtain ⟨methM, cM, hmethM, -, -, -, -, -, -, hsigM⟩ := Cond.code_spec hnamed hcode
  have hstatic : methM.isStatic = true := Cond.static_spec hnamed hmethM hstat
  obtain ⟨kP, hkP, -⟩ := className_of_methodNamed hnamed
  have hinitP : kP.init = .initialized := Cond.initialized_spec (findClass_of_methodNamed hnamed) hkP hinit
  obtain ⟨vm₁, X₁, hstep₁⟩ := X.invokestatic hexec hown hlink hnamed hmethM hstatic hkP hinitP hy (g := g) hg (argsL := argsL) (rest := rest) (hlen _ hsigM) hstack hdg
  rcases hK m meth c ⟨T.setVm vm₁, locs, cells, slots⟩ { g with stack := rest } (.invokestatic index) mk argsL.toArray X₁ hg hsize hdg hW (X₁.named hnamed) (hpre vm₁ X₁.warmed) with ⟨v, B, X', hpost, hsteps⟩ | ⟨q, B, X', hpost, hsteps⟩
  · exact Or.inl ⟨v, vm₁, B, X₁.warmed, X', hpost, fun target h => hstep₁ _ fun acts => by rw [doInvoke_state]; exact hsteps.trans h⟩
  · exact Or.inr ⟨q, vm₁, B, X₁.warmed, X', hpost, hstep₁ _ fun acts => by rw [doInvoke_state]; exact hsteps⟩
end Calls
theorem vx_cls {s : State} {T : State} {vm₁ : Vm} {E : String} {k : ClassId} (hW : s.WarmedH vm₁) (h : (T.setVm vm₁).vm.findClass E = some k) : s.vm.findClass E = some k := by
  have h1 : vm₁.findClass E = some k := h
  rw [hW.alike.findClass] at h1
  exact h1
/-- the method's frame g, with q thrown over it -/
def vx_W (p : Program) (l : Launch) (e : Env) (R : Room) (s : State) (m : MethodId) (args : Array Value) (below : List Frame) (meth : Method) (c : Code) (H : Heap) (locs : List Loc) (cells slots : Nat) (Q : State → Prop) (g : JFrame) (q : Addr) : Prop :=
  ∀ T : State, T.heap = H → Stand p l e R s m args below meth c T locs cells slots → ∃ t, Steps p.tables e below ((T.setTop g).pushFrame (.throwing q)) t ∧ Q t
def vx_Run (p : Program) (l : Launch) (e : Env) (R : Room) (s : State) (m : MethodId) (args : Array Value) (below : List Frame) (meth : Method) (c : Code) (H : Heap) (locs : List Loc) (cells slots mc ms : Nat) (g : JFrame) (rest : List Value) (Qa : State → Outcome → State → Prop) (XC : String → State → State → Prop) (free : Addr → Prop) : Prop :=
  ∀ T : State, T.heap = H → Stand p l e R s m args below meth c T locs cells slots →
    (∃ (v : Option Value) (st₀ t T' : State) (L : List Loc), st₀.heap = H ∧ Stand p l e R s m args below meth c T' (locs ++ L) (cells + mc) (slots + ms) ∧ (∀ q ∈ L, free q.base) ∧ T'.heap = t.heap ∧ T'.vm = t.vm ∧ Qa st₀ (.returned v) t ∧
      Goes p e below T g T' { g with pc := g.pc + 3, stack := v.toList ++ rest }) ∨
    (∃ (q : Addr) (st₀ t T' : State) (L : List Loc) (E : String) (ce : Cell), st₀.heap = H ∧ Stand p l e R s m args below meth c T' (locs ++ L) (cells + mc) (slots + ms) ∧ (∀ z ∈ L, free z.base) ∧ T'.heap = t.heap ∧ T'.vm = t.vm ∧ XC E st₀ t ∧ t.heap[q]? = some ce ∧ ce.vm = .none ∧ s.vm.findClass E = some ce.cls ∧
      Steps p.tables e below (T.setTop g) ((T'.setTop { g with stack := rest }).pushFrame (.throwing q)))
def vx_X {S : Type} (px : S → Prop) (B : String → S → State → Prop) (A : Nat → Prop) : String → State → State → Prop := fun E st t => ∃ u : S, px u ∧ B E u t ∧ va_F A st t
section Runs
variable {p : Program} {l : Launch} {e : Env} {R : Room} {s : State} {m : MethodId} {args : Array Value} {below : List Frame} {meth : Method} {c : Code} {H : Heap} {locs : List Loc} {cells slots : Nat}
variable {y : MethodName} {bytes cc : ByteArray} {maxL nL mc ms n index : Nat} {ret : Option FieldType} {ws : List Cond} {rm : Room} {Pc : Array Value → State → Prop} {Qc : Array Value → State → Outcome → State → Prop} {XC : String → State → State → Prop} {free : Addr → Prop} {Ts : List Cond} {own C : String} {b : Addr} {As rest : List Value} {g : JFrame}
theorem vx_callBack (cb : CallB R s args own index y bytes maxL ret ws rm mc ms n) (hM : vx_Met l y ws rm Pc Qc XC mc ms free) (hbl : FrameBlind Pc) : vx_Back l R p e below s args y 3 8 (PreOf R mc ms Pc) (PostOf Qc mc ms free) (vx_Post XC mc ms free) := by
  obtain ⟨hrc, hrs, hfr, hlo, hws, hcw, -, hini, -⟩ := cb
  exact vx_back (bytes := bytes) (maxL := maxL) (ret := ret) hM hbl hrc hrs hfr hlo hws hcw (fun a' U hW => word_at hW (Or.inl (by first | rfl | simp [Cond.onTables, Cond.keeps, Cond.steady])) hini)
theorem vx_runV (S : CallFix p m c cc nL s args Ts own) (hM : vx_Met l y ws rm Pc Qc XC mc ms free) (cw : CallW R s args own C index y bytes maxL ret ws rm mc ms n) (hp : PreV s H C b Pc As)
    (hg : g.method = m) (hn : As.length = n) (hsize : g.locals.size = nL) (hstack : g.stack = As.reverse ++ .ref b :: rest) (hW : 2 * g.monitorRoom + (rest.map fun v => v.category).sum ≤ 8) (hdg : decode cc g.pc = .ok (.invokevirtual index, 3)) (hf : cells + mc ≤ R.cells ∧ slots + ms ≤ R.slots) :
    vx_Run p l e R s m args below meth c H locs cells slots mc ms g rest (Qc (Value.ref b :: As).toArray) XC free := by
  have hK : vx_Back l R p e below s args y 3 8 (PreOf R mc ms Pc) (PostOf Qc mc ms free) (vx_Post XC mc ms free) := vx_callBack cw.1 hM hp.1
  obtain ⟨⟨-, -, -, -, -, -, hcode, -, hy, hlen, hl⟩, hin, hse⟩ := cw
  obtain ⟨hx, hb, hml, ho, -⟩ := S
  obtain ⟨-, ⟨cellB, hcB, hoB, hclB⟩, hPc⟩ := hp
  intro T hT X
  rcases vx_callV X hx (C := C) (bytes := bytes) (maxL := maxL) (ret := ret) ho hl hin hse hcode hy hK (by rw [hT]; exact hcB) hoB hclB hg (hsize.trans hml.symm) (argsL := As) (rest := rest) (fun sig h => hn.trans (hlen sig h)) hstack hW (by rw [hb]; exact hdg)
    (fun vm₁ hW₁ => ⟨hf.1, hf.2, hPc (T.setVm vm₁) hT hW₁⟩) with ⟨v, vm₁, ⟨U', l2, c2, s2⟩, hW₁, X', ⟨g', mk, t, L, e1, e2, hq, h1, hL, h2, h3⟩, st⟩ | ⟨q, vm₁, ⟨U', l2, c2, s2⟩, hW₁, X', ⟨g', mk, t, L, E, ce, e1, e2, hq, hce, hcv, hcl, h1, hL, h2, h3⟩, st⟩
  · dsimp only [Pt.U, Pt.locs, Pt.cells, Pt.slots] at X' e1 e2 h1 h2 h3 st
    subst h1; subst h2; subst h3
    exact Or.inl ⟨v, (T.setVm vm₁).calling g' mk (Value.ref b :: As).toArray, t, U', L, hT, X', hL, e1, e2, hq, st⟩
  · dsimp only [Pt.U, Pt.locs, Pt.cells, Pt.slots] at X' e1 e2 h1 h2 h3 st hcl
    subst h1; subst h2; subst h3
    exact Or.inr ⟨q, (T.setVm vm₁).calling g' mk (Value.ref b :: As).toArray, t, U', L, E, ce, hT, X', hL, e1, e2, hq, hce, hcv, vx_cls hW₁ hcl, st⟩
theorem vx_runS (S : CallFix p m c cc nL s args Ts own) (hM : vx_Met l y ws rm Pc Qc XC mc ms free) (cw : CallB R s args own index y bytes maxL ret ws rm mc ms n ∧ (Cond.static y).before args s = true) (hp : PreS s H Pc As)
    (hg : g.method = m) (hn : As.length = n) (hsize : g.locals.size = nL) (hstack : g.stack = As.reverse ++ rest) (hW : 2 * g.monitorRoom + (rest.map fun v => v.category).sum ≤ 8) (hdg : decode cc g.pc = .ok (.invokestatic index, 3)) (hf : cells + mc ≤ R.cells ∧ slots + ms ≤ R.slots) :
    vx_Run p l e R s m args below meth c H locs cells slots mc ms g rest (Qc As.toArray) XC free := by
  have hK : vx_Back l R p e below s args y 3 8 (PreOf R mc ms Pc) (PostOf Qc mc ms free) (vx_Post XC mc ms free) := vx_callBack cw.1 hM hp.1
  obtain ⟨⟨-, -, -, -, -, -, hcode, hini, hy, hlen, hl⟩, hstt⟩ := cw
  obtain ⟨hx, hb, hml, ho, -⟩ := S
  intro T hT X
  rcases vx_callS X hx (bytes := bytes) (maxL := maxL) (ret := ret) ho hl hstt hini hcode hy hK hg (hsize.trans hml.symm) (argsL := As) (rest := rest) (fun sig h => hn.trans (hlen sig h)) hstack hW (by rw [hb]; exact hdg)
    (fun vm₁ hW₁ => ⟨hf.1, hf.2, hp.2 (T.setVm vm₁) hT hW₁⟩) with ⟨v, vm₁, ⟨U', l2, c2, s2⟩, hW₁, X', ⟨g', mk, t, L, e1, e2, hq, h1, hL, h2, h3⟩, st⟩ | ⟨q, vm₁, ⟨U', l2, c2, s2⟩, hW₁, X', ⟨g', mk, t, L, E, ce, e1, e2, hq, hce, hcv, hcl, h1, hL, h2, h3⟩, st⟩
  · dsimp only [Pt.U, Pt.locs, Pt.cells, Pt.slots] at X' e1 e2 h1 h2 h3 st
    subst h1; subst h2; subst h3
    exact Or.inl ⟨v, (T.setVm vm₁).calling g' mk As.toArray, t, U', L, hT, X', hL, e1, e2, hq, st⟩
  · dsimp only [Pt.U, Pt.locs, Pt.cells, Pt.slots] at X' e1 e2 h1 h2 h3 st hcl
    subst h1; subst h2; subst h3
    exact Or.inr ⟨q, (T.setVm vm₁).calling g' mk As.toArray, t, U', L, E, ce, hT, X', hL, e1, e2, hq, hce, hcv, vx_cls hW₁ hcl, st⟩
end Runs
section Rows
variable {p : Program} {l : Launch} {e : Env} {R : Room} {s : State} {m : MethodId} {args : Array Value} {below : List Frame} {meth : Method} {c : Code} {H : Heap} {locs : List Loc} {cells slots : Nat} {Q : State → Prop}
variable {mc ms : Nat} {free : Addr → Prop} {A0 A1 : Nat → Prop} {H0 : Heap} {a : Array Value} {pc : Nat} {ls : Array Slot} {st0 rest : List Value}
theorem vx_keep {st₀ t T' : State} {L : List Loc} (h0 : st₀.heap = H) (e1 : T'.heap = t.heap) (hS : va_S A0 H0 H locs) (hA : ∀ q, q < H.size → A1 q → A0 q) (hf : ∀ q, free q → A0 q) (hL : ∀ q ∈ L, free q.base) (hF : va_F A1 st₀ t) :
    H.size ≤ T'.heap.size ∧ (∀ q : Nat, q < H.size → ¬ A1 q → T'.heap[q]? = H[q]?) ∧ va_S A0 H0 T'.heap (locs ++ L) := by
  obtain ⟨hz, hk⟩ := hF
  rw [h0] at hz hk
  exact ⟨by rw [e1]; exact hz, fun q h1 h2 => by rw [e1]; exact hk q h1 h2,
    ⟨Nat.le_trans hS.1 (by rw [e1]; exact hz), fun q h1 h2 => by rw [e1, hk q (Nat.lt_of_lt_of_le h1 hS.1) (fun z => h2 (hA q (Nat.lt_of_lt_of_le h1 hS.1) z))]; exact hS.2.1 q h1 h2, fun q hq => by
      rcases List.mem_append.mp hq with h | h
      · exact hS.2.2 q h
      · exact hf _ (hL q h)⟩⟩
theorem vx_calli {S SX : Type} {post : Int32 → S → Prop} {px : SX → Prop} {B : S → State → Prop} {BX : String → SX → State → Prop} {AX : Nat → Prop} (hr : vx_Run p l e R s m args below meth c H locs cells slots mc ms (F0 m pc ls st0) rest (va_Qi post B A1 a) (vx_X px BX AX) free) (hS : va_S A0 H0 H locs) (hA : ∀ q, q < H.size → A1 q → A0 q) (hf : ∀ q, free q → A0 q) (hAX : ∀ q, q < H.size → AX q → A0 q)
    (kx : ∀ (E : String) (ce : Cell) (q9 : Addr) (u : SX) (t : State) (H1 : Heap) (locs1 : List Loc), t.heap = H1 → s.vm.Alike t.vm → px u → BX E u t → H.size ≤ H1.size → (∀ q : Nat, q < H.size → ¬ AX q → H1[q]? = H[q]?) → va_S A0 H0 H1 locs1 → H1[q9]? = some ce → ce.vm = .none → s.vm.findClass E = some ce.cls → vx_W p l e R s m args below meth c H1 locs1 (cells + mc) (slots + ms) Q (F0 m pc ls rest) q9)
    (kk : ∀ (r : Int32) (u : S) (t : State) (H1 : Heap) (locs1 : List Loc), t.heap = H1 → s.vm.Alike t.vm → post r u → B u t → H.size ≤ H1.size → (∀ q : Nat, q < H.size → ¬ A1 q → H1[q]? = H[q]?) → va_S A0 H0 H1 locs1 → W p l e R s m args below meth c H1 locs1 (cells + mc) (slots + ms) Q (F0 m (pc + 3) ls (.int r :: rest))) : W p l e R s m args below meth c H locs cells slots Q (F0 m pc ls st0) := by
  intro T hT X
  rcases hr T hT X with ⟨v, st₀, t, T', L, h0, X', hL, e1, e2, ⟨⟨r, u, hv, hp, hb⟩, hF⟩, st⟩ | ⟨q, st₀, t, T', L, E, ce, h0, X', hL, e1, e2, ⟨u, hp, hb, hF⟩, hce, hcv, hcl, st⟩
  · cases hv
    obtain ⟨k1, k2, k3⟩ := vx_keep h0 e1 hS hA hf hL hF
    obtain ⟨t2, a1, b1⟩ := kk r u t T'.heap (locs ++ L) e1.symm (by rw [← e2]; exact X'.warmed.alike) hp hb k1 k2 k3 T' rfl X'
    exact ⟨t2, st t2 a1, b1⟩
  · obtain ⟨k1, k2, k3⟩ := vx_keep h0 e1 hS hAX hf hL hF
    obtain ⟨t2, a1, b1⟩ := kx E ce q u t T'.heap (locs ++ L) e1.symm (by rw [← e2]; exact X'.warmed.alike) hp hb k1 k2 k3 (by rw [e1]; exact hce) hcv hcl T' rfl X'
    exact ⟨t2, st.trans a1, b1⟩
theorem vx_calll {S SX : Type} {post : Int64 → S → Prop} {px : SX → Prop} {B : S → State → Prop} {BX : String → SX → State → Prop} {AX : Nat → Prop} (hr : vx_Run p l e R s m args below meth c H locs cells slots mc ms (F0 m pc ls st0) rest (va_Ql post B A1 a) (vx_X px BX AX) free) (hS : va_S A0 H0 H locs) (hA : ∀ q, q < H.size → A1 q → A0 q) (hf : ∀ q, free q → A0 q) (hAX : ∀ q, q < H.size → AX q → A0 q)
    (kx : ∀ (E : String) (ce : Cell) (q9 : Addr) (u : SX) (t : State) (H1 : Heap) (locs1 : List Loc), t.heap = H1 → s.vm.Alike t.vm → px u → BX E u t → H.size ≤ H1.size → (∀ q : Nat, q < H.size → ¬ AX q → H1[q]? = H[q]?) → va_S A0 H0 H1 locs1 → H1[q9]? = some ce → ce.vm = .none → s.vm.findClass E = some ce.cls → vx_W p l e R s m args below meth c H1 locs1 (cells + mc) (slots + ms) Q (F0 m pc ls rest) q9)
    (kk : ∀ (r : Int64) (u : S) (t : State) (H1 : Heap) (locs1 : List Loc), t.heap = H1 → s.vm.Alike t.vm → post r u → B u t → H.size ≤ H1.size → (∀ q : Nat, q < H.size → ¬ A1 q → H1[q]? = H[q]?) → va_S A0 H0 H1 locs1 → W p l e R s m args below meth c H1 locs1 (cells + mc) (slots + ms) Q (F0 m (pc + 3) ls (.long r :: rest))) : W p l e R s m args below meth c H locs cells slots Q (F0 m pc ls st0) := by
  intro T hT X
  rcases hr T hT X with ⟨v, st₀, t, T', L, h0, X', hL, e1, e2, ⟨⟨r, u, hv, hp, hb⟩, hF⟩, st⟩ | ⟨q, st₀, t, T', L, E, ce, h0, X', hL, e1, e2, ⟨u, hp, hb, hF⟩, hce, hcv, hcl, st⟩
  · cases hv
    obtain ⟨k1, k2, k3⟩ := vx_keep h0 e1 hS hA hf hL hF
    obtain ⟨t2, a1, b1⟩ := kk r u t T'.heap (locs ++ L) e1.symm (by rw [← e2]; exact X'.warmed.alike) hp hb k1 k2 k3 T' rfl X'
    exact ⟨t2, st t2 a1, b1⟩
  · obtain ⟨k1, k2, k3⟩ := vx_keep h0 e1 hS hAX hf hL hF
    obtain ⟨t2, a1, b1⟩ := kx E ce q u t T'.heap (locs ++ L) e1.symm (by rw [← e2]; exact X'.warmed.alike) hp hb k1 k2 k3 (by rw [e1]; exact hce) hcv hcl T' rfl X'
    exact ⟨t2, st.trans a1, b1⟩
theorem vx_callf {S SX : Type} {post : UInt32 → S → Prop} {px : SX → Prop} {B : S → State → Prop} {BX : String → SX → State → Prop} {AX : Nat → Prop} (hr : vx_Run p l e R s m args below meth c H locs cells slots mc ms (F0 m pc ls st0) rest (va_Qf post B A1 a) (vx_X px BX AX) free) (hS : va_S A0 H0 H locs) (hA : ∀ q, q < H.size → A1 q → A0 q) (hf : ∀ q, free q → A0 q) (hAX : ∀ q, q < H.size → AX q → A0 q)
    (kx : ∀ (E : String) (ce : Cell) (q9 : Addr) (u : SX) (t : State) (H1 : Heap) (locs1 : List Loc), t.heap = H1 → s.vm.Alike t.vm → px u → BX E u t → H.size ≤ H1.size → (∀ q : Nat, q < H.size → ¬ AX q → H1[q]? = H[q]?) → va_S A0 H0 H1 locs1 → H1[q9]? = some ce → ce.vm = .none → s.vm.findClass E = some ce.cls → vx_W p l e R s m args below meth c H1 locs1 (cells + mc) (slots + ms) Q (F0 m pc ls rest) q9)
    (kk : ∀ (r : UInt32) (u : S) (t : State) (H1 : Heap) (locs1 : List Loc), t.heap = H1 → s.vm.Alike t.vm → post r u → B u t → H.size ≤ H1.size → (∀ q : Nat, q < H.size → ¬ A1 q → H1[q]? = H[q]?) → va_S A0 H0 H1 locs1 → W p l e R s m args below meth c H1 locs1 (cells + mc) (slots + ms) Q (F0 m (pc + 3) ls (.float r :: rest))) : W p l e R s m args below meth c H locs cells slots Q (F0 m pc ls st0) := by
  intro T hT X
  rcases hr T hT X with ⟨v, st₀, t, T', L, h0, X', hL, e1, e2, ⟨⟨r, u, hv, hp, hb⟩, hF⟩, st⟩ | ⟨q, st₀, t, T', L, E, ce, h0, X', hL, e1, e2, ⟨u, hp, hb, hF⟩, hce, hcv, hcl, st⟩
  · cases hv
    obtain ⟨k1, k2, k3⟩ := vx_keep h0 e1 hS hA hf hL hF
    obtain ⟨t2, a1, b1⟩ := kk r u t T'.heap (locs ++ L) e1.symm (by rw [← e2]; exact X'.warmed.alike) hp hb k1 k2 k3 T' rfl X'
    exact ⟨t2, st t2 a1, b1⟩
  · obtain ⟨k1, k2, k3⟩ := vx_keep h0 e1 hS hAX hf hL hF
    obtain ⟨t2, a1, b1⟩ := kx E ce q u t T'.heap (locs ++ L) e1.symm (by rw [← e2]; exact X'.warmed.alike) hp hb k1 k2 k3 (by rw [e1]; exact hce) hcv hcl T' rfl X'
    exact ⟨t2, st.trans a1, b1⟩
theorem vx_calld {S SX : Type} {post : UInt64 → S → Prop} {px : SX → Prop} {B : S → State → Prop} {BX : String → SX → State → Prop} {AX : Nat → Prop} (hr : vx_Run p l e R s m args below meth c H locs cells slots mc ms (F0 m pc ls st0) rest (va_Qd post B A1 a) (vx_X px BX AX) free) (hS : va_S A0 H0 H locs) (hA : ∀ q, q < H.size → A1 q → A0 q) (hf : ∀ q, free q → A0 q) (hAX : ∀ q, q < H.size → AX q → A0 q)
    (kx : ∀ (E : String) (ce : Cell) (q9 : Addr) (u : SX) (t : State) (H1 : Heap) (locs1 : List Loc), t.heap = H1 → s.vm.Alike t.vm → px u → BX E u t → H.size ≤ H1.size → (∀ q : Nat, q < H.size → ¬ AX q → H1[q]? = H[q]?) → va_S A0 H0 H1 locs1 → H1[q9]? = some ce → ce.vm = .none → s.vm.findClass E = some ce.cls → vx_W p l e R s m args below meth c H1 locs1 (cells + mc) (slots + ms) Q (F0 m pc ls rest) q9)
    (kk : ∀ (r : UInt64) (u : S) (t : State) (H1 : Heap) (locs1 : List Loc), t.heap = H1 → s.vm.Alike t.vm → post r u → B u t → H.size ≤ H1.size → (∀ q : Nat, q < H.size → ¬ A1 q → H1[q]? = H[q]?) → va_S A0 H0 H1 locs1 → W p l e R s m args below meth c H1 locs1 (cells + mc) (slots + ms) Q (F0 m (pc + 3) ls (.double r :: rest))) : W p l e R s m args below meth c H locs cells slots Q (F0 m pc ls st0) := by
  intro T hT X
  rcases hr T hT X with ⟨v, st₀, t, T', L, h0, X', hL, e1, e2, ⟨⟨r, u, hv, hp, hb⟩, hF⟩, st⟩ | ⟨q, st₀, t, T', L, E, ce, h0, X', hL, e1, e2, ⟨u, hp, hb, hF⟩, hce, hcv, hcl, st⟩
  · cases hv
    obtain ⟨k1, k2, k3⟩ := vx_keep h0 e1 hS hA hf hL hF
    obtain ⟨t2, a1, b1⟩ := kk r u t T'.heap (locs ++ L) e1.symm (by rw [← e2]; exact X'.warmed.alike) hp hb k1 k2 k3 T' rfl X'
    exact ⟨t2, st t2 a1, b1⟩
  · obtain ⟨k1, k2, k3⟩ := vx_keep h0 e1 hS hAX hf hL hF
    obtain ⟨t2, a1, b1⟩ := kx E ce q u t T'.heap (locs ++ L) e1.symm (by rw [← e2]; exact X'.warmed.alike) hp hb k1 k2 k3 (by rw [e1]; exact hce) hcv hcl T' rfl X'
    exact ⟨t2, st.trans a1, b1⟩
theorem vx_callv {S SX : Type} {post : S → Prop} {px : SX → Prop} {B : S → State → Prop} {BX : String → SX → State → Prop} {AX : Nat → Prop} (hr : vx_Run p l e R s m args below meth c H locs cells slots mc ms (F0 m pc ls st0) rest (va_Qv post B A1 a) (vx_X px BX AX) free) (hS : va_S A0 H0 H locs) (hA : ∀ q, q < H.size → A1 q → A0 q) (hf : ∀ q, free q → A0 q) (hAX : ∀ q, q < H.size → AX q → A0 q)
    (kx : ∀ (E : String) (ce : Cell) (q9 : Addr) (u : SX) (t : State) (H1 : Heap) (locs1 : List Loc), t.heap = H1 → s.vm.Alike t.vm → px u → BX E u t → H.size ≤ H1.size → (∀ q : Nat, q < H.size → ¬ AX q → H1[q]? = H[q]?) → va_S A0 H0 H1 locs1 → H1[q9]? = some ce → ce.vm = .none → s.vm.findClass E = some ce.cls → vx_W p l e R s m args below meth c H1 locs1 (cells + mc) (slots + ms) Q (F0 m pc ls rest) q9)
    (kk : ∀ (u : S) (t : State) (H1 : Heap) (locs1 : List Loc), t.heap = H1 → s.vm.Alike t.vm → post u → B u t → H.size ≤ H1.size → (∀ q : Nat, q < H.size → ¬ A1 q → H1[q]? = H[q]?) → va_S A0 H0 H1 locs1 → W p l e R s m args below meth c H1 locs1 (cells + mc) (slots + ms) Q (F0 m (pc + 3) ls (rest))) : W p l e R s m args below meth c H locs cells slots Q (F0 m pc ls st0) := by
  intro T hT X
  rcases hr T hT X with ⟨v, st₀, t, T', L, h0, X', hL, e1, e2, ⟨⟨u, hv, hp, hb⟩, hF⟩, st⟩ | ⟨q, st₀, t, T', L, E, ce, h0, X', hL, e1, e2, ⟨u, hp, hb, hF⟩, hce, hcv, hcl, st⟩
  · cases hv
    obtain ⟨k1, k2, k3⟩ := vx_keep h0 e1 hS hA hf hL hF
    obtain ⟨t2, a1, b1⟩ := kk u t T'.heap (locs ++ L) e1.symm (by rw [← e2]; exact X'.warmed.alike) hp hb k1 k2 k3 T' rfl X'
    exact ⟨t2, st t2 a1, b1⟩
  · obtain ⟨k1, k2, k3⟩ := vx_keep h0 e1 hS hAX hf hL hF
    obtain ⟨t2, a1, b1⟩ := kx E ce q u t T'.heap (locs ++ L) e1.symm (by rw [← e2]; exact X'.warmed.alike) hp hb k1 k2 k3 (by rw [e1]; exact hce) hcv hcl T' rfl X'
    exact ⟨t2, st.trans a1, b1⟩
/-- caught by the row x of this method's table; the rows ahead don't take it -/
theorem vx_catch {own name : String} {E : String} {ce : Cell} {q : Addr} (hown : s.vm.findClass own = some m.cls) (pre : List ExceptionTableEntry) (x : ExceptionTableEntry) (suf : List ExceptionTableEntry) (hsplit : c.exceptionTable.toList = pre ++ x :: suf)
    (hpass : ∀ z ∈ pre, covers z pc = false ∨ (z.catchType ≠ 0 ∧ ∃ nm : String, (Cond.classLink own z.catchType nm).before args s = true ∧ va_Nc E nm s)) (hx : covers x pc = true) (h0 : x.catchType ≠ 0)
    (hlink : (Cond.classLink own x.catchType name).before args s = true) (hcast : (Cond.castable E name).before args s = true) (hcell : H[q]? = some ce) (hv : ce.vm = .none) (hcl : s.vm.findClass E = some ce.cls)
    (kk : W p l e R s m args below meth c H locs cells slots Q (F0 m x.handlerPc ls [.ref q])) : vx_W p l e R s m args below meth c H locs cells slots Q (F0 m pc ls rest) q := by
  intro T hT X
  have hpl : e.platform.magicAccessors = ({} : Platform).magicAccessors := by rw [X.admits.platform]
  obtain ⟨c3, c4, hc3, hc4, hasg⟩ := Cond.castable_spec hcast
  cases Option.some.inj (hc3.symm.trans hcl)
  obtain ⟨c5, hc5, hcl5⟩ := Cond.classLink_spec hown hlink e.platform hpl
  cases Option.some.inj (hc4.symm.trans hc5)
  obtain ⟨vm', X', st⟩ := X.thenCaughtThrough q (g := F0 m pc ls rest) rfl (Steps.refl _) (by rw [hT]; exact hcell) (by rw [hv]; rfl) (by obtain ⟨k9, h9, -⟩ := Vm.findClass_spec hcl; exact ⟨k9, h9⟩) pre x suf hsplit
    (fun z hz => by
      rcases hpass z hz with h | ⟨hz0, nm, hl1, hn1⟩
      · exact Or.inl h
      · obtain ⟨c6, hc6, hcl6⟩ := Cond.classLink_spec hown hl1 e.platform hpl
        obtain ⟨a8, b8, h1, h2, h3⟩ := hn1
        cases Option.some.inj (h1.symm.trans hcl)
        cases Option.some.inj (h2.symm.trans hc6)
        exact Or.inr ⟨hz0, _, hcl6, h3⟩) hx (Or.inr ⟨h0, c4, hcl5, hasg⟩)
  obtain ⟨t, a1, b1⟩ := kk (T.setVm vm') hT X'
  exact ⟨t, st.trans a1, b1⟩
end Rows
section Ends
variable {p : Program} {l : Launch} {e : Env} {R : Room} {s : State} {m : MethodId} {args : Array Value} {below : List Frame} {meth : Method} {c : Code} {H : Heap} {locs : List Loc} {cells slots : Nat} {Q : State → Prop}
variable {mc ms : Nat} {free : Addr → Prop} {A0 A1 : Nat → Prop} {H0 : Heap} {a : Array Value} {ls : Array Slot} {st0 rest : List Value}
variable {Qc : Array Value → State → Outcome → State → Prop} {XC : String → State → State → Prop}
/-- what a body that may throw owes at its end -/
def vx_MQ (below : List Frame) (Qc : Array Value → State → Outcome → State → Prop) (XC : String → State → State → Prop) (a : Array Value) (s : State) (mc ms : Nat) (free : Addr → Prop) : State → Prop := fun t =>
  ∃ o, t.status = .running ∧ Ended t below o ∧ vx_Q Qc XC mc ms free a s o t
theorem vx_ret {g : JFrame} {mc ms : Nat} (k : W p l e R s m args below meth c H locs cells slots (MQ below Qc args s mc ms free) g) : W p l e R s m args below meth c H locs cells slots (vx_MQ below Qc XC args s mc ms free) g := by
  intro T hT X
  obtain ⟨t, a1, o, b1, b2, b3, b4⟩ := k T hT X
  exact ⟨t, a1, o, b1, b2, Or.inl ⟨b3, b4⟩⟩
/-- not caught here: it goes on to the caller -/
theorem vx_widen {g : JFrame} {q : Addr} {k n : Nat} (h1 : cells ≤ k) (h2 : slots ≤ n) (kk : vx_W p l e R s m args below meth c H locs k n Q g q) : vx_W p l e R s m args below meth c H locs cells slots Q g q := fun T hT X => kk T hT (stand_widen X h1 h2)
theorem vx_out {pc : Nat} {E : String} {ce : Cell} {q : Addr} {mc ms : Nat} (hout : ∀ x ∈ c.exceptionTable.toList, covers x pc = false) (hlocks : meth.locks = false) (hcell : H[q]? = some ce) (hv : ce.vm = .none) (hcl : s.vm.findClass E = some ce.cls)
    (hx : ∀ t : State, t.heap = H → s.vm.Alike t.vm → XC E s t) (hf : ∀ z ∈ locs, free z.base) (hc : cells ≤ mc) (hs : slots ≤ ms) :
    vx_W p l e R s m args below meth c H locs cells slots (vx_MQ below Qc XC args s mc ms free) (F0 m pc ls rest) q := by
  intro T hT X
  obtain ⟨st1, hrun, hend, hW, hsm⟩ := X.leaveThrown q (g := F0 m pc ls rest) rfl rfl rfl hout hlocks
  have hcell9 : (T.setFrames (.throwing q :: below)).heap[q]? = some ce := by
    show T.heap[q]? = some ce
    rw [hT]; exact hcell
  exact ⟨_, st1, .threw q, hrun, hend, Or.inr ⟨q, rfl, E, ce, locs, hx _ hT hW.alike, hcell9, hv, hcl, hW, hsm.mono hc hs, hf⟩⟩
theorem vx_frame {U : State} {k n : Nat} (h : s.sameButNew ({ U with vm := s.vm } : State) locs k n) : s.heap.size ≤ U.heap.size ∧ ∀ q : Nat, q < s.heap.size → (∀ z ∈ locs, z.base ≠ q) → U.heap[q]? = s.heap[q]? := by
  obtain ⟨-, h2, -, -, -, h6⟩ := h
  refine ⟨h2, fun q hq hz => ?_⟩
  obtain ⟨c9, e1, e2, e3, e4⟩ := h6 q _ (Array.getElem?_eq_getElem hq)
  have hs : c9.slots = (s.heap[q]).slots := Array.ext_getElem? fun i => e4 i fun hm => hz _ hm rfl
  have h9 : c9 = s.heap[q] := by
    rw [hs] at e2
    exact e2
  have e5 : U.heap[q]? = some c9 := e1
  rw [e5, h9, Array.getElem?_eq_getElem hq]
/-- the words of a throw but the four that speak of the heap -/
def vx_no (w : Cond) : Bool := decide (w ≠ .isRef (.static Bundle.tN "UNASSIGNED_STACK" Bundle.steD)) && decide (w ≠ .isRef (.static Bundle.tN "SUPPRESSED_SENTINEL" Bundle.listD)) && decide (w ≠ .laysStatic Bundle.tN "UNASSIGNED_STACK" Bundle.steD) && decide (w ≠ .laysStatic Bundle.tN "SUPPRESSED_SENTINEL" Bundle.listD)
def vx_at0 (own : String) (ic : Nat) (X : String) (names : List String) : List Cond := (Bundle.ownAtoms0 own ic X names).filter vx_no
def vx_atS (own : String) (ic : Nat) (X : String) (names : List String) : List Cond := (Bundle.ownAtoms own ic X names).filter vx_no
/-- a word that the tables alone decide, or a good one -/
def vx_ot (w : Cond) : Bool := w.onTables || goodWord w
theorem vx_ot_at {args a' : Array Value} {s U : State} {w : Cond} (hW : s.WarmedH U.vm) (hvm : s.vm = U.vm) (hg : vx_ot w = true) (h : w.before args s = true) : w.before a' U = true := by
  simp only [vx_ot, Bool.or_eq_true] at hg
  rcases hg with hg | hg
  · exact va_tabs hg hvm h
  · exact word_at hW (good_of_word hg) h
/-- a list's words: the good ones out of the method's own list, the others by premises of their own -/
theorem vx_hat {args : Array Value} {s : State} {L B : List Cond} (h1 : ∀ w ∈ L.filter goodWord, w.before args s = true) (h2 : ∀ w ∈ L.filter (fun w => !goodWord w), w ∈ B) (h3 : ∀ w ∈ B, w.before args s = true) : ∀ w ∈ L, w.before args s = true := by
  intro w hw
  by_cases g : goodWord w = true
  · exact h1 w (List.mem_filter.mpr ⟨hw, g⟩)
  · refine h3 w (h2 w (List.mem_filter.mpr ⟨hw, ?_⟩))
    show (!goodWord w) = true
    cases hgw : goodWord w
    · rfl
    · exact absurd hgw g
theorem vx_c {args : Array Value} {s : State} {w : Cond} {B : List Cond} (h : w.before args s = true) (t : ∀ w ∈ B, w.before args s = true) : ∀ w' ∈ w :: B, w'.before args s = true := fun w' h' => (List.mem_cons.mp h').elim (fun e => by rw [e]; exact h) (t w')
theorem vx_n {args : Array Value} {s : State} : ∀ w ∈ ([] : List Cond), w.before args s = true := fun _ h => nomatch h
theorem vx_own {args : Array Value} {s : State} {L : List Cond} (h1 : ∀ w ∈ L.filter vx_no, w.before args s = true)
    (hU : (Cond.isRef (.static Bundle.tN "UNASSIGNED_STACK" Bundle.steD)).before args s = true) (hN : (Cond.isRef (.static Bundle.tN "SUPPRESSED_SENTINEL" Bundle.listD)).before args s = true)
    (lU : (Cond.laysStatic Bundle.tN "UNASSIGNED_STACK" Bundle.steD).before args s = true) (lN : (Cond.laysStatic Bundle.tN "SUPPRESSED_SENTINEL" Bundle.listD).before args s = true) : ∀ w ∈ L, w.before args s = true := by
  intro w hw
  by_cases e1 : w = .isRef (.static Bundle.tN "UNASSIGNED_STACK" Bundle.steD)
  · rw [e1]; exact hU
  · by_cases e2 : w = .isRef (.static Bundle.tN "SUPPRESSED_SENTINEL" Bundle.listD)
    · rw [e2]; exact hN
    · by_cases e3 : w = .laysStatic Bundle.tN "UNASSIGNED_STACK" Bundle.steD
      · rw [e3]; exact lU
      · by_cases e4 : w = .laysStatic Bundle.tN "SUPPRESSED_SENTINEL" Bundle.listD
        · rw [e4]; exact lN
        · exact h1 w (List.mem_filter.mpr ⟨hw, by unfold vx_no; rw [decide_eq_true e1, decide_eq_true e2, decide_eq_true e3, decide_eq_true e4]; rfl⟩)
/-- where a static field lies, its class's statics cell in H -/
def vx_L (C n d : String) (A : Nat → Prop) (U : State) (H : Heap) : Prop := ∃ (c : ClassId) (k : Class) (i : Nat) (f : Field) (a : Nat) (cell : Cell), U.vm.findClass C = some c ∧ U.fieldFound? C n d = some (c, k, i, f) ∧ f.isStatic = true ∧ k.statics = some a ∧ H[a]? = some cell ∧ cell.vm.isStatics = true ∧ cell.cls = c ∧ f.slot < cell.slots.size ∧ k.staticTypes[f.slot]? = some f.type ∧ ¬ A a
theorem vx_L.moved {C n d : String} {A : Nat → Prop} {u U : State} {H : Heap} (hvm : u.vm.Alike U.vm) (h : vx_L C n d A u H) : vx_L C n d A U H := by
  obtain ⟨c, k, i, f, a, cell, h1, h2, h3, h4, h5, h6, h7, h8, h9, h10⟩ := h
  obtain ⟨k', hi', he⟩ := State.fieldFound?_setVm hvm h2
  exact ⟨c, k', i, f, a, cell, by rw [hvm.findClass]; exact h1, hi', h3, by rw [he]; exact h4, h5, h6, h7, h8, by rw [he]; exact h9, h10⟩
theorem vx_L.kept {C n d : String} {A : Nat → Prop} {U : State} {H H1 : Heap} (h : vx_L C n d A U H) (hq : ∀ a : Nat, a < H.size → ¬ A a → H1[a]? = H[a]?) : vx_L C n d A U H1 := by
  obtain ⟨c, k, i, f, a, cell, h1, h2, h3, h4, h5, h6, h7, h8, h9, h10⟩ := h
  exact ⟨c, k, i, f, a, cell, h1, h2, h3, h4, by rw [hq a (Array.getElem?_eq_some_iff.mp h5).1 h10]; exact h5, h6, h7, h8, h9, h10⟩
theorem vx_L.narrow {C n d : String} {A B : Nat → Prop} {U : State} {H : Heap} (h : vx_L C n d A U H) (hAB : ∀ q, B q → A q) : vx_L C n d B U H := by
  obtain ⟨c, k, i, f, a, cell, h1, h2, h3, h4, h5, h6, h7, h8, h9, h10⟩ := h
  exact ⟨c, k, i, f, a, cell, h1, h2, h3, h4, h5, h6, h7, h8, h9, fun z => h10 (hAB _ z)⟩
theorem vx_L.word {C n d : String} {A : Nat → Prop} {s : State} {args : Array Value} (h : vx_L C n d A s s.heap) : (Cond.laysStatic C n d).before args s = true := by
  obtain ⟨c, k, i, f, a, cell, h1, h2, h3, h4, h5, h6, h7, h8, h9, -⟩ := h
  show (Cond.laysStatic C n d).holds args s none s [] = true
  exact Cond.laysStatic_of h1 h2 h3 h4 h5 h6 h7 h8 h9
/-- .. and what it holds: null or some reference -/
def vx_Zq (C n d : String) (A : Nat → Prop) (U : State) (H : Heap) : Prop := va_Zq C n d A U H ∧ vx_L C n d A U H
theorem vx_Zq.moved {C n d : String} {A : Nat → Prop} {u U : State} {H : Heap} (hvm : u.vm.Alike U.vm) (h : vx_Zq C n d A u H) : vx_Zq C n d A U H := ⟨va_Zq.moved hvm h.1, vx_L.moved hvm h.2⟩
theorem vx_Zq.kept {C n d : String} {A : Nat → Prop} {U : State} {H H1 : Heap} (h : vx_Zq C n d A U H) (hq : ∀ a : Nat, a < H.size → ¬ A a → H1[a]? = H[a]?) : vx_Zq C n d A U H1 := ⟨va_Zq.kept h.1 hq, vx_L.kept h.2 hq⟩
theorem vx_Zq.narrow {C n d : String} {A B : Nat → Prop} {U : State} {H : Heap} (h : vx_Zq C n d A U H) (hAB : ∀ q, B q → A q) : vx_Zq C n d B U H := ⟨va_Zq.narrow h.1 hAB, vx_L.narrow h.2 hAB⟩
theorem vx_Zqof {args : Array Value} {s : State} {C n d : String} {A : Nat → Prop} (hl : (Cond.laysStatic C n d).before args s = true) (hini : (Cond.initialized C).before args s = true) (h : (Cond.isRef (.static C n d)).before args s = true) (hA : ∀ a : Nat, a < s.heap.size → ¬ A a) : vx_Zq C n d A s s.heap := by
  refine ⟨va_Zqof hl hini h hA, ?_⟩
  obtain ⟨c, k, i, f, a, cell, h1, h2, h3, h4, h5, h6, h7, h8, h9⟩ := Cond.laysStatic_spec hl
  exact ⟨c, k, i, f, a, cell, h1, h2, h3, h4, h5, h6, h7, h8, h9, hA a (Array.getElem?_eq_some_iff.mp h5).1⟩
theorem vx_isRef {C n d : String} {v : Value} {A : Nat → Prop} {s : State} {args : Array Value} (h : va_Z C n d v A s s.heap) (hv : v.isRef = true) : (Cond.isRef (.static C n d)).before args s = true := by
  obtain ⟨cf, kf, fi, f, a, cell, h1, h2, h3, h4, h5, h6, h7, -⟩ := h
  have he : (Term.static C n d).eval args s none [] s = some v := by
    simp [Term.eval, State.fieldNamed?, h1, h2, h4, h5, h6, h7]
  simp only [Cond.before, Cond.holds, Cond.value, he]
  cases v <;> simp_all [Value.isRef]
theorem vx_isRefq {C n d : String} {A : Nat → Prop} {s : State} {args : Array Value} (h : va_Zq C n d A s s.heap) : (Cond.isRef (.static C n d)).before args s = true := by
  rcases h with h | ⟨t, h⟩
  · exact vx_isRef h rfl
  · exact vx_isRef h rfl
/-- the same frame, seen from here: as if the method were called anew in this heap -/
theorem vx_rebase {T : State} (X : Stand p l e R s m args below meth c T locs cells slots) {R' : Room} (hf : R'.frames ≤ R.frames) (hl : R'.locals ≤ R.locals) (hc : cells + R'.cells ≤ R.cells) (hs : slots + R'.slots ≤ R.slots) :
    Stand p l e R' ((T.setVm s.vm).setFrames (.invoking m args :: below)) m args below meth c T [] 0 0 := by
  have htop : (T.setVm s.vm).topJava?.isSome := X.here.top
  have hF : ((T.setVm s.vm).setFrames (.invoking m args :: below)).frames = .invoking m args :: below := State.frames_setFrames _ (State.cur_lt_of_top htop)
  obtain ⟨g₀, hg0⟩ := Option.isSome_iff_exists.mp htop
  obtain ⟨r, hr⟩ := State.topJava?_eq_some.mp hg0
  have hl9 : e.platform.stackLimits (T.setVm s.vm).me = e.platform.stackLimits s.me := X.limits
  have hb9 : (T.setVm s.vm).me.stackBytes = s.me.stackBytes := X.bytes
  refine ⟨X.admits, X.cas, X.clock, hF, ?_, X.hears, X.method, X.code, X.here, X.tail, X.warmed, ?_, ?_, ?_⟩
  · have h := X.room
    have hU : ((T.setVm s.vm).setFrames (.invoking m args :: below)).localsInUse = s.localsInUse := by
      rw [State.localsInUse_invoking hF (meth := meth) (c := c) X.method X.code, State.localsInUse_invoking X.frames X.method X.code]
    simp only [State.hasRoom, Bool.and_eq_true, decide_eq_true_eq] at h ⊢
    obtain ⟨⟨⟨⟨h1, h2, h3, h4, h5, h6⟩, h7⟩, h8⟩, h9⟩ := h
    rw [X.frames, List.length_cons] at h2 h3
    have q1 := X.heapSize
    have q2 := X.used
    simp only [hF, hU, List.length_cons, State.stackLimits_setFrames, State.stackBytes_setFrames, hl9, hb9]
    refine ⟨⟨⟨⟨by omega, by omega, by omega, by omega, by omega, h6⟩, ?_⟩, ?_⟩, X.book⟩
    · show T.heap.size + R'.cells ≤ e.platform.maxCells
      omega
    · show T.slotsUsed + R'.slots ≤ e.platform.maxSlots
      omega
  · rw [State.stackLimits_setFrames]; rfl
  · rw [State.stackBytes_setFrames]; rfl
  · refine ⟨?_, Nat.le_refl _, Nat.le_refl _, ?_, ?_, fun a c9 h9 => ⟨c9, h9, rfl, rfl, fun _ _ => rfl⟩⟩
    · obtain ⟨t, ht, -⟩ := State.frames_cons hr
      show T.setVm s.vm = { ((T.setVm s.vm).setFrames (.invoking m args :: below)).setFrames (T.setVm s.vm).frames with heap := T.heap, slotsUsed := T.slotsUsed }
      rw [State.setFrames_setFrames, State.setFrames_self ht]
      rfl
    · show T.slotsUsed = T.slotsUsed + ((T.heap.toList.drop T.heap.size).map (·.slots.size)).sum
      rw [List.drop_eq_nil_of_le (Nat.le_of_eq Array.length_toList)]
      rfl
    · show ((T.heap.toList.drop T.heap.size).map (·.slots.size)).sum ≤ 0
      rw [List.drop_eq_nil_of_le (Nat.le_of_eq Array.length_toList)]
      exact Nat.le_refl _
/-- 'throw new E()': new; dup; invokespecial; athrow -/
theorem vx_throw0 {cc : ByteArray} {pc : Nat} (hexec : p.tables.exec = Jvm.exec) (hb : c.code = cc) (hl : l.stackTraces = false) {own cls : String} {names : List String} {ik ic mc ms : Nat} {A : Nat → Prop}
    (hown : s.vm.findClass own = some m.cls) (hcls : Bundle.fit cls = true) (hnames : ∀ n ∈ names, Bundle.fit n = true)
    (hk : (Cond.classLink own ik cls).before args s = true) (hini : (Cond.initialized cls).before args s = true) (hat : ∀ w ∈ vx_at0 own ic cls names, w.before args s = true)
    (hgood : ∀ w ∈ Cond.classLink own ik cls :: Cond.initialized cls :: vx_at0 own ic cls names, vx_ot w = true)
    (hU : vx_Zq Bundle.tN "UNASSIGNED_STACK" Bundle.steD A s s.heap) (hN : vx_Zq Bundle.tN "SUPPRESSED_SENTINEL" Bundle.listD A s s.heap) (hS : va_S A s.heap H locs) (hsize : ls.size = c.maxLocals)
    (d0 : decode cc pc = .ok (.new ik, 3)) (d3 : decode cc (pc + 3) = .ok (.dup, 1)) (d4 : decode cc (pc + 4) = .ok (.invokespecial ic, 3)) (d7 : decode cc (pc + 7) = .ok (.athrow, 1))
    (hout : ∀ x ∈ c.exceptionTable.toList, covers x (pc + 7) = false)
    (hRframes : names.length + 3 < R.frames) (hRlocals : (rest.map fun v => v.category).sum + (13 * (names.length + 1) + 42) ≤ R.locals) (hRcells : cells + 1 ≤ R.cells) (hRslots : slots + 6 ≤ R.slots) (hlocks : meth.locks = false)
    (hx : ∀ t : State, s.vm.Alike t.vm → H.size ≤ t.heap.size → (∀ q : Nat, q < H.size → t.heap[q]? = H[q]?) → XC cls s t)
    (hf : ∀ z ∈ locs, free z.base) (hc : cells + 1 ≤ mc) (hs : slots + 6 ≤ ms) :
    W p l e R s m args below meth c H locs cells slots (vx_MQ below Qc XC args s mc ms free) (F0 m pc ls rest) := by
  intro T hT X
  have htr : e.platform.stackTraces = false := (show e.platform.stackTraces = l.stackTraces by rw [X.admits.platform]).trans hl
  have Y := vx_rebase X (R' := { frames := R.frames, locals := R.locals, cells := 1, slots := 6 }) (Nat.le_refl _) (Nat.le_refl _) hRcells hRslots
  obtain ⟨s', hA⟩ : ∃ z, z = (T.setVm s.vm).setFrames (.invoking m args :: below) := ⟨_, rfl⟩
  rw [← hA] at Y
  have hvm : s'.vm = s.vm := by rw [hA]; rfl
  have hhp : s'.heap = H := by rw [hA]; exact hT
  have hW0 : s.WarmedH s'.vm := by rw [hvm]; exact State.WarmedH.refl s
  have hat' : ∀ w ∈ vx_at0 own ic cls names, w.before args s' = true := fun w hw => vx_ot_at hW0 hvm.symm (hgood w (List.mem_cons_of_mem _ (List.mem_cons_of_mem _ hw))) (hat w hw)
  have hk' : (Cond.classLink own ik cls).before args s' = true := vx_ot_at hW0 hvm.symm (hgood _ List.mem_cons_self) hk
  have hini' : (Cond.initialized cls).before args s' = true := vx_ot_at hW0 hvm.symm (hgood _ (List.mem_cons_of_mem _ List.mem_cons_self)) hini
  have hU' : vx_Zq Bundle.tN "UNASSIGNED_STACK" Bundle.steD A s' s'.heap := by rw [hhp]; exact vx_Zq.moved hW0.alike (hU.kept hS.2.1)
  have hN' : vx_Zq Bundle.tN "SUPPRESSED_SENTINEL" Bundle.listD A s' s'.heap := by rw [hhp]; exact vx_Zq.moved hW0.alike (hN.kept hS.2.1)
  have h : ∀ w ∈ Bundle.ownAtoms0 own ic cls names, w.before args s' = true := vx_own hat' (vx_isRefq hU'.1) (vx_isRefq hN'.1) hU'.2.word hN'.2.word
  have hown' : s'.vm.findClass own = some m.cls := by rw [hvm]; exact hown
  have hins : (Cond.instantiable cls 6).before args s' = true := h _ (by simp [Bundle.ownAtoms0])
  obtain ⟨vm₁, cX, kX, hfX, hkX, -, -, X₁, st1⟩ := Y.newCold hexec (own := own) (C := cls) (index := ik) (n := 6) hown' hk' hins hini'
    (g := F0 m pc ls rest) rfl (by rw [hb]; exact d0) (Nat.le_refl _) (Nat.le_refl _)
  generalize hT1 : (T.setVm vm₁).pushCell { cls := cX, slots := kX.instanceTypes.map defaultValue, vm := .none } = T1 at X₁ st1
  have hcat : (Value.ref T.heap.size).category = 1 := rfl
  have hcellA : T1.heap[T.heap.size]? = some (freshCell cX kX) := by rw [← hT1]; exact State.heap_pushCell_size _ _
  have d3' : decode c.code (pc + 3) = .ok (.dup, 1) := by rw [hb]; exact d3
  obtain ⟨U, hsteps, hrun, hend, hW, hsame, ce, hce, hO⟩ := X₁.ctorThrow0 hexec htr (own := own) (cls := cls) (names := names) (ic := ic) hown' hcls hnames h (fun x hx => nomatch hx) hfX hkX hcellA (by rw [hhp, hT]; exact Nat.le_refl _)
    (g := { method := m, pc := pc + 4, locals := ls, stack := .ref T.heap.size :: .ref T.heap.size :: rest, locked := none }) rfl hsize rfl rfl (rest := rest) rfl
    (by rw [hb]; exact d4) (by rw [hb]; exact d7) hout hRframes (by simp only [List.map_cons, List.sum_cons, hcat]; omega) hlocks
  obtain ⟨f1, f2⟩ := vx_frame hsame
  rw [hhp] at f1 f2
  have hWs : s.WarmedH U.vm := State.WarmedH.trans hW0 hW
  have hcl : s.vm.findClass cls = some ce.cls := by
    have h9 := hO.cls
    rw [hvm] at h9
    exact h9
  have hall : s.sameButNew ({ U with vm := s.vm } : State) locs mc ms := by
    subst hA
    obtain ⟨e1, e2⟩ := hsame
    rw [State.setFrames_setFrames] at e1
    have h2 : (T.setVm s.vm).sameButNew ({ U with vm := s.vm } : State) [] (0 + 1) (0 + 6) := ⟨e1, e2⟩
    have h3 := X.same.trans h2
    rw [List.append_nil] at h3
    exact h3.mono hc hs
  refine ⟨U, ?_, .threw T.heap.size, hrun, hend, Or.inr ⟨T.heap.size, rfl, cls, ce, locs, hx U hWs.alike f1 (fun q hq => f2 q hq (fun z hz => nomatch hz)), hce, hO.vm, hcl, hWs, hall, hf⟩⟩
  refine st1 _ ?_
  show Steps p.tables e below (T1.setTop { method := m, pc := pc + 3, locals := ls, stack := .ref T.heap.size :: rest, locked := none }) _
  jvm_step X₁.here [X₁.here.top, hexec, d3', Value.category]
  exact hsteps
/-- 'throw new E("text")': new; dup; ldc; invokespecial; athrow -/
theorem vx_throwS {cc : ByteArray} {pc : Nat} (hexec : p.tables.exec = Jvm.exec) (hb : c.code = cc) (hl : l.stackTraces = false) {own cls text : String} {names : List String} {ik is ic mc ms sa : Nat} {A : Nat → Prop}
    (hown : s.vm.findClass own = some m.cls) (hcls : Bundle.fit cls = true) (hnames : ∀ n ∈ names, Bundle.fit n = true)
    (hk : (Cond.classLink own ik cls).before args s = true) (hini : (Cond.initialized cls).before args s = true) (hstr : vk_R own is text sa s) (hat : ∀ w ∈ vx_atS own ic cls names, w.before args s = true)
    (hgood : ∀ w ∈ Cond.classLink own ik cls :: Cond.initialized cls :: vx_atS own ic cls names, vx_ot w = true)
    (hU : vx_Zq Bundle.tN "UNASSIGNED_STACK" Bundle.steD A s s.heap) (hN : vx_Zq Bundle.tN "SUPPRESSED_SENTINEL" Bundle.listD A s s.heap) (hS : va_S A s.heap H locs) (hsize : ls.size = c.maxLocals)
    (d0 : decode cc pc = .ok (.new ik, 3)) (d3 : decode cc (pc + 3) = .ok (.dup, 1)) (d4 : decode cc (pc + 4) = .ok (.ldc is, 2)) (d6 : decode cc (pc + 6) = .ok (.invokespecial ic, 3)) (d9 : decode cc (pc + 9) = .ok (.athrow, 1))
    (hout : ∀ x ∈ c.exceptionTable.toList, covers x (pc + 9) = false)
    (hRframes : names.length + 3 < R.frames) (hRlocals : (rest.map fun v => v.category).sum + (13 * (names.length + 1) + 43) ≤ R.locals) (hRcells : cells + 1 ≤ R.cells) (hRslots : slots + 6 ≤ R.slots) (hlocks : meth.locks = false)
    (hx : ∀ t : State, s.vm.Alike t.vm → H.size ≤ t.heap.size → (∀ q : Nat, q < H.size → t.heap[q]? = H[q]?) → XC cls s t)
    (hf : ∀ z ∈ locs, free z.base) (hc : cells + 1 ≤ mc) (hs : slots + 6 ≤ ms) :
    W p l e R s m args below meth c H locs cells slots (vx_MQ below Qc XC args s mc ms free) (F0 m pc ls rest) := by
  intro T hT X
  have htr : e.platform.stackTraces = false := (show e.platform.stackTraces = l.stackTraces by rw [X.admits.platform]).trans hl
  have Y := vx_rebase X (R' := { frames := R.frames, locals := R.locals, cells := 1, slots := 6 }) (Nat.le_refl _) (Nat.le_refl _) hRcells hRslots
  obtain ⟨s', hA⟩ : ∃ z, z = (T.setVm s.vm).setFrames (.invoking m args :: below) := ⟨_, rfl⟩
  rw [← hA] at Y
  have hvm : s'.vm = s.vm := by rw [hA]; rfl
  have hhp : s'.heap = H := by rw [hA]; exact hT
  have hW0 : s.WarmedH s'.vm := by rw [hvm]; exact State.WarmedH.refl s
  have hat' : ∀ w ∈ vx_atS own ic cls names, w.before args s' = true := fun w hw => vx_ot_at hW0 hvm.symm (hgood w (List.mem_cons_of_mem _ (List.mem_cons_of_mem _ hw))) (hat w hw)
  have hk' : (Cond.classLink own ik cls).before args s' = true := vx_ot_at hW0 hvm.symm (hgood _ List.mem_cons_self) hk
  have hini' : (Cond.initialized cls).before args s' = true := vx_ot_at hW0 hvm.symm (hgood _ (List.mem_cons_of_mem _ List.mem_cons_self)) hini
  have hU' : vx_Zq Bundle.tN "UNASSIGNED_STACK" Bundle.steD A s' s'.heap := by rw [hhp]; exact vx_Zq.moved hW0.alike (hU.kept hS.2.1)
  have hN' : vx_Zq Bundle.tN "SUPPRESSED_SENTINEL" Bundle.listD A s' s'.heap := by rw [hhp]; exact vx_Zq.moved hW0.alike (hN.kept hS.2.1)
  have h : ∀ w ∈ Bundle.ownAtoms own ic cls names, w.before args s' = true := vx_own hat' (vx_isRefq hU'.1) (vx_isRefq hN'.1) hU'.2.word hN'.2.word
  have hown' : s'.vm.findClass own = some m.cls := by rw [hvm]; exact hown
  have hins : (Cond.instantiable cls 6).before args s' = true := h _ (by simp [Bundle.ownAtoms])
  obtain ⟨vm₁, cX, kX, hfX, hkX, -, -, X₁, st1⟩ := Y.newCold hexec (own := own) (C := cls) (index := ik) (n := 6) hown' hk' hins hini'
    (g := F0 m pc ls rest) rfl (by rw [hb]; exact d0) (Nat.le_refl _) (Nat.le_refl _)
  generalize hT1 : (T.setVm vm₁).pushCell { cls := cX, slots := kX.instanceTypes.map defaultValue, vm := .none } = T1 at X₁ st1
  have hcat : (Value.ref T.heap.size).category = 1 := rfl
  have hcellA : T1.heap[T.heap.size]? = some (freshCell cX kX) := by rw [← hT1]; exact State.heap_pushCell_size _ _
  have d3' : decode c.code (pc + 3) = .ok (.dup, 1) := by rw [hb]; exact d3
  have d4' : decode c.code (pc + 4) = .ok (.ldc is, 2) := by rw [hb]; exact d4
  have hstr' : vk_R own is text sa s' := vk_R.warm hW0 hstr
  obtain ⟨U, hsteps, hrun, hend, hW, hsame, ce, hce, hO⟩ := X₁.ctorThrowS hexec htr (own := own) (cls := cls) (names := names) (ic := ic) hown' hcls hnames h (fun x hx => nomatch hx) hfX hkX hcellA (by rw [hhp, hT]; exact Nat.le_refl _) (msg := .ref sa) rfl
    (g := { method := m, pc := pc + 6, locals := ls, stack := .ref sa :: .ref T.heap.size :: .ref T.heap.size :: rest, locked := none }) rfl hsize rfl rfl (rest := rest) rfl
    (by rw [hb]; exact d6) (by rw [hb]; exact d9) hout hRframes (by simp only [List.map_cons, List.sum_cons, hcat]; omega) hlocks
  obtain ⟨f1, f2⟩ := vx_frame hsame
  rw [hhp] at f1 f2
  have hWs : s.WarmedH U.vm := State.WarmedH.trans hW0 hW
  have hcl : s.vm.findClass cls = some ce.cls := by
    have h9 := hO.cls
    rw [hvm] at h9
    exact h9
  have hall : s.sameButNew ({ U with vm := s.vm } : State) locs mc ms := by
    subst hA
    obtain ⟨e1, e2⟩ := hsame
    rw [State.setFrames_setFrames] at e1
    have h2 : (T.setVm s.vm).sameButNew ({ U with vm := s.vm } : State) [] (0 + 1) (0 + 6) := ⟨e1, e2⟩
    have h3 := X.same.trans h2
    rw [List.append_nil] at h3
    exact h3.mono hc hs
  refine ⟨U, ?_, .threw T.heap.size, hrun, hend, Or.inr ⟨T.heap.size, rfl, cls, ce, locs, hx U hWs.alike f1 (fun q hq => f2 q hq (fun z hz => nomatch hz)), hce, hO.vm, hcl, hWs, hall, hf⟩⟩
  refine st1 _ ?_
  show Steps p.tables e below (T1.setTop { method := m, pc := pc + 3, locals := ls, stack := .ref T.heap.size :: rest, locked := none }) _
  jvm_step X₁.here [X₁.here.top, hexec, d3', Value.category]
  exact X₁.ldcString hexec (own := own) (text := text) (index := is) (a := sa) hown' hstr'.1 hstr'.2
    (g := { method := m, pc := pc + 4, locals := ls, stack := .ref T.heap.size :: .ref T.heap.size :: rest, locked := none }) rfl d4' _ hsteps
/-- 'throw new E("text")', the text by a wide index -/
theorem vx_throwSW {cc : ByteArray} {pc : Nat} (hexec : p.tables.exec = Jvm.exec) (hb : c.code = cc) (hl : l.stackTraces = false) {own cls text : String} {names : List String} {ik is ic mc ms sa : Nat} {A : Nat → Prop}
    (hown : s.vm.findClass own = some m.cls) (hcls : Bundle.fit cls = true) (hnames : ∀ n ∈ names, Bundle.fit n = true)
    (hk : (Cond.classLink own ik cls).before args s = true) (hini : (Cond.initialized cls).before args s = true) (hstr : vk_R own is text sa s) (hat : ∀ w ∈ vx_atS own ic cls names, w.before args s = true)
    (hgood : ∀ w ∈ Cond.classLink own ik cls :: Cond.initialized cls :: vx_atS own ic cls names, vx_ot w = true)
    (hU : vx_Zq Bundle.tN "UNASSIGNED_STACK" Bundle.steD A s s.heap) (hN : vx_Zq Bundle.tN "SUPPRESSED_SENTINEL" Bundle.listD A s s.heap) (hS : va_S A s.heap H locs) (hsize : ls.size = c.maxLocals)
    (d0 : decode cc pc = .ok (.new ik, 3)) (d3 : decode cc (pc + 3) = .ok (.dup, 1)) (d4 : decode cc (pc + 4) = .ok (.ldc_w is, 3)) (d7 : decode cc (pc + 7) = .ok (.invokespecial ic, 3)) (d10 : decode cc (pc + 10) = .ok (.athrow, 1))
    (hout : ∀ x ∈ c.exceptionTable.toList, covers x (pc + 10) = false)
    (hRframes : names.length + 3 < R.frames) (hRlocals : (rest.map fun v => v.category).sum + (13 * (names.length + 1) + 43) ≤ R.locals) (hRcells : cells + 1 ≤ R.cells) (hRslots : slots + 6 ≤ R.slots) (hlocks : meth.locks = false)
    (hx : ∀ t : State, s.vm.Alike t.vm → H.size ≤ t.heap.size → (∀ q : Nat, q < H.size → t.heap[q]? = H[q]?) → XC cls s t)
    (hf : ∀ z ∈ locs, free z.base) (hc : cells + 1 ≤ mc) (hs : slots + 6 ≤ ms) :
    W p l e R s m args below meth c H locs cells slots (vx_MQ below Qc XC args s mc ms free) (F0 m pc ls rest) := by
  intro T hT X
  have htr : e.platform.stackTraces = false := (show e.platform.stackTraces = l.stackTraces by rw [X.admits.platform]).trans hl
  have Y := vx_rebase X (R' := { frames := R.frames, locals := R.locals, cells := 1, slots := 6 }) (Nat.le_refl _) (Nat.le_refl _) hRcells hRslots
  obtain ⟨s', hA⟩ : ∃ z, z = (T.setVm s.vm).setFrames (.invoking m args :: below) := ⟨_, rfl⟩
  rw [← hA] at Y
  have hvm : s'.vm = s.vm := by rw [hA]; rfl
  have hhp : s'.heap = H := by rw [hA]; exact hT
  have hW0 : s.WarmedH s'.vm := by rw [hvm]; exact State.WarmedH.refl s
  have hat' : ∀ w ∈ vx_atS own ic cls names, w.before args s' = true := fun w hw => vx_ot_at hW0 hvm.symm (hgood w (List.mem_cons_of_mem _ (List.mem_cons_of_mem _ hw))) (hat w hw)
  have hk' : (Cond.classLink own ik cls).before args s' = true := vx_ot_at hW0 hvm.symm (hgood _ List.mem_cons_self) hk
  have hini' : (Cond.initialized cls).before args s' = true := vx_ot_at hW0 hvm.symm (hgood _ (List.mem_cons_of_mem _ List.mem_cons_self)) hini
  have hU' : vx_Zq Bundle.tN "UNASSIGNED_STACK" Bundle.steD A s' s'.heap := by rw [hhp]; exact vx_Zq.moved hW0.alike (hU.kept hS.2.1)
  have hN' : vx_Zq Bundle.tN "SUPPRESSED_SENTINEL" Bundle.listD A s' s'.heap := by rw [hhp]; exact vx_Zq.moved hW0.alike (hN.kept hS.2.1)
  have h : ∀ w ∈ Bundle.ownAtoms own ic cls names, w.before args s' = true := vx_own hat' (vx_isRefq hU'.1) (vx_isRefq hN'.1) hU'.2.word hN'.2.word
  have hown' : s'.vm.findClass own = some m.cls := by rw [hvm]; exact hown
  have hins : (Cond.instantiable cls 6).before args s' = true := h _ (by simp [Bundle.ownAtoms])
  obtain ⟨vm₁, cX, kX, hfX, hkX, -, -, X₁, st1⟩ := Y.newCold hexec (own := own) (C := cls) (index := ik) (n := 6) hown' hk' hins hini'
    (g := F0 m pc ls rest) rfl (by rw [hb]; exact d0) (Nat.le_refl _) (Nat.le_refl _)
  generalize hT1 : (T.setVm vm₁).pushCell { cls := cX, slots := kX.instanceTypes.map defaultValue, vm := .none } = T1 at X₁ st1
  have hcat : (Value.ref T.heap.size).category = 1 := rfl
  have hcellA : T1.heap[T.heap.size]? = some (freshCell cX kX) := by rw [← hT1]; exact State.heap_pushCell_size _ _
  have d3' : decode c.code (pc + 3) = .ok (.dup, 1) := by rw [hb]; exact d3
  have d4' : decode c.code (pc + 4) = .ok (.ldc_w is, 3) := by rw [hb]; exact d4
  have hstr' : vk_R own is text sa s' := vk_R.warm hW0 hstr
  obtain ⟨U, hsteps, hrun, hend, hW, hsame, ce, hce, hO⟩ := X₁.ctorThrowS hexec htr (own := own) (cls := cls) (names := names) (ic := ic) hown' hcls hnames h (fun x hx => nomatch hx) hfX hkX hcellA (by rw [hhp, hT]; exact Nat.le_refl _) (msg := .ref sa) rfl
    (g := { method := m, pc := pc + 7, locals := ls, stack := .ref sa :: .ref T.heap.size :: .ref T.heap.size :: rest, locked := none }) rfl hsize rfl rfl (rest := rest) rfl
    (by rw [hb]; exact d7) (by rw [hb]; exact d10) hout hRframes (by simp only [List.map_cons, List.sum_cons, hcat]; omega) hlocks
  obtain ⟨f1, f2⟩ := vx_frame hsame
  rw [hhp] at f1 f2
  have hWs : s.WarmedH U.vm := State.WarmedH.trans hW0 hW
  have hcl : s.vm.findClass cls = some ce.cls := by
    have h9 := hO.cls
    rw [hvm] at h9
    exact h9
  have hall : s.sameButNew ({ U with vm := s.vm } : State) locs mc ms := by
    subst hA
    obtain ⟨e1, e2⟩ := hsame
    rw [State.setFrames_setFrames] at e1
    have h2 : (T.setVm s.vm).sameButNew ({ U with vm := s.vm } : State) [] (0 + 1) (0 + 6) := ⟨e1, e2⟩
    have h3 := X.same.trans h2
    rw [List.append_nil] at h3
    exact h3.mono hc hs
  refine ⟨U, ?_, .threw T.heap.size, hrun, hend, Or.inr ⟨T.heap.size, rfl, cls, ce, locs, hx U hWs.alike f1 (fun q hq => f2 q hq (fun z hz => nomatch hz)), hce, hO.vm, hcl, hWs, hall, hf⟩⟩
  refine st1 _ ?_
  show Steps p.tables e below (T1.setTop { method := m, pc := pc + 3, locals := ls, stack := .ref T.heap.size :: rest, locked := none }) _
  jvm_step X₁.here [X₁.here.top, hexec, d3', Value.category]
  exact X₁.ldcStringW hexec (own := own) (text := text) (index := is) (a := sa) hown' hstr'.1 hstr'.2
    (g := { method := m, pc := pc + 4, locals := ls, stack := .ref T.heap.size :: .ref T.heap.size :: rest, locked := none }) rfl d4' _ hsteps
end Ends
section Bodies
variable {l : Launch}
theorem vx_ofW {y : MethodName} {ws ws' : List Cond} {rm : Room} {Pc : Array Value → State → Prop} {Qc : Array Value → State → Outcome → State → Prop} {XC : String → State → State → Prop} {mc ms : Nat} {free : Addr → Prop} {cc : ByteArray} {maxL : Nat} {ret : Option FieldType}
    (hy : plainName y.cls = true) (hw : ws = Cond.code y cc maxL ret :: ws')
    (body : ∀ p e s m args below meth c s₁, BodyLoose p l y (headSpec ws rm) cc maxL ret e s m args below meth c s₁ → c.maxLocals = maxL → (∀ x ∈ c.exceptionTable.toList, False) → Pc args s →
      W p l e (headSpec ws rm).room s m args below meth c s.heap [] 0 0 (vx_MQ below Qc XC args s mc ms free) (entryFrame m args maxL)) : vx_Met l y ws rm Pc Qc XC mc ms free := by
  refine MetFree.of_bodyS (code := cc) (maxLocals := maxL) (ret := ret) hy ?_ ?_
  · intro args s m h hn
    obtain ⟨meth, c, h1, h2, h3, h4, h5, h6, -, -⟩ := Cond.code_spec hn (atoms_spec (ws := ws) h _ (by rw [hw]; exact List.mem_cons_self))
    exact ⟨meth, c, h1, h2, h3, h4, h5, h6⟩
  · intro p e s m args below meth c s₁ B hml hP _
    have hh0 : s₁.heap = s.heap := by rw [B.state]; rfl
    have ht : ∀ x ∈ c.exceptionTable.toList, False := by
      obtain ⟨meth9, c9, h1, h2, -, -, -, -, h7, -⟩ := Cond.code_spec B.named (atoms_spec (ws := ws) B.pre _ (by rw [hw]; exact List.mem_cons_self))
      cases Option.some.inj (h1.symm.trans B.method)
      cases Option.some.inj (h2.symm.trans (Stand.of_body B).code)
      intro x hx
      rw [Array.isEmpty_iff.mp h7] at hx
      cases hx
    obtain ⟨t, a1, o, b1, b2, b3⟩ := body p e s m args below meth c s₁ B hml ht hP s₁ hh0 (Stand.of_body B)
    exact ⟨t, o, a1, b1, b2, b3⟩
/-- the table of a body with handlers -/
theorem vx_table {p : Program} {x y : MethodName} {S : Spec} {cc bytes : ByteArray} {maxL maxL' : Nat} {ret ret' : Option FieldType} {e : Env} {s s₁ : State} {m : MethodId} {args : Array Value} {below : List Frame} {meth : Method} {c : Code} {hh : List (Nat × Nat × Nat × Nat)}
    (B : BodyLoose p l y S cc maxL ret e s m args below meth c s₁) (h : (Cond.codeWith y bytes maxL' ret' hh).before args s = true) : c.exceptionTable.toList = tableOf hh := by
  obtain ⟨m9, meth9, c9, hn9, h1, h2, -, -, h6, -⟩ := Cond.codeWith_spec h
  cases Option.some.inj (hn9.symm.trans B.named)
  cases Option.some.inj (h1.symm.trans B.method)
  cases Option.some.inj (h2.symm.trans (Stand.of_body B).code)
  rw [← h6, table_eq]
end Bodies
end VXA
/-! ===== END ===== -/
/-! ===== BEGIN a static call of a method with an exception table ===== -/
section VXS
variable {p : Program} {l : Launch} {e : Env} {R : Room} {s : State} {m : MethodId} {args : Array Value} {below : List Frame} {meth : Method} {c : Code} {T : State} {H : Heap} {locs : List Loc} {cells slots : Nat}
abbrev vx_CSW (R : Room) (s : State) (args : Array Value) (own : String) (index : Nat) (y : MethodName) (bytes : ByteArray) (maxL : Nat) (ret : Option FieldType) (hh : List (Nat × Nat × Nat × Nat)) (ws : List Cond) (rm : Room) (mc ms n : Nat) : Prop :=
  (rm.cells = mc ∧ rm.slots = ms ∧ rm.frames + 1 ≤ R.frames ∧ 8 + (maxL + 11) + rm.locals ≤ R.locals ∧ (∀ w ∈ ws, ∀ (a' : Array Value) (U : State), s.WarmedH U.vm → w.before a' U = true) ∧ Cond.codeWith y bytes maxL ret hh ∈ ws) ∧
  (Cond.codeWith y bytes maxL ret hh).before args s = true ∧ (Cond.initialized y.cls).before args s = true ∧ (y.cls ≠ "java/lang/invoke/MethodHandle" ∧ y.cls ≠ "java/lang/invoke/VarHandle") ∧
  (∀ sig, parseMethodDescriptor y.desc = some sig → n = sig.parameters.length) ∧ (Cond.methodLink own index y).before args s = true ∧ (Cond.static y).before args s = true
theorem vx_cwSW {own : String} {index maxL mc ms : Nat} {y : MethodName} {bytes : ByteArray} {ret : Option FieldType} {hh : List (Nat × Nat × Nat × Nat)} {Ts ws ws' : List Cond} {rm : Room} (n : Nat) (ht : ∀ w ∈ Ts, w.before args s = true) (hT : GoodIn Ts (va_wsS own index y ws)) (hw : ws = Cond.codeWith y bytes maxL ret hh :: ws') (hrc : rm.cells = mc) (hrs : rm.slots = ms)
    (hd : y.cls ≠ "java/lang/invoke/MethodHandle" ∧ y.cls ≠ "java/lang/invoke/VarHandle" ∧ (parseMethodDescriptor y.desc).map (fun d => d.parameters.length) = some n) (hR : rm.frames + 1 ≤ R.frames ∧ 8 + (maxL + 11) + rm.locals ≤ R.locals) :
    vx_CSW R s args own index y bytes maxL ret hh ws rm mc ms n := by
  have ok : ∀ w ∈ va_wsS own index y ws, w.before args s = true := fun w h => ht w (hT w h).1
  have hG : GoodIn Ts ws := fun w h => hT w (by unfold va_wsS; exact List.mem_append_right _ h)
  have hc : Cond.codeWith y bytes maxL ret hh ∈ ws := by rw [hw]; exact List.mem_cons_self
  refine ⟨⟨hrc, hrs, hR.1, hR.2, pay_in ht hG, hc⟩, ht _ (hG _ hc).1, ok _ (by simp [va_wsS]), ⟨hd.1, hd.2.1⟩, fun sig h => ?_, ok _ (by simp [va_wsS]), ok _ (by simp [va_wsS])⟩
  have h2 := hd.2.2
  rw [h] at h2
  exact (Option.some.inj h2).symm
theorem vx_callSW (X : Stand p l e R s m args below meth c T locs cells slots) (hexec : p.tables.exec = Jvm.exec) {own : String} {index : Nat} {y : MethodName} {bytes : ByteArray} {maxL : Nat} {ret : Option FieldType} {hh : List (Nat × Nat × Nat × Nat)}
    (hown : s.vm.findClass own = some m.cls) (hlink : (Cond.methodLink own index y).before args s = true) (hstat : (Cond.static y).before args s = true) (hinit : (Cond.initialized y.cls).before args s = true)
    (hcode : (Cond.codeWith y bytes maxL ret hh).before args s = true) (hy : y.cls ≠ "java/lang/invoke/MethodHandle" ∧ y.cls ≠ "java/lang/invoke/VarHandle")
    {W9 : Nat} {Pre : Pt → Array Value → Prop} {Post : Pt → Array Value → Option Value → Pt → Prop} (hK : Back l R p e below s args y 3 W9 Pre Post)
    {g : JFrame} (hg : g.method = m) (hsize : g.locals.size = c.maxLocals) {argsL rest : List Value} (hlen : ∀ sig, parseMethodDescriptor y.desc = some sig → argsL.length = sig.parameters.length)
    (hstack : g.stack = argsL.reverse ++ rest) (hW : 2 * g.monitorRoom + (rest.map fun v => v.category).sum ≤ W9) (hdg : decode c.code g.pc = .ok (.invokestatic index, 3))
    (hpre : ∀ vm₁, s.WarmedH vm₁ → Pre ⟨T.setVm vm₁, locs, cells, slots⟩ argsL.toArray) :
    ∃ (v : Option Value) (vm₁ : Vm) (B : Pt), s.WarmedH vm₁ ∧ Stand p l e R s m args below meth c B.U B.locs B.cells B.slots ∧ Post ⟨T.setVm vm₁, locs, cells, slots⟩ argsL.toArray v B ∧
      ∀ target, Steps p.tables e below (B.U.setTop { g with pc := g.pc + 3, stack := v.toList ++ rest }) target → Steps p.tables e below (T.setTop g) target := by
  obtain ⟨mk, methM, cM, hnamed, hmethM, -, -, -, -, -, -, hsigM⟩ := Cond.codeWith_spec hcode
  have hstatic : methM.isStatic = true := Cond.static_spec hnamed hmethM hstat
  obtain ⟨kP, hkP, -⟩ := className_of_methodNamed hnamed
  have hinitP : kP.init = .initialized := Cond.initialized_spec (findClass_of_methodNamed hnamed) hkP hinit
  obtain ⟨vm₁, X₁, hstep₁⟩ := X.invokestatic hexec hown hlink hnamed hmethM hstatic hkP hinitP hy (g := g) hg (argsL := argsL) (rest := rest) (hlen _ hsigM) hstack hdg
  obtain ⟨v, B, X', hpost, hsteps⟩ := hK m meth c ⟨T.setVm vm₁, locs, cells, slots⟩ { g with stack := rest } (.invokestatic index) mk argsL.toArray X₁ hg hsize hdg hW (X₁.named hnamed) (hpre vm₁ X₁.warmed)
  exact ⟨v, vm₁, B, X₁.warmed, X', hpost, fun target h => hstep₁ _ fun acts => by rw [doInvoke_state]; exact hsteps.trans h⟩
theorem vx_runSW {y : MethodName} {bytes cc : ByteArray} {maxL nL mc ms n index : Nat} {ret : Option FieldType} {hh : List (Nat × Nat × Nat × Nat)} {ws : List Cond} {rm : Room} {Pc : Array Value → State → Prop} {Qc : Array Value → State → Outcome → State → Prop} {free : Addr → Prop} {Ts : List Cond} {own : String} {As rest : List Value} {g : JFrame}
    (S : CallFix p m c cc nL s args Ts own) (hM : Met l y ws rm Pc Qc mc ms free) (cw : vx_CSW R s args own index y bytes maxL ret hh ws rm mc ms n) (hp : PreS s H Pc As)
    (hg : g.method = m) (hn : As.length = n) (hsize : g.locals.size = nL) (hstack : g.stack = As.reverse ++ rest) (hW : 2 * g.monitorRoom + (rest.map fun v => v.category).sum ≤ 8) (hdg : decode cc g.pc = .ok (.invokestatic index, 3)) (hf : cells + mc ≤ R.cells ∧ slots + ms ≤ R.slots) :
    va_Run p l e R s m args below meth c H locs cells slots mc ms g rest (Qc As.toArray) (free) := by
  obtain ⟨⟨hrc, hrs, hfr, hlo, hws, hcw⟩, hcode, hini, hy, hlen, hl, hstt⟩ := cw
  have hK : Back l R p e below s args y 3 8 (PreOf R mc ms Pc) (PostOf Qc mc ms free) := va_backW (hh := hh) (bytes := bytes) (maxL := maxL) (ret := ret) hM hp.1 hrc hrs hfr hlo hws hcw (fun a' U hW => word_at hW (Or.inl (by first | rfl | simp [Cond.onTables, Cond.keeps, Cond.steady])) hini)
  obtain ⟨hx, hb, hml, ho, -⟩ := S
  intro T hT X
  obtain ⟨v, vm₁, ⟨U', l2, c2, s2⟩, hW₁, X', ⟨g', mk, t, L, e1, e2, hq, h1, hL, h2, h3⟩, st⟩ := vx_callSW X hx (hh := hh) (bytes := bytes) (maxL := maxL) (ret := ret) ho hl hstt hini hcode hy hK hg (hsize.trans hml.symm) (argsL := As) (rest := rest) (fun sig h => hn.trans (hlen sig h)) hstack hW (by rw [hb]; exact hdg)
    (fun vm₁ hW₁ => ⟨hf.1, hf.2, hp.2 (T.setVm vm₁) hT hW₁⟩)
  dsimp only [Pt.U, Pt.locs, Pt.cells, Pt.slots] at X' e1 e2 h1 h2 h3 st
  subst h1; subst h2; subst h3
  exact ⟨v, (T.setVm vm₁).calling g' mk As.toArray, t, U', L, hT, X', hL, e1, e2, hq, st⟩
/-- not caught here, past rows that name other classes: it goes on to the caller -/
theorem vx_outP {p : Program} {l : Launch} {e : Env} {R : Room} {s : State} {m : MethodId} {args : Array Value} {below : List Frame} {meth : Method} {c : Code} {H : Heap} {locs : List Loc} {cells slots : Nat} {free : Addr → Prop} {ls : Array Slot} {rest : List Value} {Qc : Array Value → State → Outcome → State → Prop} {XC : String → State → State → Prop}
    {pc : Nat} {own E : String} {ce : Cell} {q : Addr} {mc ms : Nat} (hown : s.vm.findClass own = some m.cls) (hlocks : meth.locks = false)
    (hpass : ∀ z ∈ c.exceptionTable.toList, covers z pc = false ∨ (z.catchType ≠ 0 ∧ ∃ nm : String, (Cond.classLink own z.catchType nm).before args s = true ∧ va_Nc E nm s)) (hcell : H[q]? = some ce) (hv : ce.vm = .none) (hcl : s.vm.findClass E = some ce.cls)
    (hx : ∀ t : State, t.heap = H → s.vm.Alike t.vm → XC E s t) (hf : ∀ z ∈ locs, free z.base) (hc : cells ≤ mc) (hs : slots ≤ ms) :
    vx_W p l e R s m args below meth c H locs cells slots (vx_MQ below Qc XC args s mc ms free) (F0 m pc ls rest) q := by
  intro T hT X
  have hpl : e.platform.magicAccessors = ({} : Platform).magicAccessors := by rw [X.admits.platform]
  obtain ⟨vm', hW', X', st⟩ := X.outThrough hlocks q (g := F0 m pc ls rest) rfl rfl rfl (cell := ce) (by rw [hT]; exact hcell) (by rw [hv]; rfl)
    (by obtain ⟨k9, h9, -⟩ := Vm.findClass_spec hcl; exact ⟨k9, h9⟩) (fun z hz => by
      rcases hpass z hz with h | ⟨hz0, nm, hl1, hn1⟩
      · exact Or.inl h
      · obtain ⟨c6, hc6, hcl6⟩ := Cond.classLink_spec hown hl1 e.platform hpl
        obtain ⟨a8, b8, h1, h2, h3⟩ := hn1
        cases Option.some.inj (h1.symm.trans hcl)
        cases Option.some.inj (h2.symm.trans hc6)
        exact Or.inr ⟨hz0, _, hcl6, h3⟩)
  obtain ⟨g₀, hfr⟩ := X'.frames_eq
  have hcell9 : ((T.setVm vm').setFrames (.throwing q :: below)).heap[q]? = some ce := by
    show T.heap[q]? = some ce
    rw [hT]; exact hcell
  have hend : Ended ((T.setVm vm').setFrames (.throwing q :: below)) below (.threw q) := State.frames_setFrames _ (State.cur_lt_of_frames hfr)
  refine ⟨(T.setVm vm').setFrames (.throwing q :: below), ?_, .threw q, X'.here.running, hend, Or.inr ⟨q, rfl, E, ce, locs, hx _ hT (X'.ends _).1.alike, hcell9, hv, hcl, (X'.ends _).1, (X'.ends _).2.mono hc hs, hf⟩⟩
  rw [X.pushThrowing_eq]
  exact st
/-- a thing of a world lies in the heap -/
theorem vx_lt {D : va_G} {cl : List vw_C} {ws : va_W} {H1 : Heap} (h : va_P D cl ws H1) {k : Nat} {q : Nat × va_E} (hk : ws[k]? = some q) : q.1 < H1.size := (h k q hk).lt
end VXS
/-! ===== END ===== -/
/-! ===== BEGIN methods with a table of their own: called by a name, returning or throwing ===== -/
section VXH
/-! vx_backW, vx_callVX, vx_callSX, vx_callVW, vx_runVW, vx_runVX, vx_runSX, vx_ofWH follow the same proofs as their sisters above (Free/Laws.lean, Shelf42/LK1.lean); vx_outP calls Shelf42/NT130.lean (outThrough). -/
section
variable {l : Launch} {R : Room} {p : Program} {e : Env} {below : List Frame} {s : State} {sargs : Array Value} {y : MethodName} {len W9 : Nat}
theorem vx_backW {ws : List Cond} {rm : Room} {Pc : Array Value → State → Prop} {Qc : Array Value → State → Outcome → State → Prop} {XC : String → State → State → Prop} {mc ms : Nat} {free : Addr → Prop} {bytes : ByteArray} {maxL : Nat} {ret : Option FieldType} {hh : List (Nat × Nat × Nat × Nat)}
    (hM : vx_Met l y ws rm Pc Qc XC mc ms free) (hblind : FrameBlind Pc) (hrc : rm.cells = mc) (hrs : rm.slots = ms)
    (hframes : rm.frames + 1 ≤ R.frames) (hlocals : W9 + (maxL + 11) + rm.locals ≤ R.locals)
    (hws : ∀ w ∈ ws, ∀ a' U, s.WarmedH U.vm → w.before a' U = true) (hcode : Cond.codeWith y bytes maxL ret hh ∈ ws) (hinit : ∀ a' U, s.WarmedH U.vm → (Cond.initialized y.cls).before a' U = true) :
    vx_Back l R p e below s sargs y len W9 (PreOf R mc ms Pc) (PostOf Qc mc ms free) (vx_Post XC mc ms free) := by
  intro m meth c A g ig mk a X hg hsize hdg hW hn hp
  have h1 : (headSpec ws rm).pre.before a A.U = true := atoms_intro fun w hw => hws w hw _ _ X.warmed
  have h2 : (Cond.codeWith y bytes maxL ret hh).before a A.U = true := hws _ hcode _ _ X.warmed
  have h3 : (Cond.initialized y.cls).before a A.U = true := hinit _ _ X.warmed
  have h4 : A.cells + (headSpec ws rm).room.cells ≤ R.cells := by rw [show (headSpec ws rm).room.cells = mc from hrc]; exact hp.1
  have h5 : A.slots + (headSpec ws rm).room.slots ≤ R.slots := by rw [show (headSpec ws rm).room.slots = ms from hrs]; exact hp.2.1
  have hPc : Pc a (A.U.calling g mk a) := hblind _ _ _ _ hp.2.2
  obtain ⟨U, Ls, c0, s0⟩ := A
  dsimp only [Pt.U, Pt.locs, Pt.cells, Pt.slots] at h1 h2 h3 h4 h5 X hn hPc ⊢
  obtain ⟨m9, methY, cY, hn9, hmY, hcY, -, hlY, -⟩ := Cond.codeWith_spec h2
  cases Option.some.inj (hn9.symm.trans hn)
  obtain ⟨kY, hkY, -⟩ := className_of_methodNamed hn
  have hinitY : kY.init = .initialized := Cond.initialized_spec (findClass_of_methodNamed hn) hkY h3
  have h : At U g.method c below := by rw [hg]; exact X.here
  have hlocals9 : W9 + (maxL + 11) + (headSpec ws rm).room.locals ≤ R.locals := hlocals
  have happ : (headSpec ws rm).appliesLoose y e.platform (U.calling g mk a) = true :=
    Spec.appliesLoose_calling (g := g) h hdg hn hkY hinitY
      (X.room_calling (g := g) (R' := (headSpec ws rm).room) hsize hmY hcY hframes (by rw [hlY]; omega) h4 h5) h1
  obtain ⟨mid, hmid⟩ := h.above
  have hfr : (U.setTop g).frames = (.java g :: mid) ++ below := by rw [State.frames_setTop' g h.top, hmid]; rfl
  obtain ⟨o, s₂, hsteps, -, hend, hq⟩ := Steps.callFree hM p X.admits X.cas X.clock (acts := []) hfr happ hPc trivial
  have hq' : vx_Q Qc XC mc ms free a (U.calling g mk a) o s₂ := hq
  rw [State.frames_setTop' g h.top] at hend
  obtain ⟨g₀, hg0⟩ := Option.isSome_iff_exists.mp h.top
  obtain ⟨r, hr⟩ := State.topJava?_eq_some.mp hg0
  have hr' : (({ U with heap := s₂.heap, slotsUsed := s₂.slotsUsed } : State).setVm s₂.vm).frames = .java g₀ :: r := hr
  rcases hq' with ⟨hqc, L, hfe, hL⟩ | ⟨q, rfl, E, ce, L, hx, hce, hcv, hcl, hW₂, hsm, hL⟩
  · obtain ⟨⟨v, rfl⟩, hW₂, e2, q2, q3, q4, q5, q6⟩ := id hfe
    have e3 : s₂ = ({ (U.calling g mk a).setFrames s₂.frames with heap := s₂.heap, slotsUsed := s₂.slotsUsed } : State).setVm s₂.vm := by
      have : s₂ = ({ s₂ with vm := (U.calling g mk a).vm } : State).setVm s₂.vm := rfl
      rw [e2] at this
      exact this
    obtain ⟨c₂, i₂, len₂, hc₂, hd₂, hf₂⟩ := hend
    have hW' : U.WarmedH s₂.vm := hW₂
    have hcc : c₂ = c := by
      have h1 : s₂.code? g.method = U.code? g.method := by
        rw [State.code?_eq, State.code?_eq, hW'.alike.method?]
      exact Option.some.inj (hc₂.symm.trans (h1.trans h.code))
    subst hcc
    have hlen : len₂ = len := by rw [hdg] at hd₂; cases hd₂; rfl
    subst hlen
    have hs₂ : s₂ = (({ U with heap := s₂.heap, slotsUsed := s₂.slotsUsed } : State).setVm s₂.vm).setTop { g with pc := g.pc + len₂, stack := v.toList ++ g.stack } := by
      refine e3.trans ?_
      rw [hf₂, State.calling_eq h.top, State.setFrames_setFrames, State.setTop_of_frames _ hr', hr]
      rfl
    have hsame : U.sameButNew ({ U with heap := s₂.heap, slotsUsed := s₂.slotsUsed } : State) L mc ms := by
      refine ⟨?_, q2, q3, q4, q5, q6⟩
      obtain ⟨t, ht, -⟩ := State.frames_cons hr
      show ({ U with heap := s₂.heap, slotsUsed := s₂.slotsUsed } : State) = { U.setFrames U.frames with heap := s₂.heap, slotsUsed := s₂.slotsUsed }
      rw [State.setFrames_self ht]
    subst hg
    refine Or.inl ⟨v, ⟨(({ U with heap := s₂.heap, slotsUsed := s₂.slotsUsed } : State).setVm s₂.vm), Ls ++ L, c0 + mc, s0 + ms⟩,
      ⟨X.admits, X.cas, X.clock, X.frames, X.room, X.hears, X.method, X.code, (X.here.setHeapUsed s₂.heap s₂.slotsUsed).setVm hW'.alike, X.tail, State.WarmedH.trans X.warmed hW', X.limits, X.bytes, X.same.trans (hsame.setVm s.vm)⟩,
      ⟨g, mk, s₂, L, rfl, rfl, hqc, rfl, hL, rfl, rfl⟩, ?_⟩
    show Steps p.tables e below _ ((({ U with heap := s₂.heap, slotsUsed := s₂.slotsUsed } : State).setVm s₂.vm).setTop { g with pc := g.pc + len₂, stack := v.toList ++ g.stack })
    rw [← hs₂]
    exact hsteps
  · obtain ⟨e2, q2, q3, q4, q5, q6⟩ := id hsm
    have e3 : s₂ = ({ (U.calling g mk a).setFrames s₂.frames with heap := s₂.heap, slotsUsed := s₂.slotsUsed } : State).setVm s₂.vm := by
      have : s₂ = ({ s₂ with vm := (U.calling g mk a).vm } : State).setVm s₂.vm := rfl
      rw [e2] at this
      exact this
    have hf₂ : s₂.frames = .throwing q :: .java g :: U.frames.tail := hend
    have hW' : U.WarmedH s₂.vm := hW₂
    have hs₂ : s₂ = ((({ U with heap := s₂.heap, slotsUsed := s₂.slotsUsed } : State).setVm s₂.vm).setTop g).pushFrame (.throwing q) := by
      refine e3.trans ?_
      rw [hf₂, State.calling_eq h.top, State.setFrames_setFrames, State.pushFrame, State.frames_setTop _ hr', State.setTop_of_frames _ hr', State.setFrames_setFrames, hr]
      rfl
    have hsame : U.sameButNew ({ U with heap := s₂.heap, slotsUsed := s₂.slotsUsed } : State) L mc ms := by
      refine ⟨?_, q2, q3, q4, q5, q6⟩
      obtain ⟨t, ht, -⟩ := State.frames_cons hr
      show ({ U with heap := s₂.heap, slotsUsed := s₂.slotsUsed } : State) = { U.setFrames U.frames with heap := s₂.heap, slotsUsed := s₂.slotsUsed }
      rw [State.setFrames_self ht]
    subst hg
    refine Or.inr ⟨q, ⟨(({ U with heap := s₂.heap, slotsUsed := s₂.slotsUsed } : State).setVm s₂.vm), Ls ++ L, c0 + mc, s0 + ms⟩,
      ⟨X.admits, X.cas, X.clock, X.frames, X.room, X.hears, X.method, X.code, (X.here.setHeapUsed s₂.heap s₂.slotsUsed).setVm hW'.alike, X.tail, State.WarmedH.trans X.warmed hW', X.limits, X.bytes, X.same.trans (hsame.setVm s.vm)⟩,
      ⟨g, mk, s₂, L, E, ce, rfl, rfl, hx, hce, hcv, hcl, rfl, hL, rfl, rfl⟩, ?_⟩
    show Steps p.tables e below _ (((({ U with heap := s₂.heap, slotsUsed := s₂.slotsUsed } : State).setVm s₂.vm).setTop g).pushFrame (.throwing q))
    rw [← hs₂]
    exact hsteps
end
variable {p : Program} {l : Launch} {e : Env} {R : Room} {s : State} {m : MethodId} {args : Array Value} {below : List Frame} {meth : Method} {c : Code} {T : State} {H : Heap} {locs : List Loc} {cells slots : Nat}
theorem vx_callVX (X : Stand p l e R s m args below meth c T locs cells slots) (hexec : p.tables.exec = Jvm.exec) {own C : String} {index : Nat} {y : MethodName} {bytes : ByteArray} {maxL : Nat} {ret : Option FieldType} {hh : List (Nat × Nat × Nat × Nat)}
    (hown : s.vm.findClass own = some m.cls) (hlink : (Cond.methodLink own index y).before args s = true) (hinst : (Cond.instanceMethod y).before args s = true) (hsel : (Cond.selects C y y).before args s = true)
    (hcode : (Cond.codeWith y bytes maxL ret hh).before args s = true) (hy : y.cls ≠ "java/lang/invoke/MethodHandle" ∧ y.cls ≠ "java/lang/invoke/VarHandle")
    {W9 : Nat} {Pre : Pt → Array Value → Prop} {Post : Pt → Array Value → Option Value → Pt → Prop} {PostX : Pt → Array Value → Addr → Pt → Prop} (hK : vx_Back l R p e below s args y 3 W9 Pre Post PostX)
    {b : Addr} {cellB : Cell} (hcell : T.heap[b]? = some cellB) (hobj : cellB.vm.isStatics = false) (hcls : s.vm.findClass C = some cellB.cls)
    {g : JFrame} (hg : g.method = m) (hsize : g.locals.size = c.maxLocals) {argsL rest : List Value} (hlen : ∀ sig, parseMethodDescriptor y.desc = some sig → argsL.length = sig.parameters.length)
    (hstack : g.stack = argsL.reverse ++ .ref b :: rest) (hW : 2 * g.monitorRoom + (rest.map fun v => v.category).sum ≤ W9) (hdg : decode c.code g.pc = .ok (.invokevirtual index, 3))
    (hpre : ∀ vm₁, s.WarmedH vm₁ → Pre ⟨T.setVm vm₁, locs, cells, slots⟩ (Value.ref b :: argsL).toArray) :
    (∃ (v : Option Value) (vm₁ : Vm) (B : Pt), s.WarmedH vm₁ ∧ Stand p l e R s m args below meth c B.U B.locs B.cells B.slots ∧ Post ⟨T.setVm vm₁, locs, cells, slots⟩ (Value.ref b :: argsL).toArray v B ∧
      ∀ target, Steps p.tables e below (B.U.setTop { g with pc := g.pc + 3, stack := v.toList ++ rest }) target → Steps p.tables e below (T.setTop g) target) ∨
    (∃ (q : Addr) (vm₁ : Vm) (B : Pt), s.WarmedH vm₁ ∧ Stand p l e R s m args below meth c B.U B.locs B.cells B.slots ∧ PostX ⟨T.setVm vm₁, locs, cells, slots⟩ (Value.ref b :: argsL).toArray q B ∧
      Steps p.tables e below (T.setTop g) ((B.U.setTop { g with stack := rest }).pushFrame (.throwing q))) := by
  obtain ⟨mk, methM, hnamed, hmethM, hstM, habM⟩ := Cond.instanceMethod_spec hinst
  obtain ⟨m8, methM', cM, hn8, hmethM', -, -, -, -, -, -, hsigM⟩ := Cond.codeWith_spec hcode
  cases Option.some.inj (hn8.symm.trans hnamed)
  cases hmethM.symm.trans hmethM'
  obtain ⟨c2, r2, m2, q1, q2, q3, q4, kP, hkP, hkPi⟩ := Cond.selects_spec hsel
  cases hcls.symm.trans q1
  cases (State.methodFound?_of_named hnamed hy).symm.trans q2
  cases hnamed.symm.trans q3
  have hselP : selectMethod e.platform s.vm cellB.cls mk = .method mk := by rw [Launch.admits_selectMethod X.admits]; exact q4
  obtain ⟨vm₁, X₁, hstep₁⟩ := X.invokevirtual hexec hown hlink hnamed hmethM hstM hkP hkPi hy (a := b) (cell := cellB) hcell
    (fun z h => by rw [h] at hobj; cases hobj) hselP hmethM habM hkP hkPi (g := g) hg (argsL := argsL) (rest := rest) (hlen _ hsigM) hstack hdg
  rcases hK m meth c ⟨T.setVm vm₁, locs, cells, slots⟩ { g with stack := rest } (.invokevirtual index) mk (Value.ref b :: argsL).toArray X₁ hg hsize hdg hW (X₁.named hnamed) (hpre vm₁ X₁.warmed) with ⟨v, B, X', hpost, hsteps⟩ | ⟨q, B, X', hpost, hsteps⟩
  · exact Or.inl ⟨v, vm₁, B, X₁.warmed, X', hpost, fun target h => hstep₁ _ fun acts => by rw [doInvoke_state]; exact hsteps.trans h⟩
  · exact Or.inr ⟨q, vm₁, B, X₁.warmed, X', hpost, hstep₁ _ fun acts => by rw [doInvoke_state]; exact hsteps⟩
theorem vx_callSX (X : Stand p l e R s m args below meth c T locs cells slots) (hexec : p.tables.exec = Jvm.exec) {own : String} {index : Nat} {y : MethodName} {bytes : ByteArray} {maxL : Nat} {ret : Option FieldType} {hh : List (Nat × Nat × Nat × Nat)}
    (hown : s.vm.findClass own = some m.cls) (hlink : (Cond.methodLink own index y).before args s = true) (hstat : (Cond.static y).before args s = true) (hinit : (Cond.initialized y.cls).before args s = true)
    (hcode : (Cond.codeWith y bytes maxL ret hh).before args s = true) (hy : y.cls ≠ "java/lang/invoke/MethodHandle" ∧ y.cls ≠ "java/lang/invoke/VarHandle")
    {W9 : Nat} {Pre : Pt → Array Value → Prop} {Post : Pt → Array Value → Option Value → Pt → Prop} {PostX : Pt → Array Value → Addr → Pt → Prop} (hK : vx_Back l R p e below s args y 3 W9 Pre Post PostX)
    {g : JFrame} (hg : g.method = m) (hsize : g.locals.size = c.maxLocals) {argsL rest : List Value} (hlen : ∀ sig, parseMethodDescriptor y.desc = some sig → argsL.length = sig.parameters.length)
    (hstack : g.stack = argsL.reverse ++ rest) (hW : 2 * g.monitorRoom + (rest.map fun v => v.category).sum ≤ W9) (hdg : decode c.code g.pc = .ok (.invokestatic index, 3))
    (hpre : ∀ vm₁, s.WarmedH vm₁ → Pre ⟨T.setVm vm₁, locs, cells, slots⟩ argsL.toArray) :
    (∃ (v : Option Value) (vm₁ : Vm) (B : Pt), s.WarmedH vm₁ ∧ Stand p l e R s m args below meth c B.U B.locs B.cells B.slots ∧ Post ⟨T.setVm vm₁, locs, cells, slots⟩ argsL.toArray v B ∧
      ∀ target, Steps p.tables e below (B.U.setTop { g with pc := g.pc + 3, stack := v.toList ++ rest }) target → Steps p.tables e below (T.setTop g) target) ∨
    (∃ (q : Addr) (vm₁ : Vm) (B : Pt), s.WarmedH vm₁ ∧ Stand p l e R s m args below meth c B.U B.locs B.cells B.slots ∧ PostX ⟨T.setVm vm₁, locs, cells, slots⟩ argsL.toArray q B ∧
      Steps p.tables e below (T.setTop g) ((B.U.setTop { g with stack := rest }).pushFrame (.throwing q))) := by
  obtain ⟨mk, methM, cM, hnamed, hmethM, -, -, -, -, -, -, hsigM⟩ := Cond.codeWith_spec hcode
  have hstatic : methM.isStatic = true := Cond.static_spec hnamed hmethM hstat
  obtain ⟨kP, hkP, -⟩ := className_of_methodNamed hnamed
  have hinitP : kP.init = .initialized := Cond.initialized_spec (findClass_of_methodNamed hnamed) hkP hinit
  obtain ⟨vm₁, X₁, hstep₁⟩ := X.invokestatic hexec hown hlink hnamed hmethM hstatic hkP hinitP hy (g := g) hg (argsL := argsL) (rest := rest) (hlen _ hsigM) hstack hdg
  rcases hK m meth c ⟨T.setVm vm₁, locs, cells, slots⟩ { g with stack := rest } (.invokestatic index) mk argsL.toArray X₁ hg hsize hdg hW (X₁.named hnamed) (hpre vm₁ X₁.warmed) with ⟨v, B, X', hpost, hsteps⟩ | ⟨q, B, X', hpost, hsteps⟩
  · exact Or.inl ⟨v, vm₁, B, X₁.warmed, X', hpost, fun target h => hstep₁ _ fun acts => by rw [doInvoke_state]; exact hsteps.trans h⟩
  · exact Or.inr ⟨q, vm₁, B, X₁.warmed, X', hpost, hstep₁ _ fun acts => by rw [doInvoke_state]; exact hsteps⟩
theorem vx_callVW (X : Stand p l e R s m args below meth c T locs cells slots) (hexec : p.tables.exec = Jvm.exec) {own C : String} {index : Nat} {y : MethodName} {bytes : ByteArray} {maxL : Nat} {ret : Option FieldType} {hh : List (Nat × Nat × Nat × Nat)}
    (hown : s.vm.findClass own = some m.cls) (hlink : (Cond.methodLink own index y).before args s = true) (hinst : (Cond.instanceMethod y).before args s = true) (hsel : (Cond.selects C y y).before args s = true)
    (hcode : (Cond.codeWith y bytes maxL ret hh).before args s = true) (hy : y.cls ≠ "java/lang/invoke/MethodHandle" ∧ y.cls ≠ "java/lang/invoke/VarHandle")
    {W9 : Nat} {Pre : Pt → Array Value → Prop} {Post : Pt → Array Value → Option Value → Pt → Prop} (hK : Back l R p e below s args y 3 W9 Pre Post)
    {b : Addr} {cellB : Cell} (hcell : T.heap[b]? = some cellB) (hobj : cellB.vm.isStatics = false) (hcls : s.vm.findClass C = some cellB.cls)
    {g : JFrame} (hg : g.method = m) (hsize : g.locals.size = c.maxLocals) {argsL rest : List Value} (hlen : ∀ sig, parseMethodDescriptor y.desc = some sig → argsL.length = sig.parameters.length)
    (hstack : g.stack = argsL.reverse ++ .ref b :: rest) (hW : 2 * g.monitorRoom + (rest.map fun v => v.category).sum ≤ W9) (hdg : decode c.code g.pc = .ok (.invokevirtual index, 3))
    (hpre : ∀ vm₁, s.WarmedH vm₁ → Pre ⟨T.setVm vm₁, locs, cells, slots⟩ (Value.ref b :: argsL).toArray) :
    ∃ (v : Option Value) (vm₁ : Vm) (B : Pt), s.WarmedH vm₁ ∧ Stand p l e R s m args below meth c B.U B.locs B.cells B.slots ∧ Post ⟨T.setVm vm₁, locs, cells, slots⟩ (Value.ref b :: argsL).toArray v B ∧
      ∀ target, Steps p.tables e below (B.U.setTop { g with pc := g.pc + 3, stack := v.toList ++ rest }) target → Steps p.tables e below (T.setTop g) target := by
  obtain ⟨mk, methM, hnamed, hmethM, hstM, habM⟩ := Cond.instanceMethod_spec hinst
  obtain ⟨m8, methM', cM, hn8, hmethM', -, -, -, -, -, -, hsigM⟩ := Cond.codeWith_spec hcode
  cases Option.some.inj (hn8.symm.trans hnamed)
  cases hmethM.symm.trans hmethM'
  obtain ⟨c2, r2, m2, q1, q2, q3, q4, kP, hkP, hkPi⟩ := Cond.selects_spec hsel
  cases hcls.symm.trans q1
  cases (State.methodFound?_of_named hnamed hy).symm.trans q2
  cases hnamed.symm.trans q3
  have hselP : selectMethod e.platform s.vm cellB.cls mk = .method mk := by rw [Launch.admits_selectMethod X.admits]; exact q4
  obtain ⟨vm₁, X₁, hstep₁⟩ := X.invokevirtual hexec hown hlink hnamed hmethM hstM hkP hkPi hy (a := b) (cell := cellB) hcell
    (fun z h => by rw [h] at hobj; cases hobj) hselP hmethM habM hkP hkPi (g := g) hg (argsL := argsL) (rest := rest) (hlen _ hsigM) hstack hdg
  obtain ⟨v, B, X', hpost, hsteps⟩ := hK m meth c ⟨T.setVm vm₁, locs, cells, slots⟩ { g with stack := rest } (.invokevirtual index) mk (Value.ref b :: argsL).toArray X₁ hg hsize hdg hW (X₁.named hnamed) (hpre vm₁ X₁.warmed)
  exact ⟨v, vm₁, B, X₁.warmed, X', hpost, fun target h => hstep₁ _ fun acts => by rw [doInvoke_state]; exact hsteps.trans h⟩
abbrev vx_CVW (R : Room) (s : State) (args : Array Value) (own C : String) (index : Nat) (y : MethodName) (bytes : ByteArray) (maxL : Nat) (ret : Option FieldType) (hh : List (Nat × Nat × Nat × Nat)) (ws : List Cond) (rm : Room) (mc ms n : Nat) : Prop :=
  (rm.cells = mc ∧ rm.slots = ms ∧ rm.frames + 1 ≤ R.frames ∧ 8 + (maxL + 11) + rm.locals ≤ R.locals ∧ (∀ w ∈ ws, ∀ (a' : Array Value) (U : State), s.WarmedH U.vm → w.before a' U = true) ∧ Cond.codeWith y bytes maxL ret hh ∈ ws) ∧
  (Cond.codeWith y bytes maxL ret hh).before args s = true ∧ (Cond.initialized y.cls).before args s = true ∧ (y.cls ≠ "java/lang/invoke/MethodHandle" ∧ y.cls ≠ "java/lang/invoke/VarHandle") ∧
  (∀ sig, parseMethodDescriptor y.desc = some sig → n = sig.parameters.length) ∧ (Cond.methodLink own index y).before args s = true ∧ (Cond.instanceMethod y).before args s = true ∧ (Cond.selects C y y).before args s = true
theorem vx_cwVW {own C : String} {index maxL mc ms : Nat} {y : MethodName} {bytes : ByteArray} {ret : Option FieldType} {hh : List (Nat × Nat × Nat × Nat)} {Ts ws ws' : List Cond} {rm : Room} (n : Nat) (ht : ∀ w ∈ Ts, w.before args s = true) (hT : GoodIn Ts (wsV own index C y ws)) (hw : ws = Cond.codeWith y bytes maxL ret hh :: ws') (hrc : rm.cells = mc) (hrs : rm.slots = ms)
    (hd : y.cls = C ∧ y.cls ≠ "java/lang/invoke/MethodHandle" ∧ y.cls ≠ "java/lang/invoke/VarHandle" ∧ (parseMethodDescriptor y.desc).map (fun d => d.parameters.length) = some n) (hR : rm.frames + 1 ≤ R.frames ∧ 8 + (maxL + 11) + rm.locals ≤ R.locals) :
    vx_CVW R s args own C index y bytes maxL ret hh ws rm mc ms n := by
  obtain ⟨hC, hd⟩ := hd
  subst hC
  have ok : ∀ w ∈ wsV own index y.cls y ws, w.before args s = true := fun w h => ht w (hT w h).1
  have hG : GoodIn Ts ws := fun w h => hT w (by unfold wsV; exact List.mem_append_right _ h)
  have hc : Cond.codeWith y bytes maxL ret hh ∈ ws := by rw [hw]; exact List.mem_cons_self
  refine ⟨⟨hrc, hrs, hR.1, hR.2, pay_in ht hG, hc⟩, ht _ (hG _ hc).1, ok _ (by simp [wsV]), ⟨hd.1, hd.2.1⟩, fun sig h => ?_, ok _ (by simp [wsV]), ok _ (by simp [wsV]), ok _ (by simp [wsV])⟩
  have h2 := hd.2.2
  rw [h] at h2
  exact (Option.some.inj h2).symm
theorem vx_runVW {y : MethodName} {bytes cc : ByteArray} {maxL nL mc ms n index : Nat} {ret : Option FieldType} {hh : List (Nat × Nat × Nat × Nat)} {ws : List Cond} {rm : Room} {Pc : Array Value → State → Prop} {Qc : Array Value → State → Outcome → State → Prop} {free : Addr → Prop} {Ts : List Cond} {own C : String} {b : Addr} {As rest : List Value} {g : JFrame}
    (S : CallFix p m c cc nL s args Ts own) (hM : Met l y ws rm Pc Qc mc ms free) (cw : vx_CVW R s args own C index y bytes maxL ret hh ws rm mc ms n) (hp : PreV s H C b Pc As)
    (hg : g.method = m) (hn : As.length = n) (hsize : g.locals.size = nL) (hstack : g.stack = As.reverse ++ .ref b :: rest) (hW : 2 * g.monitorRoom + (rest.map fun v => v.category).sum ≤ 8) (hdg : decode cc g.pc = .ok (.invokevirtual index, 3)) (hf : cells + mc ≤ R.cells ∧ slots + ms ≤ R.slots) :
    va_Run p l e R s m args below meth c H locs cells slots mc ms g rest (Qc (Value.ref b :: As).toArray) free := by
  obtain ⟨⟨hrc, hrs, hfr, hlo, hws, hcw⟩, hcode, hini, hy, hlen, hl, hin, hse⟩ := cw
  have hK : Back l R p e below s args y 3 8 (PreOf R mc ms Pc) (PostOf Qc mc ms free) := va_backW (hh := hh) (bytes := bytes) (maxL := maxL) (ret := ret) hM hp.1 hrc hrs hfr hlo hws hcw (fun a' U hW => word_at hW (Or.inl (by first | rfl | simp [Cond.onTables, Cond.keeps, Cond.steady])) hini)
  obtain ⟨hx, hb, hml, ho, -⟩ := S
  obtain ⟨-, ⟨cellB, hcB, hoB, hclB⟩, hPc⟩ := hp
  intro T hT X
  obtain ⟨v, vm₁, ⟨U', l2, c2, s2⟩, hW₁, X', ⟨g', mk, t, L, e1, e2, hq, h1, hL, h2, h3⟩, st⟩ := vx_callVW X hx (C := C) (hh := hh) (bytes := bytes) (maxL := maxL) (ret := ret) ho hl hin hse hcode hy hK (by rw [hT]; exact hcB) hoB hclB hg (hsize.trans hml.symm) (argsL := As) (rest := rest) (fun sig h => hn.trans (hlen sig h)) hstack hW (by rw [hb]; exact hdg)
    (fun vm₁ hW₁ => ⟨hf.1, hf.2, hPc (T.setVm vm₁) hT hW₁⟩)
  dsimp only [Pt.U, Pt.locs, Pt.cells, Pt.slots] at X' e1 e2 h1 h2 h3 st
  subst h1; subst h2; subst h3
  exact ⟨v, (T.setVm vm₁).calling g' mk (Value.ref b :: As).toArray, t, U', L, hT, X', hL, e1, e2, hq, st⟩
section
variable {y : MethodName} {bytes cc : ByteArray} {maxL nL mc ms n index : Nat} {ret : Option FieldType} {ws : List Cond} {rm : Room} {Pc : Array Value → State → Prop} {Qc : Array Value → State → Outcome → State → Prop} {XC : String → State → State → Prop} {free : Addr → Prop} {Ts : List Cond} {own C : String} {b : Addr} {As rest : List Value} {g : JFrame}
theorem vx_runVX {hh : List (Nat × Nat × Nat × Nat)} (S : CallFix p m c cc nL s args Ts own) (hM : vx_Met l y ws rm Pc Qc XC mc ms free) (cw : vx_CVW R s args own C index y bytes maxL ret hh ws rm mc ms n) (hp : PreV s H C b Pc As)
    (hg : g.method = m) (hn : As.length = n) (hsize : g.locals.size = nL) (hstack : g.stack = As.reverse ++ .ref b :: rest) (hW : 2 * g.monitorRoom + (rest.map fun v => v.category).sum ≤ 8) (hdg : decode cc g.pc = .ok (.invokevirtual index, 3)) (hf : cells + mc ≤ R.cells ∧ slots + ms ≤ R.slots) :
    vx_Run p l e R s m args below meth c H locs cells slots mc ms g rest (Qc (Value.ref b :: As).toArray) XC free := by
  obtain ⟨⟨hrc, hrs, hfr, hlo, hws, hcw⟩, hcode, hini, hy, hlen, hl, hin, hse⟩ := cw
  have hK : vx_Back l R p e below s args y 3 8 (PreOf R mc ms Pc) (PostOf Qc mc ms free) (vx_Post XC mc ms free) := vx_backW (hh := hh) (bytes := bytes) (maxL := maxL) (ret := ret) hM hp.1 hrc hrs hfr hlo hws hcw (fun a' U hW => word_at hW (Or.inl (by first | rfl | simp [Cond.onTables, Cond.keeps, Cond.steady])) hini)
  obtain ⟨hx, hb, hml, ho, -⟩ := S
  obtain ⟨-, ⟨cellB, hcB, hoB, hclB⟩, hPc⟩ := hp
  intro T hT X
  rcases vx_callVX X hx (C := C) (hh := hh) (bytes := bytes) (maxL := maxL) (ret := ret) ho hl hin hse hcode hy hK (by rw [hT]; exact hcB) hoB hclB hg (hsize.trans hml.symm) (argsL := As) (rest := rest) (fun sig h => hn.trans (hlen sig h)) hstack hW (by rw [hb]; exact hdg)
    (fun vm₁ hW₁ => ⟨hf.1, hf.2, hPc (T.setVm vm₁) hT hW₁⟩) with ⟨v, vm₁, ⟨U', l2, c2, s2⟩, hW₁, X', ⟨g', mk, t, L, e1, e2, hq, h1, hL, h2, h3⟩, st⟩ | ⟨q, vm₁, ⟨U', l2, c2, s2⟩, hW₁, X', ⟨g', mk, t, L, E, ce, e1, e2, hq, hce, hcv, hcl, h1, hL, h2, h3⟩, st⟩
  · dsimp only [Pt.U, Pt.locs, Pt.cells, Pt.slots] at X' e1 e2 h1 h2 h3 st
    subst h1; subst h2; subst h3
    exact Or.inl ⟨v, (T.setVm vm₁).calling g' mk (Value.ref b :: As).toArray, t, U', L, hT, X', hL, e1, e2, hq, st⟩
  · dsimp only [Pt.U, Pt.locs, Pt.cells, Pt.slots] at X' e1 e2 h1 h2 h3 st hcl
    subst h1; subst h2; subst h3
    exact Or.inr ⟨q, (T.setVm vm₁).calling g' mk (Value.ref b :: As).toArray, t, U', L, E, ce, hT, X', hL, e1, e2, hq, hce, hcv, vx_cls hW₁ hcl, st⟩
theorem vx_runSX {hh : List (Nat × Nat × Nat × Nat)} (S : CallFix p m c cc nL s args Ts own) (hM : vx_Met l y ws rm Pc Qc XC mc ms free) (cw : vx_CSW R s args own index y bytes maxL ret hh ws rm mc ms n) (hp : PreS s H Pc As)
    (hg : g.method = m) (hn : As.length = n) (hsize : g.locals.size = nL) (hstack : g.stack = As.reverse ++ rest) (hW : 2 * g.monitorRoom + (rest.map fun v => v.category).sum ≤ 8) (hdg : decode cc g.pc = .ok (.invokestatic index, 3)) (hf : cells + mc ≤ R.cells ∧ slots + ms ≤ R.slots) :
    vx_Run p l e R s m args below meth c H locs cells slots mc ms g rest (Qc As.toArray) XC free := by
  obtain ⟨⟨hrc, hrs, hfr, hlo, hws, hcw⟩, hcode, hini, hy, hlen, hl, hstt⟩ := cw
  have hK : vx_Back l R p e below s args y 3 8 (PreOf R mc ms Pc) (PostOf Qc mc ms free) (vx_Post XC mc ms free) := vx_backW (hh := hh) (bytes := bytes) (maxL := maxL) (ret := ret) hM hp.1 hrc hrs hfr hlo hws hcw (fun a' U hW => word_at hW (Or.inl (by first | rfl | simp [Cond.onTables, Cond.keeps, Cond.steady])) hini)
  obtain ⟨hx, hb, hml, ho, -⟩ := S
  intro T hT X
  rcases vx_callSX X hx (hh := hh) (bytes := bytes) (maxL := maxL) (ret := ret) ho hl hstt hini hcode hy hK hg (hsize.trans hml.symm) (argsL := As) (rest := rest) (fun sig h => hn.trans (hlen sig h)) hstack hW (by rw [hb]; exact hdg)
    (fun vm₁ hW₁ => ⟨hf.1, hf.2, hp.2 (T.setVm vm₁) hT hW₁⟩) with ⟨v, vm₁, ⟨U', l2, c2, s2⟩, hW₁, X', ⟨g', mk, t, L, e1, e2, hq, h1, hL, h2, h3⟩, st⟩ | ⟨q, vm₁, ⟨U', l2, c2, s2⟩, hW₁, X', ⟨g', mk, t, L, E, ce, e1, e2, hq, hce, hcv, hcl, h1, hL, h2, h3⟩, st⟩
  · dsimp only [Pt.U, Pt.locs, Pt.cells, Pt.slots] at X' e1 e2 h1 h2 h3 st
    subst h1; subst h2; subst h3
    exact Or.inl ⟨v, (T.setVm vm₁).calling g' mk As.toArray, t, U', L, hT, X', hL, e1, e2, hq, st⟩
  · dsimp only [Pt.U, Pt.locs, Pt.cells, Pt.slots] at X' e1 e2 h1 h2 h3 st hcl
    subst h1; subst h2; subst h3
    exact Or.inr ⟨q, (T.setVm vm₁).calling g' mk As.toArray, t, U', L, E, ce, hT, X', hL, e1, e2, hq, hce, hcv, vx_cls hW₁ hcl, st⟩
end
end VXH
theorem vx_ofWH {l : Launch} {y : MethodName} {ws ws' : List Cond} {rm : Room} {Pc : Array Value → State → Prop} {Qc : Array Value → State → Outcome → State → Prop} {XC : String → State → State → Prop} {mc ms : Nat} {free : Addr → Prop} {cc : ByteArray} {maxL : Nat} {ret : Option FieldType} {hh : List (Nat × Nat × Nat × Nat)}
    (hy : plainName y.cls = true) (hw : ws = Cond.codeWith y cc maxL ret hh :: ws')
    (body : ∀ p e s m args below meth c s₁, BodyLoose p l y (headSpec ws rm) cc maxL ret e s m args below meth c s₁ → c.maxLocals = maxL → Pc args s →
      W p l e (headSpec ws rm).room s m args below meth c s.heap [] 0 0 (vx_MQ below Qc XC args s mc ms free) (entryFrame m args maxL)) : vx_Met l y ws rm Pc Qc XC mc ms free := by
  refine MetFree.of_bodyS (code := cc) (maxLocals := maxL) (ret := ret) hy ?_ ?_
  · intro args s m h hn
    obtain ⟨m9, meth, c, hn9, h1, h2, h3, h4, -, h5, h6, -⟩ := Cond.codeWith_spec (atoms_spec (ws := ws) h _ (by rw [hw]; exact List.mem_cons_self))
    cases hn.symm.trans hn9
    exact ⟨meth, c, h1, h2, h3, h4, h5, h6⟩
  · intro p e s m args below meth c s₁ B hml hP _
    have hh0 : s₁.heap = s.heap := by rw [B.state]; rfl
    obtain ⟨t, a1, o, b1, b2, b3⟩ := body p e s m args below meth c s₁ B hml hP s₁ hh0 (Stand.of_body B)
    exact ⟨t, o, a1, b1, b2, b3⟩
/-! ===== END ===== -/
end
section
/-! names: classes, fields, methods (by program, out of the claim's listing) -/
def RX0 : String := "WayTables$Buckets"
def TX0 : u_T := fun k => match k with
  | 0 => ("WayTables$Buckets", "held", "[I", true)
  | 1 => ("WayTables$Buckets", "size", "I", false)
  | 2 => ("WayTables$Buckets", "ways", "I", false)
  | _ => ("WayTables$Buckets", "stash", "I", false)
def tyX0 : Nat → FieldType := fun k => match k with
  | 0 => .array .int
  | 1 => .int
  | 2 => .int
  | _ => .int
theorem nmX0 : ∀ a, a < 4 → ∀ b, b < 4 → a ≠ b → (TX0 a).2.1 ≠ (TX0 b).2.1 := by decide +kernel
theorem tyX0_ok : ∀ k, k < 4 → parseFieldDescriptor (TX0 k).2.2.1 = some (tyX0 k) := by decide +kernel
def RX1 : String := "WayTables$Entries"
def TX1 : u_T := fun k => match k with
  | 0 => ("WayTables$Entries", "values", "[J", true)
  | 1 => ("WayTables$Entries", "masks", "[J", true)
  | 2 => ("WayTables$Entries", "prefixOnes", "[I", true)
  | 3 => ("WayTables$Entries", "priorities", "[I", true)
  | 4 => ("WayTables$Entries", "actions", "[I", true)
  | 5 => ("WayTables$Entries", "data", "[J", true)
  | _ => ("WayTables$Entries", "size", "I", false)
def tyX1 : Nat → FieldType := fun k => match k with
  | 0 => .array .long
  | 1 => .array .long
  | 2 => .array .int
  | 3 => .array .int
  | 4 => .array .int
  | 5 => .array .long
  | _ => .int
theorem nmX1 : ∀ a, a < 7 → ∀ b, b < 7 → a ≠ b → (TX1 a).2.1 ≠ (TX1 b).2.1 := by decide +kernel
theorem tyX1_ok : ∀ k, k < 7 → parseFieldDescriptor (TX1 k).2.2.1 = some (tyX1 k) := by decide +kernel
def RX2 : String := "WayTables$Keys"
def TX2 : u_T := fun k => match k with
  | 0 => ("WayTables$Keys", "kinds", "[I", true)
  | 1 => ("WayTables$Keys", "ones", "[J", true)
  | _ => ("WayTables$Keys", "size", "I", false)
def tyX2 : Nat → FieldType := fun k => match k with
  | 0 => .array .int
  | 1 => .array .long
  | _ => .int
theorem nmX2 : ∀ a, a < 3 → ∀ b, b < 3 → a ≠ b → (TX2 a).2.1 ≠ (TX2 b).2.1 := by decide +kernel
theorem tyX2_ok : ∀ k, k < 3 → parseFieldDescriptor (TX2 k).2.2.1 = some (tyX2 k) := by decide +kernel
def RX3 : String := "WayTables"
def TX3 : u_T := fun k => match k with
  | 0 => ("WayTables", "keys", "LWayTables$Keys;", true)
  | 1 => ("WayTables", "entries", "LWayTables$Entries;", true)
  | 2 => ("WayTables", "buckets", "LWayTables$Buckets;", true)
  | 3 => ("WayTables", "askedValues", "[J", true)
  | 4 => ("WayTables", "askedMasks", "[J", true)
  | 5 => ("WayTables", "made", "Z", false)
  | 6 => ("WayTables", "hashed", "Z", false)
  | 7 => ("WayTables", "capacity", "I", false)
  | _ => ("WayTables", "latestDatum", "J", false)
def tyX3 : Nat → FieldType := fun k => match k with
  | 0 => .object "WayTables$Keys"
  | 1 => .object "WayTables$Entries"
  | 2 => .object "WayTables$Buckets"
  | 3 => .array .long
  | 4 => .array .long
  | 5 => .boolean
  | 6 => .boolean
  | 7 => .int
  | _ => .long
theorem nmX3 : ∀ a, a < 9 → ∀ b, b < 9 → a ≠ b → (TX3 a).2.1 ≠ (TX3 b).2.1 := by decide +kernel
theorem tyX3_ok : ∀ k, k < 9 → parseFieldDescriptor (TX3 k).2.2.1 = some (tyX3 k) := by decide +kernel
def RX4 : String := "WayTablesModel"
def TX4 : u_T := fun k => match k with
  | 0 => ("WayTablesModel", "thrown", "I", false)
  | 1 => ("WayTablesModel", "keys", "I", false)
  | 2 => ("WayTablesModel", "n", "I", false)
  | 3 => ("WayTablesModel", "w", "I", false)
  | 4 => ("WayTablesModel", "s", "I", false)
  | 5 => ("WayTablesModel", "entries", "I", false)
  | 6 => ("WayTablesModel", "made", "Z", false)
  | 7 => ("WayTablesModel", "width", "[I", true)
  | 8 => ("WayTablesModel", "kind", "[I", true)
  | 9 => ("WayTablesModel", "value", "[J", true)
  | 10 => ("WayTablesModel", "mask", "[J", true)
  | 11 => ("WayTablesModel", "values", "[J", true)
  | 12 => ("WayTablesModel", "masks", "[J", true)
  | 13 => ("WayTablesModel", "priority", "[I", true)
  | 14 => ("WayTablesModel", "action", "[I", true)
  | 15 => ("WayTablesModel", "data", "[J", true)
  | 16 => ("WayTablesModel", "inBucket", "[I", true)
  | _ => ("WayTablesModel", "datum", "J", false)
def tyX4 : Nat → FieldType := fun k => match k with
  | 0 => .int
  | 1 => .int
  | 2 => .int
  | 3 => .int
  | 4 => .int
  | 5 => .int
  | 6 => .boolean
  | 7 => .array .int
  | 8 => .array .int
  | 9 => .array .long
  | 10 => .array .long
  | 11 => .array .long
  | 12 => .array .long
  | 13 => .array .int
  | 14 => .array .int
  | 15 => .array .long
  | 16 => .array .int
  | _ => .long
theorem nmX4 : ∀ a, a < 18 → ∀ b, b < 18 → a ≠ b → (TX4 a).2.1 ≠ (TX4 b).2.1 := by decide +kernel
theorem tyX4_ok : ∀ k, k < 18 → parseFieldDescriptor (TX4 k).2.2.1 = some (tyX4 k) := by decide +kernel
def RL : String := "WayTablesLaw"
def RJ7 : String := "java/util/Arrays"
def RJ6 : String := "java/lang/Integer"
def RJ13 : String := "java/lang/Long"
def RJ9 : String := "java/lang/Math"
abbrev cX3_init : ByteArray := prog_1_method_1_code
def yX3_init : MethodName := ⟨RX3, "<init>", "()V"⟩
abbrev cX3_clear : ByteArray := prog_1_method_2_code
def yX3_clear : MethodName := ⟨RX3, "clear", "()V"⟩
abbrev cX3_key : ByteArray := prog_1_method_3_code
def yX3_key : MethodName := ⟨RX3, "key", "(II)I"⟩
abbrev cX3_make : ByteArray := prog_1_method_4_code
def yX3_make : MethodName := ⟨RX3, "make", "(III)V"⟩
abbrev cX3_set : ByteArray := prog_1_method_5_code
def yX3_set : MethodName := ⟨RX3, "set", "(IJJ)V"⟩
abbrev cX3_insert : ByteArray := prog_1_method_6_code
def yX3_insert : MethodName := ⟨RX3, "insert", "(IIJ)Z"⟩
abbrev cX3_change : ByteArray := prog_1_method_7_code
def yX3_change : MethodName := ⟨RX3, "change", "(IJ)Z"⟩
abbrev cX3_remove : ByteArray := prog_1_method_8_code
def yX3_remove : MethodName := ⟨RX3, "remove", "()Z"⟩
abbrev cX3_match : ByteArray := prog_1_method_9_code
def yX3_match : MethodName := ⟨RX3, "match", "()I"⟩
abbrev cX3_datum : ByteArray := prog_1_method_10_code
def yX3_datum : MethodName := ⟨RX3, "datum", "()J"⟩
abbrev cX3_bucket : ByteArray := prog_1_method_11_code
def yX3_bucket : MethodName := ⟨RX3, "bucket", "()I"⟩
abbrev cX3_count : ByteArray := prog_1_method_12_code
def yX3_count : MethodName := ⟨RX3, "count", "(I)I"⟩
abbrev cX3_requireTable : ByteArray := prog_1_method_13_code
def yX3_requireTable : MethodName := ⟨RX3, "requireTable", "()V"⟩
abbrev cX3_isHashedShape : ByteArray := prog_1_method_14_code
def yX3_isHashedShape : MethodName := ⟨RX3, "isHashedShape", "(III)Z"⟩
abbrev cX3_isListedShape : ByteArray := prog_1_method_15_code
def yX3_isListedShape : MethodName := ⟨RX3, "isListedShape", "(I)Z"⟩
abbrev cX3_isAction : ByteArray := prog_1_method_16_code
def yX3_isAction : MethodName := ⟨RX3, "isAction", "(I)Z"⟩
abbrev cX3_askedMask : ByteArray := prog_1_method_17_code
def yX3_askedMask : MethodName := ⟨RX3, "askedMask", "(I)J"⟩
abbrev cX3_areMasksRight : ByteArray := prog_1_method_18_code
def yX3_areMasksRight : MethodName := ⟨RX3, "areMasksRight", "()Z"⟩
abbrev cX3_findAsked : ByteArray := prog_1_method_19_code
def yX3_findAsked : MethodName := ⟨RX3, "findAsked", "()I"⟩
abbrev cX3_isAsked : ByteArray := prog_1_method_20_code
def yX3_isAsked : MethodName := ⟨RX3, "isAsked", "(I)Z"⟩
abbrev cX3_fitsAsked : ByteArray := prog_1_method_21_code
def yX3_fitsAsked : MethodName := ⟨RX3, "fitsAsked", "(I)Z"⟩
abbrev cX3_hasRoom : ByteArray := prog_1_method_22_code
def yX3_hasRoom : MethodName := ⟨RX3, "hasRoom", "()Z"⟩
abbrev cX3_addAsked : ByteArray := prog_1_method_23_code
def yX3_addAsked : MethodName := ⟨RX3, "addAsked", "(IIJ)V"⟩
abbrev cX4_init : ByteArray := prog_6_method_1_code
def yX4_init : MethodName := ⟨RX4, "<init>", "()V"⟩
abbrev cX4_thrown : ByteArray := prog_6_method_2_code
def yX4_thrown : MethodName := ⟨RX4, "thrown", "()I"⟩
abbrev cX4_clear : ByteArray := prog_6_method_3_code
def yX4_clear : MethodName := ⟨RX4, "clear", "()V"⟩
abbrev cX4_has : ByteArray := prog_6_method_4_code
def yX4_has : MethodName := ⟨RX4, "has", "(I)Z"⟩
abbrev cX4_key : ByteArray := prog_6_method_5_code
def yX4_key : MethodName := ⟨RX4, "key", "(II)I"⟩
abbrev cX4_hashed : ByteArray := prog_6_method_6_code
def yX4_hashed : MethodName := ⟨RX4, "hashed", "()Z"⟩
abbrev cX4_make : ByteArray := prog_6_method_7_code
def yX4_make : MethodName := ⟨RX4, "make", "(III)V"⟩
abbrev cX4_set : ByteArray := prog_6_method_8_code
def yX4_set : MethodName := ⟨RX4, "set", "(IJJ)V"⟩
abbrev cX4_ones : ByteArray := prog_6_method_9_code
def yX4_ones : MethodName := ⟨RX4, "ones", "(I)J"⟩
abbrev cX4_onesIn : ByteArray := prog_6_method_10_code
def yX4_onesIn : MethodName := ⟨RX4, "onesIn", "(J)I"⟩
abbrev cX4_masksAreRight : ByteArray := prog_6_method_11_code
def yX4_masksAreRight : MethodName := ⟨RX4, "masksAreRight", "()Z"⟩
abbrev cX4_there : ByteArray := prog_6_method_12_code
def yX4_there : MethodName := ⟨RX4, "there", "()I"⟩
abbrev cX4_bucketOf : ByteArray := prog_6_method_13_code
def yX4_bucketOf : MethodName := ⟨RX4, "bucketOf", "([JI)I"⟩
abbrev cX4_above : ByteArray := prog_6_method_14_code
def yX4_above : MethodName := ⟨RX4, "above", "()I"⟩
abbrev cX4_write : ByteArray := prog_6_method_15_code
def yX4_write : MethodName := ⟨RX4, "write", "(IIIJ)V"⟩
abbrev cX4_insert : ByteArray := prog_6_method_16_code
def yX4_insert : MethodName := ⟨RX4, "insert", "(IIJ)Z"⟩
abbrev cX4_change : ByteArray := prog_6_method_17_code
def yX4_change : MethodName := ⟨RX4, "change", "(IJ)Z"⟩
abbrev cX4_remove : ByteArray := prog_6_method_18_code
def yX4_remove : MethodName := ⟨RX4, "remove", "()Z"⟩
abbrev cX4_matches : ByteArray := prog_6_method_19_code
def yX4_matches : MethodName := ⟨RX4, "matches", "(I)Z"⟩
abbrev cX4_prefixOnes : ByteArray := prog_6_method_20_code
def yX4_prefixOnes : MethodName := ⟨RX4, "prefixOnes", "(I)I"⟩
abbrev cX4_match : ByteArray := prog_6_method_21_code
def yX4_match : MethodName := ⟨RX4, "match", "()I"⟩
abbrev cX4_datum : ByteArray := prog_6_method_22_code
def yX4_datum : MethodName := ⟨RX4, "datum", "()J"⟩
abbrev cX4_bucket : ByteArray := prog_6_method_23_code
def yX4_bucket : MethodName := ⟨RX4, "bucket", "()I"⟩
abbrev cX4_most : ByteArray := prog_6_method_24_code
def yX4_most : MethodName := ⟨RX4, "most", "()I"⟩
abbrev cX4_count : ByteArray := prog_6_method_25_code
def yX4_count : MethodName := ⟨RX4, "count", "(I)I"⟩
abbrev cX0_init : ByteArray := prog_2_method_1_code
def yX0_init : MethodName := ⟨RX0, "<init>", "()V"⟩
abbrev cX0_lay : ByteArray := prog_2_method_2_code
def yX0_lay : MethodName := ⟨RX0, "lay", "(III)V"⟩
abbrev cX0_indexOf : ByteArray := prog_2_method_3_code
def yX0_indexOf : MethodName := ⟨RX0, "indexOf", "(J)I"⟩
abbrev cX0_isOne : ByteArray := prog_2_method_4_code
def yX0_isOne : MethodName := ⟨RX0, "isOne", "(I)Z"⟩
abbrev cX0_haveRoom : ByteArray := prog_2_method_5_code
def yX0_haveRoom : MethodName := ⟨RX0, "haveRoom", "(I)Z"⟩
abbrev cX0_fill : ByteArray := prog_2_method_6_code
def yX0_fill : MethodName := ⟨RX0, "fill", "(I)V"⟩
abbrev cX0_empty : ByteArray := prog_2_method_7_code
def yX0_empty : MethodName := ⟨RX0, "empty", "(I)V"⟩
abbrev cX0_above : ByteArray := prog_2_method_8_code
def yX0_above : MethodName := ⟨RX0, "above", "()I"⟩
abbrev cX1_init : ByteArray := prog_3_method_1_code
def yX1_init : MethodName := ⟨RX1, "<init>", "()V"⟩
abbrev cX1_place : ByteArray := prog_3_method_2_code
def yX1_place : MethodName := ⟨RX1, "place", "(II)I"⟩
abbrev cX1_drop : ByteArray := prog_3_method_3_code
def yX1_drop : MethodName := ⟨RX1, "drop", "(I)V"⟩
abbrev cX1_copy : ByteArray := prog_3_method_4_code
def yX1_copy : MethodName := ⟨RX1, "copy", "(II)V"⟩
abbrev cX1_isWorthMore : ByteArray := prog_3_method_5_code
def yX1_isWorthMore : MethodName := ⟨RX1, "isWorthMore", "(II)Z"⟩
abbrev cX2_init : ByteArray := prog_4_method_1_code
def yX2_init : MethodName := ⟨RX2, "<init>", "()V"⟩
abbrev cX2_have : ByteArray := prog_4_method_2_code
def yX2_have : MethodName := ⟨RX2, "have", "(I)Z"⟩
abbrev cX2_areExact : ByteArray := prog_4_method_3_code
def yX2_areExact : MethodName := ⟨RX2, "areExact", "()Z"⟩
abbrev cX2_allow : ByteArray := prog_4_method_4_code
def yX2_allow : MethodName := ⟨RX2, "allow", "(I)Z"⟩
abbrev cX2_add : ByteArray := prog_4_method_5_code
def yX2_add : MethodName := ⟨RX2, "add", "(II)I"⟩
abbrev cX2_takeMask : ByteArray := prog_4_method_6_code
def yX2_takeMask : MethodName := ⟨RX2, "takeMask", "(IJ)Z"⟩
abbrev cL_key : ByteArray := method_3_code
def yL_key : MethodName := ⟨RL, "key", "(LWayTables;II[J)I"⟩
abbrev cL_make : ByteArray := method_4_code
def yL_make : MethodName := ⟨RL, "make", "(LWayTables;III)I"⟩
abbrev cL_set : ByteArray := method_5_code
def yL_set : MethodName := ⟨RL, "set", "(LWayTables;IJJ)I"⟩
abbrev cL_insert : ByteArray := method_6_code
def yL_insert : MethodName := ⟨RL, "insert", "(LWayTables;IIJ[J)I"⟩
abbrev cL_change : ByteArray := method_7_code
def yL_change : MethodName := ⟨RL, "change", "(LWayTables;IJ[J)I"⟩
abbrev cL_remove : ByteArray := method_8_code
def yL_remove : MethodName := ⟨RL, "remove", "(LWayTables;[J)I"⟩
abbrev cL_match : ByteArray := method_9_code
def yL_match : MethodName := ⟨RL, "match", "(LWayTables;[J)I"⟩
abbrev cL_law : ByteArray := code
def yL_law : MethodName := ⟨RL, "law", "([I)Z"⟩
abbrev cJ6_bitCount : ByteArray := prog_11_method_49_code
def yJ6_bitCount : MethodName := ⟨RJ6, "bitCount", "(I)I"⟩
abbrev cJ13_bitCount : ByteArray := prog_12_method_50_code
def yJ13_bitCount : MethodName := ⟨RJ13, "bitCount", "(J)I"⟩
abbrev cJ9_max : ByteArray := prog_13_method_65_code
def yJ9_max : MethodName := ⟨RJ9, "max", "(II)I"⟩
abbrev cJ7_fillI : ByteArray := prog_17_method_103_code
def yJ7_fillI : MethodName := ⟨RJ7, "fill", "([II)V"⟩
abbrev cJ7_fillL : ByteArray := prog_17_method_101_code
def yJ7_fillL : MethodName := ⟨RJ7, "fill", "([JJ)V"⟩
abbrev vwCl : List vw_C := [(RX0, TX0, 4), (RX1, TX1, 7), (RX2, TX2, 3), (RX3, TX3, 9), (RX4, TX4, 18)]
/-- the words of the tables that stay, all of them: every method's words are its own code and these -/
def wAll : List Cond := lw_tbl.filter goodWord
theorem wA {w : Cond} (i : Nat) (h : lw_tbl[i]? = some w) (hg : goodWord w = true) : w ∈ wAll := List.mem_filter.mpr ⟨List.mem_of_getElem? h, hg⟩
theorem wA_good {w : Cond} (h : w ∈ wAll) : (w.onTables && w.keeps) = true ∨ ∃ ty, w = .arrayClass ty := good_of_word (List.mem_filter.mp h).2
theorem gI {c : Cond} (h : c ∈ wAll) : GoodIn wAll (c :: wAll) := fun w hw => (List.mem_cons.mp hw).elim (fun e => by rw [e]; exact ⟨h, wA_good h⟩) (fun h => ⟨h, wA_good h⟩)
theorem gA {a b : List Cond} (h : ∀ w ∈ a, w ∈ wAll) (hb : GoodIn wAll b) : GoodIn wAll (a ++ b) := fun w hw => (List.mem_append.mp hw).elim (fun h1 => ⟨h w h1, wA_good (h w h1)⟩) (hb w)
theorem gV {own : String} {idx : Nat} {C : String} {y : MethodName} {c : Cond} (h1 : Cond.methodLink own idx y ∈ wAll) (h2 : Cond.instanceMethod y ∈ wAll) (h3 : Cond.selects C y y ∈ wAll) (h4 : Cond.initialized C ∈ wAll) (h5 : c ∈ wAll) : GoodIn wAll (wsV own idx C y (c :: wAll)) :=
  gA (List.forall_mem_cons.mpr ⟨h1, List.forall_mem_cons.mpr ⟨h2, List.forall_mem_cons.mpr ⟨h3, List.forall_mem_cons.mpr ⟨h4, fun _ h => absurd h List.not_mem_nil⟩⟩⟩⟩) (gI h5)
theorem gS {own : String} {idx : Nat} {y : MethodName} {c : Cond} (h1 : Cond.methodLink own idx y ∈ wAll) (h2 : Cond.static y ∈ wAll) (h3 : Cond.initialized own ∈ wAll) (h5 : c ∈ wAll) : GoodIn wAll (wsS own idx y (c :: wAll)) :=
  gA (List.forall_mem_cons.mpr ⟨h1, List.forall_mem_cons.mpr ⟨h2, List.forall_mem_cons.mpr ⟨h3, fun _ h => absurd h List.not_mem_nil⟩⟩⟩) (gI h5)
theorem gSo {own : String} {idx : Nat} {y : MethodName} {c : Cond} (h1 : Cond.methodLink own idx y ∈ wAll) (h2 : Cond.static y ∈ wAll) (h3 : Cond.initialized y.cls ∈ wAll) (h5 : c ∈ wAll) : GoodIn wAll (va_wsS own idx y (c :: wAll)) :=
  gA (List.forall_mem_cons.mpr ⟨h1, List.forall_mem_cons.mpr ⟨h2, List.forall_mem_cons.mpr ⟨h3, fun _ h => absurd h List.not_mem_nil⟩⟩⟩) (gI h5)
def wsX3_init : List Cond := Cond.code yX3_init cX3_init 1 none :: wAll
def wsX3_clear : List Cond := Cond.code yX3_clear cX3_clear 1 none :: wAll
def wsX3_key : List Cond := Cond.code yX3_key cX3_key 3 (some .int) :: wAll
def wsX3_make : List Cond := Cond.code yX3_make cX3_make 5 none :: wAll
def wsX3_set : List Cond := Cond.code yX3_set cX3_set 6 none :: wAll
def wsX3_insert : List Cond := Cond.code yX3_insert cX3_insert 5 (some .boolean) :: wAll
def wsX3_change : List Cond := Cond.code yX3_change cX3_change 5 (some .boolean) :: wAll
def wsX3_remove : List Cond := Cond.code yX3_remove cX3_remove 2 (some .boolean) :: wAll
def wsX3_match : List Cond := Cond.code yX3_match cX3_match 3 (some .int) :: wAll
def wsX3_datum : List Cond := Cond.code yX3_datum cX3_datum 1 (some .long) :: wAll
def wsX3_bucket : List Cond := Cond.code yX3_bucket cX3_bucket 6 (some .int) :: wAll
def wsX3_count : List Cond := Cond.code yX3_count cX3_count 2 (some .int) :: wAll
def wsX3_requireTable : List Cond := Cond.code yX3_requireTable cX3_requireTable 1 none :: wAll
def wsX3_isHashedShape : List Cond := Cond.code yX3_isHashedShape cX3_isHashedShape 3 (some .boolean) :: wAll
def wsX3_isListedShape : List Cond := Cond.code yX3_isListedShape cX3_isListedShape 1 (some .boolean) :: wAll
def wsX3_isAction : List Cond := Cond.code yX3_isAction cX3_isAction 1 (some .boolean) :: wAll
def wsX3_askedMask : List Cond := Cond.code yX3_askedMask cX3_askedMask 2 (some .long) :: wAll
def wsX3_areMasksRight : List Cond := Cond.code yX3_areMasksRight cX3_areMasksRight 2 (some .boolean) :: wAll
def wsX3_findAsked : List Cond := Cond.code yX3_findAsked cX3_findAsked 2 (some .int) :: wAll
def wsX3_isAsked : List Cond := Cond.code yX3_isAsked cX3_isAsked 6 (some .boolean) :: wAll
def wsX3_fitsAsked : List Cond := Cond.code yX3_fitsAsked cX3_fitsAsked 4 (some .boolean) :: wAll
def wsX3_hasRoom : List Cond := Cond.code yX3_hasRoom cX3_hasRoom 1 (some .boolean) :: wAll
def wsX3_addAsked : List Cond := Cond.code yX3_addAsked cX3_addAsked 11 none :: wAll
def wsX4_init : List Cond := Cond.code yX4_init cX4_init 1 none :: wAll
def wsX4_thrown : List Cond := Cond.code yX4_thrown cX4_thrown 1 (some .int) :: wAll
def wsX4_clear : List Cond := Cond.code yX4_clear cX4_clear 2 none :: wAll
def wsX4_has : List Cond := Cond.code yX4_has cX4_has 3 (some .boolean) :: wAll
def wsX4_key : List Cond := Cond.code yX4_key cX4_key 4 (some .int) :: wAll
def wsX4_hashed : List Cond := Cond.code yX4_hashed cX4_hashed 1 (some .boolean) :: wAll
def wsX4_make : List Cond := Cond.code yX4_make cX4_make 5 none :: wAll
def wsX4_set : List Cond := Cond.code yX4_set cX4_set 6 none :: wAll
def wsX4_ones : List Cond := Cond.code yX4_ones cX4_ones 2 (some .long) :: wAll
def wsX4_onesIn : List Cond := Cond.code yX4_onesIn cX4_onesIn 4 (some .int) :: wAll
def wsX4_masksAreRight : List Cond := Cond.code yX4_masksAreRight cX4_masksAreRight 8 (some .boolean) :: wAll
def wsX4_there : List Cond := Cond.code yX4_there cX4_there 6 (some .int) :: wAll
def wsX4_bucketOf : List Cond := Cond.code yX4_bucketOf cX4_bucketOf 8 (some .int) :: wAll
def wsX4_above : List Cond := Cond.code yX4_above cX4_above 4 (some .int) :: wAll
def wsX4_write : List Cond := Cond.code yX4_write cX4_write 7 none :: wAll
def wsX4_insert : List Cond := Cond.code yX4_insert cX4_insert 5 (some .boolean) :: wAll
def wsX4_change : List Cond := Cond.code yX4_change cX4_change 5 (some .boolean) :: wAll
def wsX4_remove : List Cond := Cond.code yX4_remove cX4_remove 4 (some .boolean) :: wAll
def wsX4_matches : List Cond := Cond.code yX4_matches cX4_matches 3 (some .boolean) :: wAll
def wsX4_prefixOnes : List Cond := Cond.code yX4_prefixOnes cX4_prefixOnes 3 (some .int) :: wAll
def wsX4_match : List Cond := Cond.code yX4_match cX4_match 4 (some .int) :: wAll
def wsX4_datum : List Cond := Cond.code yX4_datum cX4_datum 1 (some .long) :: wAll
def wsX4_bucket : List Cond := Cond.code yX4_bucket cX4_bucket 1 (some .int) :: wAll
def wsX4_most : List Cond := Cond.code yX4_most cX4_most 1 (some .int) :: wAll
def wsX4_count : List Cond := Cond.code yX4_count cX4_count 2 (some .int) :: wAll
def wsX0_init : List Cond := Cond.code yX0_init cX0_init 1 none :: wAll
def wsX0_lay : List Cond := Cond.code yX0_lay cX0_lay 4 none :: wAll
def wsX0_indexOf : List Cond := Cond.code yX0_indexOf cX0_indexOf 3 (some .int) :: wAll
def wsX0_isOne : List Cond := Cond.code yX0_isOne cX0_isOne 2 (some .boolean) :: wAll
def wsX0_haveRoom : List Cond := Cond.code yX0_haveRoom cX0_haveRoom 2 (some .boolean) :: wAll
def wsX0_fill : List Cond := Cond.code yX0_fill cX0_fill 2 none :: wAll
def wsX0_empty : List Cond := Cond.code yX0_empty cX0_empty 2 none :: wAll
def wsX0_above : List Cond := Cond.code yX0_above cX0_above 3 (some .int) :: wAll
def wsX1_init : List Cond := Cond.code yX1_init cX1_init 1 none :: wAll
def wsX1_place : List Cond := Cond.code yX1_place cX1_place 2 (some .int) :: wAll
def wsX1_drop : List Cond := Cond.code yX1_drop cX1_drop 3 none :: wAll
def wsX1_copy : List Cond := Cond.code yX1_copy cX1_copy 4 none :: wAll
def wsX1_isWorthMore : List Cond := Cond.code yX1_isWorthMore cX1_isWorthMore 3 (some .boolean) :: wAll
def wsX2_init : List Cond := Cond.code yX2_init cX2_init 1 none :: wAll
def wsX2_have : List Cond := Cond.code yX2_have cX2_have 3 (some .boolean) :: wAll
def wsX2_areExact : List Cond := Cond.code yX2_areExact cX2_areExact 1 (some .boolean) :: wAll
def wsX2_allow : List Cond := Cond.code yX2_allow cX2_allow 2 (some .boolean) :: wAll
def wsX2_add : List Cond := Cond.code yX2_add cX2_add 4 (some .int) :: wAll
def wsX2_takeMask : List Cond := Cond.code yX2_takeMask cX2_takeMask 6 (some .boolean) :: wAll
def wsL_key : List Cond := Cond.codeWith yL_key cL_key 5 (some .int) [(0, 10, 13, 13), (0, 10, 17, 15)] :: wAll
def wsL_make : List Cond := Cond.codeWith yL_make cL_make 5 (some .int) [(0, 7, 10, 13), (0, 7, 14, 15)] :: wAll
def wsL_set : List Cond := Cond.codeWith yL_set cL_set 7 (some .int) [(0, 8, 11, 25)] :: wAll
def wsL_insert : List Cond := Cond.codeWith yL_insert cL_insert 7 (some .int) [(0, 19, 22, 15)] :: wAll
def wsL_change : List Cond := Cond.codeWith yL_change cL_change 6 (some .int) [(0, 18, 21, 15)] :: wAll
def wsL_remove : List Cond := Cond.codeWith yL_remove cL_remove 3 (some .int) [(0, 15, 18, 15)] :: wAll
def wsL_match : List Cond := Cond.codeWith yL_match cL_match 3 (some .int) [(0, 8, 11, 15)] :: wAll
def wsJ6_bitCount : List Cond := Cond.code yJ6_bitCount cJ6_bitCount 1 (some .int) :: wAll
def wsJ13_bitCount : List Cond := Cond.code yJ13_bitCount cJ13_bitCount 2 (some .int) :: wAll
def wsJ9_max : List Cond := Cond.code yJ9_max cJ9_max 2 (some .int) :: wAll
def wsJ7_fillI : List Cond := Cond.code yJ7_fillI cJ7_fillI 4 none :: wAll
def wsJ7_fillL : List Cond := Cond.code yJ7_fillL cJ7_fillL 5 none :: wAll
theorem inX0 : ∀ w ∈ u_ws RX0 TX0 4, w ∈ wAll := fun w h => (goodIn_r (big := lw_tbl) (u_ws RX0 TX0 4) [111, 113, 115, 117] (by decide +kernel) (by decide +kernel) w h).1 |> fun h2 => List.mem_filter.mpr ⟨h2, List.all_eq_true.mp (show (u_ws RX0 TX0 4).all goodWord = true by decide +kernel) w h⟩
theorem inX1 : ∀ w ∈ u_ws RX1 TX1 7, w ∈ wAll := fun w h => (goodIn_r (big := lw_tbl) (u_ws RX1 TX1 7) [86, 88, 90, 92, 94, 96, 98] (by decide +kernel) (by decide +kernel) w h).1 |> fun h2 => List.mem_filter.mpr ⟨h2, List.all_eq_true.mp (show (u_ws RX1 TX1 7).all goodWord = true by decide +kernel) w h⟩
theorem inX2 : ∀ w ∈ u_ws RX2 TX2 3, w ∈ wAll := fun w h => (goodIn_r (big := lw_tbl) (u_ws RX2 TX2 3) [57, 59, 61] (by decide +kernel) (by decide +kernel) w h).1 |> fun h2 => List.mem_filter.mpr ⟨h2, List.all_eq_true.mp (show (u_ws RX2 TX2 3).all goodWord = true by decide +kernel) w h⟩
theorem inX3 : ∀ w ∈ u_ws RX3 TX3 9, w ∈ wAll := fun w h => (goodIn_r (big := lw_tbl) (u_ws RX3 TX3 9) [129, 131, 133, 135, 137, 139, 141, 143, 145] (by decide +kernel) (by decide +kernel) w h).1 |> fun h2 => List.mem_filter.mpr ⟨h2, List.all_eq_true.mp (show (u_ws RX3 TX3 9).all goodWord = true by decide +kernel) w h⟩
theorem inX4 : ∀ w ∈ u_ws RX4 TX4 18, w ∈ wAll := fun w h => (goodIn_r (big := lw_tbl) (u_ws RX4 TX4 18) [475, 477, 479, 481, 483, 485, 487, 489, 491, 493, 495, 497, 499, 501, 503, 505, 507, 509] (by decide +kernel) (by decide +kernel) w h).1 |> fun h2 => List.mem_filter.mpr ⟨h2, List.all_eq_true.mp (show (u_ws RX4 TX4 18).all goodWord = true by decide +kernel) w h⟩
end
section
theorem dX3_init_0 : decode cX3_init 0 = .ok (.aload_n 0, 1) := by decide +kernel
theorem dX3_init_1 : decode cX3_init 1 = .ok (.invokespecial 3, 3) := by decide +kernel
theorem dX3_init_4 : decode cX3_init 4 = .ok (.aload_n 0, 1) := by decide +kernel
theorem dX3_init_5 : decode cX3_init 5 = .ok (.new 9, 3) := by decide +kernel
theorem dX3_init_8 : decode cX3_init 8 = .ok (.dup, 1) := by decide +kernel
theorem dX3_init_9 : decode cX3_init 9 = .ok (.invokespecial 11, 3) := by decide +kernel
theorem dX3_init_12 : decode cX3_init 12 = .ok (.putfield 12, 3) := by decide +kernel
theorem dX3_init_15 : decode cX3_init 15 = .ok (.aload_n 0, 1) := by decide +kernel
theorem dX3_init_16 : decode cX3_init 16 = .ok (.new 16, 3) := by decide +kernel
theorem dX3_init_19 : decode cX3_init 19 = .ok (.dup, 1) := by decide +kernel
theorem dX3_init_20 : decode cX3_init 20 = .ok (.invokespecial 18, 3) := by decide +kernel
theorem dX3_init_23 : decode cX3_init 23 = .ok (.putfield 19, 3) := by decide +kernel
theorem dX3_init_26 : decode cX3_init 26 = .ok (.aload_n 0, 1) := by decide +kernel
theorem dX3_init_27 : decode cX3_init 27 = .ok (.new 23, 3) := by decide +kernel
theorem dX3_init_30 : decode cX3_init 30 = .ok (.dup, 1) := by decide +kernel
theorem dX3_init_31 : decode cX3_init 31 = .ok (.invokespecial 25, 3) := by decide +kernel
theorem dX3_init_34 : decode cX3_init 34 = .ok (.putfield 26, 3) := by decide +kernel
theorem dX3_init_37 : decode cX3_init 37 = .ok (.aload_n 0, 1) := by decide +kernel
theorem dX3_init_38 : decode cX3_init 38 = .ok (.iconst 4, 1) := by decide +kernel
theorem dX3_init_39 : decode cX3_init 39 = .ok (.newarray .long, 2) := by decide +kernel
theorem dX3_init_41 : decode cX3_init 41 = .ok (.putfield 30, 3) := by decide +kernel
theorem dX3_init_44 : decode cX3_init 44 = .ok (.aload_n 0, 1) := by decide +kernel
theorem dX3_init_45 : decode cX3_init 45 = .ok (.iconst 4, 1) := by decide +kernel
theorem dX3_init_46 : decode cX3_init 46 = .ok (.newarray .long, 2) := by decide +kernel
theorem dX3_init_48 : decode cX3_init 48 = .ok (.putfield 34, 3) := by decide +kernel
theorem dX3_init_51 : decode cX3_init 51 = .ok (.return_, 1) := by decide +kernel
theorem dX3_clear_0 : decode cX3_clear 0 = .ok (.aload_n 0, 1) := by decide +kernel
theorem dX3_clear_1 : decode cX3_clear 1 = .ok (.getfield 12, 3) := by decide +kernel
theorem dX3_clear_4 : decode cX3_clear 4 = .ok (.iconst 0, 1) := by decide +kernel
theorem dX3_clear_5 : decode cX3_clear 5 = .ok (.putfield 37, 3) := by decide +kernel
theorem dX3_clear_8 : decode cX3_clear 8 = .ok (.aload_n 0, 1) := by decide +kernel
theorem dX3_clear_9 : decode cX3_clear 9 = .ok (.getfield 19, 3) := by decide +kernel
theorem dX3_clear_12 : decode cX3_clear 12 = .ok (.iconst 0, 1) := by decide +kernel
theorem dX3_clear_13 : decode cX3_clear 13 = .ok (.putfield 41, 3) := by decide +kernel
theorem dX3_clear_16 : decode cX3_clear 16 = .ok (.aload_n 0, 1) := by decide +kernel
theorem dX3_clear_17 : decode cX3_clear 17 = .ok (.getfield 26, 3) := by decide +kernel
theorem dX3_clear_20 : decode cX3_clear 20 = .ok (.iconst 0, 1) := by decide +kernel
theorem dX3_clear_21 : decode cX3_clear 21 = .ok (.iconst 0, 1) := by decide +kernel
theorem dX3_clear_22 : decode cX3_clear 22 = .ok (.iconst 0, 1) := by decide +kernel
theorem dX3_clear_23 : decode cX3_clear 23 = .ok (.invokevirtual 42, 3) := by decide +kernel
theorem dX3_clear_26 : decode cX3_clear 26 = .ok (.aload_n 0, 1) := by decide +kernel
theorem dX3_clear_27 : decode cX3_clear 27 = .ok (.getfield 30, 3) := by decide +kernel
theorem dX3_clear_30 : decode cX3_clear 30 = .ok (.lconst 0, 1) := by decide +kernel
theorem dX3_clear_31 : decode cX3_clear 31 = .ok (.invokestatic 46, 3) := by decide +kernel
theorem dX3_clear_34 : decode cX3_clear 34 = .ok (.aload_n 0, 1) := by decide +kernel
theorem dX3_clear_35 : decode cX3_clear 35 = .ok (.getfield 34, 3) := by decide +kernel
theorem dX3_clear_38 : decode cX3_clear 38 = .ok (.lconst 0, 1) := by decide +kernel
theorem dX3_clear_39 : decode cX3_clear 39 = .ok (.invokestatic 46, 3) := by decide +kernel
theorem dX3_clear_42 : decode cX3_clear 42 = .ok (.aload_n 0, 1) := by decide +kernel
theorem dX3_clear_43 : decode cX3_clear 43 = .ok (.iconst 0, 1) := by decide +kernel
theorem dX3_clear_44 : decode cX3_clear 44 = .ok (.putfield 52, 3) := by decide +kernel
theorem dX3_clear_47 : decode cX3_clear 47 = .ok (.aload_n 0, 1) := by decide +kernel
theorem dX3_clear_48 : decode cX3_clear 48 = .ok (.iconst 0, 1) := by decide +kernel
theorem dX3_clear_49 : decode cX3_clear 49 = .ok (.putfield 56, 3) := by decide +kernel
theorem dX3_clear_52 : decode cX3_clear 52 = .ok (.aload_n 0, 1) := by decide +kernel
theorem dX3_clear_53 : decode cX3_clear 53 = .ok (.iconst 0, 1) := by decide +kernel
theorem dX3_clear_54 : decode cX3_clear 54 = .ok (.putfield 59, 3) := by decide +kernel
theorem dX3_clear_57 : decode cX3_clear 57 = .ok (.aload_n 0, 1) := by decide +kernel
theorem dX3_clear_58 : decode cX3_clear 58 = .ok (.lconst 0, 1) := by decide +kernel
theorem dX3_clear_59 : decode cX3_clear 59 = .ok (.putfield 62, 3) := by decide +kernel
theorem dX3_clear_62 : decode cX3_clear 62 = .ok (.return_, 1) := by decide +kernel
theorem dX3_key_0 : decode cX3_key 0 = .ok (.iload_n 1, 1) := by decide +kernel
theorem dX3_key_1 : decode cX3_key 1 = .ok (.iconst 1, 1) := by decide +kernel
theorem dX3_key_2 : decode cX3_key 2 = .ok (.if_icmp .lt 18, 3) := by decide +kernel
theorem dX3_key_5 : decode cX3_key 5 = .ok (.iload_n 1, 1) := by decide +kernel
theorem dX3_key_6 : decode cX3_key 6 = .ok (.bipush 64, 2) := by decide +kernel
theorem dX3_key_8 : decode cX3_key 8 = .ok (.if_icmp .gt 12, 3) := by decide +kernel
theorem dX3_key_11 : decode cX3_key 11 = .ok (.iload_n 2, 1) := by decide +kernel
theorem dX3_key_12 : decode cX3_key 12 = .ok (.ifCond .lt 8, 3) := by decide +kernel
theorem dX3_key_15 : decode cX3_key 15 = .ok (.iload_n 2, 1) := by decide +kernel
theorem dX3_key_16 : decode cX3_key 16 = .ok (.iconst 2, 1) := by decide +kernel
theorem dX3_key_17 : decode cX3_key 17 = .ok (.if_icmp .le 13, 3) := by decide +kernel
theorem dX3_key_20 : decode cX3_key 20 = .ok (.new 66, 3) := by decide +kernel
theorem dX3_key_23 : decode cX3_key 23 = .ok (.dup, 1) := by decide +kernel
theorem dX3_key_24 : decode cX3_key 24 = .ok (.ldc 68, 2) := by decide +kernel
theorem dX3_key_26 : decode cX3_key 26 = .ok (.invokespecial 70, 3) := by decide +kernel
theorem dX3_key_29 : decode cX3_key 29 = .ok (.athrow, 1) := by decide +kernel
theorem dX3_key_30 : decode cX3_key 30 = .ok (.aload_n 0, 1) := by decide +kernel
theorem dX3_key_31 : decode cX3_key 31 = .ok (.getfield 52, 3) := by decide +kernel
theorem dX3_key_34 : decode cX3_key 34 = .ok (.ifCond .ne 14, 3) := by decide +kernel
theorem dX3_key_37 : decode cX3_key 37 = .ok (.aload_n 0, 1) := by decide +kernel
theorem dX3_key_38 : decode cX3_key 38 = .ok (.getfield 12, 3) := by decide +kernel
theorem dX3_key_41 : decode cX3_key 41 = .ok (.getfield 37, 3) := by decide +kernel
theorem dX3_key_44 : decode cX3_key 44 = .ok (.iconst 4, 1) := by decide +kernel
theorem dX3_key_45 : decode cX3_key 45 = .ok (.if_icmp .lt 13, 3) := by decide +kernel
theorem dX3_key_48 : decode cX3_key 48 = .ok (.new 73, 3) := by decide +kernel
theorem dX3_key_51 : decode cX3_key 51 = .ok (.dup, 1) := by decide +kernel
theorem dX3_key_52 : decode cX3_key 52 = .ok (.ldc 75, 2) := by decide +kernel
theorem dX3_key_54 : decode cX3_key 54 = .ok (.invokespecial 77, 3) := by decide +kernel
theorem dX3_key_57 : decode cX3_key 57 = .ok (.athrow, 1) := by decide +kernel
theorem dX3_key_58 : decode cX3_key 58 = .ok (.aload_n 0, 1) := by decide +kernel
theorem dX3_key_59 : decode cX3_key 59 = .ok (.getfield 12, 3) := by decide +kernel
theorem dX3_key_62 : decode cX3_key 62 = .ok (.iload_n 2, 1) := by decide +kernel
theorem dX3_key_63 : decode cX3_key 63 = .ok (.invokevirtual 78, 3) := by decide +kernel
theorem dX3_key_66 : decode cX3_key 66 = .ok (.ifCond .ne 13, 3) := by decide +kernel
theorem dX3_key_69 : decode cX3_key 69 = .ok (.new 66, 3) := by decide +kernel
theorem dX3_key_72 : decode cX3_key 72 = .ok (.dup, 1) := by decide +kernel
theorem dX3_key_73 : decode cX3_key 73 = .ok (.ldc 82, 2) := by decide +kernel
theorem dX3_key_75 : decode cX3_key 75 = .ok (.invokespecial 70, 3) := by decide +kernel
theorem dX3_key_78 : decode cX3_key 78 = .ok (.athrow, 1) := by decide +kernel
theorem dX3_key_79 : decode cX3_key 79 = .ok (.aload_n 0, 1) := by decide +kernel
theorem dX3_key_80 : decode cX3_key 80 = .ok (.getfield 12, 3) := by decide +kernel
theorem dX3_key_83 : decode cX3_key 83 = .ok (.iload_n 1, 1) := by decide +kernel
theorem dX3_key_84 : decode cX3_key 84 = .ok (.iload_n 2, 1) := by decide +kernel
theorem dX3_key_85 : decode cX3_key 85 = .ok (.invokevirtual 84, 3) := by decide +kernel
theorem dX3_key_88 : decode cX3_key 88 = .ok (.ireturn, 1) := by decide +kernel
theorem dX3_make_0 : decode cX3_make 0 = .ok (.aload_n 0, 1) := by decide +kernel
theorem dX3_make_1 : decode cX3_make 1 = .ok (.getfield 52, 3) := by decide +kernel
theorem dX3_make_4 : decode cX3_make 4 = .ok (.ifCond .ne 13, 3) := by decide +kernel
theorem dX3_make_7 : decode cX3_make 7 = .ok (.aload_n 0, 1) := by decide +kernel
theorem dX3_make_8 : decode cX3_make 8 = .ok (.getfield 12, 3) := by decide +kernel
theorem dX3_make_11 : decode cX3_make 11 = .ok (.getfield 37, 3) := by decide +kernel
theorem dX3_make_14 : decode cX3_make 14 = .ok (.ifCond .ne 13, 3) := by decide +kernel
theorem dX3_make_17 : decode cX3_make 17 = .ok (.new 73, 3) := by decide +kernel
theorem dX3_make_20 : decode cX3_make 20 = .ok (.dup, 1) := by decide +kernel
theorem dX3_make_21 : decode cX3_make 21 = .ok (.ldc 88, 2) := by decide +kernel
theorem dX3_make_23 : decode cX3_make 23 = .ok (.invokespecial 77, 3) := by decide +kernel
theorem dX3_make_26 : decode cX3_make 26 = .ok (.athrow, 1) := by decide +kernel
theorem dX3_make_27 : decode cX3_make 27 = .ok (.aload_n 0, 1) := by decide +kernel
theorem dX3_make_28 : decode cX3_make 28 = .ok (.getfield 12, 3) := by decide +kernel
theorem dX3_make_31 : decode cX3_make 31 = .ok (.invokevirtual 90, 3) := by decide +kernel
theorem dX3_make_34 : decode cX3_make 34 = .ok (.istore 4, 2) := by decide +kernel
theorem dX3_make_36 : decode cX3_make 36 = .ok (.iload 4, 2) := by decide +kernel
theorem dX3_make_38 : decode cX3_make 38 = .ok (.ifCond .eq 15, 3) := by decide +kernel
theorem dX3_make_41 : decode cX3_make 41 = .ok (.iload_n 1, 1) := by decide +kernel
theorem dX3_make_42 : decode cX3_make 42 = .ok (.iload_n 2, 1) := by decide +kernel
theorem dX3_make_43 : decode cX3_make 43 = .ok (.iload_n 3, 1) := by decide +kernel
theorem dX3_make_44 : decode cX3_make 44 = .ok (.invokestatic 94, 3) := by decide +kernel
theorem dX3_make_47 : decode cX3_make 47 = .ok (.ifCond .ne 23, 3) := by decide +kernel
theorem dX3_make_50 : decode cX3_make 50 = .ok (.goto 10, 3) := by decide +kernel
theorem dX3_make_53 : decode cX3_make 53 = .ok (.iload_n 1, 1) := by decide +kernel
theorem dX3_make_54 : decode cX3_make 54 = .ok (.invokestatic 98, 3) := by decide +kernel
theorem dX3_make_57 : decode cX3_make 57 = .ok (.ifCond .ne 13, 3) := by decide +kernel
theorem dX3_make_60 : decode cX3_make 60 = .ok (.new 66, 3) := by decide +kernel
theorem dX3_make_63 : decode cX3_make 63 = .ok (.dup, 1) := by decide +kernel
theorem dX3_make_64 : decode cX3_make 64 = .ok (.ldc 101, 2) := by decide +kernel
theorem dX3_make_66 : decode cX3_make 66 = .ok (.invokespecial 70, 3) := by decide +kernel
theorem dX3_make_69 : decode cX3_make 69 = .ok (.athrow, 1) := by decide +kernel
theorem dX3_make_70 : decode cX3_make 70 = .ok (.iload 4, 2) := by decide +kernel
theorem dX3_make_72 : decode cX3_make 72 = .ok (.ifCond .eq 13, 3) := by decide +kernel
theorem dX3_make_75 : decode cX3_make 75 = .ok (.aload_n 0, 1) := by decide +kernel
theorem dX3_make_76 : decode cX3_make 76 = .ok (.getfield 26, 3) := by decide +kernel
theorem dX3_make_79 : decode cX3_make 79 = .ok (.iload_n 1, 1) := by decide +kernel
theorem dX3_make_80 : decode cX3_make 80 = .ok (.iload_n 2, 1) := by decide +kernel
theorem dX3_make_81 : decode cX3_make 81 = .ok (.iload_n 3, 1) := by decide +kernel
theorem dX3_make_82 : decode cX3_make 82 = .ok (.invokevirtual 42, 3) := by decide +kernel
theorem dX3_make_85 : decode cX3_make 85 = .ok (.aload_n 0, 1) := by decide +kernel
theorem dX3_make_86 : decode cX3_make 86 = .ok (.iload 4, 2) := by decide +kernel
theorem dX3_make_88 : decode cX3_make 88 = .ok (.ifCond .eq 11, 3) := by decide +kernel
theorem dX3_make_91 : decode cX3_make 91 = .ok (.iload_n 1, 1) := by decide +kernel
theorem dX3_make_92 : decode cX3_make 92 = .ok (.iload_n 2, 1) := by decide +kernel
theorem dX3_make_93 : decode cX3_make 93 = .ok (.imul, 1) := by decide +kernel
theorem dX3_make_94 : decode cX3_make 94 = .ok (.iload_n 3, 1) := by decide +kernel
theorem dX3_make_95 : decode cX3_make 95 = .ok (.iadd, 1) := by decide +kernel
theorem dX3_make_96 : decode cX3_make 96 = .ok (.goto 4, 3) := by decide +kernel
theorem dX3_make_99 : decode cX3_make 99 = .ok (.iload_n 1, 1) := by decide +kernel
theorem dX3_make_100 : decode cX3_make 100 = .ok (.putfield 59, 3) := by decide +kernel
theorem dX3_make_103 : decode cX3_make 103 = .ok (.aload_n 0, 1) := by decide +kernel
theorem dX3_make_104 : decode cX3_make 104 = .ok (.iload 4, 2) := by decide +kernel
theorem dX3_make_106 : decode cX3_make 106 = .ok (.putfield 56, 3) := by decide +kernel
theorem dX3_make_109 : decode cX3_make 109 = .ok (.aload_n 0, 1) := by decide +kernel
theorem dX3_make_110 : decode cX3_make 110 = .ok (.iconst 1, 1) := by decide +kernel
theorem dX3_make_111 : decode cX3_make 111 = .ok (.putfield 52, 3) := by decide +kernel
theorem dX3_make_114 : decode cX3_make 114 = .ok (.return_, 1) := by decide +kernel
theorem dX3_set_0 : decode cX3_set 0 = .ok (.iload_n 1, 1) := by decide +kernel
theorem dX3_set_1 : decode cX3_set 1 = .ok (.ifCond .lt 8, 3) := by decide +kernel
theorem dX3_set_4 : decode cX3_set 4 = .ok (.iload_n 1, 1) := by decide +kernel
theorem dX3_set_5 : decode cX3_set 5 = .ok (.iconst 4, 1) := by decide +kernel
theorem dX3_set_6 : decode cX3_set 6 = .ok (.if_icmp .lt 13, 3) := by decide +kernel
theorem dX3_set_9 : decode cX3_set 9 = .ok (.new 103, 3) := by decide +kernel
theorem dX3_set_12 : decode cX3_set 12 = .ok (.dup, 1) := by decide +kernel
theorem dX3_set_13 : decode cX3_set 13 = .ok (.ldc 105, 2) := by decide +kernel
theorem dX3_set_15 : decode cX3_set 15 = .ok (.invokespecial 107, 3) := by decide +kernel
theorem dX3_set_18 : decode cX3_set 18 = .ok (.athrow, 1) := by decide +kernel
theorem dX3_set_19 : decode cX3_set 19 = .ok (.aload_n 0, 1) := by decide +kernel
theorem dX3_set_20 : decode cX3_set 20 = .ok (.getfield 30, 3) := by decide +kernel
theorem dX3_set_23 : decode cX3_set 23 = .ok (.iload_n 1, 1) := by decide +kernel
theorem dX3_set_24 : decode cX3_set 24 = .ok (.lload_n 2, 1) := by decide +kernel
theorem dX3_set_25 : decode cX3_set 25 = .ok (.lastore, 1) := by decide +kernel
theorem dX3_set_26 : decode cX3_set 26 = .ok (.aload_n 0, 1) := by decide +kernel
theorem dX3_set_27 : decode cX3_set 27 = .ok (.getfield 34, 3) := by decide +kernel
theorem dX3_set_30 : decode cX3_set 30 = .ok (.iload_n 1, 1) := by decide +kernel
theorem dX3_set_31 : decode cX3_set 31 = .ok (.lload 4, 2) := by decide +kernel
theorem dX3_set_33 : decode cX3_set 33 = .ok (.lastore, 1) := by decide +kernel
theorem dX3_set_34 : decode cX3_set 34 = .ok (.return_, 1) := by decide +kernel
theorem dX3_insert_0 : decode cX3_insert 0 = .ok (.aload_n 0, 1) := by decide +kernel
theorem dX3_insert_1 : decode cX3_insert 1 = .ok (.invokevirtual 108, 3) := by decide +kernel
theorem dX3_insert_4 : decode cX3_insert 4 = .ok (.iload_n 2, 1) := by decide +kernel
theorem dX3_insert_5 : decode cX3_insert 5 = .ok (.invokestatic 111, 3) := by decide +kernel
theorem dX3_insert_8 : decode cX3_insert 8 = .ok (.ifCond .eq 25, 3) := by decide +kernel
theorem dX3_insert_11 : decode cX3_insert 11 = .ok (.aload_n 0, 1) := by decide +kernel
theorem dX3_insert_12 : decode cX3_insert 12 = .ok (.invokevirtual 114, 3) := by decide +kernel
theorem dX3_insert_15 : decode cX3_insert 15 = .ok (.ifCond .eq 18, 3) := by decide +kernel
theorem dX3_insert_18 : decode cX3_insert 18 = .ok (.aload_n 0, 1) := by decide +kernel
theorem dX3_insert_19 : decode cX3_insert 19 = .ok (.invokevirtual 117, 3) := by decide +kernel
theorem dX3_insert_22 : decode cX3_insert 22 = .ok (.iconst (-1), 1) := by decide +kernel
theorem dX3_insert_23 : decode cX3_insert 23 = .ok (.if_icmp .ne 10, 3) := by decide +kernel
theorem dX3_insert_26 : decode cX3_insert 26 = .ok (.aload_n 0, 1) := by decide +kernel
theorem dX3_insert_27 : decode cX3_insert 27 = .ok (.invokevirtual 121, 3) := by decide +kernel
theorem dX3_insert_30 : decode cX3_insert 30 = .ok (.ifCond .ne 5, 3) := by decide +kernel
theorem dX3_insert_33 : decode cX3_insert 33 = .ok (.iconst 0, 1) := by decide +kernel
theorem dX3_insert_34 : decode cX3_insert 34 = .ok (.ireturn, 1) := by decide +kernel
theorem dX3_insert_35 : decode cX3_insert 35 = .ok (.aload_n 0, 1) := by decide +kernel
theorem dX3_insert_36 : decode cX3_insert 36 = .ok (.iload_n 1, 1) := by decide +kernel
theorem dX3_insert_37 : decode cX3_insert 37 = .ok (.iload_n 2, 1) := by decide +kernel
theorem dX3_insert_38 : decode cX3_insert 38 = .ok (.lload_n 3, 1) := by decide +kernel
theorem dX3_insert_39 : decode cX3_insert 39 = .ok (.invokevirtual 124, 3) := by decide +kernel
theorem dX3_insert_42 : decode cX3_insert 42 = .ok (.aload_n 0, 1) := by decide +kernel
theorem dX3_insert_43 : decode cX3_insert 43 = .ok (.getfield 26, 3) := by decide +kernel
theorem dX3_insert_46 : decode cX3_insert 46 = .ok (.aload_n 0, 1) := by decide +kernel
theorem dX3_insert_47 : decode cX3_insert 47 = .ok (.invokevirtual 128, 3) := by decide +kernel
theorem dX3_insert_50 : decode cX3_insert 50 = .ok (.invokevirtual 131, 3) := by decide +kernel
theorem dX3_insert_53 : decode cX3_insert 53 = .ok (.iconst 1, 1) := by decide +kernel
theorem dX3_insert_54 : decode cX3_insert 54 = .ok (.ireturn, 1) := by decide +kernel
theorem dX3_change_0 : decode cX3_change 0 = .ok (.aload_n 0, 1) := by decide +kernel
theorem dX3_change_1 : decode cX3_change 1 = .ok (.invokevirtual 108, 3) := by decide +kernel
theorem dX3_change_4 : decode cX3_change 4 = .ok (.aload_n 0, 1) := by decide +kernel
theorem dX3_change_5 : decode cX3_change 5 = .ok (.invokevirtual 117, 3) := by decide +kernel
theorem dX3_change_8 : decode cX3_change 8 = .ok (.istore 4, 2) := by decide +kernel
theorem dX3_change_10 : decode cX3_change 10 = .ok (.iload 4, 2) := by decide +kernel
theorem dX3_change_12 : decode cX3_change 12 = .ok (.iconst (-1), 1) := by decide +kernel
theorem dX3_change_13 : decode cX3_change 13 = .ok (.if_icmp .eq 10, 3) := by decide +kernel
theorem dX3_change_16 : decode cX3_change 16 = .ok (.iload_n 1, 1) := by decide +kernel
theorem dX3_change_17 : decode cX3_change 17 = .ok (.invokestatic 111, 3) := by decide +kernel
theorem dX3_change_20 : decode cX3_change 20 = .ok (.ifCond .ne 5, 3) := by decide +kernel
theorem dX3_change_23 : decode cX3_change 23 = .ok (.iconst 0, 1) := by decide +kernel
theorem dX3_change_24 : decode cX3_change 24 = .ok (.ireturn, 1) := by decide +kernel
theorem dX3_change_25 : decode cX3_change 25 = .ok (.aload_n 0, 1) := by decide +kernel
theorem dX3_change_26 : decode cX3_change 26 = .ok (.getfield 19, 3) := by decide +kernel
theorem dX3_change_29 : decode cX3_change 29 = .ok (.getfield 134, 3) := by decide +kernel
theorem dX3_change_32 : decode cX3_change 32 = .ok (.iload 4, 2) := by decide +kernel
theorem dX3_change_34 : decode cX3_change 34 = .ok (.iload_n 1, 1) := by decide +kernel
theorem dX3_change_35 : decode cX3_change 35 = .ok (.iastore, 1) := by decide +kernel
theorem dX3_change_36 : decode cX3_change 36 = .ok (.aload_n 0, 1) := by decide +kernel
theorem dX3_change_37 : decode cX3_change 37 = .ok (.getfield 19, 3) := by decide +kernel
theorem dX3_change_40 : decode cX3_change 40 = .ok (.getfield 138, 3) := by decide +kernel
theorem dX3_change_43 : decode cX3_change 43 = .ok (.iload 4, 2) := by decide +kernel
theorem dX3_change_45 : decode cX3_change 45 = .ok (.lload_n 2, 1) := by decide +kernel
theorem dX3_change_46 : decode cX3_change 46 = .ok (.lastore, 1) := by decide +kernel
theorem dX3_change_47 : decode cX3_change 47 = .ok (.iconst 1, 1) := by decide +kernel
theorem dX3_change_48 : decode cX3_change 48 = .ok (.ireturn, 1) := by decide +kernel
theorem dX3_remove_0 : decode cX3_remove 0 = .ok (.aload_n 0, 1) := by decide +kernel
theorem dX3_remove_1 : decode cX3_remove 1 = .ok (.invokevirtual 108, 3) := by decide +kernel
theorem dX3_remove_4 : decode cX3_remove 4 = .ok (.aload_n 0, 1) := by decide +kernel
theorem dX3_remove_5 : decode cX3_remove 5 = .ok (.invokevirtual 117, 3) := by decide +kernel
theorem dX3_remove_8 : decode cX3_remove 8 = .ok (.istore_n 1, 1) := by decide +kernel
theorem dX3_remove_9 : decode cX3_remove 9 = .ok (.iload_n 1, 1) := by decide +kernel
theorem dX3_remove_10 : decode cX3_remove 10 = .ok (.iconst (-1), 1) := by decide +kernel
theorem dX3_remove_11 : decode cX3_remove 11 = .ok (.if_icmp .ne 5, 3) := by decide +kernel
theorem dX3_remove_14 : decode cX3_remove 14 = .ok (.iconst 0, 1) := by decide +kernel
theorem dX3_remove_15 : decode cX3_remove 15 = .ok (.ireturn, 1) := by decide +kernel
theorem dX3_remove_16 : decode cX3_remove 16 = .ok (.aload_n 0, 1) := by decide +kernel
theorem dX3_remove_17 : decode cX3_remove 17 = .ok (.getfield 19, 3) := by decide +kernel
theorem dX3_remove_20 : decode cX3_remove 20 = .ok (.iload_n 1, 1) := by decide +kernel
theorem dX3_remove_21 : decode cX3_remove 21 = .ok (.invokevirtual 141, 3) := by decide +kernel
theorem dX3_remove_24 : decode cX3_remove 24 = .ok (.aload_n 0, 1) := by decide +kernel
theorem dX3_remove_25 : decode cX3_remove 25 = .ok (.getfield 26, 3) := by decide +kernel
theorem dX3_remove_28 : decode cX3_remove 28 = .ok (.aload_n 0, 1) := by decide +kernel
theorem dX3_remove_29 : decode cX3_remove 29 = .ok (.invokevirtual 128, 3) := by decide +kernel
theorem dX3_remove_32 : decode cX3_remove 32 = .ok (.invokevirtual 144, 3) := by decide +kernel
theorem dX3_remove_35 : decode cX3_remove 35 = .ok (.iconst 1, 1) := by decide +kernel
theorem dX3_remove_36 : decode cX3_remove 36 = .ok (.ireturn, 1) := by decide +kernel
theorem dX3_match_0 : decode cX3_match 0 = .ok (.aload_n 0, 1) := by decide +kernel
theorem dX3_match_1 : decode cX3_match 1 = .ok (.invokevirtual 108, 3) := by decide +kernel
theorem dX3_match_4 : decode cX3_match 4 = .ok (.iconst (-1), 1) := by decide +kernel
theorem dX3_match_5 : decode cX3_match 5 = .ok (.istore_n 1, 1) := by decide +kernel
theorem dX3_match_6 : decode cX3_match 6 = .ok (.iconst 0, 1) := by decide +kernel
theorem dX3_match_7 : decode cX3_match 7 = .ok (.istore_n 2, 1) := by decide +kernel
theorem dX3_match_8 : decode cX3_match 8 = .ok (.iload_n 2, 1) := by decide +kernel
theorem dX3_match_9 : decode cX3_match 9 = .ok (.aload_n 0, 1) := by decide +kernel
theorem dX3_match_10 : decode cX3_match 10 = .ok (.getfield 19, 3) := by decide +kernel
theorem dX3_match_13 : decode cX3_match 13 = .ok (.getfield 41, 3) := by decide +kernel
theorem dX3_match_16 : decode cX3_match 16 = .ok (.if_icmp .ge 36, 3) := by decide +kernel
theorem dX3_match_19 : decode cX3_match 19 = .ok (.aload_n 0, 1) := by decide +kernel
theorem dX3_match_20 : decode cX3_match 20 = .ok (.iload_n 2, 1) := by decide +kernel
theorem dX3_match_21 : decode cX3_match 21 = .ok (.invokevirtual 147, 3) := by decide +kernel
theorem dX3_match_24 : decode cX3_match 24 = .ok (.ifCond .eq 22, 3) := by decide +kernel
theorem dX3_match_27 : decode cX3_match 27 = .ok (.iload_n 1, 1) := by decide +kernel
theorem dX3_match_28 : decode cX3_match 28 = .ok (.iconst (-1), 1) := by decide +kernel
theorem dX3_match_29 : decode cX3_match 29 = .ok (.if_icmp .eq 15, 3) := by decide +kernel
theorem dX3_match_32 : decode cX3_match 32 = .ok (.aload_n 0, 1) := by decide +kernel
theorem dX3_match_33 : decode cX3_match 33 = .ok (.getfield 19, 3) := by decide +kernel
theorem dX3_match_36 : decode cX3_match 36 = .ok (.iload_n 2, 1) := by decide +kernel
theorem dX3_match_37 : decode cX3_match 37 = .ok (.iload_n 1, 1) := by decide +kernel
theorem dX3_match_38 : decode cX3_match 38 = .ok (.invokevirtual 150, 3) := by decide +kernel
theorem dX3_match_41 : decode cX3_match 41 = .ok (.ifCond .eq 5, 3) := by decide +kernel
theorem dX3_match_44 : decode cX3_match 44 = .ok (.iload_n 2, 1) := by decide +kernel
theorem dX3_match_45 : decode cX3_match 45 = .ok (.istore_n 1, 1) := by decide +kernel
theorem dX3_match_46 : decode cX3_match 46 = .ok (.iinc 2 1, 3) := by decide +kernel
theorem dX3_match_49 : decode cX3_match 49 = .ok (.goto (-41), 3) := by decide +kernel
theorem dX3_match_52 : decode cX3_match 52 = .ok (.aload_n 0, 1) := by decide +kernel
theorem dX3_match_53 : decode cX3_match 53 = .ok (.iload_n 1, 1) := by decide +kernel
theorem dX3_match_54 : decode cX3_match 54 = .ok (.iconst (-1), 1) := by decide +kernel
theorem dX3_match_55 : decode cX3_match 55 = .ok (.if_icmp .ne 7, 3) := by decide +kernel
theorem dX3_match_58 : decode cX3_match 58 = .ok (.lconst 0, 1) := by decide +kernel
theorem dX3_match_59 : decode cX3_match 59 = .ok (.goto 12, 3) := by decide +kernel
theorem dX3_match_62 : decode cX3_match 62 = .ok (.aload_n 0, 1) := by decide +kernel
theorem dX3_match_63 : decode cX3_match 63 = .ok (.getfield 19, 3) := by decide +kernel
theorem dX3_match_66 : decode cX3_match 66 = .ok (.getfield 138, 3) := by decide +kernel
theorem dX3_match_69 : decode cX3_match 69 = .ok (.iload_n 1, 1) := by decide +kernel
theorem dX3_match_70 : decode cX3_match 70 = .ok (.laload, 1) := by decide +kernel
theorem dX3_match_71 : decode cX3_match 71 = .ok (.putfield 62, 3) := by decide +kernel
theorem dX3_match_74 : decode cX3_match 74 = .ok (.iload_n 1, 1) := by decide +kernel
theorem dX3_match_75 : decode cX3_match 75 = .ok (.iconst (-1), 1) := by decide +kernel
theorem dX3_match_76 : decode cX3_match 76 = .ok (.if_icmp .ne 7, 3) := by decide +kernel
theorem dX3_match_79 : decode cX3_match 79 = .ok (.iconst (-1), 1) := by decide +kernel
theorem dX3_match_80 : decode cX3_match 80 = .ok (.goto 12, 3) := by decide +kernel
theorem dX3_match_83 : decode cX3_match 83 = .ok (.aload_n 0, 1) := by decide +kernel
theorem dX3_match_84 : decode cX3_match 84 = .ok (.getfield 19, 3) := by decide +kernel
theorem dX3_match_87 : decode cX3_match 87 = .ok (.getfield 134, 3) := by decide +kernel
theorem dX3_match_90 : decode cX3_match 90 = .ok (.iload_n 1, 1) := by decide +kernel
theorem dX3_match_91 : decode cX3_match 91 = .ok (.iaload, 1) := by decide +kernel
theorem dX3_match_92 : decode cX3_match 92 = .ok (.ireturn, 1) := by decide +kernel
theorem dX3_datum_0 : decode cX3_datum 0 = .ok (.aload_n 0, 1) := by decide +kernel
theorem dX3_datum_1 : decode cX3_datum 1 = .ok (.getfield 62, 3) := by decide +kernel
theorem dX3_datum_4 : decode cX3_datum 4 = .ok (.lreturn, 1) := by decide +kernel
theorem dX3_bucket_0 : decode cX3_bucket 0 = .ok (.aload_n 0, 1) := by decide +kernel
theorem dX3_bucket_1 : decode cX3_bucket 1 = .ok (.getfield 56, 3) := by decide +kernel
theorem dX3_bucket_4 : decode cX3_bucket 4 = .ok (.ifCond .ne 5, 3) := by decide +kernel
theorem dX3_bucket_7 : decode cX3_bucket 7 = .ok (.iconst (-1), 1) := by decide +kernel
theorem dX3_bucket_8 : decode cX3_bucket 8 = .ok (.ireturn, 1) := by decide +kernel
theorem dX3_bucket_9 : decode cX3_bucket 9 = .ok (.lconst 0, 1) := by decide +kernel
theorem dX3_bucket_10 : decode cX3_bucket 10 = .ok (.lstore_n 1, 1) := by decide +kernel
theorem dX3_bucket_11 : decode cX3_bucket 11 = .ok (.iconst 0, 1) := by decide +kernel
theorem dX3_bucket_12 : decode cX3_bucket 12 = .ok (.istore_n 3, 1) := by decide +kernel
theorem dX3_bucket_13 : decode cX3_bucket 13 = .ok (.iload_n 3, 1) := by decide +kernel
theorem dX3_bucket_14 : decode cX3_bucket 14 = .ok (.aload_n 0, 1) := by decide +kernel
theorem dX3_bucket_15 : decode cX3_bucket 15 = .ok (.getfield 12, 3) := by decide +kernel
theorem dX3_bucket_18 : decode cX3_bucket 18 = .ok (.getfield 37, 3) := by decide +kernel
theorem dX3_bucket_21 : decode cX3_bucket 21 = .ok (.if_icmp .ge 48, 3) := by decide +kernel
theorem dX3_bucket_24 : decode cX3_bucket 24 = .ok (.aload_n 0, 1) := by decide +kernel
theorem dX3_bucket_25 : decode cX3_bucket 25 = .ok (.getfield 30, 3) := by decide +kernel
theorem dX3_bucket_28 : decode cX3_bucket 28 = .ok (.iload_n 3, 1) := by decide +kernel
theorem dX3_bucket_29 : decode cX3_bucket 29 = .ok (.laload, 1) := by decide +kernel
theorem dX3_bucket_30 : decode cX3_bucket 30 = .ok (.aload_n 0, 1) := by decide +kernel
theorem dX3_bucket_31 : decode cX3_bucket 31 = .ok (.getfield 12, 3) := by decide +kernel
theorem dX3_bucket_34 : decode cX3_bucket 34 = .ok (.getfield 154, 3) := by decide +kernel
theorem dX3_bucket_37 : decode cX3_bucket 37 = .ok (.iload_n 3, 1) := by decide +kernel
theorem dX3_bucket_38 : decode cX3_bucket 38 = .ok (.laload, 1) := by decide +kernel
theorem dX3_bucket_39 : decode cX3_bucket 39 = .ok (.land, 1) := by decide +kernel
theorem dX3_bucket_40 : decode cX3_bucket 40 = .ok (.lstore 4, 2) := by decide +kernel
theorem dX3_bucket_42 : decode cX3_bucket 42 = .ok (.ldc2_w 157, 3) := by decide +kernel
theorem dX3_bucket_45 : decode cX3_bucket 45 = .ok (.lload_n 1, 1) := by decide +kernel
theorem dX3_bucket_46 : decode cX3_bucket 46 = .ok (.lmul, 1) := by decide +kernel
theorem dX3_bucket_47 : decode cX3_bucket 47 = .ok (.lload 4, 2) := by decide +kernel
theorem dX3_bucket_49 : decode cX3_bucket 49 = .ok (.lload 4, 2) := by decide +kernel
theorem dX3_bucket_51 : decode cX3_bucket 51 = .ok (.bipush 32, 2) := by decide +kernel
theorem dX3_bucket_53 : decode cX3_bucket 53 = .ok (.lushr, 1) := by decide +kernel
theorem dX3_bucket_54 : decode cX3_bucket 54 = .ok (.lxor, 1) := by decide +kernel
theorem dX3_bucket_55 : decode cX3_bucket 55 = .ok (.lload 4, 2) := by decide +kernel
theorem dX3_bucket_57 : decode cX3_bucket 57 = .ok (.bipush 17, 2) := by decide +kernel
theorem dX3_bucket_59 : decode cX3_bucket 59 = .ok (.lushr, 1) := by decide +kernel
theorem dX3_bucket_60 : decode cX3_bucket 60 = .ok (.lxor, 1) := by decide +kernel
theorem dX3_bucket_61 : decode cX3_bucket 61 = .ok (.ladd, 1) := by decide +kernel
theorem dX3_bucket_62 : decode cX3_bucket 62 = .ok (.lstore_n 1, 1) := by decide +kernel
theorem dX3_bucket_63 : decode cX3_bucket 63 = .ok (.iinc 3 1, 3) := by decide +kernel
theorem dX3_bucket_66 : decode cX3_bucket 66 = .ok (.goto (-53), 3) := by decide +kernel
theorem dX3_bucket_69 : decode cX3_bucket 69 = .ok (.aload_n 0, 1) := by decide +kernel
theorem dX3_bucket_70 : decode cX3_bucket 70 = .ok (.getfield 26, 3) := by decide +kernel
theorem dX3_bucket_73 : decode cX3_bucket 73 = .ok (.lload_n 1, 1) := by decide +kernel
theorem dX3_bucket_74 : decode cX3_bucket 74 = .ok (.lload_n 1, 1) := by decide +kernel
theorem dX3_bucket_75 : decode cX3_bucket 75 = .ok (.bipush 20, 2) := by decide +kernel
theorem dX3_bucket_77 : decode cX3_bucket 77 = .ok (.lushr, 1) := by decide +kernel
theorem dX3_bucket_78 : decode cX3_bucket 78 = .ok (.lxor, 1) := by decide +kernel
theorem dX3_bucket_79 : decode cX3_bucket 79 = .ok (.lload_n 1, 1) := by decide +kernel
theorem dX3_bucket_80 : decode cX3_bucket 80 = .ok (.bipush 7, 2) := by decide +kernel
theorem dX3_bucket_82 : decode cX3_bucket 82 = .ok (.lushr, 1) := by decide +kernel
theorem dX3_bucket_83 : decode cX3_bucket 83 = .ok (.lxor, 1) := by decide +kernel
theorem dX3_bucket_84 : decode cX3_bucket 84 = .ok (.invokevirtual 159, 3) := by decide +kernel
theorem dX3_bucket_87 : decode cX3_bucket 87 = .ok (.ireturn, 1) := by decide +kernel
theorem dX3_count_0 : decode cX3_count 0 = .ok (.iload_n 1, 1) := by decide +kernel
theorem dX3_count_1 : decode cX3_count 1 = .ok (.iconst 2, 1) := by decide +kernel
theorem dX3_count_2 : decode cX3_count 2 = .ok (.if_icmp .ne 11, 3) := by decide +kernel
theorem dX3_count_5 : decode cX3_count 5 = .ok (.aload_n 0, 1) := by decide +kernel
theorem dX3_count_6 : decode cX3_count 6 = .ok (.getfield 12, 3) := by decide +kernel
theorem dX3_count_9 : decode cX3_count 9 = .ok (.getfield 37, 3) := by decide +kernel
theorem dX3_count_12 : decode cX3_count 12 = .ok (.ireturn, 1) := by decide +kernel
theorem dX3_count_13 : decode cX3_count 13 = .ok (.aload_n 0, 1) := by decide +kernel
theorem dX3_count_14 : decode cX3_count 14 = .ok (.getfield 52, 3) := by decide +kernel
theorem dX3_count_17 : decode cX3_count 17 = .ok (.ifCond .ne 5, 3) := by decide +kernel
theorem dX3_count_20 : decode cX3_count 20 = .ok (.iconst (-1), 1) := by decide +kernel
theorem dX3_count_21 : decode cX3_count 21 = .ok (.ireturn, 1) := by decide +kernel
theorem dX3_count_22 : decode cX3_count 22 = .ok (.iload_n 1, 1) := by decide +kernel
theorem dX3_count_23 : decode cX3_count 23 = .ok (.tableswitch 50 0 3 #[29, 37, 50, 45], 29) := by decide +kernel
theorem dX3_count_52 : decode cX3_count 52 = .ok (.aload_n 0, 1) := by decide +kernel
theorem dX3_count_53 : decode cX3_count 53 = .ok (.getfield 19, 3) := by decide +kernel
theorem dX3_count_56 : decode cX3_count 56 = .ok (.getfield 41, 3) := by decide +kernel
theorem dX3_count_59 : decode cX3_count 59 = .ok (.ireturn, 1) := by decide +kernel
theorem dX3_count_60 : decode cX3_count 60 = .ok (.aload_n 0, 1) := by decide +kernel
theorem dX3_count_61 : decode cX3_count 61 = .ok (.getfield 26, 3) := by decide +kernel
theorem dX3_count_64 : decode cX3_count 64 = .ok (.invokevirtual 163, 3) := by decide +kernel
theorem dX3_count_67 : decode cX3_count 67 = .ok (.ireturn, 1) := by decide +kernel
theorem dX3_count_68 : decode cX3_count 68 = .ok (.aload_n 0, 1) := by decide +kernel
theorem dX3_count_69 : decode cX3_count 69 = .ok (.getfield 59, 3) := by decide +kernel
theorem dX3_count_72 : decode cX3_count 72 = .ok (.ireturn, 1) := by decide +kernel
theorem dX3_count_73 : decode cX3_count 73 = .ok (.iconst (-1), 1) := by decide +kernel
theorem dX3_count_74 : decode cX3_count 74 = .ok (.ireturn, 1) := by decide +kernel
theorem dX3_requireTable_0 : decode cX3_requireTable 0 = .ok (.aload_n 0, 1) := by decide +kernel
theorem dX3_requireTable_1 : decode cX3_requireTable 1 = .ok (.getfield 52, 3) := by decide +kernel
theorem dX3_requireTable_4 : decode cX3_requireTable 4 = .ok (.ifCond .ne 13, 3) := by decide +kernel
theorem dX3_requireTable_7 : decode cX3_requireTable 7 = .ok (.new 73, 3) := by decide +kernel
theorem dX3_requireTable_10 : decode cX3_requireTable 10 = .ok (.dup, 1) := by decide +kernel
theorem dX3_requireTable_11 : decode cX3_requireTable 11 = .ok (.ldc 166, 2) := by decide +kernel
theorem dX3_requireTable_13 : decode cX3_requireTable 13 = .ok (.invokespecial 77, 3) := by decide +kernel
theorem dX3_requireTable_16 : decode cX3_requireTable 16 = .ok (.athrow, 1) := by decide +kernel
theorem dX3_requireTable_17 : decode cX3_requireTable 17 = .ok (.return_, 1) := by decide +kernel
theorem dX3_isHashedShape_0 : decode cX3_isHashedShape 0 = .ok (.iload_n 0, 1) := by decide +kernel
theorem dX3_isHashedShape_1 : decode cX3_isHashedShape 1 = .ok (.iconst 1, 1) := by decide +kernel
theorem dX3_isHashedShape_2 : decode cX3_isHashedShape 2 = .ok (.if_icmp .lt 41, 3) := by decide +kernel
theorem dX3_isHashedShape_5 : decode cX3_isHashedShape 5 = .ok (.iload_n 0, 1) := by decide +kernel
theorem dX3_isHashedShape_6 : decode cX3_isHashedShape 6 = .ok (.bipush 16, 2) := by decide +kernel
theorem dX3_isHashedShape_8 : decode cX3_isHashedShape 8 = .ok (.if_icmp .gt 35, 3) := by decide +kernel
theorem dX3_isHashedShape_11 : decode cX3_isHashedShape 11 = .ok (.iload_n 0, 1) := by decide +kernel
theorem dX3_isHashedShape_12 : decode cX3_isHashedShape 12 = .ok (.invokestatic 168, 3) := by decide +kernel
theorem dX3_isHashedShape_15 : decode cX3_isHashedShape 15 = .ok (.iconst 1, 1) := by decide +kernel
theorem dX3_isHashedShape_16 : decode cX3_isHashedShape 16 = .ok (.if_icmp .ne 27, 3) := by decide +kernel
theorem dX3_isHashedShape_19 : decode cX3_isHashedShape 19 = .ok (.iload_n 1, 1) := by decide +kernel
theorem dX3_isHashedShape_20 : decode cX3_isHashedShape 20 = .ok (.iconst 1, 1) := by decide +kernel
theorem dX3_isHashedShape_21 : decode cX3_isHashedShape 21 = .ok (.if_icmp .lt 22, 3) := by decide +kernel
theorem dX3_isHashedShape_24 : decode cX3_isHashedShape 24 = .ok (.iload_n 1, 1) := by decide +kernel
theorem dX3_isHashedShape_25 : decode cX3_isHashedShape 25 = .ok (.iconst 4, 1) := by decide +kernel
theorem dX3_isHashedShape_26 : decode cX3_isHashedShape 26 = .ok (.if_icmp .gt 17, 3) := by decide +kernel
theorem dX3_isHashedShape_29 : decode cX3_isHashedShape 29 = .ok (.iload_n 2, 1) := by decide +kernel
theorem dX3_isHashedShape_30 : decode cX3_isHashedShape 30 = .ok (.ifCond .lt 13, 3) := by decide +kernel
theorem dX3_isHashedShape_33 : decode cX3_isHashedShape 33 = .ok (.iload_n 2, 1) := by decide +kernel
theorem dX3_isHashedShape_34 : decode cX3_isHashedShape 34 = .ok (.bipush 8, 2) := by decide +kernel
theorem dX3_isHashedShape_36 : decode cX3_isHashedShape 36 = .ok (.if_icmp .gt 7, 3) := by decide +kernel
theorem dX3_isHashedShape_39 : decode cX3_isHashedShape 39 = .ok (.iconst 1, 1) := by decide +kernel
theorem dX3_isHashedShape_40 : decode cX3_isHashedShape 40 = .ok (.goto 4, 3) := by decide +kernel
theorem dX3_isHashedShape_43 : decode cX3_isHashedShape 43 = .ok (.iconst 0, 1) := by decide +kernel
theorem dX3_isHashedShape_44 : decode cX3_isHashedShape 44 = .ok (.ireturn, 1) := by decide +kernel
theorem dX3_isListedShape_0 : decode cX3_isListedShape 0 = .ok (.iload_n 0, 1) := by decide +kernel
theorem dX3_isListedShape_1 : decode cX3_isListedShape 1 = .ok (.iconst 1, 1) := by decide +kernel
theorem dX3_isListedShape_2 : decode cX3_isListedShape 2 = .ok (.if_icmp .lt 13, 3) := by decide +kernel
theorem dX3_isListedShape_5 : decode cX3_isListedShape 5 = .ok (.iload_n 0, 1) := by decide +kernel
theorem dX3_isListedShape_6 : decode cX3_isListedShape 6 = .ok (.bipush 32, 2) := by decide +kernel
theorem dX3_isListedShape_8 : decode cX3_isListedShape 8 = .ok (.if_icmp .gt 7, 3) := by decide +kernel
theorem dX3_isListedShape_11 : decode cX3_isListedShape 11 = .ok (.iconst 1, 1) := by decide +kernel
theorem dX3_isListedShape_12 : decode cX3_isListedShape 12 = .ok (.goto 4, 3) := by decide +kernel
theorem dX3_isListedShape_15 : decode cX3_isListedShape 15 = .ok (.iconst 0, 1) := by decide +kernel
theorem dX3_isListedShape_16 : decode cX3_isListedShape 16 = .ok (.ireturn, 1) := by decide +kernel
theorem dX3_isAction_0 : decode cX3_isAction 0 = .ok (.iload_n 0, 1) := by decide +kernel
theorem dX3_isAction_1 : decode cX3_isAction 1 = .ok (.ifCond .lt 13, 3) := by decide +kernel
theorem dX3_isAction_4 : decode cX3_isAction 4 = .ok (.iload_n 0, 1) := by decide +kernel
theorem dX3_isAction_5 : decode cX3_isAction 5 = .ok (.bipush 7, 2) := by decide +kernel
theorem dX3_isAction_7 : decode cX3_isAction 7 = .ok (.if_icmp .gt 7, 3) := by decide +kernel
theorem dX3_isAction_10 : decode cX3_isAction 10 = .ok (.iconst 1, 1) := by decide +kernel
theorem dX3_isAction_11 : decode cX3_isAction 11 = .ok (.goto 4, 3) := by decide +kernel
theorem dX3_isAction_14 : decode cX3_isAction 14 = .ok (.iconst 0, 1) := by decide +kernel
theorem dX3_isAction_15 : decode cX3_isAction 15 = .ok (.ireturn, 1) := by decide +kernel
theorem dX3_askedMask_0 : decode cX3_askedMask 0 = .ok (.aload_n 0, 1) := by decide +kernel
theorem dX3_askedMask_1 : decode cX3_askedMask 1 = .ok (.getfield 34, 3) := by decide +kernel
theorem dX3_askedMask_4 : decode cX3_askedMask 4 = .ok (.iload_n 1, 1) := by decide +kernel
theorem dX3_askedMask_5 : decode cX3_askedMask 5 = .ok (.laload, 1) := by decide +kernel
theorem dX3_askedMask_6 : decode cX3_askedMask 6 = .ok (.aload_n 0, 1) := by decide +kernel
theorem dX3_askedMask_7 : decode cX3_askedMask 7 = .ok (.getfield 12, 3) := by decide +kernel
theorem dX3_askedMask_10 : decode cX3_askedMask 10 = .ok (.getfield 154, 3) := by decide +kernel
theorem dX3_askedMask_13 : decode cX3_askedMask 13 = .ok (.iload_n 1, 1) := by decide +kernel
theorem dX3_askedMask_14 : decode cX3_askedMask 14 = .ok (.laload, 1) := by decide +kernel
theorem dX3_askedMask_15 : decode cX3_askedMask 15 = .ok (.land, 1) := by decide +kernel
theorem dX3_askedMask_16 : decode cX3_askedMask 16 = .ok (.lreturn, 1) := by decide +kernel
theorem dX3_areMasksRight_0 : decode cX3_areMasksRight 0 = .ok (.iconst 0, 1) := by decide +kernel
theorem dX3_areMasksRight_1 : decode cX3_areMasksRight 1 = .ok (.istore_n 1, 1) := by decide +kernel
theorem dX3_areMasksRight_2 : decode cX3_areMasksRight 2 = .ok (.iload_n 1, 1) := by decide +kernel
theorem dX3_areMasksRight_3 : decode cX3_areMasksRight 3 = .ok (.aload_n 0, 1) := by decide +kernel
theorem dX3_areMasksRight_4 : decode cX3_areMasksRight 4 = .ok (.getfield 12, 3) := by decide +kernel
theorem dX3_areMasksRight_7 : decode cX3_areMasksRight 7 = .ok (.getfield 37, 3) := by decide +kernel
theorem dX3_areMasksRight_10 : decode cX3_areMasksRight 10 = .ok (.if_icmp .ge 27, 3) := by decide +kernel
theorem dX3_areMasksRight_13 : decode cX3_areMasksRight 13 = .ok (.aload_n 0, 1) := by decide +kernel
theorem dX3_areMasksRight_14 : decode cX3_areMasksRight 14 = .ok (.getfield 12, 3) := by decide +kernel
theorem dX3_areMasksRight_17 : decode cX3_areMasksRight 17 = .ok (.iload_n 1, 1) := by decide +kernel
theorem dX3_areMasksRight_18 : decode cX3_areMasksRight 18 = .ok (.aload_n 0, 1) := by decide +kernel
theorem dX3_areMasksRight_19 : decode cX3_areMasksRight 19 = .ok (.iload_n 1, 1) := by decide +kernel
theorem dX3_areMasksRight_20 : decode cX3_areMasksRight 20 = .ok (.invokevirtual 174, 3) := by decide +kernel
theorem dX3_areMasksRight_23 : decode cX3_areMasksRight 23 = .ok (.invokevirtual 178, 3) := by decide +kernel
theorem dX3_areMasksRight_26 : decode cX3_areMasksRight 26 = .ok (.ifCond .ne 5, 3) := by decide +kernel
theorem dX3_areMasksRight_29 : decode cX3_areMasksRight 29 = .ok (.iconst 0, 1) := by decide +kernel
theorem dX3_areMasksRight_30 : decode cX3_areMasksRight 30 = .ok (.ireturn, 1) := by decide +kernel
theorem dX3_areMasksRight_31 : decode cX3_areMasksRight 31 = .ok (.iinc 1 1, 3) := by decide +kernel
theorem dX3_areMasksRight_34 : decode cX3_areMasksRight 34 = .ok (.goto (-32), 3) := by decide +kernel
theorem dX3_areMasksRight_37 : decode cX3_areMasksRight 37 = .ok (.iconst 1, 1) := by decide +kernel
theorem dX3_areMasksRight_38 : decode cX3_areMasksRight 38 = .ok (.ireturn, 1) := by decide +kernel
theorem dX3_findAsked_0 : decode cX3_findAsked 0 = .ok (.iconst 0, 1) := by decide +kernel
theorem dX3_findAsked_1 : decode cX3_findAsked 1 = .ok (.istore_n 1, 1) := by decide +kernel
theorem dX3_findAsked_2 : decode cX3_findAsked 2 = .ok (.iload_n 1, 1) := by decide +kernel
theorem dX3_findAsked_3 : decode cX3_findAsked 3 = .ok (.aload_n 0, 1) := by decide +kernel
theorem dX3_findAsked_4 : decode cX3_findAsked 4 = .ok (.getfield 19, 3) := by decide +kernel
theorem dX3_findAsked_7 : decode cX3_findAsked 7 = .ok (.getfield 41, 3) := by decide +kernel
theorem dX3_findAsked_10 : decode cX3_findAsked 10 = .ok (.if_icmp .ge 19, 3) := by decide +kernel
theorem dX3_findAsked_13 : decode cX3_findAsked 13 = .ok (.aload_n 0, 1) := by decide +kernel
theorem dX3_findAsked_14 : decode cX3_findAsked 14 = .ok (.iload_n 1, 1) := by decide +kernel
theorem dX3_findAsked_15 : decode cX3_findAsked 15 = .ok (.invokevirtual 182, 3) := by decide +kernel
theorem dX3_findAsked_18 : decode cX3_findAsked 18 = .ok (.ifCond .eq 5, 3) := by decide +kernel
theorem dX3_findAsked_21 : decode cX3_findAsked 21 = .ok (.iload_n 1, 1) := by decide +kernel
theorem dX3_findAsked_22 : decode cX3_findAsked 22 = .ok (.ireturn, 1) := by decide +kernel
theorem dX3_findAsked_23 : decode cX3_findAsked 23 = .ok (.iinc 1 1, 3) := by decide +kernel
theorem dX3_findAsked_26 : decode cX3_findAsked 26 = .ok (.goto (-24), 3) := by decide +kernel
theorem dX3_findAsked_29 : decode cX3_findAsked 29 = .ok (.iconst (-1), 1) := by decide +kernel
theorem dX3_findAsked_30 : decode cX3_findAsked 30 = .ok (.ireturn, 1) := by decide +kernel
theorem dX3_isAsked_0 : decode cX3_isAsked 0 = .ok (.iconst 0, 1) := by decide +kernel
theorem dX3_isAsked_1 : decode cX3_isAsked 1 = .ok (.istore_n 2, 1) := by decide +kernel
theorem dX3_isAsked_2 : decode cX3_isAsked 2 = .ok (.iload_n 2, 1) := by decide +kernel
theorem dX3_isAsked_3 : decode cX3_isAsked 3 = .ok (.aload_n 0, 1) := by decide +kernel
theorem dX3_isAsked_4 : decode cX3_isAsked 4 = .ok (.getfield 12, 3) := by decide +kernel
theorem dX3_isAsked_7 : decode cX3_isAsked 7 = .ok (.getfield 37, 3) := by decide +kernel
theorem dX3_isAsked_10 : decode cX3_isAsked 10 = .ok (.if_icmp .ge 61, 3) := by decide +kernel
theorem dX3_isAsked_13 : decode cX3_isAsked 13 = .ok (.iload_n 1, 1) := by decide +kernel
theorem dX3_isAsked_14 : decode cX3_isAsked 14 = .ok (.iload_n 2, 1) := by decide +kernel
theorem dX3_isAsked_15 : decode cX3_isAsked 15 = .ok (.invokestatic 185, 3) := by decide +kernel
theorem dX3_isAsked_18 : decode cX3_isAsked 18 = .ok (.istore_n 3, 1) := by decide +kernel
theorem dX3_isAsked_19 : decode cX3_isAsked 19 = .ok (.aload_n 0, 1) := by decide +kernel
theorem dX3_isAsked_20 : decode cX3_isAsked 20 = .ok (.iload_n 2, 1) := by decide +kernel
theorem dX3_isAsked_21 : decode cX3_isAsked 21 = .ok (.invokevirtual 174, 3) := by decide +kernel
theorem dX3_isAsked_24 : decode cX3_isAsked 24 = .ok (.lstore 4, 2) := by decide +kernel
theorem dX3_isAsked_26 : decode cX3_isAsked 26 = .ok (.aload_n 0, 1) := by decide +kernel
theorem dX3_isAsked_27 : decode cX3_isAsked 27 = .ok (.getfield 19, 3) := by decide +kernel
theorem dX3_isAsked_30 : decode cX3_isAsked 30 = .ok (.getfield 188, 3) := by decide +kernel
theorem dX3_isAsked_33 : decode cX3_isAsked 33 = .ok (.iload_n 3, 1) := by decide +kernel
theorem dX3_isAsked_34 : decode cX3_isAsked 34 = .ok (.laload, 1) := by decide +kernel
theorem dX3_isAsked_35 : decode cX3_isAsked 35 = .ok (.lload 4, 2) := by decide +kernel
theorem dX3_isAsked_37 : decode cX3_isAsked 37 = .ok (.lcmp, 1) := by decide +kernel
theorem dX3_isAsked_38 : decode cX3_isAsked 38 = .ok (.ifCond .ne 25, 3) := by decide +kernel
theorem dX3_isAsked_41 : decode cX3_isAsked 41 = .ok (.aload_n 0, 1) := by decide +kernel
theorem dX3_isAsked_42 : decode cX3_isAsked 42 = .ok (.getfield 19, 3) := by decide +kernel
theorem dX3_isAsked_45 : decode cX3_isAsked 45 = .ok (.getfield 191, 3) := by decide +kernel
theorem dX3_isAsked_48 : decode cX3_isAsked 48 = .ok (.iload_n 3, 1) := by decide +kernel
theorem dX3_isAsked_49 : decode cX3_isAsked 49 = .ok (.laload, 1) := by decide +kernel
theorem dX3_isAsked_50 : decode cX3_isAsked 50 = .ok (.aload_n 0, 1) := by decide +kernel
theorem dX3_isAsked_51 : decode cX3_isAsked 51 = .ok (.getfield 30, 3) := by decide +kernel
theorem dX3_isAsked_54 : decode cX3_isAsked 54 = .ok (.iload_n 2, 1) := by decide +kernel
theorem dX3_isAsked_55 : decode cX3_isAsked 55 = .ok (.laload, 1) := by decide +kernel
theorem dX3_isAsked_56 : decode cX3_isAsked 56 = .ok (.lload 4, 2) := by decide +kernel
theorem dX3_isAsked_58 : decode cX3_isAsked 58 = .ok (.land, 1) := by decide +kernel
theorem dX3_isAsked_59 : decode cX3_isAsked 59 = .ok (.lcmp, 1) := by decide +kernel
theorem dX3_isAsked_60 : decode cX3_isAsked 60 = .ok (.ifCond .eq 5, 3) := by decide +kernel
theorem dX3_isAsked_63 : decode cX3_isAsked 63 = .ok (.iconst 0, 1) := by decide +kernel
theorem dX3_isAsked_64 : decode cX3_isAsked 64 = .ok (.ireturn, 1) := by decide +kernel
theorem dX3_isAsked_65 : decode cX3_isAsked 65 = .ok (.iinc 2 1, 3) := by decide +kernel
theorem dX3_isAsked_68 : decode cX3_isAsked 68 = .ok (.goto (-66), 3) := by decide +kernel
theorem dX3_isAsked_71 : decode cX3_isAsked 71 = .ok (.iconst 1, 1) := by decide +kernel
theorem dX3_isAsked_72 : decode cX3_isAsked 72 = .ok (.ireturn, 1) := by decide +kernel
theorem dX3_fitsAsked_0 : decode cX3_fitsAsked 0 = .ok (.iconst 0, 1) := by decide +kernel
theorem dX3_fitsAsked_1 : decode cX3_fitsAsked 1 = .ok (.istore_n 2, 1) := by decide +kernel
theorem dX3_fitsAsked_2 : decode cX3_fitsAsked 2 = .ok (.iload_n 2, 1) := by decide +kernel
theorem dX3_fitsAsked_3 : decode cX3_fitsAsked 3 = .ok (.aload_n 0, 1) := by decide +kernel
theorem dX3_fitsAsked_4 : decode cX3_fitsAsked 4 = .ok (.getfield 12, 3) := by decide +kernel
theorem dX3_fitsAsked_7 : decode cX3_fitsAsked 7 = .ok (.getfield 37, 3) := by decide +kernel
theorem dX3_fitsAsked_10 : decode cX3_fitsAsked 10 = .ok (.if_icmp .ge 46, 3) := by decide +kernel
theorem dX3_fitsAsked_13 : decode cX3_fitsAsked 13 = .ok (.iload_n 1, 1) := by decide +kernel
theorem dX3_fitsAsked_14 : decode cX3_fitsAsked 14 = .ok (.iload_n 2, 1) := by decide +kernel
theorem dX3_fitsAsked_15 : decode cX3_fitsAsked 15 = .ok (.invokestatic 185, 3) := by decide +kernel
theorem dX3_fitsAsked_18 : decode cX3_fitsAsked 18 = .ok (.istore_n 3, 1) := by decide +kernel
theorem dX3_fitsAsked_19 : decode cX3_fitsAsked 19 = .ok (.aload_n 0, 1) := by decide +kernel
theorem dX3_fitsAsked_20 : decode cX3_fitsAsked 20 = .ok (.getfield 30, 3) := by decide +kernel
theorem dX3_fitsAsked_23 : decode cX3_fitsAsked 23 = .ok (.iload_n 2, 1) := by decide +kernel
theorem dX3_fitsAsked_24 : decode cX3_fitsAsked 24 = .ok (.laload, 1) := by decide +kernel
theorem dX3_fitsAsked_25 : decode cX3_fitsAsked 25 = .ok (.aload_n 0, 1) := by decide +kernel
theorem dX3_fitsAsked_26 : decode cX3_fitsAsked 26 = .ok (.getfield 19, 3) := by decide +kernel
theorem dX3_fitsAsked_29 : decode cX3_fitsAsked 29 = .ok (.getfield 188, 3) := by decide +kernel
theorem dX3_fitsAsked_32 : decode cX3_fitsAsked 32 = .ok (.iload_n 3, 1) := by decide +kernel
theorem dX3_fitsAsked_33 : decode cX3_fitsAsked 33 = .ok (.laload, 1) := by decide +kernel
theorem dX3_fitsAsked_34 : decode cX3_fitsAsked 34 = .ok (.land, 1) := by decide +kernel
theorem dX3_fitsAsked_35 : decode cX3_fitsAsked 35 = .ok (.aload_n 0, 1) := by decide +kernel
theorem dX3_fitsAsked_36 : decode cX3_fitsAsked 36 = .ok (.getfield 19, 3) := by decide +kernel
theorem dX3_fitsAsked_39 : decode cX3_fitsAsked 39 = .ok (.getfield 191, 3) := by decide +kernel
theorem dX3_fitsAsked_42 : decode cX3_fitsAsked 42 = .ok (.iload_n 3, 1) := by decide +kernel
theorem dX3_fitsAsked_43 : decode cX3_fitsAsked 43 = .ok (.laload, 1) := by decide +kernel
theorem dX3_fitsAsked_44 : decode cX3_fitsAsked 44 = .ok (.lcmp, 1) := by decide +kernel
theorem dX3_fitsAsked_45 : decode cX3_fitsAsked 45 = .ok (.ifCond .eq 5, 3) := by decide +kernel
theorem dX3_fitsAsked_48 : decode cX3_fitsAsked 48 = .ok (.iconst 0, 1) := by decide +kernel
theorem dX3_fitsAsked_49 : decode cX3_fitsAsked 49 = .ok (.ireturn, 1) := by decide +kernel
theorem dX3_fitsAsked_50 : decode cX3_fitsAsked 50 = .ok (.iinc 2 1, 3) := by decide +kernel
theorem dX3_fitsAsked_53 : decode cX3_fitsAsked 53 = .ok (.goto (-51), 3) := by decide +kernel
theorem dX3_fitsAsked_56 : decode cX3_fitsAsked 56 = .ok (.iconst 1, 1) := by decide +kernel
theorem dX3_fitsAsked_57 : decode cX3_fitsAsked 57 = .ok (.ireturn, 1) := by decide +kernel
theorem dX3_hasRoom_0 : decode cX3_hasRoom 0 = .ok (.aload_n 0, 1) := by decide +kernel
theorem dX3_hasRoom_1 : decode cX3_hasRoom 1 = .ok (.getfield 19, 3) := by decide +kernel
theorem dX3_hasRoom_4 : decode cX3_hasRoom 4 = .ok (.getfield 41, 3) := by decide +kernel
theorem dX3_hasRoom_7 : decode cX3_hasRoom 7 = .ok (.aload_n 0, 1) := by decide +kernel
theorem dX3_hasRoom_8 : decode cX3_hasRoom 8 = .ok (.getfield 59, 3) := by decide +kernel
theorem dX3_hasRoom_11 : decode cX3_hasRoom 11 = .ok (.if_icmp .ge 28, 3) := by decide +kernel
theorem dX3_hasRoom_14 : decode cX3_hasRoom 14 = .ok (.aload_n 0, 1) := by decide +kernel
theorem dX3_hasRoom_15 : decode cX3_hasRoom 15 = .ok (.getfield 56, 3) := by decide +kernel
theorem dX3_hasRoom_18 : decode cX3_hasRoom 18 = .ok (.ifCond .eq 17, 3) := by decide +kernel
theorem dX3_hasRoom_21 : decode cX3_hasRoom 21 = .ok (.aload_n 0, 1) := by decide +kernel
theorem dX3_hasRoom_22 : decode cX3_hasRoom 22 = .ok (.getfield 26, 3) := by decide +kernel
theorem dX3_hasRoom_25 : decode cX3_hasRoom 25 = .ok (.aload_n 0, 1) := by decide +kernel
theorem dX3_hasRoom_26 : decode cX3_hasRoom 26 = .ok (.invokevirtual 128, 3) := by decide +kernel
theorem dX3_hasRoom_29 : decode cX3_hasRoom 29 = .ok (.invokevirtual 194, 3) := by decide +kernel
theorem dX3_hasRoom_32 : decode cX3_hasRoom 32 = .ok (.ifCond .eq 7, 3) := by decide +kernel
theorem dX3_hasRoom_35 : decode cX3_hasRoom 35 = .ok (.iconst 1, 1) := by decide +kernel
theorem dX3_hasRoom_36 : decode cX3_hasRoom 36 = .ok (.goto 4, 3) := by decide +kernel
theorem dX3_hasRoom_39 : decode cX3_hasRoom 39 = .ok (.iconst 0, 1) := by decide +kernel
theorem dX3_hasRoom_40 : decode cX3_hasRoom 40 = .ok (.ireturn, 1) := by decide +kernel
theorem dX3_addAsked_0 : decode cX3_addAsked 0 = .ok (.aload_n 0, 1) := by decide +kernel
theorem dX3_addAsked_1 : decode cX3_addAsked 1 = .ok (.getfield 19, 3) := by decide +kernel
theorem dX3_addAsked_4 : decode cX3_addAsked 4 = .ok (.getfield 41, 3) := by decide +kernel
theorem dX3_addAsked_7 : decode cX3_addAsked 7 = .ok (.istore 5, 2) := by decide +kernel
theorem dX3_addAsked_9 : decode cX3_addAsked 9 = .ok (.iconst 0, 1) := by decide +kernel
theorem dX3_addAsked_10 : decode cX3_addAsked 10 = .ok (.istore 6, 2) := by decide +kernel
theorem dX3_addAsked_12 : decode cX3_addAsked 12 = .ok (.iconst 0, 1) := by decide +kernel
theorem dX3_addAsked_13 : decode cX3_addAsked 13 = .ok (.istore 7, 2) := by decide +kernel
theorem dX3_addAsked_15 : decode cX3_addAsked 15 = .ok (.iload 7, 2) := by decide +kernel
theorem dX3_addAsked_17 : decode cX3_addAsked 17 = .ok (.aload_n 0, 1) := by decide +kernel
theorem dX3_addAsked_18 : decode cX3_addAsked 18 = .ok (.getfield 12, 3) := by decide +kernel
theorem dX3_addAsked_21 : decode cX3_addAsked 21 = .ok (.getfield 37, 3) := by decide +kernel
theorem dX3_addAsked_24 : decode cX3_addAsked 24 = .ok (.if_icmp .ge 79, 3) := by decide +kernel
theorem dX3_addAsked_27 : decode cX3_addAsked 27 = .ok (.iload 5, 2) := by decide +kernel
theorem dX3_addAsked_29 : decode cX3_addAsked 29 = .ok (.iload 7, 2) := by decide +kernel
theorem dX3_addAsked_31 : decode cX3_addAsked 31 = .ok (.invokestatic 185, 3) := by decide +kernel
theorem dX3_addAsked_34 : decode cX3_addAsked 34 = .ok (.istore 8, 2) := by decide +kernel
theorem dX3_addAsked_36 : decode cX3_addAsked 36 = .ok (.aload_n 0, 1) := by decide +kernel
theorem dX3_addAsked_37 : decode cX3_addAsked 37 = .ok (.iload 7, 2) := by decide +kernel
theorem dX3_addAsked_39 : decode cX3_addAsked 39 = .ok (.invokevirtual 174, 3) := by decide +kernel
theorem dX3_addAsked_42 : decode cX3_addAsked 42 = .ok (.lstore 9, 2) := by decide +kernel
theorem dX3_addAsked_44 : decode cX3_addAsked 44 = .ok (.aload_n 0, 1) := by decide +kernel
theorem dX3_addAsked_45 : decode cX3_addAsked 45 = .ok (.getfield 19, 3) := by decide +kernel
theorem dX3_addAsked_48 : decode cX3_addAsked 48 = .ok (.getfield 188, 3) := by decide +kernel
theorem dX3_addAsked_51 : decode cX3_addAsked 51 = .ok (.iload 8, 2) := by decide +kernel
theorem dX3_addAsked_53 : decode cX3_addAsked 53 = .ok (.lload 9, 2) := by decide +kernel
theorem dX3_addAsked_55 : decode cX3_addAsked 55 = .ok (.lastore, 1) := by decide +kernel
theorem dX3_addAsked_56 : decode cX3_addAsked 56 = .ok (.aload_n 0, 1) := by decide +kernel
theorem dX3_addAsked_57 : decode cX3_addAsked 57 = .ok (.getfield 19, 3) := by decide +kernel
theorem dX3_addAsked_60 : decode cX3_addAsked 60 = .ok (.getfield 191, 3) := by decide +kernel
theorem dX3_addAsked_63 : decode cX3_addAsked 63 = .ok (.iload 8, 2) := by decide +kernel
theorem dX3_addAsked_65 : decode cX3_addAsked 65 = .ok (.aload_n 0, 1) := by decide +kernel
theorem dX3_addAsked_66 : decode cX3_addAsked 66 = .ok (.getfield 30, 3) := by decide +kernel
theorem dX3_addAsked_69 : decode cX3_addAsked 69 = .ok (.iload 7, 2) := by decide +kernel
theorem dX3_addAsked_71 : decode cX3_addAsked 71 = .ok (.laload, 1) := by decide +kernel
theorem dX3_addAsked_72 : decode cX3_addAsked 72 = .ok (.lload 9, 2) := by decide +kernel
theorem dX3_addAsked_74 : decode cX3_addAsked 74 = .ok (.land, 1) := by decide +kernel
theorem dX3_addAsked_75 : decode cX3_addAsked 75 = .ok (.lastore, 1) := by decide +kernel
theorem dX3_addAsked_76 : decode cX3_addAsked 76 = .ok (.aload_n 0, 1) := by decide +kernel
theorem dX3_addAsked_77 : decode cX3_addAsked 77 = .ok (.getfield 12, 3) := by decide +kernel
theorem dX3_addAsked_80 : decode cX3_addAsked 80 = .ok (.getfield 197, 3) := by decide +kernel
theorem dX3_addAsked_83 : decode cX3_addAsked 83 = .ok (.iload 7, 2) := by decide +kernel
theorem dX3_addAsked_85 : decode cX3_addAsked 85 = .ok (.iaload, 1) := by decide +kernel
theorem dX3_addAsked_86 : decode cX3_addAsked 86 = .ok (.iconst 1, 1) := by decide +kernel
theorem dX3_addAsked_87 : decode cX3_addAsked 87 = .ok (.if_icmp .ne 10, 3) := by decide +kernel
theorem dX3_addAsked_90 : decode cX3_addAsked 90 = .ok (.lload 9, 2) := by decide +kernel
theorem dX3_addAsked_92 : decode cX3_addAsked 92 = .ok (.invokestatic 200, 3) := by decide +kernel
theorem dX3_addAsked_95 : decode cX3_addAsked 95 = .ok (.istore 6, 2) := by decide +kernel
theorem dX3_addAsked_97 : decode cX3_addAsked 97 = .ok (.iinc 7 1, 3) := by decide +kernel
theorem dX3_addAsked_100 : decode cX3_addAsked 100 = .ok (.goto (-85), 3) := by decide +kernel
theorem dX3_addAsked_103 : decode cX3_addAsked 103 = .ok (.aload_n 0, 1) := by decide +kernel
theorem dX3_addAsked_104 : decode cX3_addAsked 104 = .ok (.getfield 19, 3) := by decide +kernel
theorem dX3_addAsked_107 : decode cX3_addAsked 107 = .ok (.getfield 204, 3) := by decide +kernel
theorem dX3_addAsked_110 : decode cX3_addAsked 110 = .ok (.iload 5, 2) := by decide +kernel
theorem dX3_addAsked_112 : decode cX3_addAsked 112 = .ok (.iload 6, 2) := by decide +kernel
theorem dX3_addAsked_114 : decode cX3_addAsked 114 = .ok (.iastore, 1) := by decide +kernel
theorem dX3_addAsked_115 : decode cX3_addAsked 115 = .ok (.aload_n 0, 1) := by decide +kernel
theorem dX3_addAsked_116 : decode cX3_addAsked 116 = .ok (.getfield 19, 3) := by decide +kernel
theorem dX3_addAsked_119 : decode cX3_addAsked 119 = .ok (.getfield 207, 3) := by decide +kernel
theorem dX3_addAsked_122 : decode cX3_addAsked 122 = .ok (.iload 5, 2) := by decide +kernel
theorem dX3_addAsked_124 : decode cX3_addAsked 124 = .ok (.iload_n 1, 1) := by decide +kernel
theorem dX3_addAsked_125 : decode cX3_addAsked 125 = .ok (.iastore, 1) := by decide +kernel
theorem dX3_addAsked_126 : decode cX3_addAsked 126 = .ok (.aload_n 0, 1) := by decide +kernel
theorem dX3_addAsked_127 : decode cX3_addAsked 127 = .ok (.getfield 19, 3) := by decide +kernel
theorem dX3_addAsked_130 : decode cX3_addAsked 130 = .ok (.getfield 134, 3) := by decide +kernel
theorem dX3_addAsked_133 : decode cX3_addAsked 133 = .ok (.iload 5, 2) := by decide +kernel
theorem dX3_addAsked_135 : decode cX3_addAsked 135 = .ok (.iload_n 2, 1) := by decide +kernel
theorem dX3_addAsked_136 : decode cX3_addAsked 136 = .ok (.iastore, 1) := by decide +kernel
theorem dX3_addAsked_137 : decode cX3_addAsked 137 = .ok (.aload_n 0, 1) := by decide +kernel
theorem dX3_addAsked_138 : decode cX3_addAsked 138 = .ok (.getfield 19, 3) := by decide +kernel
theorem dX3_addAsked_141 : decode cX3_addAsked 141 = .ok (.getfield 138, 3) := by decide +kernel
theorem dX3_addAsked_144 : decode cX3_addAsked 144 = .ok (.iload 5, 2) := by decide +kernel
theorem dX3_addAsked_146 : decode cX3_addAsked 146 = .ok (.lload_n 3, 1) := by decide +kernel
theorem dX3_addAsked_147 : decode cX3_addAsked 147 = .ok (.lastore, 1) := by decide +kernel
theorem dX3_addAsked_148 : decode cX3_addAsked 148 = .ok (.aload_n 0, 1) := by decide +kernel
theorem dX3_addAsked_149 : decode cX3_addAsked 149 = .ok (.getfield 19, 3) := by decide +kernel
theorem dX3_addAsked_152 : decode cX3_addAsked 152 = .ok (.iload 5, 2) := by decide +kernel
theorem dX3_addAsked_154 : decode cX3_addAsked 154 = .ok (.iconst 1, 1) := by decide +kernel
theorem dX3_addAsked_155 : decode cX3_addAsked 155 = .ok (.iadd, 1) := by decide +kernel
theorem dX3_addAsked_156 : decode cX3_addAsked 156 = .ok (.putfield 41, 3) := by decide +kernel
theorem dX3_addAsked_159 : decode cX3_addAsked 159 = .ok (.return_, 1) := by decide +kernel
theorem dX0_init_0 : decode cX0_init 0 = .ok (.aload_n 0, 1) := by decide +kernel
theorem dX0_init_1 : decode cX0_init 1 = .ok (.invokespecial 3, 3) := by decide +kernel
theorem dX0_init_4 : decode cX0_init 4 = .ok (.aload_n 0, 1) := by decide +kernel
theorem dX0_init_5 : decode cX0_init 5 = .ok (.bipush 16, 2) := by decide +kernel
theorem dX0_init_7 : decode cX0_init 7 = .ok (.newarray .int, 2) := by decide +kernel
theorem dX0_init_9 : decode cX0_init 9 = .ok (.putfield 9, 3) := by decide +kernel
theorem dX0_init_12 : decode cX0_init 12 = .ok (.return_, 1) := by decide +kernel
theorem dX0_lay_0 : decode cX0_lay 0 = .ok (.aload_n 0, 1) := by decide +kernel
theorem dX0_lay_1 : decode cX0_lay 1 = .ok (.getfield 9, 3) := by decide +kernel
theorem dX0_lay_4 : decode cX0_lay 4 = .ok (.iconst 0, 1) := by decide +kernel
theorem dX0_lay_5 : decode cX0_lay 5 = .ok (.invokestatic 15, 3) := by decide +kernel
theorem dX0_lay_8 : decode cX0_lay 8 = .ok (.aload_n 0, 1) := by decide +kernel
theorem dX0_lay_9 : decode cX0_lay 9 = .ok (.iload_n 1, 1) := by decide +kernel
theorem dX0_lay_10 : decode cX0_lay 10 = .ok (.putfield 21, 3) := by decide +kernel
theorem dX0_lay_13 : decode cX0_lay 13 = .ok (.aload_n 0, 1) := by decide +kernel
theorem dX0_lay_14 : decode cX0_lay 14 = .ok (.iload_n 2, 1) := by decide +kernel
theorem dX0_lay_15 : decode cX0_lay 15 = .ok (.putfield 25, 3) := by decide +kernel
theorem dX0_lay_18 : decode cX0_lay 18 = .ok (.aload_n 0, 1) := by decide +kernel
theorem dX0_lay_19 : decode cX0_lay 19 = .ok (.iload_n 3, 1) := by decide +kernel
theorem dX0_lay_20 : decode cX0_lay 20 = .ok (.putfield 28, 3) := by decide +kernel
theorem dX0_lay_23 : decode cX0_lay 23 = .ok (.return_, 1) := by decide +kernel
theorem dX0_indexOf_0 : decode cX0_indexOf 0 = .ok (.aload_n 0, 1) := by decide +kernel
theorem dX0_indexOf_1 : decode cX0_indexOf 1 = .ok (.getfield 21, 3) := by decide +kernel
theorem dX0_indexOf_4 : decode cX0_indexOf 4 = .ok (.ifCond .ne 7, 3) := by decide +kernel
theorem dX0_indexOf_7 : decode cX0_indexOf 7 = .ok (.iconst (-1), 1) := by decide +kernel
theorem dX0_indexOf_8 : decode cX0_indexOf 8 = .ok (.goto 13, 3) := by decide +kernel
theorem dX0_indexOf_11 : decode cX0_indexOf 11 = .ok (.lload_n 1, 1) := by decide +kernel
theorem dX0_indexOf_12 : decode cX0_indexOf 12 = .ok (.aload_n 0, 1) := by decide +kernel
theorem dX0_indexOf_13 : decode cX0_indexOf 13 = .ok (.getfield 21, 3) := by decide +kernel
theorem dX0_indexOf_16 : decode cX0_indexOf 16 = .ok (.iconst 1, 1) := by decide +kernel
theorem dX0_indexOf_17 : decode cX0_indexOf 17 = .ok (.isub, 1) := by decide +kernel
theorem dX0_indexOf_18 : decode cX0_indexOf 18 = .ok (.i2l, 1) := by decide +kernel
theorem dX0_indexOf_19 : decode cX0_indexOf 19 = .ok (.land, 1) := by decide +kernel
theorem dX0_indexOf_20 : decode cX0_indexOf 20 = .ok (.l2i, 1) := by decide +kernel
theorem dX0_indexOf_21 : decode cX0_indexOf 21 = .ok (.ireturn, 1) := by decide +kernel
theorem dX0_isOne_0 : decode cX0_isOne 0 = .ok (.iload_n 1, 1) := by decide +kernel
theorem dX0_isOne_1 : decode cX0_isOne 1 = .ok (.ifCond .lt 15, 3) := by decide +kernel
theorem dX0_isOne_4 : decode cX0_isOne 4 = .ok (.iload_n 1, 1) := by decide +kernel
theorem dX0_isOne_5 : decode cX0_isOne 5 = .ok (.aload_n 0, 1) := by decide +kernel
theorem dX0_isOne_6 : decode cX0_isOne 6 = .ok (.getfield 21, 3) := by decide +kernel
theorem dX0_isOne_9 : decode cX0_isOne 9 = .ok (.if_icmp .ge 7, 3) := by decide +kernel
theorem dX0_isOne_12 : decode cX0_isOne 12 = .ok (.iconst 1, 1) := by decide +kernel
theorem dX0_isOne_13 : decode cX0_isOne 13 = .ok (.goto 4, 3) := by decide +kernel
theorem dX0_isOne_16 : decode cX0_isOne 16 = .ok (.iconst 0, 1) := by decide +kernel
theorem dX0_isOne_17 : decode cX0_isOne 17 = .ok (.ireturn, 1) := by decide +kernel
theorem dX0_haveRoom_0 : decode cX0_haveRoom 0 = .ok (.aload_n 0, 1) := by decide +kernel
theorem dX0_haveRoom_1 : decode cX0_haveRoom 1 = .ok (.iload_n 1, 1) := by decide +kernel
theorem dX0_haveRoom_2 : decode cX0_haveRoom 2 = .ok (.invokevirtual 31, 3) := by decide +kernel
theorem dX0_haveRoom_5 : decode cX0_haveRoom 5 = .ok (.ifCond .eq 31, 3) := by decide +kernel
theorem dX0_haveRoom_8 : decode cX0_haveRoom 8 = .ok (.aload_n 0, 1) := by decide +kernel
theorem dX0_haveRoom_9 : decode cX0_haveRoom 9 = .ok (.getfield 9, 3) := by decide +kernel
theorem dX0_haveRoom_12 : decode cX0_haveRoom 12 = .ok (.iload_n 1, 1) := by decide +kernel
theorem dX0_haveRoom_13 : decode cX0_haveRoom 13 = .ok (.iaload, 1) := by decide +kernel
theorem dX0_haveRoom_14 : decode cX0_haveRoom 14 = .ok (.aload_n 0, 1) := by decide +kernel
theorem dX0_haveRoom_15 : decode cX0_haveRoom 15 = .ok (.getfield 25, 3) := by decide +kernel
theorem dX0_haveRoom_18 : decode cX0_haveRoom 18 = .ok (.if_icmp .lt 14, 3) := by decide +kernel
theorem dX0_haveRoom_21 : decode cX0_haveRoom 21 = .ok (.aload_n 0, 1) := by decide +kernel
theorem dX0_haveRoom_22 : decode cX0_haveRoom 22 = .ok (.invokevirtual 35, 3) := by decide +kernel
theorem dX0_haveRoom_25 : decode cX0_haveRoom 25 = .ok (.aload_n 0, 1) := by decide +kernel
theorem dX0_haveRoom_26 : decode cX0_haveRoom 26 = .ok (.getfield 28, 3) := by decide +kernel
theorem dX0_haveRoom_29 : decode cX0_haveRoom 29 = .ok (.if_icmp .ge 7, 3) := by decide +kernel
theorem dX0_haveRoom_32 : decode cX0_haveRoom 32 = .ok (.iconst 1, 1) := by decide +kernel
theorem dX0_haveRoom_33 : decode cX0_haveRoom 33 = .ok (.goto 4, 3) := by decide +kernel
theorem dX0_haveRoom_36 : decode cX0_haveRoom 36 = .ok (.iconst 0, 1) := by decide +kernel
theorem dX0_haveRoom_37 : decode cX0_haveRoom 37 = .ok (.ireturn, 1) := by decide +kernel
theorem dX0_fill_0 : decode cX0_fill 0 = .ok (.aload_n 0, 1) := by decide +kernel
theorem dX0_fill_1 : decode cX0_fill 1 = .ok (.iload_n 1, 1) := by decide +kernel
theorem dX0_fill_2 : decode cX0_fill 2 = .ok (.invokevirtual 31, 3) := by decide +kernel
theorem dX0_fill_5 : decode cX0_fill 5 = .ok (.ifCond .eq 13, 3) := by decide +kernel
theorem dX0_fill_8 : decode cX0_fill 8 = .ok (.aload_n 0, 1) := by decide +kernel
theorem dX0_fill_9 : decode cX0_fill 9 = .ok (.getfield 9, 3) := by decide +kernel
theorem dX0_fill_12 : decode cX0_fill 12 = .ok (.iload_n 1, 1) := by decide +kernel
theorem dX0_fill_13 : decode cX0_fill 13 = .ok (.dup2, 1) := by decide +kernel
theorem dX0_fill_14 : decode cX0_fill 14 = .ok (.iaload, 1) := by decide +kernel
theorem dX0_fill_15 : decode cX0_fill 15 = .ok (.iconst 1, 1) := by decide +kernel
theorem dX0_fill_16 : decode cX0_fill 16 = .ok (.iadd, 1) := by decide +kernel
theorem dX0_fill_17 : decode cX0_fill 17 = .ok (.iastore, 1) := by decide +kernel
theorem dX0_fill_18 : decode cX0_fill 18 = .ok (.return_, 1) := by decide +kernel
theorem dX0_empty_0 : decode cX0_empty 0 = .ok (.aload_n 0, 1) := by decide +kernel
theorem dX0_empty_1 : decode cX0_empty 1 = .ok (.iload_n 1, 1) := by decide +kernel
theorem dX0_empty_2 : decode cX0_empty 2 = .ok (.invokevirtual 31, 3) := by decide +kernel
theorem dX0_empty_5 : decode cX0_empty 5 = .ok (.ifCond .eq 13, 3) := by decide +kernel
theorem dX0_empty_8 : decode cX0_empty 8 = .ok (.aload_n 0, 1) := by decide +kernel
theorem dX0_empty_9 : decode cX0_empty 9 = .ok (.getfield 9, 3) := by decide +kernel
theorem dX0_empty_12 : decode cX0_empty 12 = .ok (.iload_n 1, 1) := by decide +kernel
theorem dX0_empty_13 : decode cX0_empty 13 = .ok (.dup2, 1) := by decide +kernel
theorem dX0_empty_14 : decode cX0_empty 14 = .ok (.iaload, 1) := by decide +kernel
theorem dX0_empty_15 : decode cX0_empty 15 = .ok (.iconst 1, 1) := by decide +kernel
theorem dX0_empty_16 : decode cX0_empty 16 = .ok (.isub, 1) := by decide +kernel
theorem dX0_empty_17 : decode cX0_empty 17 = .ok (.iastore, 1) := by decide +kernel
theorem dX0_empty_18 : decode cX0_empty 18 = .ok (.return_, 1) := by decide +kernel
theorem dX0_above_0 : decode cX0_above 0 = .ok (.iconst 0, 1) := by decide +kernel
theorem dX0_above_1 : decode cX0_above 1 = .ok (.istore_n 1, 1) := by decide +kernel
theorem dX0_above_2 : decode cX0_above 2 = .ok (.iconst 0, 1) := by decide +kernel
theorem dX0_above_3 : decode cX0_above 3 = .ok (.istore_n 2, 1) := by decide +kernel
theorem dX0_above_4 : decode cX0_above 4 = .ok (.iload_n 2, 1) := by decide +kernel
theorem dX0_above_5 : decode cX0_above 5 = .ok (.aload_n 0, 1) := by decide +kernel
theorem dX0_above_6 : decode cX0_above 6 = .ok (.getfield 21, 3) := by decide +kernel
theorem dX0_above_9 : decode cX0_above 9 = .ok (.if_icmp .ge 27, 3) := by decide +kernel
theorem dX0_above_12 : decode cX0_above 12 = .ok (.iload_n 1, 1) := by decide +kernel
theorem dX0_above_13 : decode cX0_above 13 = .ok (.iconst 0, 1) := by decide +kernel
theorem dX0_above_14 : decode cX0_above 14 = .ok (.aload_n 0, 1) := by decide +kernel
theorem dX0_above_15 : decode cX0_above 15 = .ok (.getfield 9, 3) := by decide +kernel
theorem dX0_above_18 : decode cX0_above 18 = .ok (.iload_n 2, 1) := by decide +kernel
theorem dX0_above_19 : decode cX0_above 19 = .ok (.iaload, 1) := by decide +kernel
theorem dX0_above_20 : decode cX0_above 20 = .ok (.aload_n 0, 1) := by decide +kernel
theorem dX0_above_21 : decode cX0_above 21 = .ok (.getfield 25, 3) := by decide +kernel
theorem dX0_above_24 : decode cX0_above 24 = .ok (.isub, 1) := by decide +kernel
theorem dX0_above_25 : decode cX0_above 25 = .ok (.invokestatic 39, 3) := by decide +kernel
theorem dX0_above_28 : decode cX0_above 28 = .ok (.iadd, 1) := by decide +kernel
theorem dX0_above_29 : decode cX0_above 29 = .ok (.istore_n 1, 1) := by decide +kernel
theorem dX0_above_30 : decode cX0_above 30 = .ok (.iinc 2 1, 3) := by decide +kernel
theorem dX0_above_33 : decode cX0_above 33 = .ok (.goto (-29), 3) := by decide +kernel
theorem dX0_above_36 : decode cX0_above 36 = .ok (.iload_n 1, 1) := by decide +kernel
theorem dX0_above_37 : decode cX0_above 37 = .ok (.ireturn, 1) := by decide +kernel
theorem dX1_init_0 : decode cX1_init 0 = .ok (.aload_n 0, 1) := by decide +kernel
theorem dX1_init_1 : decode cX1_init 1 = .ok (.invokespecial 3, 3) := by decide +kernel
theorem dX1_init_4 : decode cX1_init 4 = .ok (.aload_n 0, 1) := by decide +kernel
theorem dX1_init_5 : decode cX1_init 5 = .ok (.sipush 288, 3) := by decide +kernel
theorem dX1_init_8 : decode cX1_init 8 = .ok (.newarray .long, 2) := by decide +kernel
theorem dX1_init_10 : decode cX1_init 10 = .ok (.putfield 9, 3) := by decide +kernel
theorem dX1_init_13 : decode cX1_init 13 = .ok (.aload_n 0, 1) := by decide +kernel
theorem dX1_init_14 : decode cX1_init 14 = .ok (.sipush 288, 3) := by decide +kernel
theorem dX1_init_17 : decode cX1_init 17 = .ok (.newarray .long, 2) := by decide +kernel
theorem dX1_init_19 : decode cX1_init 19 = .ok (.putfield 15, 3) := by decide +kernel
theorem dX1_init_22 : decode cX1_init 22 = .ok (.aload_n 0, 1) := by decide +kernel
theorem dX1_init_23 : decode cX1_init 23 = .ok (.bipush 72, 2) := by decide +kernel
theorem dX1_init_25 : decode cX1_init 25 = .ok (.newarray .int, 2) := by decide +kernel
theorem dX1_init_27 : decode cX1_init 27 = .ok (.putfield 18, 3) := by decide +kernel
theorem dX1_init_30 : decode cX1_init 30 = .ok (.aload_n 0, 1) := by decide +kernel
theorem dX1_init_31 : decode cX1_init 31 = .ok (.bipush 72, 2) := by decide +kernel
theorem dX1_init_33 : decode cX1_init 33 = .ok (.newarray .int, 2) := by decide +kernel
theorem dX1_init_35 : decode cX1_init 35 = .ok (.putfield 22, 3) := by decide +kernel
theorem dX1_init_38 : decode cX1_init 38 = .ok (.aload_n 0, 1) := by decide +kernel
theorem dX1_init_39 : decode cX1_init 39 = .ok (.bipush 72, 2) := by decide +kernel
theorem dX1_init_41 : decode cX1_init 41 = .ok (.newarray .int, 2) := by decide +kernel
theorem dX1_init_43 : decode cX1_init 43 = .ok (.putfield 25, 3) := by decide +kernel
theorem dX1_init_46 : decode cX1_init 46 = .ok (.aload_n 0, 1) := by decide +kernel
theorem dX1_init_47 : decode cX1_init 47 = .ok (.bipush 72, 2) := by decide +kernel
theorem dX1_init_49 : decode cX1_init 49 = .ok (.newarray .long, 2) := by decide +kernel
theorem dX1_init_51 : decode cX1_init 51 = .ok (.putfield 28, 3) := by decide +kernel
theorem dX1_init_54 : decode cX1_init 54 = .ok (.return_, 1) := by decide +kernel
theorem dX1_place_0 : decode cX1_place 0 = .ok (.iload_n 0, 1) := by decide +kernel
theorem dX1_place_1 : decode cX1_place 1 = .ok (.iconst 4, 1) := by decide +kernel
theorem dX1_place_2 : decode cX1_place 2 = .ok (.imul, 1) := by decide +kernel
theorem dX1_place_3 : decode cX1_place 3 = .ok (.iload_n 1, 1) := by decide +kernel
theorem dX1_place_4 : decode cX1_place 4 = .ok (.iadd, 1) := by decide +kernel
theorem dX1_place_5 : decode cX1_place 5 = .ok (.ireturn, 1) := by decide +kernel
theorem dX1_drop_0 : decode cX1_drop 0 = .ok (.iload_n 1, 1) := by decide +kernel
theorem dX1_drop_1 : decode cX1_drop 1 = .ok (.istore_n 2, 1) := by decide +kernel
theorem dX1_drop_2 : decode cX1_drop 2 = .ok (.iload_n 2, 1) := by decide +kernel
theorem dX1_drop_3 : decode cX1_drop 3 = .ok (.iconst 1, 1) := by decide +kernel
theorem dX1_drop_4 : decode cX1_drop 4 = .ok (.iadd, 1) := by decide +kernel
theorem dX1_drop_5 : decode cX1_drop 5 = .ok (.aload_n 0, 1) := by decide +kernel
theorem dX1_drop_6 : decode cX1_drop 6 = .ok (.getfield 31, 3) := by decide +kernel
theorem dX1_drop_9 : decode cX1_drop 9 = .ok (.if_icmp .ge 17, 3) := by decide +kernel
theorem dX1_drop_12 : decode cX1_drop 12 = .ok (.aload_n 0, 1) := by decide +kernel
theorem dX1_drop_13 : decode cX1_drop 13 = .ok (.iload_n 2, 1) := by decide +kernel
theorem dX1_drop_14 : decode cX1_drop 14 = .ok (.iconst 1, 1) := by decide +kernel
theorem dX1_drop_15 : decode cX1_drop 15 = .ok (.iadd, 1) := by decide +kernel
theorem dX1_drop_16 : decode cX1_drop 16 = .ok (.iload_n 2, 1) := by decide +kernel
theorem dX1_drop_17 : decode cX1_drop 17 = .ok (.invokevirtual 35, 3) := by decide +kernel
theorem dX1_drop_20 : decode cX1_drop 20 = .ok (.iinc 2 1, 3) := by decide +kernel
theorem dX1_drop_23 : decode cX1_drop 23 = .ok (.goto (-21), 3) := by decide +kernel
theorem dX1_drop_26 : decode cX1_drop 26 = .ok (.aload_n 0, 1) := by decide +kernel
theorem dX1_drop_27 : decode cX1_drop 27 = .ok (.dup, 1) := by decide +kernel
theorem dX1_drop_28 : decode cX1_drop 28 = .ok (.getfield 31, 3) := by decide +kernel
theorem dX1_drop_31 : decode cX1_drop 31 = .ok (.iconst 1, 1) := by decide +kernel
theorem dX1_drop_32 : decode cX1_drop 32 = .ok (.isub, 1) := by decide +kernel
theorem dX1_drop_33 : decode cX1_drop 33 = .ok (.putfield 31, 3) := by decide +kernel
theorem dX1_drop_36 : decode cX1_drop 36 = .ok (.return_, 1) := by decide +kernel
theorem dX1_copy_0 : decode cX1_copy 0 = .ok (.iconst 0, 1) := by decide +kernel
theorem dX1_copy_1 : decode cX1_copy 1 = .ok (.istore_n 3, 1) := by decide +kernel
theorem dX1_copy_2 : decode cX1_copy 2 = .ok (.iload_n 3, 1) := by decide +kernel
theorem dX1_copy_3 : decode cX1_copy 3 = .ok (.iconst 4, 1) := by decide +kernel
theorem dX1_copy_4 : decode cX1_copy 4 = .ok (.if_icmp .ge 49, 3) := by decide +kernel
theorem dX1_copy_7 : decode cX1_copy 7 = .ok (.aload_n 0, 1) := by decide +kernel
theorem dX1_copy_8 : decode cX1_copy 8 = .ok (.getfield 9, 3) := by decide +kernel
theorem dX1_copy_11 : decode cX1_copy 11 = .ok (.iload_n 2, 1) := by decide +kernel
theorem dX1_copy_12 : decode cX1_copy 12 = .ok (.iload_n 3, 1) := by decide +kernel
theorem dX1_copy_13 : decode cX1_copy 13 = .ok (.invokestatic 39, 3) := by decide +kernel
theorem dX1_copy_16 : decode cX1_copy 16 = .ok (.aload_n 0, 1) := by decide +kernel
theorem dX1_copy_17 : decode cX1_copy 17 = .ok (.getfield 9, 3) := by decide +kernel
theorem dX1_copy_20 : decode cX1_copy 20 = .ok (.iload_n 1, 1) := by decide +kernel
theorem dX1_copy_21 : decode cX1_copy 21 = .ok (.iload_n 3, 1) := by decide +kernel
theorem dX1_copy_22 : decode cX1_copy 22 = .ok (.invokestatic 39, 3) := by decide +kernel
theorem dX1_copy_25 : decode cX1_copy 25 = .ok (.laload, 1) := by decide +kernel
theorem dX1_copy_26 : decode cX1_copy 26 = .ok (.lastore, 1) := by decide +kernel
theorem dX1_copy_27 : decode cX1_copy 27 = .ok (.aload_n 0, 1) := by decide +kernel
theorem dX1_copy_28 : decode cX1_copy 28 = .ok (.getfield 15, 3) := by decide +kernel
theorem dX1_copy_31 : decode cX1_copy 31 = .ok (.iload_n 2, 1) := by decide +kernel
theorem dX1_copy_32 : decode cX1_copy 32 = .ok (.iload_n 3, 1) := by decide +kernel
theorem dX1_copy_33 : decode cX1_copy 33 = .ok (.invokestatic 39, 3) := by decide +kernel
theorem dX1_copy_36 : decode cX1_copy 36 = .ok (.aload_n 0, 1) := by decide +kernel
theorem dX1_copy_37 : decode cX1_copy 37 = .ok (.getfield 15, 3) := by decide +kernel
theorem dX1_copy_40 : decode cX1_copy 40 = .ok (.iload_n 1, 1) := by decide +kernel
theorem dX1_copy_41 : decode cX1_copy 41 = .ok (.iload_n 3, 1) := by decide +kernel
theorem dX1_copy_42 : decode cX1_copy 42 = .ok (.invokestatic 39, 3) := by decide +kernel
theorem dX1_copy_45 : decode cX1_copy 45 = .ok (.laload, 1) := by decide +kernel
theorem dX1_copy_46 : decode cX1_copy 46 = .ok (.lastore, 1) := by decide +kernel
theorem dX1_copy_47 : decode cX1_copy 47 = .ok (.iinc 3 1, 3) := by decide +kernel
theorem dX1_copy_50 : decode cX1_copy 50 = .ok (.goto (-48), 3) := by decide +kernel
theorem dX1_copy_53 : decode cX1_copy 53 = .ok (.aload_n 0, 1) := by decide +kernel
theorem dX1_copy_54 : decode cX1_copy 54 = .ok (.getfield 18, 3) := by decide +kernel
theorem dX1_copy_57 : decode cX1_copy 57 = .ok (.iload_n 2, 1) := by decide +kernel
theorem dX1_copy_58 : decode cX1_copy 58 = .ok (.aload_n 0, 1) := by decide +kernel
theorem dX1_copy_59 : decode cX1_copy 59 = .ok (.getfield 18, 3) := by decide +kernel
theorem dX1_copy_62 : decode cX1_copy 62 = .ok (.iload_n 1, 1) := by decide +kernel
theorem dX1_copy_63 : decode cX1_copy 63 = .ok (.iaload, 1) := by decide +kernel
theorem dX1_copy_64 : decode cX1_copy 64 = .ok (.iastore, 1) := by decide +kernel
theorem dX1_copy_65 : decode cX1_copy 65 = .ok (.aload_n 0, 1) := by decide +kernel
theorem dX1_copy_66 : decode cX1_copy 66 = .ok (.getfield 22, 3) := by decide +kernel
theorem dX1_copy_69 : decode cX1_copy 69 = .ok (.iload_n 2, 1) := by decide +kernel
theorem dX1_copy_70 : decode cX1_copy 70 = .ok (.aload_n 0, 1) := by decide +kernel
theorem dX1_copy_71 : decode cX1_copy 71 = .ok (.getfield 22, 3) := by decide +kernel
theorem dX1_copy_74 : decode cX1_copy 74 = .ok (.iload_n 1, 1) := by decide +kernel
theorem dX1_copy_75 : decode cX1_copy 75 = .ok (.iaload, 1) := by decide +kernel
theorem dX1_copy_76 : decode cX1_copy 76 = .ok (.iastore, 1) := by decide +kernel
theorem dX1_copy_77 : decode cX1_copy 77 = .ok (.aload_n 0, 1) := by decide +kernel
theorem dX1_copy_78 : decode cX1_copy 78 = .ok (.getfield 25, 3) := by decide +kernel
theorem dX1_copy_81 : decode cX1_copy 81 = .ok (.iload_n 2, 1) := by decide +kernel
theorem dX1_copy_82 : decode cX1_copy 82 = .ok (.aload_n 0, 1) := by decide +kernel
theorem dX1_copy_83 : decode cX1_copy 83 = .ok (.getfield 25, 3) := by decide +kernel
theorem dX1_copy_86 : decode cX1_copy 86 = .ok (.iload_n 1, 1) := by decide +kernel
theorem dX1_copy_87 : decode cX1_copy 87 = .ok (.iaload, 1) := by decide +kernel
theorem dX1_copy_88 : decode cX1_copy 88 = .ok (.iastore, 1) := by decide +kernel
theorem dX1_copy_89 : decode cX1_copy 89 = .ok (.aload_n 0, 1) := by decide +kernel
theorem dX1_copy_90 : decode cX1_copy 90 = .ok (.getfield 28, 3) := by decide +kernel
theorem dX1_copy_93 : decode cX1_copy 93 = .ok (.iload_n 2, 1) := by decide +kernel
theorem dX1_copy_94 : decode cX1_copy 94 = .ok (.aload_n 0, 1) := by decide +kernel
theorem dX1_copy_95 : decode cX1_copy 95 = .ok (.getfield 28, 3) := by decide +kernel
theorem dX1_copy_98 : decode cX1_copy 98 = .ok (.iload_n 1, 1) := by decide +kernel
theorem dX1_copy_99 : decode cX1_copy 99 = .ok (.laload, 1) := by decide +kernel
theorem dX1_copy_100 : decode cX1_copy 100 = .ok (.lastore, 1) := by decide +kernel
theorem dX1_copy_101 : decode cX1_copy 101 = .ok (.return_, 1) := by decide +kernel
theorem dX1_isWorthMore_0 : decode cX1_isWorthMore 0 = .ok (.aload_n 0, 1) := by decide +kernel
theorem dX1_isWorthMore_1 : decode cX1_isWorthMore 1 = .ok (.getfield 18, 3) := by decide +kernel
theorem dX1_isWorthMore_4 : decode cX1_isWorthMore 4 = .ok (.iload_n 1, 1) := by decide +kernel
theorem dX1_isWorthMore_5 : decode cX1_isWorthMore 5 = .ok (.iaload, 1) := by decide +kernel
theorem dX1_isWorthMore_6 : decode cX1_isWorthMore 6 = .ok (.aload_n 0, 1) := by decide +kernel
theorem dX1_isWorthMore_7 : decode cX1_isWorthMore 7 = .ok (.getfield 18, 3) := by decide +kernel
theorem dX1_isWorthMore_10 : decode cX1_isWorthMore 10 = .ok (.iload_n 2, 1) := by decide +kernel
theorem dX1_isWorthMore_11 : decode cX1_isWorthMore 11 = .ok (.iaload, 1) := by decide +kernel
theorem dX1_isWorthMore_12 : decode cX1_isWorthMore 12 = .ok (.if_icmp .eq 24, 3) := by decide +kernel
theorem dX1_isWorthMore_15 : decode cX1_isWorthMore 15 = .ok (.aload_n 0, 1) := by decide +kernel
theorem dX1_isWorthMore_16 : decode cX1_isWorthMore 16 = .ok (.getfield 18, 3) := by decide +kernel
theorem dX1_isWorthMore_19 : decode cX1_isWorthMore 19 = .ok (.iload_n 1, 1) := by decide +kernel
theorem dX1_isWorthMore_20 : decode cX1_isWorthMore 20 = .ok (.iaload, 1) := by decide +kernel
theorem dX1_isWorthMore_21 : decode cX1_isWorthMore 21 = .ok (.aload_n 0, 1) := by decide +kernel
theorem dX1_isWorthMore_22 : decode cX1_isWorthMore 22 = .ok (.getfield 18, 3) := by decide +kernel
theorem dX1_isWorthMore_25 : decode cX1_isWorthMore 25 = .ok (.iload_n 2, 1) := by decide +kernel
theorem dX1_isWorthMore_26 : decode cX1_isWorthMore 26 = .ok (.iaload, 1) := by decide +kernel
theorem dX1_isWorthMore_27 : decode cX1_isWorthMore 27 = .ok (.if_icmp .le 7, 3) := by decide +kernel
theorem dX1_isWorthMore_30 : decode cX1_isWorthMore 30 = .ok (.iconst 1, 1) := by decide +kernel
theorem dX1_isWorthMore_31 : decode cX1_isWorthMore 31 = .ok (.goto 4, 3) := by decide +kernel
theorem dX1_isWorthMore_34 : decode cX1_isWorthMore 34 = .ok (.iconst 0, 1) := by decide +kernel
theorem dX1_isWorthMore_35 : decode cX1_isWorthMore 35 = .ok (.ireturn, 1) := by decide +kernel
theorem dX1_isWorthMore_36 : decode cX1_isWorthMore 36 = .ok (.aload_n 0, 1) := by decide +kernel
theorem dX1_isWorthMore_37 : decode cX1_isWorthMore 37 = .ok (.getfield 22, 3) := by decide +kernel
theorem dX1_isWorthMore_40 : decode cX1_isWorthMore 40 = .ok (.iload_n 1, 1) := by decide +kernel
theorem dX1_isWorthMore_41 : decode cX1_isWorthMore 41 = .ok (.iaload, 1) := by decide +kernel
theorem dX1_isWorthMore_42 : decode cX1_isWorthMore 42 = .ok (.aload_n 0, 1) := by decide +kernel
theorem dX1_isWorthMore_43 : decode cX1_isWorthMore 43 = .ok (.getfield 22, 3) := by decide +kernel
theorem dX1_isWorthMore_46 : decode cX1_isWorthMore 46 = .ok (.iload_n 2, 1) := by decide +kernel
theorem dX1_isWorthMore_47 : decode cX1_isWorthMore 47 = .ok (.iaload, 1) := by decide +kernel
theorem dX1_isWorthMore_48 : decode cX1_isWorthMore 48 = .ok (.if_icmp .le 7, 3) := by decide +kernel
theorem dX1_isWorthMore_51 : decode cX1_isWorthMore 51 = .ok (.iconst 1, 1) := by decide +kernel
theorem dX1_isWorthMore_52 : decode cX1_isWorthMore 52 = .ok (.goto 4, 3) := by decide +kernel
theorem dX1_isWorthMore_55 : decode cX1_isWorthMore 55 = .ok (.iconst 0, 1) := by decide +kernel
theorem dX1_isWorthMore_56 : decode cX1_isWorthMore 56 = .ok (.ireturn, 1) := by decide +kernel
theorem dX2_init_0 : decode cX2_init 0 = .ok (.aload_n 0, 1) := by decide +kernel
theorem dX2_init_1 : decode cX2_init 1 = .ok (.invokespecial 3, 3) := by decide +kernel
theorem dX2_init_4 : decode cX2_init 4 = .ok (.aload_n 0, 1) := by decide +kernel
theorem dX2_init_5 : decode cX2_init 5 = .ok (.iconst 4, 1) := by decide +kernel
theorem dX2_init_6 : decode cX2_init 6 = .ok (.newarray .int, 2) := by decide +kernel
theorem dX2_init_8 : decode cX2_init 8 = .ok (.putfield 9, 3) := by decide +kernel
theorem dX2_init_11 : decode cX2_init 11 = .ok (.aload_n 0, 1) := by decide +kernel
theorem dX2_init_12 : decode cX2_init 12 = .ok (.iconst 4, 1) := by decide +kernel
theorem dX2_init_13 : decode cX2_init 13 = .ok (.newarray .long, 2) := by decide +kernel
theorem dX2_init_15 : decode cX2_init 15 = .ok (.putfield 15, 3) := by decide +kernel
theorem dX2_init_18 : decode cX2_init 18 = .ok (.return_, 1) := by decide +kernel
theorem dX2_have_0 : decode cX2_have 0 = .ok (.iconst 0, 1) := by decide +kernel
theorem dX2_have_1 : decode cX2_have 1 = .ok (.istore_n 2, 1) := by decide +kernel
theorem dX2_have_2 : decode cX2_have 2 = .ok (.iload_n 2, 1) := by decide +kernel
theorem dX2_have_3 : decode cX2_have 3 = .ok (.aload_n 0, 1) := by decide +kernel
theorem dX2_have_4 : decode cX2_have 4 = .ok (.getfield 19, 3) := by decide +kernel
theorem dX2_have_7 : decode cX2_have 7 = .ok (.if_icmp .ge 21, 3) := by decide +kernel
theorem dX2_have_10 : decode cX2_have 10 = .ok (.aload_n 0, 1) := by decide +kernel
theorem dX2_have_11 : decode cX2_have 11 = .ok (.getfield 9, 3) := by decide +kernel
theorem dX2_have_14 : decode cX2_have 14 = .ok (.iload_n 2, 1) := by decide +kernel
theorem dX2_have_15 : decode cX2_have 15 = .ok (.iaload, 1) := by decide +kernel
theorem dX2_have_16 : decode cX2_have 16 = .ok (.iload_n 1, 1) := by decide +kernel
theorem dX2_have_17 : decode cX2_have 17 = .ok (.if_icmp .ne 5, 3) := by decide +kernel
theorem dX2_have_20 : decode cX2_have 20 = .ok (.iconst 1, 1) := by decide +kernel
theorem dX2_have_21 : decode cX2_have 21 = .ok (.ireturn, 1) := by decide +kernel
theorem dX2_have_22 : decode cX2_have 22 = .ok (.iinc 2 1, 3) := by decide +kernel
theorem dX2_have_25 : decode cX2_have 25 = .ok (.goto (-23), 3) := by decide +kernel
theorem dX2_have_28 : decode cX2_have 28 = .ok (.iconst 0, 1) := by decide +kernel
theorem dX2_have_29 : decode cX2_have 29 = .ok (.ireturn, 1) := by decide +kernel
theorem dX2_areExact_0 : decode cX2_areExact 0 = .ok (.aload_n 0, 1) := by decide +kernel
theorem dX2_areExact_1 : decode cX2_areExact 1 = .ok (.iconst 1, 1) := by decide +kernel
theorem dX2_areExact_2 : decode cX2_areExact 2 = .ok (.invokevirtual 23, 3) := by decide +kernel
theorem dX2_areExact_5 : decode cX2_areExact 5 = .ok (.ifCond .ne 15, 3) := by decide +kernel
theorem dX2_areExact_8 : decode cX2_areExact 8 = .ok (.aload_n 0, 1) := by decide +kernel
theorem dX2_areExact_9 : decode cX2_areExact 9 = .ok (.iconst 2, 1) := by decide +kernel
theorem dX2_areExact_10 : decode cX2_areExact 10 = .ok (.invokevirtual 23, 3) := by decide +kernel
theorem dX2_areExact_13 : decode cX2_areExact 13 = .ok (.ifCond .ne 7, 3) := by decide +kernel
theorem dX2_areExact_16 : decode cX2_areExact 16 = .ok (.iconst 1, 1) := by decide +kernel
theorem dX2_areExact_17 : decode cX2_areExact 17 = .ok (.goto 4, 3) := by decide +kernel
theorem dX2_areExact_20 : decode cX2_areExact 20 = .ok (.iconst 0, 1) := by decide +kernel
theorem dX2_areExact_21 : decode cX2_areExact 21 = .ok (.ireturn, 1) := by decide +kernel
theorem dX2_allow_0 : decode cX2_allow 0 = .ok (.iload_n 1, 1) := by decide +kernel
theorem dX2_allow_1 : decode cX2_allow 1 = .ok (.lookupswitch 46 #[(1, 27), (2, 32)], 27) := by decide +kernel
theorem dX2_allow_28 : decode cX2_allow 28 = .ok (.aload_n 0, 1) := by decide +kernel
theorem dX2_allow_29 : decode cX2_allow 29 = .ok (.invokevirtual 27, 3) := by decide +kernel
theorem dX2_allow_32 : decode cX2_allow 32 = .ok (.ireturn, 1) := by decide +kernel
theorem dX2_allow_33 : decode cX2_allow 33 = .ok (.aload_n 0, 1) := by decide +kernel
theorem dX2_allow_34 : decode cX2_allow 34 = .ok (.iconst 1, 1) := by decide +kernel
theorem dX2_allow_35 : decode cX2_allow 35 = .ok (.invokevirtual 23, 3) := by decide +kernel
theorem dX2_allow_38 : decode cX2_allow 38 = .ok (.ifCond .ne 7, 3) := by decide +kernel
theorem dX2_allow_41 : decode cX2_allow 41 = .ok (.iconst 1, 1) := by decide +kernel
theorem dX2_allow_42 : decode cX2_allow 42 = .ok (.goto 4, 3) := by decide +kernel
theorem dX2_allow_45 : decode cX2_allow 45 = .ok (.iconst 0, 1) := by decide +kernel
theorem dX2_allow_46 : decode cX2_allow 46 = .ok (.ireturn, 1) := by decide +kernel
theorem dX2_allow_47 : decode cX2_allow 47 = .ok (.iconst 1, 1) := by decide +kernel
theorem dX2_allow_48 : decode cX2_allow 48 = .ok (.ireturn, 1) := by decide +kernel
theorem dX2_add_0 : decode cX2_add 0 = .ok (.aload_n 0, 1) := by decide +kernel
theorem dX2_add_1 : decode cX2_add 1 = .ok (.getfield 19, 3) := by decide +kernel
theorem dX2_add_4 : decode cX2_add 4 = .ok (.istore_n 3, 1) := by decide +kernel
theorem dX2_add_5 : decode cX2_add 5 = .ok (.aload_n 0, 1) := by decide +kernel
theorem dX2_add_6 : decode cX2_add 6 = .ok (.getfield 9, 3) := by decide +kernel
theorem dX2_add_9 : decode cX2_add 9 = .ok (.iload_n 3, 1) := by decide +kernel
theorem dX2_add_10 : decode cX2_add 10 = .ok (.iload_n 2, 1) := by decide +kernel
theorem dX2_add_11 : decode cX2_add 11 = .ok (.iastore, 1) := by decide +kernel
theorem dX2_add_12 : decode cX2_add 12 = .ok (.aload_n 0, 1) := by decide +kernel
theorem dX2_add_13 : decode cX2_add 13 = .ok (.getfield 15, 3) := by decide +kernel
theorem dX2_add_16 : decode cX2_add 16 = .ok (.iload_n 3, 1) := by decide +kernel
theorem dX2_add_17 : decode cX2_add 17 = .ok (.ldc2_w 31, 3) := by decide +kernel
theorem dX2_add_20 : decode cX2_add 20 = .ok (.bipush 64, 2) := by decide +kernel
theorem dX2_add_22 : decode cX2_add 22 = .ok (.iload_n 1, 1) := by decide +kernel
theorem dX2_add_23 : decode cX2_add 23 = .ok (.isub, 1) := by decide +kernel
theorem dX2_add_24 : decode cX2_add 24 = .ok (.lushr, 1) := by decide +kernel
theorem dX2_add_25 : decode cX2_add 25 = .ok (.lastore, 1) := by decide +kernel
theorem dX2_add_26 : decode cX2_add 26 = .ok (.aload_n 0, 1) := by decide +kernel
theorem dX2_add_27 : decode cX2_add 27 = .ok (.iload_n 3, 1) := by decide +kernel
theorem dX2_add_28 : decode cX2_add 28 = .ok (.iconst 1, 1) := by decide +kernel
theorem dX2_add_29 : decode cX2_add 29 = .ok (.iadd, 1) := by decide +kernel
theorem dX2_add_30 : decode cX2_add 30 = .ok (.putfield 19, 3) := by decide +kernel
theorem dX2_add_33 : decode cX2_add 33 = .ok (.iload_n 3, 1) := by decide +kernel
theorem dX2_add_34 : decode cX2_add 34 = .ok (.ireturn, 1) := by decide +kernel
theorem dX2_takeMask_0 : decode cX2_takeMask 0 = .ok (.aload_n 0, 1) := by decide +kernel
theorem dX2_takeMask_1 : decode cX2_takeMask 1 = .ok (.getfield 15, 3) := by decide +kernel
theorem dX2_takeMask_4 : decode cX2_takeMask 4 = .ok (.iload_n 1, 1) := by decide +kernel
theorem dX2_takeMask_5 : decode cX2_takeMask 5 = .ok (.laload, 1) := by decide +kernel
theorem dX2_takeMask_6 : decode cX2_takeMask 6 = .ok (.lload_n 2, 1) := by decide +kernel
theorem dX2_takeMask_7 : decode cX2_takeMask 7 = .ok (.ldc2_w 31, 3) := by decide +kernel
theorem dX2_takeMask_10 : decode cX2_takeMask 10 = .ok (.lxor, 1) := by decide +kernel
theorem dX2_takeMask_11 : decode cX2_takeMask 11 = .ok (.land, 1) := by decide +kernel
theorem dX2_takeMask_12 : decode cX2_takeMask 12 = .ok (.lstore 4, 2) := by decide +kernel
theorem dX2_takeMask_14 : decode cX2_takeMask 14 = .ok (.aload_n 0, 1) := by decide +kernel
theorem dX2_takeMask_15 : decode cX2_takeMask 15 = .ok (.getfield 9, 3) := by decide +kernel
theorem dX2_takeMask_18 : decode cX2_takeMask 18 = .ok (.iload_n 1, 1) := by decide +kernel
theorem dX2_takeMask_19 : decode cX2_takeMask 19 = .ok (.iaload, 1) := by decide +kernel
theorem dX2_takeMask_20 : decode cX2_takeMask 20 = .ok (.lookupswitch 59 #[(0, 28), (1, 41)], 28) := by decide +kernel
theorem dX2_takeMask_48 : decode cX2_takeMask 48 = .ok (.lload 4, 2) := by decide +kernel
theorem dX2_takeMask_50 : decode cX2_takeMask 50 = .ok (.lconst 0, 1) := by decide +kernel
theorem dX2_takeMask_51 : decode cX2_takeMask 51 = .ok (.lcmp, 1) := by decide +kernel
theorem dX2_takeMask_52 : decode cX2_takeMask 52 = .ok (.ifCond .ne 7, 3) := by decide +kernel
theorem dX2_takeMask_55 : decode cX2_takeMask 55 = .ok (.iconst 1, 1) := by decide +kernel
theorem dX2_takeMask_56 : decode cX2_takeMask 56 = .ok (.goto 4, 3) := by decide +kernel
theorem dX2_takeMask_59 : decode cX2_takeMask 59 = .ok (.iconst 0, 1) := by decide +kernel
theorem dX2_takeMask_60 : decode cX2_takeMask 60 = .ok (.ireturn, 1) := by decide +kernel
theorem dX2_takeMask_61 : decode cX2_takeMask 61 = .ok (.lload 4, 2) := by decide +kernel
theorem dX2_takeMask_63 : decode cX2_takeMask 63 = .ok (.lload 4, 2) := by decide +kernel
theorem dX2_takeMask_65 : decode cX2_takeMask 65 = .ok (.lconst 1, 1) := by decide +kernel
theorem dX2_takeMask_66 : decode cX2_takeMask 66 = .ok (.ladd, 1) := by decide +kernel
theorem dX2_takeMask_67 : decode cX2_takeMask 67 = .ok (.land, 1) := by decide +kernel
theorem dX2_takeMask_68 : decode cX2_takeMask 68 = .ok (.lconst 0, 1) := by decide +kernel
theorem dX2_takeMask_69 : decode cX2_takeMask 69 = .ok (.lcmp, 1) := by decide +kernel
theorem dX2_takeMask_70 : decode cX2_takeMask 70 = .ok (.ifCond .ne 7, 3) := by decide +kernel
theorem dX2_takeMask_73 : decode cX2_takeMask 73 = .ok (.iconst 1, 1) := by decide +kernel
theorem dX2_takeMask_74 : decode cX2_takeMask 74 = .ok (.goto 4, 3) := by decide +kernel
theorem dX2_takeMask_77 : decode cX2_takeMask 77 = .ok (.iconst 0, 1) := by decide +kernel
theorem dX2_takeMask_78 : decode cX2_takeMask 78 = .ok (.ireturn, 1) := by decide +kernel
theorem dX2_takeMask_79 : decode cX2_takeMask 79 = .ok (.iconst 1, 1) := by decide +kernel
theorem dX2_takeMask_80 : decode cX2_takeMask 80 = .ok (.ireturn, 1) := by decide +kernel
end
section
theorem dX4_init_0 : decode cX4_init 0 = .ok (.aload_n 0, 1) := by decide +kernel
theorem dX4_init_1 : decode cX4_init 1 = .ok (.invokespecial 1, 3) := by decide +kernel
theorem dX4_init_4 : decode cX4_init 4 = .ok (.aload_n 0, 1) := by decide +kernel
theorem dX4_init_5 : decode cX4_init 5 = .ok (.iconst 4, 1) := by decide +kernel
theorem dX4_init_6 : decode cX4_init 6 = .ok (.newarray .int, 2) := by decide +kernel
theorem dX4_init_8 : decode cX4_init 8 = .ok (.putfield 7, 3) := by decide +kernel
theorem dX4_init_11 : decode cX4_init 11 = .ok (.aload_n 0, 1) := by decide +kernel
theorem dX4_init_12 : decode cX4_init 12 = .ok (.iconst 4, 1) := by decide +kernel
theorem dX4_init_13 : decode cX4_init 13 = .ok (.newarray .int, 2) := by decide +kernel
theorem dX4_init_15 : decode cX4_init 15 = .ok (.putfield 13, 3) := by decide +kernel
theorem dX4_init_18 : decode cX4_init 18 = .ok (.aload_n 0, 1) := by decide +kernel
theorem dX4_init_19 : decode cX4_init 19 = .ok (.iconst 4, 1) := by decide +kernel
theorem dX4_init_20 : decode cX4_init 20 = .ok (.newarray .long, 2) := by decide +kernel
theorem dX4_init_22 : decode cX4_init 22 = .ok (.putfield 16, 3) := by decide +kernel
theorem dX4_init_25 : decode cX4_init 25 = .ok (.aload_n 0, 1) := by decide +kernel
theorem dX4_init_26 : decode cX4_init 26 = .ok (.iconst 4, 1) := by decide +kernel
theorem dX4_init_27 : decode cX4_init 27 = .ok (.newarray .long, 2) := by decide +kernel
theorem dX4_init_29 : decode cX4_init 29 = .ok (.putfield 20, 3) := by decide +kernel
theorem dX4_init_32 : decode cX4_init 32 = .ok (.aload_n 0, 1) := by decide +kernel
theorem dX4_init_33 : decode cX4_init 33 = .ok (.sipush 288, 3) := by decide +kernel
theorem dX4_init_36 : decode cX4_init 36 = .ok (.newarray .long, 2) := by decide +kernel
theorem dX4_init_38 : decode cX4_init 38 = .ok (.putfield 23, 3) := by decide +kernel
theorem dX4_init_41 : decode cX4_init 41 = .ok (.aload_n 0, 1) := by decide +kernel
theorem dX4_init_42 : decode cX4_init 42 = .ok (.sipush 288, 3) := by decide +kernel
theorem dX4_init_45 : decode cX4_init 45 = .ok (.newarray .long, 2) := by decide +kernel
theorem dX4_init_47 : decode cX4_init 47 = .ok (.putfield 26, 3) := by decide +kernel
theorem dX4_init_50 : decode cX4_init 50 = .ok (.aload_n 0, 1) := by decide +kernel
theorem dX4_init_51 : decode cX4_init 51 = .ok (.bipush 72, 2) := by decide +kernel
theorem dX4_init_53 : decode cX4_init 53 = .ok (.newarray .int, 2) := by decide +kernel
theorem dX4_init_55 : decode cX4_init 55 = .ok (.putfield 29, 3) := by decide +kernel
theorem dX4_init_58 : decode cX4_init 58 = .ok (.aload_n 0, 1) := by decide +kernel
theorem dX4_init_59 : decode cX4_init 59 = .ok (.bipush 72, 2) := by decide +kernel
theorem dX4_init_61 : decode cX4_init 61 = .ok (.newarray .int, 2) := by decide +kernel
theorem dX4_init_63 : decode cX4_init 63 = .ok (.putfield 32, 3) := by decide +kernel
theorem dX4_init_66 : decode cX4_init 66 = .ok (.aload_n 0, 1) := by decide +kernel
theorem dX4_init_67 : decode cX4_init 67 = .ok (.bipush 72, 2) := by decide +kernel
theorem dX4_init_69 : decode cX4_init 69 = .ok (.newarray .long, 2) := by decide +kernel
theorem dX4_init_71 : decode cX4_init 71 = .ok (.putfield 35, 3) := by decide +kernel
theorem dX4_init_74 : decode cX4_init 74 = .ok (.aload_n 0, 1) := by decide +kernel
theorem dX4_init_75 : decode cX4_init 75 = .ok (.bipush 16, 2) := by decide +kernel
theorem dX4_init_77 : decode cX4_init 77 = .ok (.newarray .int, 2) := by decide +kernel
theorem dX4_init_79 : decode cX4_init 79 = .ok (.putfield 38, 3) := by decide +kernel
theorem dX4_init_82 : decode cX4_init 82 = .ok (.return_, 1) := by decide +kernel
theorem dX4_thrown_0 : decode cX4_thrown 0 = .ok (.aload_n 0, 1) := by decide +kernel
theorem dX4_thrown_1 : decode cX4_thrown 1 = .ok (.getfield 41, 3) := by decide +kernel
theorem dX4_thrown_4 : decode cX4_thrown 4 = .ok (.ireturn, 1) := by decide +kernel
theorem dX4_clear_0 : decode cX4_clear 0 = .ok (.aload_n 0, 1) := by decide +kernel
theorem dX4_clear_1 : decode cX4_clear 1 = .ok (.iconst 0, 1) := by decide +kernel
theorem dX4_clear_2 : decode cX4_clear 2 = .ok (.putfield 41, 3) := by decide +kernel
theorem dX4_clear_5 : decode cX4_clear 5 = .ok (.aload_n 0, 1) := by decide +kernel
theorem dX4_clear_6 : decode cX4_clear 6 = .ok (.iconst 0, 1) := by decide +kernel
theorem dX4_clear_7 : decode cX4_clear 7 = .ok (.putfield 45, 3) := by decide +kernel
theorem dX4_clear_10 : decode cX4_clear 10 = .ok (.aload_n 0, 1) := by decide +kernel
theorem dX4_clear_11 : decode cX4_clear 11 = .ok (.iconst 0, 1) := by decide +kernel
theorem dX4_clear_12 : decode cX4_clear 12 = .ok (.putfield 48, 3) := by decide +kernel
theorem dX4_clear_15 : decode cX4_clear 15 = .ok (.aload_n 0, 1) := by decide +kernel
theorem dX4_clear_16 : decode cX4_clear 16 = .ok (.iconst 0, 1) := by decide +kernel
theorem dX4_clear_17 : decode cX4_clear 17 = .ok (.putfield 52, 3) := by decide +kernel
theorem dX4_clear_20 : decode cX4_clear 20 = .ok (.aload_n 0, 1) := by decide +kernel
theorem dX4_clear_21 : decode cX4_clear 21 = .ok (.lconst 0, 1) := by decide +kernel
theorem dX4_clear_22 : decode cX4_clear 22 = .ok (.putfield 55, 3) := by decide +kernel
theorem dX4_clear_25 : decode cX4_clear 25 = .ok (.iconst 0, 1) := by decide +kernel
theorem dX4_clear_26 : decode cX4_clear 26 = .ok (.istore_n 1, 1) := by decide +kernel
theorem dX4_clear_27 : decode cX4_clear 27 = .ok (.iload_n 1, 1) := by decide +kernel
theorem dX4_clear_28 : decode cX4_clear 28 = .ok (.iconst 4, 1) := by decide +kernel
theorem dX4_clear_29 : decode cX4_clear 29 = .ok (.if_icmp .ge 23, 3) := by decide +kernel
theorem dX4_clear_32 : decode cX4_clear 32 = .ok (.aload_n 0, 1) := by decide +kernel
theorem dX4_clear_33 : decode cX4_clear 33 = .ok (.getfield 16, 3) := by decide +kernel
theorem dX4_clear_36 : decode cX4_clear 36 = .ok (.iload_n 1, 1) := by decide +kernel
theorem dX4_clear_37 : decode cX4_clear 37 = .ok (.lconst 0, 1) := by decide +kernel
theorem dX4_clear_38 : decode cX4_clear 38 = .ok (.lastore, 1) := by decide +kernel
theorem dX4_clear_39 : decode cX4_clear 39 = .ok (.aload_n 0, 1) := by decide +kernel
theorem dX4_clear_40 : decode cX4_clear 40 = .ok (.getfield 20, 3) := by decide +kernel
theorem dX4_clear_43 : decode cX4_clear 43 = .ok (.iload_n 1, 1) := by decide +kernel
theorem dX4_clear_44 : decode cX4_clear 44 = .ok (.lconst 0, 1) := by decide +kernel
theorem dX4_clear_45 : decode cX4_clear 45 = .ok (.lastore, 1) := by decide +kernel
theorem dX4_clear_46 : decode cX4_clear 46 = .ok (.iinc 1 1, 3) := by decide +kernel
theorem dX4_clear_49 : decode cX4_clear 49 = .ok (.goto (-22), 3) := by decide +kernel
theorem dX4_clear_52 : decode cX4_clear 52 = .ok (.return_, 1) := by decide +kernel
theorem dX4_has_0 : decode cX4_has 0 = .ok (.iconst 0, 1) := by decide +kernel
theorem dX4_has_1 : decode cX4_has 1 = .ok (.istore_n 2, 1) := by decide +kernel
theorem dX4_has_2 : decode cX4_has 2 = .ok (.iload_n 2, 1) := by decide +kernel
theorem dX4_has_3 : decode cX4_has 3 = .ok (.aload_n 0, 1) := by decide +kernel
theorem dX4_has_4 : decode cX4_has 4 = .ok (.getfield 45, 3) := by decide +kernel
theorem dX4_has_7 : decode cX4_has 7 = .ok (.if_icmp .ge 21, 3) := by decide +kernel
theorem dX4_has_10 : decode cX4_has 10 = .ok (.aload_n 0, 1) := by decide +kernel
theorem dX4_has_11 : decode cX4_has 11 = .ok (.getfield 13, 3) := by decide +kernel
theorem dX4_has_14 : decode cX4_has 14 = .ok (.iload_n 2, 1) := by decide +kernel
theorem dX4_has_15 : decode cX4_has 15 = .ok (.iaload, 1) := by decide +kernel
theorem dX4_has_16 : decode cX4_has 16 = .ok (.iload_n 1, 1) := by decide +kernel
theorem dX4_has_17 : decode cX4_has 17 = .ok (.if_icmp .ne 5, 3) := by decide +kernel
theorem dX4_has_20 : decode cX4_has 20 = .ok (.iconst 1, 1) := by decide +kernel
theorem dX4_has_21 : decode cX4_has 21 = .ok (.ireturn, 1) := by decide +kernel
theorem dX4_has_22 : decode cX4_has 22 = .ok (.iinc 2 1, 3) := by decide +kernel
theorem dX4_has_25 : decode cX4_has 25 = .ok (.goto (-23), 3) := by decide +kernel
theorem dX4_has_28 : decode cX4_has 28 = .ok (.iconst 0, 1) := by decide +kernel
theorem dX4_has_29 : decode cX4_has 29 = .ok (.ireturn, 1) := by decide +kernel
theorem dX4_key_0 : decode cX4_key 0 = .ok (.aload_n 0, 1) := by decide +kernel
theorem dX4_key_1 : decode cX4_key 1 = .ok (.iload_n 1, 1) := by decide +kernel
theorem dX4_key_2 : decode cX4_key 2 = .ok (.iconst 1, 1) := by decide +kernel
theorem dX4_key_3 : decode cX4_key 3 = .ok (.if_icmp .lt 18, 3) := by decide +kernel
theorem dX4_key_6 : decode cX4_key 6 = .ok (.iload_n 1, 1) := by decide +kernel
theorem dX4_key_7 : decode cX4_key 7 = .ok (.bipush 64, 2) := by decide +kernel
theorem dX4_key_9 : decode cX4_key 9 = .ok (.if_icmp .gt 12, 3) := by decide +kernel
theorem dX4_key_12 : decode cX4_key 12 = .ok (.iload_n 2, 1) := by decide +kernel
theorem dX4_key_13 : decode cX4_key 13 = .ok (.ifCond .lt 8, 3) := by decide +kernel
theorem dX4_key_16 : decode cX4_key 16 = .ok (.iload_n 2, 1) := by decide +kernel
theorem dX4_key_17 : decode cX4_key 17 = .ok (.iconst 2, 1) := by decide +kernel
theorem dX4_key_18 : decode cX4_key 18 = .ok (.if_icmp .le 7, 3) := by decide +kernel
theorem dX4_key_21 : decode cX4_key 21 = .ok (.iconst 1, 1) := by decide +kernel
theorem dX4_key_22 : decode cX4_key 22 = .ok (.goto 23, 3) := by decide +kernel
theorem dX4_key_25 : decode cX4_key 25 = .ok (.aload_n 0, 1) := by decide +kernel
theorem dX4_key_26 : decode cX4_key 26 = .ok (.getfield 45, 3) := by decide +kernel
theorem dX4_key_29 : decode cX4_key 29 = .ok (.iconst 4, 1) := by decide +kernel
theorem dX4_key_30 : decode cX4_key 30 = .ok (.if_icmp .eq 10, 3) := by decide +kernel
theorem dX4_key_33 : decode cX4_key 33 = .ok (.aload_n 0, 1) := by decide +kernel
theorem dX4_key_34 : decode cX4_key 34 = .ok (.getfield 48, 3) := by decide +kernel
theorem dX4_key_37 : decode cX4_key 37 = .ok (.ifCond .eq 7, 3) := by decide +kernel
theorem dX4_key_40 : decode cX4_key 40 = .ok (.iconst 2, 1) := by decide +kernel
theorem dX4_key_41 : decode cX4_key 41 = .ok (.goto 4, 3) := by decide +kernel
theorem dX4_key_44 : decode cX4_key 44 = .ok (.iconst 0, 1) := by decide +kernel
theorem dX4_key_45 : decode cX4_key 45 = .ok (.putfield 41, 3) := by decide +kernel
theorem dX4_key_48 : decode cX4_key 48 = .ok (.iload_n 2, 1) := by decide +kernel
theorem dX4_key_49 : decode cX4_key 49 = .ok (.iconst 1, 1) := by decide +kernel
theorem dX4_key_50 : decode cX4_key 50 = .ok (.if_icmp .ne 27, 3) := by decide +kernel
theorem dX4_key_53 : decode cX4_key 53 = .ok (.aload_n 0, 1) := by decide +kernel
theorem dX4_key_54 : decode cX4_key 54 = .ok (.iconst 1, 1) := by decide +kernel
theorem dX4_key_55 : decode cX4_key 55 = .ok (.invokevirtual 59, 3) := by decide +kernel
theorem dX4_key_58 : decode cX4_key 58 = .ok (.ifCond .ne 11, 3) := by decide +kernel
theorem dX4_key_61 : decode cX4_key 61 = .ok (.aload_n 0, 1) := by decide +kernel
theorem dX4_key_62 : decode cX4_key 62 = .ok (.iconst 2, 1) := by decide +kernel
theorem dX4_key_63 : decode cX4_key 63 = .ok (.invokevirtual 59, 3) := by decide +kernel
theorem dX4_key_66 : decode cX4_key 66 = .ok (.ifCond .eq 7, 3) := by decide +kernel
theorem dX4_key_69 : decode cX4_key 69 = .ok (.iconst 1, 1) := by decide +kernel
theorem dX4_key_70 : decode cX4_key 70 = .ok (.goto 25, 3) := by decide +kernel
theorem dX4_key_73 : decode cX4_key 73 = .ok (.iconst 0, 1) := by decide +kernel
theorem dX4_key_74 : decode cX4_key 74 = .ok (.goto 21, 3) := by decide +kernel
theorem dX4_key_77 : decode cX4_key 77 = .ok (.iload_n 2, 1) := by decide +kernel
theorem dX4_key_78 : decode cX4_key 78 = .ok (.iconst 2, 1) := by decide +kernel
theorem dX4_key_79 : decode cX4_key 79 = .ok (.if_icmp .ne 15, 3) := by decide +kernel
theorem dX4_key_82 : decode cX4_key 82 = .ok (.aload_n 0, 1) := by decide +kernel
theorem dX4_key_83 : decode cX4_key 83 = .ok (.iconst 1, 1) := by decide +kernel
theorem dX4_key_84 : decode cX4_key 84 = .ok (.invokevirtual 59, 3) := by decide +kernel
theorem dX4_key_87 : decode cX4_key 87 = .ok (.ifCond .eq 7, 3) := by decide +kernel
theorem dX4_key_90 : decode cX4_key 90 = .ok (.iconst 1, 1) := by decide +kernel
theorem dX4_key_91 : decode cX4_key 91 = .ok (.goto 4, 3) := by decide +kernel
theorem dX4_key_94 : decode cX4_key 94 = .ok (.iconst 0, 1) := by decide +kernel
theorem dX4_key_95 : decode cX4_key 95 = .ok (.istore_n 3, 1) := by decide +kernel
theorem dX4_key_96 : decode cX4_key 96 = .ok (.aload_n 0, 1) := by decide +kernel
theorem dX4_key_97 : decode cX4_key 97 = .ok (.getfield 41, 3) := by decide +kernel
theorem dX4_key_100 : decode cX4_key 100 = .ok (.ifCond .ne 12, 3) := by decide +kernel
theorem dX4_key_103 : decode cX4_key 103 = .ok (.iload_n 3, 1) := by decide +kernel
theorem dX4_key_104 : decode cX4_key 104 = .ok (.ifCond .eq 8, 3) := by decide +kernel
theorem dX4_key_107 : decode cX4_key 107 = .ok (.aload_n 0, 1) := by decide +kernel
theorem dX4_key_108 : decode cX4_key 108 = .ok (.iconst 1, 1) := by decide +kernel
theorem dX4_key_109 : decode cX4_key 109 = .ok (.putfield 41, 3) := by decide +kernel
theorem dX4_key_112 : decode cX4_key 112 = .ok (.aload_n 0, 1) := by decide +kernel
theorem dX4_key_113 : decode cX4_key 113 = .ok (.getfield 41, 3) := by decide +kernel
theorem dX4_key_116 : decode cX4_key 116 = .ok (.ifCond .eq 5, 3) := by decide +kernel
theorem dX4_key_119 : decode cX4_key 119 = .ok (.iconst 0, 1) := by decide +kernel
theorem dX4_key_120 : decode cX4_key 120 = .ok (.ireturn, 1) := by decide +kernel
theorem dX4_key_121 : decode cX4_key 121 = .ok (.aload_n 0, 1) := by decide +kernel
theorem dX4_key_122 : decode cX4_key 122 = .ok (.getfield 7, 3) := by decide +kernel
theorem dX4_key_125 : decode cX4_key 125 = .ok (.aload_n 0, 1) := by decide +kernel
theorem dX4_key_126 : decode cX4_key 126 = .ok (.getfield 45, 3) := by decide +kernel
theorem dX4_key_129 : decode cX4_key 129 = .ok (.iload_n 1, 1) := by decide +kernel
theorem dX4_key_130 : decode cX4_key 130 = .ok (.iastore, 1) := by decide +kernel
theorem dX4_key_131 : decode cX4_key 131 = .ok (.aload_n 0, 1) := by decide +kernel
theorem dX4_key_132 : decode cX4_key 132 = .ok (.getfield 13, 3) := by decide +kernel
theorem dX4_key_135 : decode cX4_key 135 = .ok (.aload_n 0, 1) := by decide +kernel
theorem dX4_key_136 : decode cX4_key 136 = .ok (.getfield 45, 3) := by decide +kernel
theorem dX4_key_139 : decode cX4_key 139 = .ok (.iload_n 2, 1) := by decide +kernel
theorem dX4_key_140 : decode cX4_key 140 = .ok (.iastore, 1) := by decide +kernel
theorem dX4_key_141 : decode cX4_key 141 = .ok (.aload_n 0, 1) := by decide +kernel
theorem dX4_key_142 : decode cX4_key 142 = .ok (.dup, 1) := by decide +kernel
theorem dX4_key_143 : decode cX4_key 143 = .ok (.getfield 45, 3) := by decide +kernel
theorem dX4_key_146 : decode cX4_key 146 = .ok (.iconst 1, 1) := by decide +kernel
theorem dX4_key_147 : decode cX4_key 147 = .ok (.iadd, 1) := by decide +kernel
theorem dX4_key_148 : decode cX4_key 148 = .ok (.putfield 45, 3) := by decide +kernel
theorem dX4_key_151 : decode cX4_key 151 = .ok (.aload_n 0, 1) := by decide +kernel
theorem dX4_key_152 : decode cX4_key 152 = .ok (.getfield 45, 3) := by decide +kernel
theorem dX4_key_155 : decode cX4_key 155 = .ok (.iconst 1, 1) := by decide +kernel
theorem dX4_key_156 : decode cX4_key 156 = .ok (.isub, 1) := by decide +kernel
theorem dX4_key_157 : decode cX4_key 157 = .ok (.ireturn, 1) := by decide +kernel
theorem dX4_hashed_0 : decode cX4_hashed 0 = .ok (.aload_n 0, 1) := by decide +kernel
theorem dX4_hashed_1 : decode cX4_hashed 1 = .ok (.iconst 1, 1) := by decide +kernel
theorem dX4_hashed_2 : decode cX4_hashed 2 = .ok (.invokevirtual 59, 3) := by decide +kernel
theorem dX4_hashed_5 : decode cX4_hashed 5 = .ok (.ifCond .ne 15, 3) := by decide +kernel
theorem dX4_hashed_8 : decode cX4_hashed 8 = .ok (.aload_n 0, 1) := by decide +kernel
theorem dX4_hashed_9 : decode cX4_hashed 9 = .ok (.iconst 2, 1) := by decide +kernel
theorem dX4_hashed_10 : decode cX4_hashed 10 = .ok (.invokevirtual 59, 3) := by decide +kernel
theorem dX4_hashed_13 : decode cX4_hashed 13 = .ok (.ifCond .ne 7, 3) := by decide +kernel
theorem dX4_hashed_16 : decode cX4_hashed 16 = .ok (.iconst 1, 1) := by decide +kernel
theorem dX4_hashed_17 : decode cX4_hashed 17 = .ok (.goto 4, 3) := by decide +kernel
theorem dX4_hashed_20 : decode cX4_hashed 20 = .ok (.iconst 0, 1) := by decide +kernel
theorem dX4_hashed_21 : decode cX4_hashed 21 = .ok (.ireturn, 1) := by decide +kernel
theorem dX4_make_0 : decode cX4_make 0 = .ok (.aload_n 0, 1) := by decide +kernel
theorem dX4_make_1 : decode cX4_make 1 = .ok (.aload_n 0, 1) := by decide +kernel
theorem dX4_make_2 : decode cX4_make 2 = .ok (.getfield 45, 3) := by decide +kernel
theorem dX4_make_5 : decode cX4_make 5 = .ok (.ifCond .eq 10, 3) := by decide +kernel
theorem dX4_make_8 : decode cX4_make 8 = .ok (.aload_n 0, 1) := by decide +kernel
theorem dX4_make_9 : decode cX4_make 9 = .ok (.getfield 48, 3) := by decide +kernel
theorem dX4_make_12 : decode cX4_make 12 = .ok (.ifCond .eq 7, 3) := by decide +kernel
theorem dX4_make_15 : decode cX4_make 15 = .ok (.iconst 2, 1) := by decide +kernel
theorem dX4_make_16 : decode cX4_make 16 = .ok (.goto 4, 3) := by decide +kernel
theorem dX4_make_19 : decode cX4_make 19 = .ok (.iconst 0, 1) := by decide +kernel
theorem dX4_make_20 : decode cX4_make 20 = .ok (.putfield 41, 3) := by decide +kernel
theorem dX4_make_23 : decode cX4_make 23 = .ok (.aload_n 0, 1) := by decide +kernel
theorem dX4_make_24 : decode cX4_make 24 = .ok (.getfield 41, 3) := by decide +kernel
theorem dX4_make_27 : decode cX4_make 27 = .ok (.ifCond .eq 4, 3) := by decide +kernel
theorem dX4_make_30 : decode cX4_make 30 = .ok (.return_, 1) := by decide +kernel
theorem dX4_make_31 : decode cX4_make 31 = .ok (.iload_n 1, 1) := by decide +kernel
theorem dX4_make_32 : decode cX4_make 32 = .ok (.iconst 1, 1) := by decide +kernel
theorem dX4_make_33 : decode cX4_make 33 = .ok (.if_icmp .lt 13, 3) := by decide +kernel
theorem dX4_make_36 : decode cX4_make 36 = .ok (.iload_n 1, 1) := by decide +kernel
theorem dX4_make_37 : decode cX4_make 37 = .ok (.bipush 32, 2) := by decide +kernel
theorem dX4_make_39 : decode cX4_make 39 = .ok (.if_icmp .gt 7, 3) := by decide +kernel
theorem dX4_make_42 : decode cX4_make 42 = .ok (.iconst 1, 1) := by decide +kernel
theorem dX4_make_43 : decode cX4_make 43 = .ok (.goto 4, 3) := by decide +kernel
theorem dX4_make_46 : decode cX4_make 46 = .ok (.iconst 0, 1) := by decide +kernel
theorem dX4_make_47 : decode cX4_make 47 = .ok (.istore 4, 2) := by decide +kernel
theorem dX4_make_49 : decode cX4_make 49 = .ok (.aload_n 0, 1) := by decide +kernel
theorem dX4_make_50 : decode cX4_make 50 = .ok (.invokevirtual 63, 3) := by decide +kernel
theorem dX4_make_53 : decode cX4_make 53 = .ok (.ifCond .eq 57, 3) := by decide +kernel
theorem dX4_make_56 : decode cX4_make 56 = .ok (.iload_n 1, 1) := by decide +kernel
theorem dX4_make_57 : decode cX4_make 57 = .ok (.iconst 1, 1) := by decide +kernel
theorem dX4_make_58 : decode cX4_make 58 = .ok (.if_icmp .eq 25, 3) := by decide +kernel
theorem dX4_make_61 : decode cX4_make 61 = .ok (.iload_n 1, 1) := by decide +kernel
theorem dX4_make_62 : decode cX4_make 62 = .ok (.iconst 2, 1) := by decide +kernel
theorem dX4_make_63 : decode cX4_make 63 = .ok (.if_icmp .eq 20, 3) := by decide +kernel
theorem dX4_make_66 : decode cX4_make 66 = .ok (.iload_n 1, 1) := by decide +kernel
theorem dX4_make_67 : decode cX4_make 67 = .ok (.iconst 4, 1) := by decide +kernel
theorem dX4_make_68 : decode cX4_make 68 = .ok (.if_icmp .eq 15, 3) := by decide +kernel
theorem dX4_make_71 : decode cX4_make 71 = .ok (.iload_n 1, 1) := by decide +kernel
theorem dX4_make_72 : decode cX4_make 72 = .ok (.bipush 8, 2) := by decide +kernel
theorem dX4_make_74 : decode cX4_make 74 = .ok (.if_icmp .eq 9, 3) := by decide +kernel
theorem dX4_make_77 : decode cX4_make 77 = .ok (.iload_n 1, 1) := by decide +kernel
theorem dX4_make_78 : decode cX4_make 78 = .ok (.bipush 16, 2) := by decide +kernel
theorem dX4_make_80 : decode cX4_make 80 = .ok (.if_icmp .ne 27, 3) := by decide +kernel
theorem dX4_make_83 : decode cX4_make 83 = .ok (.iload_n 2, 1) := by decide +kernel
theorem dX4_make_84 : decode cX4_make 84 = .ok (.iconst 1, 1) := by decide +kernel
theorem dX4_make_85 : decode cX4_make 85 = .ok (.if_icmp .lt 22, 3) := by decide +kernel
theorem dX4_make_88 : decode cX4_make 88 = .ok (.iload_n 2, 1) := by decide +kernel
theorem dX4_make_89 : decode cX4_make 89 = .ok (.iconst 4, 1) := by decide +kernel
theorem dX4_make_90 : decode cX4_make 90 = .ok (.if_icmp .gt 17, 3) := by decide +kernel
theorem dX4_make_93 : decode cX4_make 93 = .ok (.iload_n 3, 1) := by decide +kernel
theorem dX4_make_94 : decode cX4_make 94 = .ok (.ifCond .lt 13, 3) := by decide +kernel
theorem dX4_make_97 : decode cX4_make 97 = .ok (.iload_n 3, 1) := by decide +kernel
theorem dX4_make_98 : decode cX4_make 98 = .ok (.bipush 8, 2) := by decide +kernel
theorem dX4_make_100 : decode cX4_make 100 = .ok (.if_icmp .gt 7, 3) := by decide +kernel
theorem dX4_make_103 : decode cX4_make 103 = .ok (.iconst 1, 1) := by decide +kernel
theorem dX4_make_104 : decode cX4_make 104 = .ok (.goto 4, 3) := by decide +kernel
theorem dX4_make_107 : decode cX4_make 107 = .ok (.iconst 0, 1) := by decide +kernel
theorem dX4_make_108 : decode cX4_make 108 = .ok (.istore 4, 2) := by decide +kernel
theorem dX4_make_110 : decode cX4_make 110 = .ok (.aload_n 0, 1) := by decide +kernel
theorem dX4_make_111 : decode cX4_make 111 = .ok (.iload 4, 2) := by decide +kernel
theorem dX4_make_113 : decode cX4_make 113 = .ok (.ifCond .eq 7, 3) := by decide +kernel
theorem dX4_make_116 : decode cX4_make 116 = .ok (.iconst 0, 1) := by decide +kernel
theorem dX4_make_117 : decode cX4_make 117 = .ok (.goto 4, 3) := by decide +kernel
theorem dX4_make_120 : decode cX4_make 120 = .ok (.iconst 1, 1) := by decide +kernel
theorem dX4_make_121 : decode cX4_make 121 = .ok (.putfield 41, 3) := by decide +kernel
theorem dX4_make_124 : decode cX4_make 124 = .ok (.iload 4, 2) := by decide +kernel
theorem dX4_make_126 : decode cX4_make 126 = .ok (.ifCond .ne 4, 3) := by decide +kernel
theorem dX4_make_129 : decode cX4_make 129 = .ok (.return_, 1) := by decide +kernel
theorem dX4_make_130 : decode cX4_make 130 = .ok (.aload_n 0, 1) := by decide +kernel
theorem dX4_make_131 : decode cX4_make 131 = .ok (.iload_n 1, 1) := by decide +kernel
theorem dX4_make_132 : decode cX4_make 132 = .ok (.putfield 67, 3) := by decide +kernel
theorem dX4_make_135 : decode cX4_make 135 = .ok (.aload_n 0, 1) := by decide +kernel
theorem dX4_make_136 : decode cX4_make 136 = .ok (.iload_n 2, 1) := by decide +kernel
theorem dX4_make_137 : decode cX4_make 137 = .ok (.putfield 70, 3) := by decide +kernel
theorem dX4_make_140 : decode cX4_make 140 = .ok (.aload_n 0, 1) := by decide +kernel
theorem dX4_make_141 : decode cX4_make 141 = .ok (.iload_n 3, 1) := by decide +kernel
theorem dX4_make_142 : decode cX4_make 142 = .ok (.putfield 73, 3) := by decide +kernel
theorem dX4_make_145 : decode cX4_make 145 = .ok (.aload_n 0, 1) := by decide +kernel
theorem dX4_make_146 : decode cX4_make 146 = .ok (.iconst 1, 1) := by decide +kernel
theorem dX4_make_147 : decode cX4_make 147 = .ok (.putfield 48, 3) := by decide +kernel
theorem dX4_make_150 : decode cX4_make 150 = .ok (.return_, 1) := by decide +kernel
theorem dX4_set_0 : decode cX4_set 0 = .ok (.aload_n 0, 1) := by decide +kernel
theorem dX4_set_1 : decode cX4_set 1 = .ok (.iload_n 1, 1) := by decide +kernel
theorem dX4_set_2 : decode cX4_set 2 = .ok (.ifCond .lt 8, 3) := by decide +kernel
theorem dX4_set_5 : decode cX4_set 5 = .ok (.iload_n 1, 1) := by decide +kernel
theorem dX4_set_6 : decode cX4_set 6 = .ok (.iconst 4, 1) := by decide +kernel
theorem dX4_set_7 : decode cX4_set 7 = .ok (.if_icmp .lt 7, 3) := by decide +kernel
theorem dX4_set_10 : decode cX4_set 10 = .ok (.iconst 1, 1) := by decide +kernel
theorem dX4_set_11 : decode cX4_set 11 = .ok (.goto 4, 3) := by decide +kernel
theorem dX4_set_14 : decode cX4_set 14 = .ok (.iconst 0, 1) := by decide +kernel
theorem dX4_set_15 : decode cX4_set 15 = .ok (.putfield 41, 3) := by decide +kernel
theorem dX4_set_18 : decode cX4_set 18 = .ok (.aload_n 0, 1) := by decide +kernel
theorem dX4_set_19 : decode cX4_set 19 = .ok (.getfield 41, 3) := by decide +kernel
theorem dX4_set_22 : decode cX4_set 22 = .ok (.ifCond .eq 4, 3) := by decide +kernel
theorem dX4_set_25 : decode cX4_set 25 = .ok (.return_, 1) := by decide +kernel
theorem dX4_set_26 : decode cX4_set 26 = .ok (.aload_n 0, 1) := by decide +kernel
theorem dX4_set_27 : decode cX4_set 27 = .ok (.getfield 16, 3) := by decide +kernel
theorem dX4_set_30 : decode cX4_set 30 = .ok (.iload_n 1, 1) := by decide +kernel
theorem dX4_set_31 : decode cX4_set 31 = .ok (.lload_n 2, 1) := by decide +kernel
theorem dX4_set_32 : decode cX4_set 32 = .ok (.lastore, 1) := by decide +kernel
theorem dX4_set_33 : decode cX4_set 33 = .ok (.aload_n 0, 1) := by decide +kernel
theorem dX4_set_34 : decode cX4_set 34 = .ok (.getfield 20, 3) := by decide +kernel
theorem dX4_set_37 : decode cX4_set 37 = .ok (.iload_n 1, 1) := by decide +kernel
theorem dX4_set_38 : decode cX4_set 38 = .ok (.lload 4, 2) := by decide +kernel
theorem dX4_set_40 : decode cX4_set 40 = .ok (.lastore, 1) := by decide +kernel
theorem dX4_set_41 : decode cX4_set 41 = .ok (.return_, 1) := by decide +kernel
theorem dX4_ones_0 : decode cX4_ones 0 = .ok (.aload_n 0, 1) := by decide +kernel
theorem dX4_ones_1 : decode cX4_ones 1 = .ok (.getfield 7, 3) := by decide +kernel
theorem dX4_ones_4 : decode cX4_ones 4 = .ok (.iload_n 1, 1) := by decide +kernel
theorem dX4_ones_5 : decode cX4_ones 5 = .ok (.iaload, 1) := by decide +kernel
theorem dX4_ones_6 : decode cX4_ones 6 = .ok (.bipush 64, 2) := by decide +kernel
theorem dX4_ones_8 : decode cX4_ones 8 = .ok (.if_icmp .ne 9, 3) := by decide +kernel
theorem dX4_ones_11 : decode cX4_ones 11 = .ok (.ldc2_w 76, 3) := by decide +kernel
theorem dX4_ones_14 : decode cX4_ones 14 = .ok (.goto 13, 3) := by decide +kernel
theorem dX4_ones_17 : decode cX4_ones 17 = .ok (.lconst 1, 1) := by decide +kernel
theorem dX4_ones_18 : decode cX4_ones 18 = .ok (.aload_n 0, 1) := by decide +kernel
theorem dX4_ones_19 : decode cX4_ones 19 = .ok (.getfield 7, 3) := by decide +kernel
theorem dX4_ones_22 : decode cX4_ones 22 = .ok (.iload_n 1, 1) := by decide +kernel
theorem dX4_ones_23 : decode cX4_ones 23 = .ok (.iaload, 1) := by decide +kernel
theorem dX4_ones_24 : decode cX4_ones 24 = .ok (.lshl, 1) := by decide +kernel
theorem dX4_ones_25 : decode cX4_ones 25 = .ok (.lconst 1, 1) := by decide +kernel
theorem dX4_ones_26 : decode cX4_ones 26 = .ok (.lsub, 1) := by decide +kernel
theorem dX4_ones_27 : decode cX4_ones 27 = .ok (.lreturn, 1) := by decide +kernel
theorem dX4_onesIn_0 : decode cX4_onesIn 0 = .ok (.iconst 0, 1) := by decide +kernel
theorem dX4_onesIn_1 : decode cX4_onesIn 1 = .ok (.istore_n 2, 1) := by decide +kernel
theorem dX4_onesIn_2 : decode cX4_onesIn 2 = .ok (.iconst 0, 1) := by decide +kernel
theorem dX4_onesIn_3 : decode cX4_onesIn 3 = .ok (.istore_n 3, 1) := by decide +kernel
theorem dX4_onesIn_4 : decode cX4_onesIn 4 = .ok (.iload_n 3, 1) := by decide +kernel
theorem dX4_onesIn_5 : decode cX4_onesIn 5 = .ok (.bipush 64, 2) := by decide +kernel
theorem dX4_onesIn_7 : decode cX4_onesIn 7 = .ok (.if_icmp .ge 22, 3) := by decide +kernel
theorem dX4_onesIn_10 : decode cX4_onesIn 10 = .ok (.lload_n 0, 1) := by decide +kernel
theorem dX4_onesIn_11 : decode cX4_onesIn 11 = .ok (.iload_n 3, 1) := by decide +kernel
theorem dX4_onesIn_12 : decode cX4_onesIn 12 = .ok (.lushr, 1) := by decide +kernel
theorem dX4_onesIn_13 : decode cX4_onesIn 13 = .ok (.lconst 1, 1) := by decide +kernel
theorem dX4_onesIn_14 : decode cX4_onesIn 14 = .ok (.land, 1) := by decide +kernel
theorem dX4_onesIn_15 : decode cX4_onesIn 15 = .ok (.lconst 1, 1) := by decide +kernel
theorem dX4_onesIn_16 : decode cX4_onesIn 16 = .ok (.lcmp, 1) := by decide +kernel
theorem dX4_onesIn_17 : decode cX4_onesIn 17 = .ok (.ifCond .ne 6, 3) := by decide +kernel
theorem dX4_onesIn_20 : decode cX4_onesIn 20 = .ok (.iinc 2 1, 3) := by decide +kernel
theorem dX4_onesIn_23 : decode cX4_onesIn 23 = .ok (.iinc 3 1, 3) := by decide +kernel
theorem dX4_onesIn_26 : decode cX4_onesIn 26 = .ok (.goto (-22), 3) := by decide +kernel
theorem dX4_onesIn_29 : decode cX4_onesIn 29 = .ok (.iload_n 2, 1) := by decide +kernel
theorem dX4_onesIn_30 : decode cX4_onesIn 30 = .ok (.ireturn, 1) := by decide +kernel
theorem dX4_masksAreRight_0 : decode cX4_masksAreRight 0 = .ok (.iconst 0, 1) := by decide +kernel
theorem dX4_masksAreRight_1 : decode cX4_masksAreRight 1 = .ok (.istore_n 1, 1) := by decide +kernel
theorem dX4_masksAreRight_2 : decode cX4_masksAreRight 2 = .ok (.iload_n 1, 1) := by decide +kernel
theorem dX4_masksAreRight_3 : decode cX4_masksAreRight 3 = .ok (.aload_n 0, 1) := by decide +kernel
theorem dX4_masksAreRight_4 : decode cX4_masksAreRight 4 = .ok (.getfield 45, 3) := by decide +kernel
theorem dX4_masksAreRight_7 : decode cX4_masksAreRight 7 = .ok (.if_icmp .ge 77, 3) := by decide +kernel
theorem dX4_masksAreRight_10 : decode cX4_masksAreRight 10 = .ok (.aload_n 0, 1) := by decide +kernel
theorem dX4_masksAreRight_11 : decode cX4_masksAreRight 11 = .ok (.iload_n 1, 1) := by decide +kernel
theorem dX4_masksAreRight_12 : decode cX4_masksAreRight 12 = .ok (.invokevirtual 78, 3) := by decide +kernel
theorem dX4_masksAreRight_15 : decode cX4_masksAreRight 15 = .ok (.lstore_n 2, 1) := by decide +kernel
theorem dX4_masksAreRight_16 : decode cX4_masksAreRight 16 = .ok (.aload_n 0, 1) := by decide +kernel
theorem dX4_masksAreRight_17 : decode cX4_masksAreRight 17 = .ok (.getfield 20, 3) := by decide +kernel
theorem dX4_masksAreRight_20 : decode cX4_masksAreRight 20 = .ok (.iload_n 1, 1) := by decide +kernel
theorem dX4_masksAreRight_21 : decode cX4_masksAreRight 21 = .ok (.laload, 1) := by decide +kernel
theorem dX4_masksAreRight_22 : decode cX4_masksAreRight 22 = .ok (.lload_n 2, 1) := by decide +kernel
theorem dX4_masksAreRight_23 : decode cX4_masksAreRight 23 = .ok (.land, 1) := by decide +kernel
theorem dX4_masksAreRight_24 : decode cX4_masksAreRight 24 = .ok (.lstore 4, 2) := by decide +kernel
theorem dX4_masksAreRight_26 : decode cX4_masksAreRight 26 = .ok (.aload_n 0, 1) := by decide +kernel
theorem dX4_masksAreRight_27 : decode cX4_masksAreRight 27 = .ok (.getfield 13, 3) := by decide +kernel
theorem dX4_masksAreRight_30 : decode cX4_masksAreRight 30 = .ok (.iload_n 1, 1) := by decide +kernel
theorem dX4_masksAreRight_31 : decode cX4_masksAreRight 31 = .ok (.iaload, 1) := by decide +kernel
theorem dX4_masksAreRight_32 : decode cX4_masksAreRight 32 = .ok (.ifCond .ne 12, 3) := by decide +kernel
theorem dX4_masksAreRight_35 : decode cX4_masksAreRight 35 = .ok (.lload 4, 2) := by decide +kernel
theorem dX4_masksAreRight_37 : decode cX4_masksAreRight 37 = .ok (.lload_n 2, 1) := by decide +kernel
theorem dX4_masksAreRight_38 : decode cX4_masksAreRight 38 = .ok (.lcmp, 1) := by decide +kernel
theorem dX4_masksAreRight_39 : decode cX4_masksAreRight 39 = .ok (.ifCond .eq 5, 3) := by decide +kernel
theorem dX4_masksAreRight_42 : decode cX4_masksAreRight 42 = .ok (.iconst 0, 1) := by decide +kernel
theorem dX4_masksAreRight_43 : decode cX4_masksAreRight 43 = .ok (.ireturn, 1) := by decide +kernel
theorem dX4_masksAreRight_44 : decode cX4_masksAreRight 44 = .ok (.lload_n 2, 1) := by decide +kernel
theorem dX4_masksAreRight_45 : decode cX4_masksAreRight 45 = .ok (.lload 4, 2) := by decide +kernel
theorem dX4_masksAreRight_47 : decode cX4_masksAreRight 47 = .ok (.ldc2_w 76, 3) := by decide +kernel
theorem dX4_masksAreRight_50 : decode cX4_masksAreRight 50 = .ok (.lxor, 1) := by decide +kernel
theorem dX4_masksAreRight_51 : decode cX4_masksAreRight 51 = .ok (.land, 1) := by decide +kernel
theorem dX4_masksAreRight_52 : decode cX4_masksAreRight 52 = .ok (.lstore 6, 2) := by decide +kernel
theorem dX4_masksAreRight_54 : decode cX4_masksAreRight 54 = .ok (.aload_n 0, 1) := by decide +kernel
theorem dX4_masksAreRight_55 : decode cX4_masksAreRight 55 = .ok (.getfield 13, 3) := by decide +kernel
theorem dX4_masksAreRight_58 : decode cX4_masksAreRight 58 = .ok (.iload_n 1, 1) := by decide +kernel
theorem dX4_masksAreRight_59 : decode cX4_masksAreRight 59 = .ok (.iaload, 1) := by decide +kernel
theorem dX4_masksAreRight_60 : decode cX4_masksAreRight 60 = .ok (.iconst 1, 1) := by decide +kernel
theorem dX4_masksAreRight_61 : decode cX4_masksAreRight 61 = .ok (.if_icmp .ne 17, 3) := by decide +kernel
theorem dX4_masksAreRight_64 : decode cX4_masksAreRight 64 = .ok (.lload 6, 2) := by decide +kernel
theorem dX4_masksAreRight_66 : decode cX4_masksAreRight 66 = .ok (.lload 6, 2) := by decide +kernel
theorem dX4_masksAreRight_68 : decode cX4_masksAreRight 68 = .ok (.lconst 1, 1) := by decide +kernel
theorem dX4_masksAreRight_69 : decode cX4_masksAreRight 69 = .ok (.ladd, 1) := by decide +kernel
theorem dX4_masksAreRight_70 : decode cX4_masksAreRight 70 = .ok (.land, 1) := by decide +kernel
theorem dX4_masksAreRight_71 : decode cX4_masksAreRight 71 = .ok (.lconst 0, 1) := by decide +kernel
theorem dX4_masksAreRight_72 : decode cX4_masksAreRight 72 = .ok (.lcmp, 1) := by decide +kernel
theorem dX4_masksAreRight_73 : decode cX4_masksAreRight 73 = .ok (.ifCond .eq 5, 3) := by decide +kernel
theorem dX4_masksAreRight_76 : decode cX4_masksAreRight 76 = .ok (.iconst 0, 1) := by decide +kernel
theorem dX4_masksAreRight_77 : decode cX4_masksAreRight 77 = .ok (.ireturn, 1) := by decide +kernel
theorem dX4_masksAreRight_78 : decode cX4_masksAreRight 78 = .ok (.iinc 1 1, 3) := by decide +kernel
theorem dX4_masksAreRight_81 : decode cX4_masksAreRight 81 = .ok (.goto (-79), 3) := by decide +kernel
theorem dX4_masksAreRight_84 : decode cX4_masksAreRight 84 = .ok (.iconst 1, 1) := by decide +kernel
theorem dX4_masksAreRight_85 : decode cX4_masksAreRight 85 = .ok (.ireturn, 1) := by decide +kernel
theorem dX4_there_0 : decode cX4_there 0 = .ok (.iconst 0, 1) := by decide +kernel
theorem dX4_there_1 : decode cX4_there 1 = .ok (.istore_n 1, 1) := by decide +kernel
theorem dX4_there_2 : decode cX4_there 2 = .ok (.iload_n 1, 1) := by decide +kernel
theorem dX4_there_3 : decode cX4_there 3 = .ok (.aload_n 0, 1) := by decide +kernel
theorem dX4_there_4 : decode cX4_there 4 = .ok (.getfield 52, 3) := by decide +kernel
theorem dX4_there_7 : decode cX4_there 7 = .ok (.if_icmp .ge 88, 3) := by decide +kernel
theorem dX4_there_10 : decode cX4_there 10 = .ok (.iconst 1, 1) := by decide +kernel
theorem dX4_there_11 : decode cX4_there 11 = .ok (.istore_n 2, 1) := by decide +kernel
theorem dX4_there_12 : decode cX4_there 12 = .ok (.iconst 0, 1) := by decide +kernel
theorem dX4_there_13 : decode cX4_there 13 = .ok (.istore_n 3, 1) := by decide +kernel
theorem dX4_there_14 : decode cX4_there 14 = .ok (.iload_n 3, 1) := by decide +kernel
theorem dX4_there_15 : decode cX4_there 15 = .ok (.aload_n 0, 1) := by decide +kernel
theorem dX4_there_16 : decode cX4_there 16 = .ok (.getfield 45, 3) := by decide +kernel
theorem dX4_there_19 : decode cX4_there 19 = .ok (.if_icmp .ge 64, 3) := by decide +kernel
theorem dX4_there_22 : decode cX4_there 22 = .ok (.aload_n 0, 1) := by decide +kernel
theorem dX4_there_23 : decode cX4_there 23 = .ok (.getfield 20, 3) := by decide +kernel
theorem dX4_there_26 : decode cX4_there 26 = .ok (.iload_n 3, 1) := by decide +kernel
theorem dX4_there_27 : decode cX4_there 27 = .ok (.laload, 1) := by decide +kernel
theorem dX4_there_28 : decode cX4_there 28 = .ok (.aload_n 0, 1) := by decide +kernel
theorem dX4_there_29 : decode cX4_there 29 = .ok (.iload_n 3, 1) := by decide +kernel
theorem dX4_there_30 : decode cX4_there 30 = .ok (.invokevirtual 78, 3) := by decide +kernel
theorem dX4_there_33 : decode cX4_there 33 = .ok (.land, 1) := by decide +kernel
theorem dX4_there_34 : decode cX4_there 34 = .ok (.lstore 4, 2) := by decide +kernel
theorem dX4_there_36 : decode cX4_there 36 = .ok (.aload_n 0, 1) := by decide +kernel
theorem dX4_there_37 : decode cX4_there 37 = .ok (.getfield 26, 3) := by decide +kernel
theorem dX4_there_40 : decode cX4_there 40 = .ok (.iconst 4, 1) := by decide +kernel
theorem dX4_there_41 : decode cX4_there 41 = .ok (.iload_n 1, 1) := by decide +kernel
theorem dX4_there_42 : decode cX4_there 42 = .ok (.imul, 1) := by decide +kernel
theorem dX4_there_43 : decode cX4_there 43 = .ok (.iload_n 3, 1) := by decide +kernel
theorem dX4_there_44 : decode cX4_there 44 = .ok (.iadd, 1) := by decide +kernel
theorem dX4_there_45 : decode cX4_there 45 = .ok (.laload, 1) := by decide +kernel
theorem dX4_there_46 : decode cX4_there 46 = .ok (.lload 4, 2) := by decide +kernel
theorem dX4_there_48 : decode cX4_there 48 = .ok (.lcmp, 1) := by decide +kernel
theorem dX4_there_49 : decode cX4_there 49 = .ok (.ifCond .ne 26, 3) := by decide +kernel
theorem dX4_there_52 : decode cX4_there 52 = .ok (.aload_n 0, 1) := by decide +kernel
theorem dX4_there_53 : decode cX4_there 53 = .ok (.getfield 23, 3) := by decide +kernel
theorem dX4_there_56 : decode cX4_there 56 = .ok (.iconst 4, 1) := by decide +kernel
theorem dX4_there_57 : decode cX4_there 57 = .ok (.iload_n 1, 1) := by decide +kernel
theorem dX4_there_58 : decode cX4_there 58 = .ok (.imul, 1) := by decide +kernel
theorem dX4_there_59 : decode cX4_there 59 = .ok (.iload_n 3, 1) := by decide +kernel
theorem dX4_there_60 : decode cX4_there 60 = .ok (.iadd, 1) := by decide +kernel
theorem dX4_there_61 : decode cX4_there 61 = .ok (.laload, 1) := by decide +kernel
theorem dX4_there_62 : decode cX4_there 62 = .ok (.aload_n 0, 1) := by decide +kernel
theorem dX4_there_63 : decode cX4_there 63 = .ok (.getfield 16, 3) := by decide +kernel
theorem dX4_there_66 : decode cX4_there 66 = .ok (.iload_n 3, 1) := by decide +kernel
theorem dX4_there_67 : decode cX4_there 67 = .ok (.laload, 1) := by decide +kernel
theorem dX4_there_68 : decode cX4_there 68 = .ok (.lload 4, 2) := by decide +kernel
theorem dX4_there_70 : decode cX4_there 70 = .ok (.land, 1) := by decide +kernel
theorem dX4_there_71 : decode cX4_there 71 = .ok (.lcmp, 1) := by decide +kernel
theorem dX4_there_72 : decode cX4_there 72 = .ok (.ifCond .eq 5, 3) := by decide +kernel
theorem dX4_there_75 : decode cX4_there 75 = .ok (.iconst 0, 1) := by decide +kernel
theorem dX4_there_76 : decode cX4_there 76 = .ok (.istore_n 2, 1) := by decide +kernel
theorem dX4_there_77 : decode cX4_there 77 = .ok (.iinc 3 1, 3) := by decide +kernel
theorem dX4_there_80 : decode cX4_there 80 = .ok (.goto (-66), 3) := by decide +kernel
theorem dX4_there_83 : decode cX4_there 83 = .ok (.iload_n 2, 1) := by decide +kernel
theorem dX4_there_84 : decode cX4_there 84 = .ok (.ifCond .eq 5, 3) := by decide +kernel
theorem dX4_there_87 : decode cX4_there 87 = .ok (.iload_n 1, 1) := by decide +kernel
theorem dX4_there_88 : decode cX4_there 88 = .ok (.ireturn, 1) := by decide +kernel
theorem dX4_there_89 : decode cX4_there 89 = .ok (.iinc 1 1, 3) := by decide +kernel
theorem dX4_there_92 : decode cX4_there 92 = .ok (.goto (-90), 3) := by decide +kernel
theorem dX4_there_95 : decode cX4_there 95 = .ok (.iconst (-1), 1) := by decide +kernel
theorem dX4_there_96 : decode cX4_there 96 = .ok (.ireturn, 1) := by decide +kernel
theorem dX4_bucketOf_0 : decode cX4_bucketOf 0 = .ok (.lconst 0, 1) := by decide +kernel
theorem dX4_bucketOf_1 : decode cX4_bucketOf 1 = .ok (.lstore_n 3, 1) := by decide +kernel
theorem dX4_bucketOf_2 : decode cX4_bucketOf 2 = .ok (.iconst 0, 1) := by decide +kernel
theorem dX4_bucketOf_3 : decode cX4_bucketOf 3 = .ok (.istore 5, 2) := by decide +kernel
theorem dX4_bucketOf_5 : decode cX4_bucketOf 5 = .ok (.iload 5, 2) := by decide +kernel
theorem dX4_bucketOf_7 : decode cX4_bucketOf 7 = .ok (.aload_n 0, 1) := by decide +kernel
theorem dX4_bucketOf_8 : decode cX4_bucketOf 8 = .ok (.getfield 45, 3) := by decide +kernel
theorem dX4_bucketOf_11 : decode cX4_bucketOf 11 = .ok (.if_icmp .ge 45, 3) := by decide +kernel
theorem dX4_bucketOf_14 : decode cX4_bucketOf 14 = .ok (.aload_n 1, 1) := by decide +kernel
theorem dX4_bucketOf_15 : decode cX4_bucketOf 15 = .ok (.iload_n 2, 1) := by decide +kernel
theorem dX4_bucketOf_16 : decode cX4_bucketOf 16 = .ok (.iload 5, 2) := by decide +kernel
theorem dX4_bucketOf_18 : decode cX4_bucketOf 18 = .ok (.iadd, 1) := by decide +kernel
theorem dX4_bucketOf_19 : decode cX4_bucketOf 19 = .ok (.laload, 1) := by decide +kernel
theorem dX4_bucketOf_20 : decode cX4_bucketOf 20 = .ok (.aload_n 0, 1) := by decide +kernel
theorem dX4_bucketOf_21 : decode cX4_bucketOf 21 = .ok (.iload 5, 2) := by decide +kernel
theorem dX4_bucketOf_23 : decode cX4_bucketOf 23 = .ok (.invokevirtual 78, 3) := by decide +kernel
theorem dX4_bucketOf_26 : decode cX4_bucketOf 26 = .ok (.land, 1) := by decide +kernel
theorem dX4_bucketOf_27 : decode cX4_bucketOf 27 = .ok (.lstore 6, 2) := by decide +kernel
theorem dX4_bucketOf_29 : decode cX4_bucketOf 29 = .ok (.ldc2_w 82, 3) := by decide +kernel
theorem dX4_bucketOf_32 : decode cX4_bucketOf 32 = .ok (.lload_n 3, 1) := by decide +kernel
theorem dX4_bucketOf_33 : decode cX4_bucketOf 33 = .ok (.lmul, 1) := by decide +kernel
theorem dX4_bucketOf_34 : decode cX4_bucketOf 34 = .ok (.lload 6, 2) := by decide +kernel
theorem dX4_bucketOf_36 : decode cX4_bucketOf 36 = .ok (.lload 6, 2) := by decide +kernel
theorem dX4_bucketOf_38 : decode cX4_bucketOf 38 = .ok (.bipush 32, 2) := by decide +kernel
theorem dX4_bucketOf_40 : decode cX4_bucketOf 40 = .ok (.lushr, 1) := by decide +kernel
theorem dX4_bucketOf_41 : decode cX4_bucketOf 41 = .ok (.lxor, 1) := by decide +kernel
theorem dX4_bucketOf_42 : decode cX4_bucketOf 42 = .ok (.lload 6, 2) := by decide +kernel
theorem dX4_bucketOf_44 : decode cX4_bucketOf 44 = .ok (.bipush 17, 2) := by decide +kernel
theorem dX4_bucketOf_46 : decode cX4_bucketOf 46 = .ok (.lushr, 1) := by decide +kernel
theorem dX4_bucketOf_47 : decode cX4_bucketOf 47 = .ok (.lxor, 1) := by decide +kernel
theorem dX4_bucketOf_48 : decode cX4_bucketOf 48 = .ok (.ladd, 1) := by decide +kernel
theorem dX4_bucketOf_49 : decode cX4_bucketOf 49 = .ok (.lstore_n 3, 1) := by decide +kernel
theorem dX4_bucketOf_50 : decode cX4_bucketOf 50 = .ok (.iinc 5 1, 3) := by decide +kernel
theorem dX4_bucketOf_53 : decode cX4_bucketOf 53 = .ok (.goto (-48), 3) := by decide +kernel
theorem dX4_bucketOf_56 : decode cX4_bucketOf 56 = .ok (.lload_n 3, 1) := by decide +kernel
theorem dX4_bucketOf_57 : decode cX4_bucketOf 57 = .ok (.lload_n 3, 1) := by decide +kernel
theorem dX4_bucketOf_58 : decode cX4_bucketOf 58 = .ok (.bipush 20, 2) := by decide +kernel
theorem dX4_bucketOf_60 : decode cX4_bucketOf 60 = .ok (.lushr, 1) := by decide +kernel
theorem dX4_bucketOf_61 : decode cX4_bucketOf 61 = .ok (.lxor, 1) := by decide +kernel
theorem dX4_bucketOf_62 : decode cX4_bucketOf 62 = .ok (.lload_n 3, 1) := by decide +kernel
theorem dX4_bucketOf_63 : decode cX4_bucketOf 63 = .ok (.bipush 7, 2) := by decide +kernel
theorem dX4_bucketOf_65 : decode cX4_bucketOf 65 = .ok (.lushr, 1) := by decide +kernel
theorem dX4_bucketOf_66 : decode cX4_bucketOf 66 = .ok (.lxor, 1) := by decide +kernel
theorem dX4_bucketOf_67 : decode cX4_bucketOf 67 = .ok (.aload_n 0, 1) := by decide +kernel
theorem dX4_bucketOf_68 : decode cX4_bucketOf 68 = .ok (.getfield 67, 3) := by decide +kernel
theorem dX4_bucketOf_71 : decode cX4_bucketOf 71 = .ok (.iconst 1, 1) := by decide +kernel
theorem dX4_bucketOf_72 : decode cX4_bucketOf 72 = .ok (.isub, 1) := by decide +kernel
theorem dX4_bucketOf_73 : decode cX4_bucketOf 73 = .ok (.i2l, 1) := by decide +kernel
theorem dX4_bucketOf_74 : decode cX4_bucketOf 74 = .ok (.land, 1) := by decide +kernel
theorem dX4_bucketOf_75 : decode cX4_bucketOf 75 = .ok (.l2i, 1) := by decide +kernel
theorem dX4_bucketOf_76 : decode cX4_bucketOf 76 = .ok (.ireturn, 1) := by decide +kernel
theorem dX4_above_0 : decode cX4_above 0 = .ok (.iconst 0, 1) := by decide +kernel
theorem dX4_above_1 : decode cX4_above 1 = .ok (.istore_n 1, 1) := by decide +kernel
theorem dX4_above_2 : decode cX4_above 2 = .ok (.iload_n 1, 1) := by decide +kernel
theorem dX4_above_3 : decode cX4_above 3 = .ok (.bipush 16, 2) := by decide +kernel
theorem dX4_above_5 : decode cX4_above 5 = .ok (.if_icmp .ge 16, 3) := by decide +kernel
theorem dX4_above_8 : decode cX4_above 8 = .ok (.aload_n 0, 1) := by decide +kernel
theorem dX4_above_9 : decode cX4_above 9 = .ok (.getfield 38, 3) := by decide +kernel
theorem dX4_above_12 : decode cX4_above 12 = .ok (.iload_n 1, 1) := by decide +kernel
theorem dX4_above_13 : decode cX4_above 13 = .ok (.iconst 0, 1) := by decide +kernel
theorem dX4_above_14 : decode cX4_above 14 = .ok (.iastore, 1) := by decide +kernel
theorem dX4_above_15 : decode cX4_above 15 = .ok (.iinc 1 1, 3) := by decide +kernel
theorem dX4_above_18 : decode cX4_above 18 = .ok (.goto (-16), 3) := by decide +kernel
theorem dX4_above_21 : decode cX4_above 21 = .ok (.iconst 0, 1) := by decide +kernel
theorem dX4_above_22 : decode cX4_above 22 = .ok (.istore_n 1, 1) := by decide +kernel
theorem dX4_above_23 : decode cX4_above 23 = .ok (.iconst 0, 1) := by decide +kernel
theorem dX4_above_24 : decode cX4_above 24 = .ok (.istore_n 2, 1) := by decide +kernel
theorem dX4_above_25 : decode cX4_above 25 = .ok (.iload_n 2, 1) := by decide +kernel
theorem dX4_above_26 : decode cX4_above 26 = .ok (.aload_n 0, 1) := by decide +kernel
theorem dX4_above_27 : decode cX4_above 27 = .ok (.getfield 52, 3) := by decide +kernel
theorem dX4_above_30 : decode cX4_above 30 = .ok (.if_icmp .ge 47, 3) := by decide +kernel
theorem dX4_above_33 : decode cX4_above 33 = .ok (.aload_n 0, 1) := by decide +kernel
theorem dX4_above_34 : decode cX4_above 34 = .ok (.aload_n 0, 1) := by decide +kernel
theorem dX4_above_35 : decode cX4_above 35 = .ok (.getfield 23, 3) := by decide +kernel
theorem dX4_above_38 : decode cX4_above 38 = .ok (.iconst 4, 1) := by decide +kernel
theorem dX4_above_39 : decode cX4_above 39 = .ok (.iload_n 2, 1) := by decide +kernel
theorem dX4_above_40 : decode cX4_above 40 = .ok (.imul, 1) := by decide +kernel
theorem dX4_above_41 : decode cX4_above 41 = .ok (.invokevirtual 84, 3) := by decide +kernel
theorem dX4_above_44 : decode cX4_above 44 = .ok (.istore_n 3, 1) := by decide +kernel
theorem dX4_above_45 : decode cX4_above 45 = .ok (.aload_n 0, 1) := by decide +kernel
theorem dX4_above_46 : decode cX4_above 46 = .ok (.getfield 38, 3) := by decide +kernel
theorem dX4_above_49 : decode cX4_above 49 = .ok (.iload_n 3, 1) := by decide +kernel
theorem dX4_above_50 : decode cX4_above 50 = .ok (.dup2, 1) := by decide +kernel
theorem dX4_above_51 : decode cX4_above 51 = .ok (.iaload, 1) := by decide +kernel
theorem dX4_above_52 : decode cX4_above 52 = .ok (.iconst 1, 1) := by decide +kernel
theorem dX4_above_53 : decode cX4_above 53 = .ok (.iadd, 1) := by decide +kernel
theorem dX4_above_54 : decode cX4_above 54 = .ok (.iastore, 1) := by decide +kernel
theorem dX4_above_55 : decode cX4_above 55 = .ok (.aload_n 0, 1) := by decide +kernel
theorem dX4_above_56 : decode cX4_above 56 = .ok (.getfield 38, 3) := by decide +kernel
theorem dX4_above_59 : decode cX4_above 59 = .ok (.iload_n 3, 1) := by decide +kernel
theorem dX4_above_60 : decode cX4_above 60 = .ok (.iaload, 1) := by decide +kernel
theorem dX4_above_61 : decode cX4_above 61 = .ok (.aload_n 0, 1) := by decide +kernel
theorem dX4_above_62 : decode cX4_above 62 = .ok (.getfield 70, 3) := by decide +kernel
theorem dX4_above_65 : decode cX4_above 65 = .ok (.if_icmp .le 6, 3) := by decide +kernel
theorem dX4_above_68 : decode cX4_above 68 = .ok (.iinc 1 1, 3) := by decide +kernel
theorem dX4_above_71 : decode cX4_above 71 = .ok (.iinc 2 1, 3) := by decide +kernel
theorem dX4_above_74 : decode cX4_above 74 = .ok (.goto (-49), 3) := by decide +kernel
theorem dX4_above_77 : decode cX4_above 77 = .ok (.iload_n 1, 1) := by decide +kernel
theorem dX4_above_78 : decode cX4_above 78 = .ok (.ireturn, 1) := by decide +kernel
theorem dX4_write_0 : decode cX4_write 0 = .ok (.iconst 0, 1) := by decide +kernel
theorem dX4_write_1 : decode cX4_write 1 = .ok (.istore 6, 2) := by decide +kernel
theorem dX4_write_3 : decode cX4_write 3 = .ok (.iload 6, 2) := by decide +kernel
theorem dX4_write_5 : decode cX4_write 5 = .ok (.aload_n 0, 1) := by decide +kernel
theorem dX4_write_6 : decode cX4_write 6 = .ok (.getfield 45, 3) := by decide +kernel
theorem dX4_write_9 : decode cX4_write 9 = .ok (.if_icmp .ge 67, 3) := by decide +kernel
theorem dX4_write_12 : decode cX4_write 12 = .ok (.aload_n 0, 1) := by decide +kernel
theorem dX4_write_13 : decode cX4_write 13 = .ok (.getfield 26, 3) := by decide +kernel
theorem dX4_write_16 : decode cX4_write 16 = .ok (.iconst 4, 1) := by decide +kernel
theorem dX4_write_17 : decode cX4_write 17 = .ok (.iload_n 1, 1) := by decide +kernel
theorem dX4_write_18 : decode cX4_write 18 = .ok (.imul, 1) := by decide +kernel
theorem dX4_write_19 : decode cX4_write 19 = .ok (.iload 6, 2) := by decide +kernel
theorem dX4_write_21 : decode cX4_write 21 = .ok (.iadd, 1) := by decide +kernel
theorem dX4_write_22 : decode cX4_write 22 = .ok (.aload_n 0, 1) := by decide +kernel
theorem dX4_write_23 : decode cX4_write 23 = .ok (.getfield 20, 3) := by decide +kernel
theorem dX4_write_26 : decode cX4_write 26 = .ok (.iload 6, 2) := by decide +kernel
theorem dX4_write_28 : decode cX4_write 28 = .ok (.laload, 1) := by decide +kernel
theorem dX4_write_29 : decode cX4_write 29 = .ok (.aload_n 0, 1) := by decide +kernel
theorem dX4_write_30 : decode cX4_write 30 = .ok (.iload 6, 2) := by decide +kernel
theorem dX4_write_32 : decode cX4_write 32 = .ok (.invokevirtual 78, 3) := by decide +kernel
theorem dX4_write_35 : decode cX4_write 35 = .ok (.land, 1) := by decide +kernel
theorem dX4_write_36 : decode cX4_write 36 = .ok (.lastore, 1) := by decide +kernel
theorem dX4_write_37 : decode cX4_write 37 = .ok (.aload_n 0, 1) := by decide +kernel
theorem dX4_write_38 : decode cX4_write 38 = .ok (.getfield 23, 3) := by decide +kernel
theorem dX4_write_41 : decode cX4_write 41 = .ok (.iconst 4, 1) := by decide +kernel
theorem dX4_write_42 : decode cX4_write 42 = .ok (.iload_n 1, 1) := by decide +kernel
theorem dX4_write_43 : decode cX4_write 43 = .ok (.imul, 1) := by decide +kernel
theorem dX4_write_44 : decode cX4_write 44 = .ok (.iload 6, 2) := by decide +kernel
theorem dX4_write_46 : decode cX4_write 46 = .ok (.iadd, 1) := by decide +kernel
theorem dX4_write_47 : decode cX4_write 47 = .ok (.aload_n 0, 1) := by decide +kernel
theorem dX4_write_48 : decode cX4_write 48 = .ok (.getfield 16, 3) := by decide +kernel
theorem dX4_write_51 : decode cX4_write 51 = .ok (.iload 6, 2) := by decide +kernel
theorem dX4_write_53 : decode cX4_write 53 = .ok (.laload, 1) := by decide +kernel
theorem dX4_write_54 : decode cX4_write 54 = .ok (.aload_n 0, 1) := by decide +kernel
theorem dX4_write_55 : decode cX4_write 55 = .ok (.getfield 20, 3) := by decide +kernel
theorem dX4_write_58 : decode cX4_write 58 = .ok (.iload 6, 2) := by decide +kernel
theorem dX4_write_60 : decode cX4_write 60 = .ok (.laload, 1) := by decide +kernel
theorem dX4_write_61 : decode cX4_write 61 = .ok (.land, 1) := by decide +kernel
theorem dX4_write_62 : decode cX4_write 62 = .ok (.aload_n 0, 1) := by decide +kernel
theorem dX4_write_63 : decode cX4_write 63 = .ok (.iload 6, 2) := by decide +kernel
theorem dX4_write_65 : decode cX4_write 65 = .ok (.invokevirtual 78, 3) := by decide +kernel
theorem dX4_write_68 : decode cX4_write 68 = .ok (.land, 1) := by decide +kernel
theorem dX4_write_69 : decode cX4_write 69 = .ok (.lastore, 1) := by decide +kernel
theorem dX4_write_70 : decode cX4_write 70 = .ok (.iinc 6 1, 3) := by decide +kernel
theorem dX4_write_73 : decode cX4_write 73 = .ok (.goto (-70), 3) := by decide +kernel
theorem dX4_write_76 : decode cX4_write 76 = .ok (.aload_n 0, 1) := by decide +kernel
theorem dX4_write_77 : decode cX4_write 77 = .ok (.getfield 29, 3) := by decide +kernel
theorem dX4_write_80 : decode cX4_write 80 = .ok (.iload_n 1, 1) := by decide +kernel
theorem dX4_write_81 : decode cX4_write 81 = .ok (.iload_n 2, 1) := by decide +kernel
theorem dX4_write_82 : decode cX4_write 82 = .ok (.iastore, 1) := by decide +kernel
theorem dX4_write_83 : decode cX4_write 83 = .ok (.aload_n 0, 1) := by decide +kernel
theorem dX4_write_84 : decode cX4_write 84 = .ok (.getfield 32, 3) := by decide +kernel
theorem dX4_write_87 : decode cX4_write 87 = .ok (.iload_n 1, 1) := by decide +kernel
theorem dX4_write_88 : decode cX4_write 88 = .ok (.iload_n 3, 1) := by decide +kernel
theorem dX4_write_89 : decode cX4_write 89 = .ok (.iastore, 1) := by decide +kernel
theorem dX4_write_90 : decode cX4_write 90 = .ok (.aload_n 0, 1) := by decide +kernel
theorem dX4_write_91 : decode cX4_write 91 = .ok (.getfield 35, 3) := by decide +kernel
theorem dX4_write_94 : decode cX4_write 94 = .ok (.iload_n 1, 1) := by decide +kernel
theorem dX4_write_95 : decode cX4_write 95 = .ok (.lload 4, 2) := by decide +kernel
theorem dX4_write_97 : decode cX4_write 97 = .ok (.lastore, 1) := by decide +kernel
theorem dX4_write_98 : decode cX4_write 98 = .ok (.return_, 1) := by decide +kernel
theorem dX4_insert_0 : decode cX4_insert 0 = .ok (.aload_n 0, 1) := by decide +kernel
theorem dX4_insert_1 : decode cX4_insert 1 = .ok (.aload_n 0, 1) := by decide +kernel
theorem dX4_insert_2 : decode cX4_insert 2 = .ok (.getfield 48, 3) := by decide +kernel
theorem dX4_insert_5 : decode cX4_insert 5 = .ok (.ifCond .eq 7, 3) := by decide +kernel
theorem dX4_insert_8 : decode cX4_insert 8 = .ok (.iconst 0, 1) := by decide +kernel
theorem dX4_insert_9 : decode cX4_insert 9 = .ok (.goto 4, 3) := by decide +kernel
theorem dX4_insert_12 : decode cX4_insert 12 = .ok (.iconst 1, 1) := by decide +kernel
theorem dX4_insert_13 : decode cX4_insert 13 = .ok (.putfield 41, 3) := by decide +kernel
theorem dX4_insert_16 : decode cX4_insert 16 = .ok (.aload_n 0, 1) := by decide +kernel
theorem dX4_insert_17 : decode cX4_insert 17 = .ok (.getfield 41, 3) := by decide +kernel
theorem dX4_insert_20 : decode cX4_insert 20 = .ok (.ifCond .ne 28, 3) := by decide +kernel
theorem dX4_insert_23 : decode cX4_insert 23 = .ok (.iload_n 2, 1) := by decide +kernel
theorem dX4_insert_24 : decode cX4_insert 24 = .ok (.ifCond .lt 24, 3) := by decide +kernel
theorem dX4_insert_27 : decode cX4_insert 27 = .ok (.iload_n 2, 1) := by decide +kernel
theorem dX4_insert_28 : decode cX4_insert 28 = .ok (.bipush 7, 2) := by decide +kernel
theorem dX4_insert_30 : decode cX4_insert 30 = .ok (.if_icmp .gt 18, 3) := by decide +kernel
theorem dX4_insert_33 : decode cX4_insert 33 = .ok (.aload_n 0, 1) := by decide +kernel
theorem dX4_insert_34 : decode cX4_insert 34 = .ok (.invokevirtual 88, 3) := by decide +kernel
theorem dX4_insert_37 : decode cX4_insert 37 = .ok (.ifCond .eq 11, 3) := by decide +kernel
theorem dX4_insert_40 : decode cX4_insert 40 = .ok (.aload_n 0, 1) := by decide +kernel
theorem dX4_insert_41 : decode cX4_insert 41 = .ok (.invokevirtual 91, 3) := by decide +kernel
theorem dX4_insert_44 : decode cX4_insert 44 = .ok (.iconst (-1), 1) := by decide +kernel
theorem dX4_insert_45 : decode cX4_insert 45 = .ok (.if_icmp .eq 5, 3) := by decide +kernel
theorem dX4_insert_48 : decode cX4_insert 48 = .ok (.iconst 0, 1) := by decide +kernel
theorem dX4_insert_49 : decode cX4_insert 49 = .ok (.ireturn, 1) := by decide +kernel
theorem dX4_insert_50 : decode cX4_insert 50 = .ok (.aload_n 0, 1) := by decide +kernel
theorem dX4_insert_51 : decode cX4_insert 51 = .ok (.getfield 52, 3) := by decide +kernel
theorem dX4_insert_54 : decode cX4_insert 54 = .ok (.aload_n 0, 1) := by decide +kernel
theorem dX4_insert_55 : decode cX4_insert 55 = .ok (.invokevirtual 95, 3) := by decide +kernel
theorem dX4_insert_58 : decode cX4_insert 58 = .ok (.if_icmp .ne 5, 3) := by decide +kernel
theorem dX4_insert_61 : decode cX4_insert 61 = .ok (.iconst 0, 1) := by decide +kernel
theorem dX4_insert_62 : decode cX4_insert 62 = .ok (.ireturn, 1) := by decide +kernel
theorem dX4_insert_63 : decode cX4_insert 63 = .ok (.aload_n 0, 1) := by decide +kernel
theorem dX4_insert_64 : decode cX4_insert 64 = .ok (.aload_n 0, 1) := by decide +kernel
theorem dX4_insert_65 : decode cX4_insert 65 = .ok (.getfield 52, 3) := by decide +kernel
theorem dX4_insert_68 : decode cX4_insert 68 = .ok (.iload_n 1, 1) := by decide +kernel
theorem dX4_insert_69 : decode cX4_insert 69 = .ok (.iload_n 2, 1) := by decide +kernel
theorem dX4_insert_70 : decode cX4_insert 70 = .ok (.lload_n 3, 1) := by decide +kernel
theorem dX4_insert_71 : decode cX4_insert 71 = .ok (.invokevirtual 98, 3) := by decide +kernel
theorem dX4_insert_74 : decode cX4_insert 74 = .ok (.aload_n 0, 1) := by decide +kernel
theorem dX4_insert_75 : decode cX4_insert 75 = .ok (.dup, 1) := by decide +kernel
theorem dX4_insert_76 : decode cX4_insert 76 = .ok (.getfield 52, 3) := by decide +kernel
theorem dX4_insert_79 : decode cX4_insert 79 = .ok (.iconst 1, 1) := by decide +kernel
theorem dX4_insert_80 : decode cX4_insert 80 = .ok (.iadd, 1) := by decide +kernel
theorem dX4_insert_81 : decode cX4_insert 81 = .ok (.putfield 52, 3) := by decide +kernel
theorem dX4_insert_84 : decode cX4_insert 84 = .ok (.aload_n 0, 1) := by decide +kernel
theorem dX4_insert_85 : decode cX4_insert 85 = .ok (.invokevirtual 63, 3) := by decide +kernel
theorem dX4_insert_88 : decode cX4_insert 88 = .ok (.ifCond .eq 26, 3) := by decide +kernel
theorem dX4_insert_91 : decode cX4_insert 91 = .ok (.aload_n 0, 1) := by decide +kernel
theorem dX4_insert_92 : decode cX4_insert 92 = .ok (.invokevirtual 102, 3) := by decide +kernel
theorem dX4_insert_95 : decode cX4_insert 95 = .ok (.aload_n 0, 1) := by decide +kernel
theorem dX4_insert_96 : decode cX4_insert 96 = .ok (.getfield 73, 3) := by decide +kernel
theorem dX4_insert_99 : decode cX4_insert 99 = .ok (.if_icmp .le 15, 3) := by decide +kernel
theorem dX4_insert_102 : decode cX4_insert 102 = .ok (.aload_n 0, 1) := by decide +kernel
theorem dX4_insert_103 : decode cX4_insert 103 = .ok (.dup, 1) := by decide +kernel
theorem dX4_insert_104 : decode cX4_insert 104 = .ok (.getfield 52, 3) := by decide +kernel
theorem dX4_insert_107 : decode cX4_insert 107 = .ok (.iconst 1, 1) := by decide +kernel
theorem dX4_insert_108 : decode cX4_insert 108 = .ok (.isub, 1) := by decide +kernel
theorem dX4_insert_109 : decode cX4_insert 109 = .ok (.putfield 52, 3) := by decide +kernel
theorem dX4_insert_112 : decode cX4_insert 112 = .ok (.iconst 0, 1) := by decide +kernel
theorem dX4_insert_113 : decode cX4_insert 113 = .ok (.ireturn, 1) := by decide +kernel
theorem dX4_insert_114 : decode cX4_insert 114 = .ok (.iconst 1, 1) := by decide +kernel
theorem dX4_insert_115 : decode cX4_insert 115 = .ok (.ireturn, 1) := by decide +kernel
theorem dX4_change_0 : decode cX4_change 0 = .ok (.aload_n 0, 1) := by decide +kernel
theorem dX4_change_1 : decode cX4_change 1 = .ok (.aload_n 0, 1) := by decide +kernel
theorem dX4_change_2 : decode cX4_change 2 = .ok (.getfield 48, 3) := by decide +kernel
theorem dX4_change_5 : decode cX4_change 5 = .ok (.ifCond .eq 7, 3) := by decide +kernel
theorem dX4_change_8 : decode cX4_change 8 = .ok (.iconst 0, 1) := by decide +kernel
theorem dX4_change_9 : decode cX4_change 9 = .ok (.goto 4, 3) := by decide +kernel
theorem dX4_change_12 : decode cX4_change 12 = .ok (.iconst 1, 1) := by decide +kernel
theorem dX4_change_13 : decode cX4_change 13 = .ok (.putfield 41, 3) := by decide +kernel
theorem dX4_change_16 : decode cX4_change 16 = .ok (.aload_n 0, 1) := by decide +kernel
theorem dX4_change_17 : decode cX4_change 17 = .ok (.getfield 41, 3) := by decide +kernel
theorem dX4_change_20 : decode cX4_change 20 = .ok (.ifCond .ne 20, 3) := by decide +kernel
theorem dX4_change_23 : decode cX4_change 23 = .ok (.iload_n 1, 1) := by decide +kernel
theorem dX4_change_24 : decode cX4_change 24 = .ok (.ifCond .lt 16, 3) := by decide +kernel
theorem dX4_change_27 : decode cX4_change 27 = .ok (.iload_n 1, 1) := by decide +kernel
theorem dX4_change_28 : decode cX4_change 28 = .ok (.bipush 7, 2) := by decide +kernel
theorem dX4_change_30 : decode cX4_change 30 = .ok (.if_icmp .gt 10, 3) := by decide +kernel
theorem dX4_change_33 : decode cX4_change 33 = .ok (.aload_n 0, 1) := by decide +kernel
theorem dX4_change_34 : decode cX4_change 34 = .ok (.invokevirtual 88, 3) := by decide +kernel
theorem dX4_change_37 : decode cX4_change 37 = .ok (.ifCond .ne 5, 3) := by decide +kernel
theorem dX4_change_40 : decode cX4_change 40 = .ok (.iconst 0, 1) := by decide +kernel
theorem dX4_change_41 : decode cX4_change 41 = .ok (.ireturn, 1) := by decide +kernel
theorem dX4_change_42 : decode cX4_change 42 = .ok (.aload_n 0, 1) := by decide +kernel
theorem dX4_change_43 : decode cX4_change 43 = .ok (.invokevirtual 91, 3) := by decide +kernel
theorem dX4_change_46 : decode cX4_change 46 = .ok (.istore 4, 2) := by decide +kernel
theorem dX4_change_48 : decode cX4_change 48 = .ok (.iload 4, 2) := by decide +kernel
theorem dX4_change_50 : decode cX4_change 50 = .ok (.iconst (-1), 1) := by decide +kernel
theorem dX4_change_51 : decode cX4_change 51 = .ok (.if_icmp .ne 5, 3) := by decide +kernel
theorem dX4_change_54 : decode cX4_change 54 = .ok (.iconst 0, 1) := by decide +kernel
theorem dX4_change_55 : decode cX4_change 55 = .ok (.ireturn, 1) := by decide +kernel
theorem dX4_change_56 : decode cX4_change 56 = .ok (.aload_n 0, 1) := by decide +kernel
theorem dX4_change_57 : decode cX4_change 57 = .ok (.getfield 32, 3) := by decide +kernel
theorem dX4_change_60 : decode cX4_change 60 = .ok (.iload 4, 2) := by decide +kernel
theorem dX4_change_62 : decode cX4_change 62 = .ok (.iload_n 1, 1) := by decide +kernel
theorem dX4_change_63 : decode cX4_change 63 = .ok (.iastore, 1) := by decide +kernel
theorem dX4_change_64 : decode cX4_change 64 = .ok (.aload_n 0, 1) := by decide +kernel
theorem dX4_change_65 : decode cX4_change 65 = .ok (.getfield 35, 3) := by decide +kernel
theorem dX4_change_68 : decode cX4_change 68 = .ok (.iload 4, 2) := by decide +kernel
theorem dX4_change_70 : decode cX4_change 70 = .ok (.lload_n 2, 1) := by decide +kernel
theorem dX4_change_71 : decode cX4_change 71 = .ok (.lastore, 1) := by decide +kernel
theorem dX4_change_72 : decode cX4_change 72 = .ok (.iconst 1, 1) := by decide +kernel
theorem dX4_change_73 : decode cX4_change 73 = .ok (.ireturn, 1) := by decide +kernel
theorem dX4_remove_0 : decode cX4_remove 0 = .ok (.aload_n 0, 1) := by decide +kernel
theorem dX4_remove_1 : decode cX4_remove 1 = .ok (.aload_n 0, 1) := by decide +kernel
theorem dX4_remove_2 : decode cX4_remove 2 = .ok (.getfield 48, 3) := by decide +kernel
theorem dX4_remove_5 : decode cX4_remove 5 = .ok (.ifCond .eq 7, 3) := by decide +kernel
theorem dX4_remove_8 : decode cX4_remove 8 = .ok (.iconst 0, 1) := by decide +kernel
theorem dX4_remove_9 : decode cX4_remove 9 = .ok (.goto 4, 3) := by decide +kernel
theorem dX4_remove_12 : decode cX4_remove 12 = .ok (.iconst 1, 1) := by decide +kernel
theorem dX4_remove_13 : decode cX4_remove 13 = .ok (.putfield 41, 3) := by decide +kernel
theorem dX4_remove_16 : decode cX4_remove 16 = .ok (.aload_n 0, 1) := by decide +kernel
theorem dX4_remove_17 : decode cX4_remove 17 = .ok (.getfield 41, 3) := by decide +kernel
theorem dX4_remove_20 : decode cX4_remove 20 = .ok (.ifCond .ne 10, 3) := by decide +kernel
theorem dX4_remove_23 : decode cX4_remove 23 = .ok (.aload_n 0, 1) := by decide +kernel
theorem dX4_remove_24 : decode cX4_remove 24 = .ok (.invokevirtual 88, 3) := by decide +kernel
theorem dX4_remove_27 : decode cX4_remove 27 = .ok (.ifCond .ne 7, 3) := by decide +kernel
theorem dX4_remove_30 : decode cX4_remove 30 = .ok (.iconst (-1), 1) := by decide +kernel
theorem dX4_remove_31 : decode cX4_remove 31 = .ok (.goto 7, 3) := by decide +kernel
theorem dX4_remove_34 : decode cX4_remove 34 = .ok (.aload_n 0, 1) := by decide +kernel
theorem dX4_remove_35 : decode cX4_remove 35 = .ok (.invokevirtual 91, 3) := by decide +kernel
theorem dX4_remove_38 : decode cX4_remove 38 = .ok (.istore_n 1, 1) := by decide +kernel
theorem dX4_remove_39 : decode cX4_remove 39 = .ok (.iload_n 1, 1) := by decide +kernel
theorem dX4_remove_40 : decode cX4_remove 40 = .ok (.iconst (-1), 1) := by decide +kernel
theorem dX4_remove_41 : decode cX4_remove 41 = .ok (.if_icmp .ne 5, 3) := by decide +kernel
theorem dX4_remove_44 : decode cX4_remove 44 = .ok (.iconst 0, 1) := by decide +kernel
theorem dX4_remove_45 : decode cX4_remove 45 = .ok (.ireturn, 1) := by decide +kernel
theorem dX4_remove_46 : decode cX4_remove 46 = .ok (.aload_n 0, 1) := by decide +kernel
theorem dX4_remove_47 : decode cX4_remove 47 = .ok (.dup, 1) := by decide +kernel
theorem dX4_remove_48 : decode cX4_remove 48 = .ok (.getfield 52, 3) := by decide +kernel
theorem dX4_remove_51 : decode cX4_remove 51 = .ok (.iconst 1, 1) := by decide +kernel
theorem dX4_remove_52 : decode cX4_remove 52 = .ok (.isub, 1) := by decide +kernel
theorem dX4_remove_53 : decode cX4_remove 53 = .ok (.putfield 52, 3) := by decide +kernel
theorem dX4_remove_56 : decode cX4_remove 56 = .ok (.iload_n 1, 1) := by decide +kernel
theorem dX4_remove_57 : decode cX4_remove 57 = .ok (.istore_n 2, 1) := by decide +kernel
theorem dX4_remove_58 : decode cX4_remove 58 = .ok (.iload_n 2, 1) := by decide +kernel
theorem dX4_remove_59 : decode cX4_remove 59 = .ok (.aload_n 0, 1) := by decide +kernel
theorem dX4_remove_60 : decode cX4_remove 60 = .ok (.getfield 52, 3) := by decide +kernel
theorem dX4_remove_63 : decode cX4_remove 63 = .ok (.if_icmp .ge 108, 3) := by decide +kernel
theorem dX4_remove_66 : decode cX4_remove 66 = .ok (.iconst 0, 1) := by decide +kernel
theorem dX4_remove_67 : decode cX4_remove 67 = .ok (.istore_n 3, 1) := by decide +kernel
theorem dX4_remove_68 : decode cX4_remove 68 = .ok (.iload_n 3, 1) := by decide +kernel
theorem dX4_remove_69 : decode cX4_remove 69 = .ok (.iconst 4, 1) := by decide +kernel
theorem dX4_remove_70 : decode cX4_remove 70 = .ok (.if_icmp .ge 53, 3) := by decide +kernel
theorem dX4_remove_73 : decode cX4_remove 73 = .ok (.aload_n 0, 1) := by decide +kernel
theorem dX4_remove_74 : decode cX4_remove 74 = .ok (.getfield 23, 3) := by decide +kernel
theorem dX4_remove_77 : decode cX4_remove 77 = .ok (.iconst 4, 1) := by decide +kernel
theorem dX4_remove_78 : decode cX4_remove 78 = .ok (.iload_n 2, 1) := by decide +kernel
theorem dX4_remove_79 : decode cX4_remove 79 = .ok (.imul, 1) := by decide +kernel
theorem dX4_remove_80 : decode cX4_remove 80 = .ok (.iload_n 3, 1) := by decide +kernel
theorem dX4_remove_81 : decode cX4_remove 81 = .ok (.iadd, 1) := by decide +kernel
theorem dX4_remove_82 : decode cX4_remove 82 = .ok (.aload_n 0, 1) := by decide +kernel
theorem dX4_remove_83 : decode cX4_remove 83 = .ok (.getfield 23, 3) := by decide +kernel
theorem dX4_remove_86 : decode cX4_remove 86 = .ok (.iconst 4, 1) := by decide +kernel
theorem dX4_remove_87 : decode cX4_remove 87 = .ok (.iload_n 2, 1) := by decide +kernel
theorem dX4_remove_88 : decode cX4_remove 88 = .ok (.imul, 1) := by decide +kernel
theorem dX4_remove_89 : decode cX4_remove 89 = .ok (.iconst 4, 1) := by decide +kernel
theorem dX4_remove_90 : decode cX4_remove 90 = .ok (.iadd, 1) := by decide +kernel
theorem dX4_remove_91 : decode cX4_remove 91 = .ok (.iload_n 3, 1) := by decide +kernel
theorem dX4_remove_92 : decode cX4_remove 92 = .ok (.iadd, 1) := by decide +kernel
theorem dX4_remove_93 : decode cX4_remove 93 = .ok (.laload, 1) := by decide +kernel
theorem dX4_remove_94 : decode cX4_remove 94 = .ok (.lastore, 1) := by decide +kernel
theorem dX4_remove_95 : decode cX4_remove 95 = .ok (.aload_n 0, 1) := by decide +kernel
theorem dX4_remove_96 : decode cX4_remove 96 = .ok (.getfield 26, 3) := by decide +kernel
theorem dX4_remove_99 : decode cX4_remove 99 = .ok (.iconst 4, 1) := by decide +kernel
theorem dX4_remove_100 : decode cX4_remove 100 = .ok (.iload_n 2, 1) := by decide +kernel
theorem dX4_remove_101 : decode cX4_remove 101 = .ok (.imul, 1) := by decide +kernel
theorem dX4_remove_102 : decode cX4_remove 102 = .ok (.iload_n 3, 1) := by decide +kernel
theorem dX4_remove_103 : decode cX4_remove 103 = .ok (.iadd, 1) := by decide +kernel
theorem dX4_remove_104 : decode cX4_remove 104 = .ok (.aload_n 0, 1) := by decide +kernel
theorem dX4_remove_105 : decode cX4_remove 105 = .ok (.getfield 26, 3) := by decide +kernel
theorem dX4_remove_108 : decode cX4_remove 108 = .ok (.iconst 4, 1) := by decide +kernel
theorem dX4_remove_109 : decode cX4_remove 109 = .ok (.iload_n 2, 1) := by decide +kernel
theorem dX4_remove_110 : decode cX4_remove 110 = .ok (.imul, 1) := by decide +kernel
theorem dX4_remove_111 : decode cX4_remove 111 = .ok (.iconst 4, 1) := by decide +kernel
theorem dX4_remove_112 : decode cX4_remove 112 = .ok (.iadd, 1) := by decide +kernel
theorem dX4_remove_113 : decode cX4_remove 113 = .ok (.iload_n 3, 1) := by decide +kernel
theorem dX4_remove_114 : decode cX4_remove 114 = .ok (.iadd, 1) := by decide +kernel
theorem dX4_remove_115 : decode cX4_remove 115 = .ok (.laload, 1) := by decide +kernel
theorem dX4_remove_116 : decode cX4_remove 116 = .ok (.lastore, 1) := by decide +kernel
theorem dX4_remove_117 : decode cX4_remove 117 = .ok (.iinc 3 1, 3) := by decide +kernel
theorem dX4_remove_120 : decode cX4_remove 120 = .ok (.goto (-52), 3) := by decide +kernel
theorem dX4_remove_123 : decode cX4_remove 123 = .ok (.aload_n 0, 1) := by decide +kernel
theorem dX4_remove_124 : decode cX4_remove 124 = .ok (.getfield 29, 3) := by decide +kernel
theorem dX4_remove_127 : decode cX4_remove 127 = .ok (.iload_n 2, 1) := by decide +kernel
theorem dX4_remove_128 : decode cX4_remove 128 = .ok (.aload_n 0, 1) := by decide +kernel
theorem dX4_remove_129 : decode cX4_remove 129 = .ok (.getfield 29, 3) := by decide +kernel
theorem dX4_remove_132 : decode cX4_remove 132 = .ok (.iload_n 2, 1) := by decide +kernel
theorem dX4_remove_133 : decode cX4_remove 133 = .ok (.iconst 1, 1) := by decide +kernel
theorem dX4_remove_134 : decode cX4_remove 134 = .ok (.iadd, 1) := by decide +kernel
theorem dX4_remove_135 : decode cX4_remove 135 = .ok (.iaload, 1) := by decide +kernel
theorem dX4_remove_136 : decode cX4_remove 136 = .ok (.iastore, 1) := by decide +kernel
theorem dX4_remove_137 : decode cX4_remove 137 = .ok (.aload_n 0, 1) := by decide +kernel
theorem dX4_remove_138 : decode cX4_remove 138 = .ok (.getfield 32, 3) := by decide +kernel
theorem dX4_remove_141 : decode cX4_remove 141 = .ok (.iload_n 2, 1) := by decide +kernel
theorem dX4_remove_142 : decode cX4_remove 142 = .ok (.aload_n 0, 1) := by decide +kernel
theorem dX4_remove_143 : decode cX4_remove 143 = .ok (.getfield 32, 3) := by decide +kernel
theorem dX4_remove_146 : decode cX4_remove 146 = .ok (.iload_n 2, 1) := by decide +kernel
theorem dX4_remove_147 : decode cX4_remove 147 = .ok (.iconst 1, 1) := by decide +kernel
theorem dX4_remove_148 : decode cX4_remove 148 = .ok (.iadd, 1) := by decide +kernel
theorem dX4_remove_149 : decode cX4_remove 149 = .ok (.iaload, 1) := by decide +kernel
theorem dX4_remove_150 : decode cX4_remove 150 = .ok (.iastore, 1) := by decide +kernel
theorem dX4_remove_151 : decode cX4_remove 151 = .ok (.aload_n 0, 1) := by decide +kernel
theorem dX4_remove_152 : decode cX4_remove 152 = .ok (.getfield 35, 3) := by decide +kernel
theorem dX4_remove_155 : decode cX4_remove 155 = .ok (.iload_n 2, 1) := by decide +kernel
theorem dX4_remove_156 : decode cX4_remove 156 = .ok (.aload_n 0, 1) := by decide +kernel
theorem dX4_remove_157 : decode cX4_remove 157 = .ok (.getfield 35, 3) := by decide +kernel
theorem dX4_remove_160 : decode cX4_remove 160 = .ok (.iload_n 2, 1) := by decide +kernel
theorem dX4_remove_161 : decode cX4_remove 161 = .ok (.iconst 1, 1) := by decide +kernel
theorem dX4_remove_162 : decode cX4_remove 162 = .ok (.iadd, 1) := by decide +kernel
theorem dX4_remove_163 : decode cX4_remove 163 = .ok (.laload, 1) := by decide +kernel
theorem dX4_remove_164 : decode cX4_remove 164 = .ok (.lastore, 1) := by decide +kernel
theorem dX4_remove_165 : decode cX4_remove 165 = .ok (.iinc 2 1, 3) := by decide +kernel
theorem dX4_remove_168 : decode cX4_remove 168 = .ok (.goto (-110), 3) := by decide +kernel
theorem dX4_remove_171 : decode cX4_remove 171 = .ok (.iconst 1, 1) := by decide +kernel
theorem dX4_remove_172 : decode cX4_remove 172 = .ok (.ireturn, 1) := by decide +kernel
theorem dX4_matches_0 : decode cX4_matches 0 = .ok (.iconst 0, 1) := by decide +kernel
theorem dX4_matches_1 : decode cX4_matches 1 = .ok (.istore_n 2, 1) := by decide +kernel
theorem dX4_matches_2 : decode cX4_matches 2 = .ok (.iload_n 2, 1) := by decide +kernel
theorem dX4_matches_3 : decode cX4_matches 3 = .ok (.aload_n 0, 1) := by decide +kernel
theorem dX4_matches_4 : decode cX4_matches 4 = .ok (.getfield 45, 3) := by decide +kernel
theorem dX4_matches_7 : decode cX4_matches 7 = .ok (.if_icmp .ge 42, 3) := by decide +kernel
theorem dX4_matches_10 : decode cX4_matches 10 = .ok (.aload_n 0, 1) := by decide +kernel
theorem dX4_matches_11 : decode cX4_matches 11 = .ok (.getfield 16, 3) := by decide +kernel
theorem dX4_matches_14 : decode cX4_matches 14 = .ok (.iload_n 2, 1) := by decide +kernel
theorem dX4_matches_15 : decode cX4_matches 15 = .ok (.laload, 1) := by decide +kernel
theorem dX4_matches_16 : decode cX4_matches 16 = .ok (.aload_n 0, 1) := by decide +kernel
theorem dX4_matches_17 : decode cX4_matches 17 = .ok (.getfield 26, 3) := by decide +kernel
theorem dX4_matches_20 : decode cX4_matches 20 = .ok (.iconst 4, 1) := by decide +kernel
theorem dX4_matches_21 : decode cX4_matches 21 = .ok (.iload_n 1, 1) := by decide +kernel
theorem dX4_matches_22 : decode cX4_matches 22 = .ok (.imul, 1) := by decide +kernel
theorem dX4_matches_23 : decode cX4_matches 23 = .ok (.iload_n 2, 1) := by decide +kernel
theorem dX4_matches_24 : decode cX4_matches 24 = .ok (.iadd, 1) := by decide +kernel
theorem dX4_matches_25 : decode cX4_matches 25 = .ok (.laload, 1) := by decide +kernel
theorem dX4_matches_26 : decode cX4_matches 26 = .ok (.land, 1) := by decide +kernel
theorem dX4_matches_27 : decode cX4_matches 27 = .ok (.aload_n 0, 1) := by decide +kernel
theorem dX4_matches_28 : decode cX4_matches 28 = .ok (.getfield 23, 3) := by decide +kernel
theorem dX4_matches_31 : decode cX4_matches 31 = .ok (.iconst 4, 1) := by decide +kernel
theorem dX4_matches_32 : decode cX4_matches 32 = .ok (.iload_n 1, 1) := by decide +kernel
theorem dX4_matches_33 : decode cX4_matches 33 = .ok (.imul, 1) := by decide +kernel
theorem dX4_matches_34 : decode cX4_matches 34 = .ok (.iload_n 2, 1) := by decide +kernel
theorem dX4_matches_35 : decode cX4_matches 35 = .ok (.iadd, 1) := by decide +kernel
theorem dX4_matches_36 : decode cX4_matches 36 = .ok (.laload, 1) := by decide +kernel
theorem dX4_matches_37 : decode cX4_matches 37 = .ok (.lcmp, 1) := by decide +kernel
theorem dX4_matches_38 : decode cX4_matches 38 = .ok (.ifCond .eq 5, 3) := by decide +kernel
theorem dX4_matches_41 : decode cX4_matches 41 = .ok (.iconst 0, 1) := by decide +kernel
theorem dX4_matches_42 : decode cX4_matches 42 = .ok (.ireturn, 1) := by decide +kernel
theorem dX4_matches_43 : decode cX4_matches 43 = .ok (.iinc 2 1, 3) := by decide +kernel
theorem dX4_matches_46 : decode cX4_matches 46 = .ok (.goto (-44), 3) := by decide +kernel
theorem dX4_matches_49 : decode cX4_matches 49 = .ok (.iconst 1, 1) := by decide +kernel
theorem dX4_matches_50 : decode cX4_matches 50 = .ok (.ireturn, 1) := by decide +kernel
theorem dX4_prefixOnes_0 : decode cX4_prefixOnes 0 = .ok (.iconst 0, 1) := by decide +kernel
theorem dX4_prefixOnes_1 : decode cX4_prefixOnes 1 = .ok (.istore_n 2, 1) := by decide +kernel
theorem dX4_prefixOnes_2 : decode cX4_prefixOnes 2 = .ok (.iload_n 2, 1) := by decide +kernel
theorem dX4_prefixOnes_3 : decode cX4_prefixOnes 3 = .ok (.aload_n 0, 1) := by decide +kernel
theorem dX4_prefixOnes_4 : decode cX4_prefixOnes 4 = .ok (.getfield 45, 3) := by decide +kernel
theorem dX4_prefixOnes_7 : decode cX4_prefixOnes 7 = .ok (.if_icmp .ge 33, 3) := by decide +kernel
theorem dX4_prefixOnes_10 : decode cX4_prefixOnes 10 = .ok (.aload_n 0, 1) := by decide +kernel
theorem dX4_prefixOnes_11 : decode cX4_prefixOnes 11 = .ok (.getfield 13, 3) := by decide +kernel
theorem dX4_prefixOnes_14 : decode cX4_prefixOnes 14 = .ok (.iload_n 2, 1) := by decide +kernel
theorem dX4_prefixOnes_15 : decode cX4_prefixOnes 15 = .ok (.iaload, 1) := by decide +kernel
theorem dX4_prefixOnes_16 : decode cX4_prefixOnes 16 = .ok (.iconst 1, 1) := by decide +kernel
theorem dX4_prefixOnes_17 : decode cX4_prefixOnes 17 = .ok (.if_icmp .ne 17, 3) := by decide +kernel
theorem dX4_prefixOnes_20 : decode cX4_prefixOnes 20 = .ok (.aload_n 0, 1) := by decide +kernel
theorem dX4_prefixOnes_21 : decode cX4_prefixOnes 21 = .ok (.getfield 26, 3) := by decide +kernel
theorem dX4_prefixOnes_24 : decode cX4_prefixOnes 24 = .ok (.iconst 4, 1) := by decide +kernel
theorem dX4_prefixOnes_25 : decode cX4_prefixOnes 25 = .ok (.iload_n 1, 1) := by decide +kernel
theorem dX4_prefixOnes_26 : decode cX4_prefixOnes 26 = .ok (.imul, 1) := by decide +kernel
theorem dX4_prefixOnes_27 : decode cX4_prefixOnes 27 = .ok (.iload_n 2, 1) := by decide +kernel
theorem dX4_prefixOnes_28 : decode cX4_prefixOnes 28 = .ok (.iadd, 1) := by decide +kernel
theorem dX4_prefixOnes_29 : decode cX4_prefixOnes 29 = .ok (.laload, 1) := by decide +kernel
theorem dX4_prefixOnes_30 : decode cX4_prefixOnes 30 = .ok (.invokestatic 105, 3) := by decide +kernel
theorem dX4_prefixOnes_33 : decode cX4_prefixOnes 33 = .ok (.ireturn, 1) := by decide +kernel
theorem dX4_prefixOnes_34 : decode cX4_prefixOnes 34 = .ok (.iinc 2 1, 3) := by decide +kernel
theorem dX4_prefixOnes_37 : decode cX4_prefixOnes 37 = .ok (.goto (-35), 3) := by decide +kernel
theorem dX4_prefixOnes_40 : decode cX4_prefixOnes 40 = .ok (.iconst 0, 1) := by decide +kernel
theorem dX4_prefixOnes_41 : decode cX4_prefixOnes 41 = .ok (.ireturn, 1) := by decide +kernel
theorem dX4_match_0 : decode cX4_match 0 = .ok (.aload_n 0, 1) := by decide +kernel
theorem dX4_match_1 : decode cX4_match 1 = .ok (.aload_n 0, 1) := by decide +kernel
theorem dX4_match_2 : decode cX4_match 2 = .ok (.getfield 48, 3) := by decide +kernel
theorem dX4_match_5 : decode cX4_match 5 = .ok (.ifCond .eq 7, 3) := by decide +kernel
theorem dX4_match_8 : decode cX4_match 8 = .ok (.iconst 0, 1) := by decide +kernel
theorem dX4_match_9 : decode cX4_match 9 = .ok (.goto 4, 3) := by decide +kernel
theorem dX4_match_12 : decode cX4_match 12 = .ok (.iconst 1, 1) := by decide +kernel
theorem dX4_match_13 : decode cX4_match 13 = .ok (.putfield 41, 3) := by decide +kernel
theorem dX4_match_16 : decode cX4_match 16 = .ok (.aload_n 0, 1) := by decide +kernel
theorem dX4_match_17 : decode cX4_match 17 = .ok (.getfield 41, 3) := by decide +kernel
theorem dX4_match_20 : decode cX4_match 20 = .ok (.ifCond .eq 5, 3) := by decide +kernel
theorem dX4_match_23 : decode cX4_match 23 = .ok (.iconst 0, 1) := by decide +kernel
theorem dX4_match_24 : decode cX4_match 24 = .ok (.ireturn, 1) := by decide +kernel
theorem dX4_match_25 : decode cX4_match 25 = .ok (.iconst (-1), 1) := by decide +kernel
theorem dX4_match_26 : decode cX4_match 26 = .ok (.istore_n 1, 1) := by decide +kernel
theorem dX4_match_27 : decode cX4_match 27 = .ok (.iconst 0, 1) := by decide +kernel
theorem dX4_match_28 : decode cX4_match 28 = .ok (.istore_n 2, 1) := by decide +kernel
theorem dX4_match_29 : decode cX4_match 29 = .ok (.iload_n 2, 1) := by decide +kernel
theorem dX4_match_30 : decode cX4_match 30 = .ok (.aload_n 0, 1) := by decide +kernel
theorem dX4_match_31 : decode cX4_match 31 = .ok (.getfield 52, 3) := by decide +kernel
theorem dX4_match_34 : decode cX4_match 34 = .ok (.if_icmp .ge 63, 3) := by decide +kernel
theorem dX4_match_37 : decode cX4_match 37 = .ok (.aload_n 0, 1) := by decide +kernel
theorem dX4_match_38 : decode cX4_match 38 = .ok (.iload_n 2, 1) := by decide +kernel
theorem dX4_match_39 : decode cX4_match 39 = .ok (.invokevirtual 109, 3) := by decide +kernel
theorem dX4_match_42 : decode cX4_match 42 = .ok (.ifCond .eq 49, 3) := by decide +kernel
theorem dX4_match_45 : decode cX4_match 45 = .ok (.iload_n 1, 1) := by decide +kernel
theorem dX4_match_46 : decode cX4_match 46 = .ok (.iconst (-1), 1) := by decide +kernel
theorem dX4_match_47 : decode cX4_match 47 = .ok (.if_icmp .ne 7, 3) := by decide +kernel
theorem dX4_match_50 : decode cX4_match 50 = .ok (.iconst 1, 1) := by decide +kernel
theorem dX4_match_51 : decode cX4_match 51 = .ok (.goto 14, 3) := by decide +kernel
theorem dX4_match_54 : decode cX4_match 54 = .ok (.aload_n 0, 1) := by decide +kernel
theorem dX4_match_55 : decode cX4_match 55 = .ok (.iload_n 2, 1) := by decide +kernel
theorem dX4_match_56 : decode cX4_match 56 = .ok (.invokevirtual 112, 3) := by decide +kernel
theorem dX4_match_59 : decode cX4_match 59 = .ok (.aload_n 0, 1) := by decide +kernel
theorem dX4_match_60 : decode cX4_match 60 = .ok (.iload_n 1, 1) := by decide +kernel
theorem dX4_match_61 : decode cX4_match 61 = .ok (.invokevirtual 112, 3) := by decide +kernel
theorem dX4_match_64 : decode cX4_match 64 = .ok (.isub, 1) := by decide +kernel
theorem dX4_match_65 : decode cX4_match 65 = .ok (.istore_n 3, 1) := by decide +kernel
theorem dX4_match_66 : decode cX4_match 66 = .ok (.iload_n 3, 1) := by decide +kernel
theorem dX4_match_67 : decode cX4_match 67 = .ok (.ifCond .gt 22, 3) := by decide +kernel
theorem dX4_match_70 : decode cX4_match 70 = .ok (.iload_n 3, 1) := by decide +kernel
theorem dX4_match_71 : decode cX4_match 71 = .ok (.ifCond .ne 20, 3) := by decide +kernel
theorem dX4_match_74 : decode cX4_match 74 = .ok (.aload_n 0, 1) := by decide +kernel
theorem dX4_match_75 : decode cX4_match 75 = .ok (.getfield 29, 3) := by decide +kernel
theorem dX4_match_78 : decode cX4_match 78 = .ok (.iload_n 2, 1) := by decide +kernel
theorem dX4_match_79 : decode cX4_match 79 = .ok (.iaload, 1) := by decide +kernel
theorem dX4_match_80 : decode cX4_match 80 = .ok (.aload_n 0, 1) := by decide +kernel
theorem dX4_match_81 : decode cX4_match 81 = .ok (.getfield 29, 3) := by decide +kernel
theorem dX4_match_84 : decode cX4_match 84 = .ok (.iload_n 1, 1) := by decide +kernel
theorem dX4_match_85 : decode cX4_match 85 = .ok (.iaload, 1) := by decide +kernel
theorem dX4_match_86 : decode cX4_match 86 = .ok (.if_icmp .le 5, 3) := by decide +kernel
theorem dX4_match_89 : decode cX4_match 89 = .ok (.iload_n 2, 1) := by decide +kernel
theorem dX4_match_90 : decode cX4_match 90 = .ok (.istore_n 1, 1) := by decide +kernel
theorem dX4_match_91 : decode cX4_match 91 = .ok (.iinc 2 1, 3) := by decide +kernel
theorem dX4_match_94 : decode cX4_match 94 = .ok (.goto (-65), 3) := by decide +kernel
theorem dX4_match_97 : decode cX4_match 97 = .ok (.aload_n 0, 1) := by decide +kernel
theorem dX4_match_98 : decode cX4_match 98 = .ok (.iload_n 1, 1) := by decide +kernel
theorem dX4_match_99 : decode cX4_match 99 = .ok (.iconst (-1), 1) := by decide +kernel
theorem dX4_match_100 : decode cX4_match 100 = .ok (.if_icmp .ne 7, 3) := by decide +kernel
theorem dX4_match_103 : decode cX4_match 103 = .ok (.lconst 0, 1) := by decide +kernel
theorem dX4_match_104 : decode cX4_match 104 = .ok (.goto 9, 3) := by decide +kernel
theorem dX4_match_107 : decode cX4_match 107 = .ok (.aload_n 0, 1) := by decide +kernel
theorem dX4_match_108 : decode cX4_match 108 = .ok (.getfield 35, 3) := by decide +kernel
theorem dX4_match_111 : decode cX4_match 111 = .ok (.iload_n 1, 1) := by decide +kernel
theorem dX4_match_112 : decode cX4_match 112 = .ok (.laload, 1) := by decide +kernel
theorem dX4_match_113 : decode cX4_match 113 = .ok (.putfield 55, 3) := by decide +kernel
theorem dX4_match_116 : decode cX4_match 116 = .ok (.iload_n 1, 1) := by decide +kernel
theorem dX4_match_117 : decode cX4_match 117 = .ok (.iconst (-1), 1) := by decide +kernel
theorem dX4_match_118 : decode cX4_match 118 = .ok (.if_icmp .ne 7, 3) := by decide +kernel
theorem dX4_match_121 : decode cX4_match 121 = .ok (.iconst (-1), 1) := by decide +kernel
theorem dX4_match_122 : decode cX4_match 122 = .ok (.goto 9, 3) := by decide +kernel
theorem dX4_match_125 : decode cX4_match 125 = .ok (.aload_n 0, 1) := by decide +kernel
theorem dX4_match_126 : decode cX4_match 126 = .ok (.getfield 32, 3) := by decide +kernel
theorem dX4_match_129 : decode cX4_match 129 = .ok (.iload_n 1, 1) := by decide +kernel
theorem dX4_match_130 : decode cX4_match 130 = .ok (.iaload, 1) := by decide +kernel
theorem dX4_match_131 : decode cX4_match 131 = .ok (.ireturn, 1) := by decide +kernel
theorem dX4_datum_0 : decode cX4_datum 0 = .ok (.aload_n 0, 1) := by decide +kernel
theorem dX4_datum_1 : decode cX4_datum 1 = .ok (.iconst 0, 1) := by decide +kernel
theorem dX4_datum_2 : decode cX4_datum 2 = .ok (.putfield 41, 3) := by decide +kernel
theorem dX4_datum_5 : decode cX4_datum 5 = .ok (.aload_n 0, 1) := by decide +kernel
theorem dX4_datum_6 : decode cX4_datum 6 = .ok (.getfield 55, 3) := by decide +kernel
theorem dX4_datum_9 : decode cX4_datum 9 = .ok (.lreturn, 1) := by decide +kernel
theorem dX4_bucket_0 : decode cX4_bucket 0 = .ok (.aload_n 0, 1) := by decide +kernel
theorem dX4_bucket_1 : decode cX4_bucket 1 = .ok (.iconst 0, 1) := by decide +kernel
theorem dX4_bucket_2 : decode cX4_bucket 2 = .ok (.putfield 41, 3) := by decide +kernel
theorem dX4_bucket_5 : decode cX4_bucket 5 = .ok (.aload_n 0, 1) := by decide +kernel
theorem dX4_bucket_6 : decode cX4_bucket 6 = .ok (.getfield 48, 3) := by decide +kernel
theorem dX4_bucket_9 : decode cX4_bucket 9 = .ok (.ifCond .eq 22, 3) := by decide +kernel
theorem dX4_bucket_12 : decode cX4_bucket 12 = .ok (.aload_n 0, 1) := by decide +kernel
theorem dX4_bucket_13 : decode cX4_bucket 13 = .ok (.invokevirtual 63, 3) := by decide +kernel
theorem dX4_bucket_16 : decode cX4_bucket 16 = .ok (.ifCond .eq 15, 3) := by decide +kernel
theorem dX4_bucket_19 : decode cX4_bucket 19 = .ok (.aload_n 0, 1) := by decide +kernel
theorem dX4_bucket_20 : decode cX4_bucket 20 = .ok (.aload_n 0, 1) := by decide +kernel
theorem dX4_bucket_21 : decode cX4_bucket 21 = .ok (.getfield 16, 3) := by decide +kernel
theorem dX4_bucket_24 : decode cX4_bucket 24 = .ok (.iconst 0, 1) := by decide +kernel
theorem dX4_bucket_25 : decode cX4_bucket 25 = .ok (.invokevirtual 84, 3) := by decide +kernel
theorem dX4_bucket_28 : decode cX4_bucket 28 = .ok (.goto 4, 3) := by decide +kernel
theorem dX4_bucket_31 : decode cX4_bucket 31 = .ok (.iconst (-1), 1) := by decide +kernel
theorem dX4_bucket_32 : decode cX4_bucket 32 = .ok (.ireturn, 1) := by decide +kernel
theorem dX4_most_0 : decode cX4_most 0 = .ok (.aload_n 0, 1) := by decide +kernel
theorem dX4_most_1 : decode cX4_most 1 = .ok (.invokevirtual 63, 3) := by decide +kernel
theorem dX4_most_4 : decode cX4_most 4 = .ok (.ifCond .eq 20, 3) := by decide +kernel
theorem dX4_most_7 : decode cX4_most 7 = .ok (.aload_n 0, 1) := by decide +kernel
theorem dX4_most_8 : decode cX4_most 8 = .ok (.getfield 67, 3) := by decide +kernel
theorem dX4_most_11 : decode cX4_most 11 = .ok (.aload_n 0, 1) := by decide +kernel
theorem dX4_most_12 : decode cX4_most 12 = .ok (.getfield 70, 3) := by decide +kernel
theorem dX4_most_15 : decode cX4_most 15 = .ok (.imul, 1) := by decide +kernel
theorem dX4_most_16 : decode cX4_most 16 = .ok (.aload_n 0, 1) := by decide +kernel
theorem dX4_most_17 : decode cX4_most 17 = .ok (.getfield 73, 3) := by decide +kernel
theorem dX4_most_20 : decode cX4_most 20 = .ok (.iadd, 1) := by decide +kernel
theorem dX4_most_21 : decode cX4_most 21 = .ok (.goto 7, 3) := by decide +kernel
theorem dX4_most_24 : decode cX4_most 24 = .ok (.aload_n 0, 1) := by decide +kernel
theorem dX4_most_25 : decode cX4_most 25 = .ok (.getfield 67, 3) := by decide +kernel
theorem dX4_most_28 : decode cX4_most 28 = .ok (.ireturn, 1) := by decide +kernel
theorem dX4_count_0 : decode cX4_count 0 = .ok (.aload_n 0, 1) := by decide +kernel
theorem dX4_count_1 : decode cX4_count 1 = .ok (.iconst 0, 1) := by decide +kernel
theorem dX4_count_2 : decode cX4_count 2 = .ok (.putfield 41, 3) := by decide +kernel
theorem dX4_count_5 : decode cX4_count 5 = .ok (.iload_n 1, 1) := by decide +kernel
theorem dX4_count_6 : decode cX4_count 6 = .ok (.iconst 2, 1) := by decide +kernel
theorem dX4_count_7 : decode cX4_count 7 = .ok (.if_icmp .ne 8, 3) := by decide +kernel
theorem dX4_count_10 : decode cX4_count 10 = .ok (.aload_n 0, 1) := by decide +kernel
theorem dX4_count_11 : decode cX4_count 11 = .ok (.getfield 45, 3) := by decide +kernel
theorem dX4_count_14 : decode cX4_count 14 = .ok (.ireturn, 1) := by decide +kernel
theorem dX4_count_15 : decode cX4_count 15 = .ok (.aload_n 0, 1) := by decide +kernel
theorem dX4_count_16 : decode cX4_count 16 = .ok (.getfield 48, 3) := by decide +kernel
theorem dX4_count_19 : decode cX4_count 19 = .ok (.ifCond .eq 12, 3) := by decide +kernel
theorem dX4_count_22 : decode cX4_count 22 = .ok (.iload_n 1, 1) := by decide +kernel
theorem dX4_count_23 : decode cX4_count 23 = .ok (.ifCond .lt 8, 3) := by decide +kernel
theorem dX4_count_26 : decode cX4_count 26 = .ok (.iload_n 1, 1) := by decide +kernel
theorem dX4_count_27 : decode cX4_count 27 = .ok (.iconst 3, 1) := by decide +kernel
theorem dX4_count_28 : decode cX4_count 28 = .ok (.if_icmp .le 5, 3) := by decide +kernel
theorem dX4_count_31 : decode cX4_count 31 = .ok (.iconst (-1), 1) := by decide +kernel
theorem dX4_count_32 : decode cX4_count 32 = .ok (.ireturn, 1) := by decide +kernel
theorem dX4_count_33 : decode cX4_count 33 = .ok (.iload_n 1, 1) := by decide +kernel
theorem dX4_count_34 : decode cX4_count 34 = .ok (.ifCond .ne 8, 3) := by decide +kernel
theorem dX4_count_37 : decode cX4_count 37 = .ok (.aload_n 0, 1) := by decide +kernel
theorem dX4_count_38 : decode cX4_count 38 = .ok (.getfield 52, 3) := by decide +kernel
theorem dX4_count_41 : decode cX4_count 41 = .ok (.ireturn, 1) := by decide +kernel
theorem dX4_count_42 : decode cX4_count 42 = .ok (.iload_n 1, 1) := by decide +kernel
theorem dX4_count_43 : decode cX4_count 43 = .ok (.iconst 3, 1) := by decide +kernel
theorem dX4_count_44 : decode cX4_count 44 = .ok (.if_icmp .ne 10, 3) := by decide +kernel
theorem dX4_count_47 : decode cX4_count 47 = .ok (.aload_n 0, 1) := by decide +kernel
theorem dX4_count_48 : decode cX4_count 48 = .ok (.invokevirtual 95, 3) := by decide +kernel
theorem dX4_count_51 : decode cX4_count 51 = .ok (.goto 18, 3) := by decide +kernel
theorem dX4_count_54 : decode cX4_count 54 = .ok (.aload_n 0, 1) := by decide +kernel
theorem dX4_count_55 : decode cX4_count 55 = .ok (.invokevirtual 63, 3) := by decide +kernel
theorem dX4_count_58 : decode cX4_count 58 = .ok (.ifCond .eq 10, 3) := by decide +kernel
theorem dX4_count_61 : decode cX4_count 61 = .ok (.aload_n 0, 1) := by decide +kernel
theorem dX4_count_62 : decode cX4_count 62 = .ok (.invokevirtual 102, 3) := by decide +kernel
theorem dX4_count_65 : decode cX4_count 65 = .ok (.goto 4, 3) := by decide +kernel
theorem dX4_count_68 : decode cX4_count 68 = .ok (.iconst 0, 1) := by decide +kernel
theorem dX4_count_69 : decode cX4_count 69 = .ok (.ireturn, 1) := by decide +kernel
end
section
theorem dL_key_0 : decode cL_key 0 = .ok (.aload_n 3, 1) := by decide +kernel
theorem dL_key_1 : decode cL_key 1 = .ok (.iconst 0, 1) := by decide +kernel
theorem dL_key_2 : decode cL_key 2 = .ok (.aload_n 0, 1) := by decide +kernel
theorem dL_key_3 : decode cL_key 3 = .ok (.iload_n 1, 1) := by decide +kernel
theorem dL_key_4 : decode cL_key 4 = .ok (.iload_n 2, 1) := by decide +kernel
theorem dL_key_5 : decode cL_key 5 = .ok (.invokevirtual 7, 3) := by decide +kernel
theorem dL_key_8 : decode cL_key 8 = .ok (.i2l, 1) := by decide +kernel
theorem dL_key_9 : decode cL_key 9 = .ok (.lastore, 1) := by decide +kernel
theorem dL_key_10 : decode cL_key 10 = .ok (.goto 11, 3) := by decide +kernel
theorem dL_key_13 : decode cL_key 13 = .ok (.astore 4, 2) := by decide +kernel
theorem dL_key_15 : decode cL_key 15 = .ok (.iconst 1, 1) := by decide +kernel
theorem dL_key_16 : decode cL_key 16 = .ok (.ireturn, 1) := by decide +kernel
theorem dL_key_17 : decode cL_key 17 = .ok (.astore 4, 2) := by decide +kernel
theorem dL_key_19 : decode cL_key 19 = .ok (.iconst 2, 1) := by decide +kernel
theorem dL_key_20 : decode cL_key 20 = .ok (.ireturn, 1) := by decide +kernel
theorem dL_key_21 : decode cL_key 21 = .ok (.iconst 0, 1) := by decide +kernel
theorem dL_key_22 : decode cL_key 22 = .ok (.ireturn, 1) := by decide +kernel
theorem dL_make_0 : decode cL_make 0 = .ok (.aload_n 0, 1) := by decide +kernel
theorem dL_make_1 : decode cL_make 1 = .ok (.iload_n 1, 1) := by decide +kernel
theorem dL_make_2 : decode cL_make 2 = .ok (.iload_n 2, 1) := by decide +kernel
theorem dL_make_3 : decode cL_make 3 = .ok (.iload_n 3, 1) := by decide +kernel
theorem dL_make_4 : decode cL_make 4 = .ok (.invokevirtual 17, 3) := by decide +kernel
theorem dL_make_7 : decode cL_make 7 = .ok (.goto 11, 3) := by decide +kernel
theorem dL_make_10 : decode cL_make 10 = .ok (.astore 4, 2) := by decide +kernel
theorem dL_make_12 : decode cL_make 12 = .ok (.iconst 1, 1) := by decide +kernel
theorem dL_make_13 : decode cL_make 13 = .ok (.ireturn, 1) := by decide +kernel
theorem dL_make_14 : decode cL_make 14 = .ok (.astore 4, 2) := by decide +kernel
theorem dL_make_16 : decode cL_make 16 = .ok (.iconst 2, 1) := by decide +kernel
theorem dL_make_17 : decode cL_make 17 = .ok (.ireturn, 1) := by decide +kernel
theorem dL_make_18 : decode cL_make 18 = .ok (.iconst 0, 1) := by decide +kernel
theorem dL_make_19 : decode cL_make 19 = .ok (.ireturn, 1) := by decide +kernel
theorem dL_set_0 : decode cL_set 0 = .ok (.aload_n 0, 1) := by decide +kernel
theorem dL_set_1 : decode cL_set 1 = .ok (.iload_n 1, 1) := by decide +kernel
theorem dL_set_2 : decode cL_set 2 = .ok (.lload_n 2, 1) := by decide +kernel
theorem dL_set_3 : decode cL_set 3 = .ok (.lload 4, 2) := by decide +kernel
theorem dL_set_5 : decode cL_set 5 = .ok (.invokevirtual 21, 3) := by decide +kernel
theorem dL_set_8 : decode cL_set 8 = .ok (.goto 7, 3) := by decide +kernel
theorem dL_set_11 : decode cL_set 11 = .ok (.astore 6, 2) := by decide +kernel
theorem dL_set_13 : decode cL_set 13 = .ok (.iconst 1, 1) := by decide +kernel
theorem dL_set_14 : decode cL_set 14 = .ok (.ireturn, 1) := by decide +kernel
theorem dL_set_15 : decode cL_set 15 = .ok (.iconst 0, 1) := by decide +kernel
theorem dL_set_16 : decode cL_set 16 = .ok (.ireturn, 1) := by decide +kernel
theorem dL_insert_0 : decode cL_insert 0 = .ok (.aload 5, 2) := by decide +kernel
theorem dL_insert_2 : decode cL_insert 2 = .ok (.iconst 0, 1) := by decide +kernel
theorem dL_insert_3 : decode cL_insert 3 = .ok (.aload_n 0, 1) := by decide +kernel
theorem dL_insert_4 : decode cL_insert 4 = .ok (.iload_n 1, 1) := by decide +kernel
theorem dL_insert_5 : decode cL_insert 5 = .ok (.iload_n 2, 1) := by decide +kernel
theorem dL_insert_6 : decode cL_insert 6 = .ok (.lload_n 3, 1) := by decide +kernel
theorem dL_insert_7 : decode cL_insert 7 = .ok (.invokevirtual 27, 3) := by decide +kernel
theorem dL_insert_10 : decode cL_insert 10 = .ok (.ifCond .eq 7, 3) := by decide +kernel
theorem dL_insert_13 : decode cL_insert 13 = .ok (.lconst 1, 1) := by decide +kernel
theorem dL_insert_14 : decode cL_insert 14 = .ok (.goto 4, 3) := by decide +kernel
theorem dL_insert_17 : decode cL_insert 17 = .ok (.lconst 0, 1) := by decide +kernel
theorem dL_insert_18 : decode cL_insert 18 = .ok (.lastore, 1) := by decide +kernel
theorem dL_insert_19 : decode cL_insert 19 = .ok (.goto 7, 3) := by decide +kernel
theorem dL_insert_22 : decode cL_insert 22 = .ok (.astore 6, 2) := by decide +kernel
theorem dL_insert_24 : decode cL_insert 24 = .ok (.iconst 1, 1) := by decide +kernel
theorem dL_insert_25 : decode cL_insert 25 = .ok (.ireturn, 1) := by decide +kernel
theorem dL_insert_26 : decode cL_insert 26 = .ok (.iconst 0, 1) := by decide +kernel
theorem dL_insert_27 : decode cL_insert 27 = .ok (.ireturn, 1) := by decide +kernel
theorem dL_change_0 : decode cL_change 0 = .ok (.aload 4, 2) := by decide +kernel
theorem dL_change_2 : decode cL_change 2 = .ok (.iconst 0, 1) := by decide +kernel
theorem dL_change_3 : decode cL_change 3 = .ok (.aload_n 0, 1) := by decide +kernel
theorem dL_change_4 : decode cL_change 4 = .ok (.iload_n 1, 1) := by decide +kernel
theorem dL_change_5 : decode cL_change 5 = .ok (.lload_n 2, 1) := by decide +kernel
theorem dL_change_6 : decode cL_change 6 = .ok (.invokevirtual 31, 3) := by decide +kernel
theorem dL_change_9 : decode cL_change 9 = .ok (.ifCond .eq 7, 3) := by decide +kernel
theorem dL_change_12 : decode cL_change 12 = .ok (.lconst 1, 1) := by decide +kernel
theorem dL_change_13 : decode cL_change 13 = .ok (.goto 4, 3) := by decide +kernel
theorem dL_change_16 : decode cL_change 16 = .ok (.lconst 0, 1) := by decide +kernel
theorem dL_change_17 : decode cL_change 17 = .ok (.lastore, 1) := by decide +kernel
theorem dL_change_18 : decode cL_change 18 = .ok (.goto 7, 3) := by decide +kernel
theorem dL_change_21 : decode cL_change 21 = .ok (.astore 5, 2) := by decide +kernel
theorem dL_change_23 : decode cL_change 23 = .ok (.iconst 1, 1) := by decide +kernel
theorem dL_change_24 : decode cL_change 24 = .ok (.ireturn, 1) := by decide +kernel
theorem dL_change_25 : decode cL_change 25 = .ok (.iconst 0, 1) := by decide +kernel
theorem dL_change_26 : decode cL_change 26 = .ok (.ireturn, 1) := by decide +kernel
theorem dL_remove_0 : decode cL_remove 0 = .ok (.aload_n 1, 1) := by decide +kernel
theorem dL_remove_1 : decode cL_remove 1 = .ok (.iconst 0, 1) := by decide +kernel
theorem dL_remove_2 : decode cL_remove 2 = .ok (.aload_n 0, 1) := by decide +kernel
theorem dL_remove_3 : decode cL_remove 3 = .ok (.invokevirtual 35, 3) := by decide +kernel
theorem dL_remove_6 : decode cL_remove 6 = .ok (.ifCond .eq 7, 3) := by decide +kernel
theorem dL_remove_9 : decode cL_remove 9 = .ok (.lconst 1, 1) := by decide +kernel
theorem dL_remove_10 : decode cL_remove 10 = .ok (.goto 4, 3) := by decide +kernel
theorem dL_remove_13 : decode cL_remove 13 = .ok (.lconst 0, 1) := by decide +kernel
theorem dL_remove_14 : decode cL_remove 14 = .ok (.lastore, 1) := by decide +kernel
theorem dL_remove_15 : decode cL_remove 15 = .ok (.goto 6, 3) := by decide +kernel
theorem dL_remove_18 : decode cL_remove 18 = .ok (.astore_n 2, 1) := by decide +kernel
theorem dL_remove_19 : decode cL_remove 19 = .ok (.iconst 1, 1) := by decide +kernel
theorem dL_remove_20 : decode cL_remove 20 = .ok (.ireturn, 1) := by decide +kernel
theorem dL_remove_21 : decode cL_remove 21 = .ok (.iconst 0, 1) := by decide +kernel
theorem dL_remove_22 : decode cL_remove 22 = .ok (.ireturn, 1) := by decide +kernel
theorem dL_match_0 : decode cL_match 0 = .ok (.aload_n 1, 1) := by decide +kernel
theorem dL_match_1 : decode cL_match 1 = .ok (.iconst 0, 1) := by decide +kernel
theorem dL_match_2 : decode cL_match 2 = .ok (.aload_n 0, 1) := by decide +kernel
theorem dL_match_3 : decode cL_match 3 = .ok (.invokevirtual 39, 3) := by decide +kernel
theorem dL_match_6 : decode cL_match 6 = .ok (.i2l, 1) := by decide +kernel
theorem dL_match_7 : decode cL_match 7 = .ok (.lastore, 1) := by decide +kernel
theorem dL_match_8 : decode cL_match 8 = .ok (.goto 6, 3) := by decide +kernel
theorem dL_match_11 : decode cL_match 11 = .ok (.astore_n 2, 1) := by decide +kernel
theorem dL_match_12 : decode cL_match 12 = .ok (.iconst 1, 1) := by decide +kernel
theorem dL_match_13 : decode cL_match 13 = .ok (.ireturn, 1) := by decide +kernel
theorem dL_match_14 : decode cL_match 14 = .ok (.iconst 0, 1) := by decide +kernel
theorem dL_match_15 : decode cL_match 15 = .ok (.ireturn, 1) := by decide +kernel
theorem dL_law_0 : decode cL_law 0 = .ok (.new 8, 3) := by decide +kernel
theorem dL_law_3 : decode cL_law 3 = .ok (.dup, 1) := by decide +kernel
theorem dL_law_4 : decode cL_law 4 = .ok (.invokespecial 43, 3) := by decide +kernel
theorem dL_law_7 : decode cL_law 7 = .ok (.astore_n 1, 1) := by decide +kernel
theorem dL_law_8 : decode cL_law 8 = .ok (.new 44, 3) := by decide +kernel
theorem dL_law_11 : decode cL_law 11 = .ok (.dup, 1) := by decide +kernel
theorem dL_law_12 : decode cL_law 12 = .ok (.invokespecial 46, 3) := by decide +kernel
theorem dL_law_15 : decode cL_law 15 = .ok (.astore_n 2, 1) := by decide +kernel
theorem dL_law_16 : decode cL_law 16 = .ok (.iconst 1, 1) := by decide +kernel
theorem dL_law_17 : decode cL_law 17 = .ok (.newarray .long, 2) := by decide +kernel
theorem dL_law_19 : decode cL_law 19 = .ok (.astore_n 3, 1) := by decide +kernel
theorem dL_law_20 : decode cL_law 20 = .ok (.iconst 0, 1) := by decide +kernel
theorem dL_law_21 : decode cL_law 21 = .ok (.istore 4, 2) := by decide +kernel
theorem dL_law_23 : decode cL_law 23 = .ok (.iload 4, 2) := by decide +kernel
theorem dL_law_25 : decode cL_law 25 = .ok (.aload_n 0, 1) := by decide +kernel
theorem dL_law_26 : decode cL_law 26 = .ok (.arraylength, 1) := by decide +kernel
theorem dL_law_27 : decode cL_law 27 = .ok (.bipush 6, 2) := by decide +kernel
theorem dL_law_29 : decode cL_law 29 = .ok (.isub, 1) := by decide +kernel
theorem dL_law_30 : decode cL_law 30 = .ok (.if_icmp .gt 712, 3) := by decide +kernel
theorem dL_law_33 : decode cL_law 33 = .ok (.aload_n 0, 1) := by decide +kernel
theorem dL_law_34 : decode cL_law 34 = .ok (.iload 4, 2) := by decide +kernel
theorem dL_law_36 : decode cL_law 36 = .ok (.iaload, 1) := by decide +kernel
theorem dL_law_37 : decode cL_law 37 = .ok (.bipush 15, 2) := by decide +kernel
theorem dL_law_39 : decode cL_law 39 = .ok (.iand, 1) := by decide +kernel
theorem dL_law_40 : decode cL_law 40 = .ok (.tableswitch 696 0 10 #[60, 71, 139, 199, 323, 442, 549, 600, 644, 658, 671], 60) := by decide +kernel
theorem dL_law_100 : decode cL_law 100 = .ok (.aload_n 1, 1) := by decide +kernel
theorem dL_law_101 : decode cL_law 101 = .ok (.invokevirtual 47, 3) := by decide +kernel
theorem dL_law_104 : decode cL_law 104 = .ok (.aload_n 2, 1) := by decide +kernel
theorem dL_law_105 : decode cL_law 105 = .ok (.invokevirtual 50, 3) := by decide +kernel
theorem dL_law_108 : decode cL_law 108 = .ok (.goto 628, 3) := by decide +kernel
theorem dL_law_111 : decode cL_law 111 = .ok (.aload_n 1, 1) := by decide +kernel
theorem dL_law_112 : decode cL_law 112 = .ok (.aload_n 0, 1) := by decide +kernel
theorem dL_law_113 : decode cL_law 113 = .ok (.iload 4, 2) := by decide +kernel
theorem dL_law_115 : decode cL_law 115 = .ok (.iconst 1, 1) := by decide +kernel
theorem dL_law_116 : decode cL_law 116 = .ok (.iadd, 1) := by decide +kernel
theorem dL_law_117 : decode cL_law 117 = .ok (.iaload, 1) := by decide +kernel
theorem dL_law_118 : decode cL_law 118 = .ok (.aload_n 0, 1) := by decide +kernel
theorem dL_law_119 : decode cL_law 119 = .ok (.iload 4, 2) := by decide +kernel
theorem dL_law_121 : decode cL_law 121 = .ok (.iconst 2, 1) := by decide +kernel
theorem dL_law_122 : decode cL_law 122 = .ok (.iadd, 1) := by decide +kernel
theorem dL_law_123 : decode cL_law 123 = .ok (.iaload, 1) := by decide +kernel
theorem dL_law_124 : decode cL_law 124 = .ok (.aload_n 3, 1) := by decide +kernel
theorem dL_law_125 : decode cL_law 125 = .ok (.invokestatic 51, 3) := by decide +kernel
theorem dL_law_128 : decode cL_law 128 = .ok (.istore 5, 2) := by decide +kernel
theorem dL_law_130 : decode cL_law 130 = .ok (.aload_n 2, 1) := by decide +kernel
theorem dL_law_131 : decode cL_law 131 = .ok (.aload_n 0, 1) := by decide +kernel
theorem dL_law_132 : decode cL_law 132 = .ok (.iload 4, 2) := by decide +kernel
theorem dL_law_134 : decode cL_law 134 = .ok (.iconst 1, 1) := by decide +kernel
theorem dL_law_135 : decode cL_law 135 = .ok (.iadd, 1) := by decide +kernel
theorem dL_law_136 : decode cL_law 136 = .ok (.iaload, 1) := by decide +kernel
theorem dL_law_137 : decode cL_law 137 = .ok (.aload_n 0, 1) := by decide +kernel
theorem dL_law_138 : decode cL_law 138 = .ok (.iload 4, 2) := by decide +kernel
theorem dL_law_140 : decode cL_law 140 = .ok (.iconst 2, 1) := by decide +kernel
theorem dL_law_141 : decode cL_law 141 = .ok (.iadd, 1) := by decide +kernel
theorem dL_law_142 : decode cL_law 142 = .ok (.iaload, 1) := by decide +kernel
theorem dL_law_143 : decode cL_law 143 = .ok (.invokevirtual 56, 3) := by decide +kernel
theorem dL_law_146 : decode cL_law 146 = .ok (.istore 6, 2) := by decide +kernel
theorem dL_law_148 : decode cL_law 148 = .ok (.aload_n 2, 1) := by decide +kernel
theorem dL_law_149 : decode cL_law 149 = .ok (.invokevirtual 57, 3) := by decide +kernel
theorem dL_law_152 : decode cL_law 152 = .ok (.iload 5, 2) := by decide +kernel
theorem dL_law_154 : decode cL_law 154 = .ok (.if_icmp .eq 5, 3) := by decide +kernel
theorem dL_law_157 : decode cL_law 157 = .ok (.iconst 0, 1) := by decide +kernel
theorem dL_law_158 : decode cL_law 158 = .ok (.ireturn, 1) := by decide +kernel
theorem dL_law_159 : decode cL_law 159 = .ok (.iload 5, 2) := by decide +kernel
theorem dL_law_161 : decode cL_law 161 = .ok (.ifCond .ne 15, 3) := by decide +kernel
theorem dL_law_164 : decode cL_law 164 = .ok (.aload_n 3, 1) := by decide +kernel
theorem dL_law_165 : decode cL_law 165 = .ok (.iconst 0, 1) := by decide +kernel
theorem dL_law_166 : decode cL_law 166 = .ok (.laload, 1) := by decide +kernel
theorem dL_law_167 : decode cL_law 167 = .ok (.iload 6, 2) := by decide +kernel
theorem dL_law_169 : decode cL_law 169 = .ok (.i2l, 1) := by decide +kernel
theorem dL_law_170 : decode cL_law 170 = .ok (.lcmp, 1) := by decide +kernel
theorem dL_law_171 : decode cL_law 171 = .ok (.ifCond .eq 5, 3) := by decide +kernel
theorem dL_law_174 : decode cL_law 174 = .ok (.iconst 0, 1) := by decide +kernel
theorem dL_law_175 : decode cL_law 175 = .ok (.ireturn, 1) := by decide +kernel
theorem dL_law_176 : decode cL_law 176 = .ok (.goto 560, 3) := by decide +kernel
theorem dL_law_179 : decode cL_law 179 = .ok (.aload_n 1, 1) := by decide +kernel
theorem dL_law_180 : decode cL_law 180 = .ok (.aload_n 0, 1) := by decide +kernel
theorem dL_law_181 : decode cL_law 181 = .ok (.iload 4, 2) := by decide +kernel
theorem dL_law_183 : decode cL_law 183 = .ok (.iconst 1, 1) := by decide +kernel
theorem dL_law_184 : decode cL_law 184 = .ok (.iadd, 1) := by decide +kernel
theorem dL_law_185 : decode cL_law 185 = .ok (.iaload, 1) := by decide +kernel
theorem dL_law_186 : decode cL_law 186 = .ok (.aload_n 0, 1) := by decide +kernel
theorem dL_law_187 : decode cL_law 187 = .ok (.iload 4, 2) := by decide +kernel
theorem dL_law_189 : decode cL_law 189 = .ok (.iconst 2, 1) := by decide +kernel
theorem dL_law_190 : decode cL_law 190 = .ok (.iadd, 1) := by decide +kernel
theorem dL_law_191 : decode cL_law 191 = .ok (.iaload, 1) := by decide +kernel
theorem dL_law_192 : decode cL_law 192 = .ok (.aload_n 0, 1) := by decide +kernel
theorem dL_law_193 : decode cL_law 193 = .ok (.iload 4, 2) := by decide +kernel
theorem dL_law_195 : decode cL_law 195 = .ok (.iconst 3, 1) := by decide +kernel
theorem dL_law_196 : decode cL_law 196 = .ok (.iadd, 1) := by decide +kernel
theorem dL_law_197 : decode cL_law 197 = .ok (.iaload, 1) := by decide +kernel
theorem dL_law_198 : decode cL_law 198 = .ok (.invokestatic 60, 3) := by decide +kernel
theorem dL_law_201 : decode cL_law 201 = .ok (.istore 5, 2) := by decide +kernel
theorem dL_law_203 : decode cL_law 203 = .ok (.aload_n 2, 1) := by decide +kernel
theorem dL_law_204 : decode cL_law 204 = .ok (.aload_n 0, 1) := by decide +kernel
theorem dL_law_205 : decode cL_law 205 = .ok (.iload 4, 2) := by decide +kernel
theorem dL_law_207 : decode cL_law 207 = .ok (.iconst 1, 1) := by decide +kernel
theorem dL_law_208 : decode cL_law 208 = .ok (.iadd, 1) := by decide +kernel
theorem dL_law_209 : decode cL_law 209 = .ok (.iaload, 1) := by decide +kernel
theorem dL_law_210 : decode cL_law 210 = .ok (.aload_n 0, 1) := by decide +kernel
theorem dL_law_211 : decode cL_law 211 = .ok (.iload 4, 2) := by decide +kernel
theorem dL_law_213 : decode cL_law 213 = .ok (.iconst 2, 1) := by decide +kernel
theorem dL_law_214 : decode cL_law 214 = .ok (.iadd, 1) := by decide +kernel
theorem dL_law_215 : decode cL_law 215 = .ok (.iaload, 1) := by decide +kernel
theorem dL_law_216 : decode cL_law 216 = .ok (.aload_n 0, 1) := by decide +kernel
theorem dL_law_217 : decode cL_law 217 = .ok (.iload 4, 2) := by decide +kernel
theorem dL_law_219 : decode cL_law 219 = .ok (.iconst 3, 1) := by decide +kernel
theorem dL_law_220 : decode cL_law 220 = .ok (.iadd, 1) := by decide +kernel
theorem dL_law_221 : decode cL_law 221 = .ok (.iaload, 1) := by decide +kernel
theorem dL_law_222 : decode cL_law 222 = .ok (.invokevirtual 63, 3) := by decide +kernel
theorem dL_law_225 : decode cL_law 225 = .ok (.aload_n 2, 1) := by decide +kernel
theorem dL_law_226 : decode cL_law 226 = .ok (.invokevirtual 57, 3) := by decide +kernel
theorem dL_law_229 : decode cL_law 229 = .ok (.iload 5, 2) := by decide +kernel
theorem dL_law_231 : decode cL_law 231 = .ok (.if_icmp .eq 5, 3) := by decide +kernel
theorem dL_law_234 : decode cL_law 234 = .ok (.iconst 0, 1) := by decide +kernel
theorem dL_law_235 : decode cL_law 235 = .ok (.ireturn, 1) := by decide +kernel
theorem dL_law_236 : decode cL_law 236 = .ok (.goto 500, 3) := by decide +kernel
theorem dL_law_239 : decode cL_law 239 = .ok (.aload_n 1, 1) := by decide +kernel
theorem dL_law_240 : decode cL_law 240 = .ok (.aload_n 0, 1) := by decide +kernel
theorem dL_law_241 : decode cL_law 241 = .ok (.iload 4, 2) := by decide +kernel
theorem dL_law_243 : decode cL_law 243 = .ok (.iconst 1, 1) := by decide +kernel
theorem dL_law_244 : decode cL_law 244 = .ok (.iadd, 1) := by decide +kernel
theorem dL_law_245 : decode cL_law 245 = .ok (.iaload, 1) := by decide +kernel
theorem dL_law_246 : decode cL_law 246 = .ok (.aload_n 0, 1) := by decide +kernel
theorem dL_law_247 : decode cL_law 247 = .ok (.iload 4, 2) := by decide +kernel
theorem dL_law_249 : decode cL_law 249 = .ok (.iconst 2, 1) := by decide +kernel
theorem dL_law_250 : decode cL_law 250 = .ok (.iadd, 1) := by decide +kernel
theorem dL_law_251 : decode cL_law 251 = .ok (.iaload, 1) := by decide +kernel
theorem dL_law_252 : decode cL_law 252 = .ok (.i2l, 1) := by decide +kernel
theorem dL_law_253 : decode cL_law 253 = .ok (.bipush 32, 2) := by decide +kernel
theorem dL_law_255 : decode cL_law 255 = .ok (.lshl, 1) := by decide +kernel
theorem dL_law_256 : decode cL_law 256 = .ok (.aload_n 0, 1) := by decide +kernel
theorem dL_law_257 : decode cL_law 257 = .ok (.iload 4, 2) := by decide +kernel
theorem dL_law_259 : decode cL_law 259 = .ok (.iconst 3, 1) := by decide +kernel
theorem dL_law_260 : decode cL_law 260 = .ok (.iadd, 1) := by decide +kernel
theorem dL_law_261 : decode cL_law 261 = .ok (.iaload, 1) := by decide +kernel
theorem dL_law_262 : decode cL_law 262 = .ok (.i2l, 1) := by decide +kernel
theorem dL_law_263 : decode cL_law 263 = .ok (.ldc2_w 64, 3) := by decide +kernel
theorem dL_law_266 : decode cL_law 266 = .ok (.land, 1) := by decide +kernel
theorem dL_law_267 : decode cL_law 267 = .ok (.lor, 1) := by decide +kernel
theorem dL_law_268 : decode cL_law 268 = .ok (.aload_n 0, 1) := by decide +kernel
theorem dL_law_269 : decode cL_law 269 = .ok (.iload 4, 2) := by decide +kernel
theorem dL_law_271 : decode cL_law 271 = .ok (.iconst 4, 1) := by decide +kernel
theorem dL_law_272 : decode cL_law 272 = .ok (.iadd, 1) := by decide +kernel
theorem dL_law_273 : decode cL_law 273 = .ok (.iaload, 1) := by decide +kernel
theorem dL_law_274 : decode cL_law 274 = .ok (.i2l, 1) := by decide +kernel
theorem dL_law_275 : decode cL_law 275 = .ok (.bipush 32, 2) := by decide +kernel
theorem dL_law_277 : decode cL_law 277 = .ok (.lshl, 1) := by decide +kernel
theorem dL_law_278 : decode cL_law 278 = .ok (.aload_n 0, 1) := by decide +kernel
theorem dL_law_279 : decode cL_law 279 = .ok (.iload 4, 2) := by decide +kernel
theorem dL_law_281 : decode cL_law 281 = .ok (.iconst 5, 1) := by decide +kernel
theorem dL_law_282 : decode cL_law 282 = .ok (.iadd, 1) := by decide +kernel
theorem dL_law_283 : decode cL_law 283 = .ok (.iaload, 1) := by decide +kernel
theorem dL_law_284 : decode cL_law 284 = .ok (.i2l, 1) := by decide +kernel
theorem dL_law_285 : decode cL_law 285 = .ok (.ldc2_w 64, 3) := by decide +kernel
theorem dL_law_288 : decode cL_law 288 = .ok (.land, 1) := by decide +kernel
theorem dL_law_289 : decode cL_law 289 = .ok (.lor, 1) := by decide +kernel
theorem dL_law_290 : decode cL_law 290 = .ok (.invokestatic 66, 3) := by decide +kernel
theorem dL_law_293 : decode cL_law 293 = .ok (.istore 5, 2) := by decide +kernel
theorem dL_law_295 : decode cL_law 295 = .ok (.aload_n 2, 1) := by decide +kernel
theorem dL_law_296 : decode cL_law 296 = .ok (.aload_n 0, 1) := by decide +kernel
theorem dL_law_297 : decode cL_law 297 = .ok (.iload 4, 2) := by decide +kernel
theorem dL_law_299 : decode cL_law 299 = .ok (.iconst 1, 1) := by decide +kernel
theorem dL_law_300 : decode cL_law 300 = .ok (.iadd, 1) := by decide +kernel
theorem dL_law_301 : decode cL_law 301 = .ok (.iaload, 1) := by decide +kernel
theorem dL_law_302 : decode cL_law 302 = .ok (.aload_n 0, 1) := by decide +kernel
theorem dL_law_303 : decode cL_law 303 = .ok (.iload 4, 2) := by decide +kernel
theorem dL_law_305 : decode cL_law 305 = .ok (.iconst 2, 1) := by decide +kernel
theorem dL_law_306 : decode cL_law 306 = .ok (.iadd, 1) := by decide +kernel
theorem dL_law_307 : decode cL_law 307 = .ok (.iaload, 1) := by decide +kernel
theorem dL_law_308 : decode cL_law 308 = .ok (.i2l, 1) := by decide +kernel
theorem dL_law_309 : decode cL_law 309 = .ok (.bipush 32, 2) := by decide +kernel
theorem dL_law_311 : decode cL_law 311 = .ok (.lshl, 1) := by decide +kernel
theorem dL_law_312 : decode cL_law 312 = .ok (.aload_n 0, 1) := by decide +kernel
theorem dL_law_313 : decode cL_law 313 = .ok (.iload 4, 2) := by decide +kernel
theorem dL_law_315 : decode cL_law 315 = .ok (.iconst 3, 1) := by decide +kernel
theorem dL_law_316 : decode cL_law 316 = .ok (.iadd, 1) := by decide +kernel
theorem dL_law_317 : decode cL_law 317 = .ok (.iaload, 1) := by decide +kernel
theorem dL_law_318 : decode cL_law 318 = .ok (.i2l, 1) := by decide +kernel
theorem dL_law_319 : decode cL_law 319 = .ok (.ldc2_w 64, 3) := by decide +kernel
theorem dL_law_322 : decode cL_law 322 = .ok (.land, 1) := by decide +kernel
theorem dL_law_323 : decode cL_law 323 = .ok (.lor, 1) := by decide +kernel
theorem dL_law_324 : decode cL_law 324 = .ok (.aload_n 0, 1) := by decide +kernel
theorem dL_law_325 : decode cL_law 325 = .ok (.iload 4, 2) := by decide +kernel
theorem dL_law_327 : decode cL_law 327 = .ok (.iconst 4, 1) := by decide +kernel
theorem dL_law_328 : decode cL_law 328 = .ok (.iadd, 1) := by decide +kernel
theorem dL_law_329 : decode cL_law 329 = .ok (.iaload, 1) := by decide +kernel
theorem dL_law_330 : decode cL_law 330 = .ok (.i2l, 1) := by decide +kernel
theorem dL_law_331 : decode cL_law 331 = .ok (.bipush 32, 2) := by decide +kernel
theorem dL_law_333 : decode cL_law 333 = .ok (.lshl, 1) := by decide +kernel
theorem dL_law_334 : decode cL_law 334 = .ok (.aload_n 0, 1) := by decide +kernel
theorem dL_law_335 : decode cL_law 335 = .ok (.iload 4, 2) := by decide +kernel
theorem dL_law_337 : decode cL_law 337 = .ok (.iconst 5, 1) := by decide +kernel
theorem dL_law_338 : decode cL_law 338 = .ok (.iadd, 1) := by decide +kernel
theorem dL_law_339 : decode cL_law 339 = .ok (.iaload, 1) := by decide +kernel
theorem dL_law_340 : decode cL_law 340 = .ok (.i2l, 1) := by decide +kernel
theorem dL_law_341 : decode cL_law 341 = .ok (.ldc2_w 64, 3) := by decide +kernel
theorem dL_law_344 : decode cL_law 344 = .ok (.land, 1) := by decide +kernel
theorem dL_law_345 : decode cL_law 345 = .ok (.lor, 1) := by decide +kernel
theorem dL_law_346 : decode cL_law 346 = .ok (.invokevirtual 69, 3) := by decide +kernel
theorem dL_law_349 : decode cL_law 349 = .ok (.aload_n 2, 1) := by decide +kernel
theorem dL_law_350 : decode cL_law 350 = .ok (.invokevirtual 57, 3) := by decide +kernel
theorem dL_law_353 : decode cL_law 353 = .ok (.iload 5, 2) := by decide +kernel
theorem dL_law_355 : decode cL_law 355 = .ok (.if_icmp .eq 5, 3) := by decide +kernel
theorem dL_law_358 : decode cL_law 358 = .ok (.iconst 0, 1) := by decide +kernel
theorem dL_law_359 : decode cL_law 359 = .ok (.ireturn, 1) := by decide +kernel
theorem dL_law_360 : decode cL_law 360 = .ok (.goto 376, 3) := by decide +kernel
theorem dL_law_363 : decode cL_law 363 = .ok (.aload_n 1, 1) := by decide +kernel
theorem dL_law_364 : decode cL_law 364 = .ok (.aload_n 0, 1) := by decide +kernel
theorem dL_law_365 : decode cL_law 365 = .ok (.iload 4, 2) := by decide +kernel
theorem dL_law_367 : decode cL_law 367 = .ok (.iconst 1, 1) := by decide +kernel
theorem dL_law_368 : decode cL_law 368 = .ok (.iadd, 1) := by decide +kernel
theorem dL_law_369 : decode cL_law 369 = .ok (.iaload, 1) := by decide +kernel
theorem dL_law_370 : decode cL_law 370 = .ok (.aload_n 0, 1) := by decide +kernel
theorem dL_law_371 : decode cL_law 371 = .ok (.iload 4, 2) := by decide +kernel
theorem dL_law_373 : decode cL_law 373 = .ok (.iconst 2, 1) := by decide +kernel
theorem dL_law_374 : decode cL_law 374 = .ok (.iadd, 1) := by decide +kernel
theorem dL_law_375 : decode cL_law 375 = .ok (.iaload, 1) := by decide +kernel
theorem dL_law_376 : decode cL_law 376 = .ok (.aload_n 0, 1) := by decide +kernel
theorem dL_law_377 : decode cL_law 377 = .ok (.iload 4, 2) := by decide +kernel
theorem dL_law_379 : decode cL_law 379 = .ok (.iconst 3, 1) := by decide +kernel
theorem dL_law_380 : decode cL_law 380 = .ok (.iadd, 1) := by decide +kernel
theorem dL_law_381 : decode cL_law 381 = .ok (.iaload, 1) := by decide +kernel
theorem dL_law_382 : decode cL_law 382 = .ok (.i2l, 1) := by decide +kernel
theorem dL_law_383 : decode cL_law 383 = .ok (.bipush 32, 2) := by decide +kernel
theorem dL_law_385 : decode cL_law 385 = .ok (.lshl, 1) := by decide +kernel
theorem dL_law_386 : decode cL_law 386 = .ok (.aload_n 0, 1) := by decide +kernel
theorem dL_law_387 : decode cL_law 387 = .ok (.iload 4, 2) := by decide +kernel
theorem dL_law_389 : decode cL_law 389 = .ok (.iconst 4, 1) := by decide +kernel
theorem dL_law_390 : decode cL_law 390 = .ok (.iadd, 1) := by decide +kernel
theorem dL_law_391 : decode cL_law 391 = .ok (.iaload, 1) := by decide +kernel
theorem dL_law_392 : decode cL_law 392 = .ok (.i2l, 1) := by decide +kernel
theorem dL_law_393 : decode cL_law 393 = .ok (.ldc2_w 64, 3) := by decide +kernel
theorem dL_law_396 : decode cL_law 396 = .ok (.land, 1) := by decide +kernel
theorem dL_law_397 : decode cL_law 397 = .ok (.lor, 1) := by decide +kernel
theorem dL_law_398 : decode cL_law 398 = .ok (.aload_n 3, 1) := by decide +kernel
theorem dL_law_399 : decode cL_law 399 = .ok (.invokestatic 70, 3) := by decide +kernel
theorem dL_law_402 : decode cL_law 402 = .ok (.istore 5, 2) := by decide +kernel
theorem dL_law_404 : decode cL_law 404 = .ok (.aload_n 2, 1) := by decide +kernel
theorem dL_law_405 : decode cL_law 405 = .ok (.aload_n 0, 1) := by decide +kernel
theorem dL_law_406 : decode cL_law 406 = .ok (.iload 4, 2) := by decide +kernel
theorem dL_law_408 : decode cL_law 408 = .ok (.iconst 1, 1) := by decide +kernel
theorem dL_law_409 : decode cL_law 409 = .ok (.iadd, 1) := by decide +kernel
theorem dL_law_410 : decode cL_law 410 = .ok (.iaload, 1) := by decide +kernel
theorem dL_law_411 : decode cL_law 411 = .ok (.aload_n 0, 1) := by decide +kernel
theorem dL_law_412 : decode cL_law 412 = .ok (.iload 4, 2) := by decide +kernel
theorem dL_law_414 : decode cL_law 414 = .ok (.iconst 2, 1) := by decide +kernel
theorem dL_law_415 : decode cL_law 415 = .ok (.iadd, 1) := by decide +kernel
theorem dL_law_416 : decode cL_law 416 = .ok (.iaload, 1) := by decide +kernel
theorem dL_law_417 : decode cL_law 417 = .ok (.aload_n 0, 1) := by decide +kernel
theorem dL_law_418 : decode cL_law 418 = .ok (.iload 4, 2) := by decide +kernel
theorem dL_law_420 : decode cL_law 420 = .ok (.iconst 3, 1) := by decide +kernel
theorem dL_law_421 : decode cL_law 421 = .ok (.iadd, 1) := by decide +kernel
theorem dL_law_422 : decode cL_law 422 = .ok (.iaload, 1) := by decide +kernel
theorem dL_law_423 : decode cL_law 423 = .ok (.i2l, 1) := by decide +kernel
theorem dL_law_424 : decode cL_law 424 = .ok (.bipush 32, 2) := by decide +kernel
theorem dL_law_426 : decode cL_law 426 = .ok (.lshl, 1) := by decide +kernel
theorem dL_law_427 : decode cL_law 427 = .ok (.aload_n 0, 1) := by decide +kernel
theorem dL_law_428 : decode cL_law 428 = .ok (.iload 4, 2) := by decide +kernel
theorem dL_law_430 : decode cL_law 430 = .ok (.iconst 4, 1) := by decide +kernel
theorem dL_law_431 : decode cL_law 431 = .ok (.iadd, 1) := by decide +kernel
theorem dL_law_432 : decode cL_law 432 = .ok (.iaload, 1) := by decide +kernel
theorem dL_law_433 : decode cL_law 433 = .ok (.i2l, 1) := by decide +kernel
theorem dL_law_434 : decode cL_law 434 = .ok (.ldc2_w 64, 3) := by decide +kernel
theorem dL_law_437 : decode cL_law 437 = .ok (.land, 1) := by decide +kernel
theorem dL_law_438 : decode cL_law 438 = .ok (.lor, 1) := by decide +kernel
theorem dL_law_439 : decode cL_law 439 = .ok (.invokevirtual 73, 3) := by decide +kernel
theorem dL_law_442 : decode cL_law 442 = .ok (.istore 6, 2) := by decide +kernel
theorem dL_law_444 : decode cL_law 444 = .ok (.aload_n 2, 1) := by decide +kernel
theorem dL_law_445 : decode cL_law 445 = .ok (.invokevirtual 57, 3) := by decide +kernel
theorem dL_law_448 : decode cL_law 448 = .ok (.iload 5, 2) := by decide +kernel
theorem dL_law_450 : decode cL_law 450 = .ok (.if_icmp .eq 5, 3) := by decide +kernel
theorem dL_law_453 : decode cL_law 453 = .ok (.iconst 0, 1) := by decide +kernel
theorem dL_law_454 : decode cL_law 454 = .ok (.ireturn, 1) := by decide +kernel
theorem dL_law_455 : decode cL_law 455 = .ok (.iload 5, 2) := by decide +kernel
theorem dL_law_457 : decode cL_law 457 = .ok (.ifCond .ne 22, 3) := by decide +kernel
theorem dL_law_460 : decode cL_law 460 = .ok (.aload_n 3, 1) := by decide +kernel
theorem dL_law_461 : decode cL_law 461 = .ok (.iconst 0, 1) := by decide +kernel
theorem dL_law_462 : decode cL_law 462 = .ok (.laload, 1) := by decide +kernel
theorem dL_law_463 : decode cL_law 463 = .ok (.iload 6, 2) := by decide +kernel
theorem dL_law_465 : decode cL_law 465 = .ok (.ifCond .eq 7, 3) := by decide +kernel
theorem dL_law_468 : decode cL_law 468 = .ok (.lconst 1, 1) := by decide +kernel
theorem dL_law_469 : decode cL_law 469 = .ok (.goto 4, 3) := by decide +kernel
theorem dL_law_472 : decode cL_law 472 = .ok (.lconst 0, 1) := by decide +kernel
theorem dL_law_473 : decode cL_law 473 = .ok (.lcmp, 1) := by decide +kernel
theorem dL_law_474 : decode cL_law 474 = .ok (.ifCond .eq 5, 3) := by decide +kernel
theorem dL_law_477 : decode cL_law 477 = .ok (.iconst 0, 1) := by decide +kernel
theorem dL_law_478 : decode cL_law 478 = .ok (.ireturn, 1) := by decide +kernel
theorem dL_law_479 : decode cL_law 479 = .ok (.goto 257, 3) := by decide +kernel
theorem dL_law_482 : decode cL_law 482 = .ok (.aload_n 1, 1) := by decide +kernel
theorem dL_law_483 : decode cL_law 483 = .ok (.aload_n 0, 1) := by decide +kernel
theorem dL_law_484 : decode cL_law 484 = .ok (.iload 4, 2) := by decide +kernel
theorem dL_law_486 : decode cL_law 486 = .ok (.iconst 1, 1) := by decide +kernel
theorem dL_law_487 : decode cL_law 487 = .ok (.iadd, 1) := by decide +kernel
theorem dL_law_488 : decode cL_law 488 = .ok (.iaload, 1) := by decide +kernel
theorem dL_law_489 : decode cL_law 489 = .ok (.aload_n 0, 1) := by decide +kernel
theorem dL_law_490 : decode cL_law 490 = .ok (.iload 4, 2) := by decide +kernel
theorem dL_law_492 : decode cL_law 492 = .ok (.iconst 2, 1) := by decide +kernel
theorem dL_law_493 : decode cL_law 493 = .ok (.iadd, 1) := by decide +kernel
theorem dL_law_494 : decode cL_law 494 = .ok (.iaload, 1) := by decide +kernel
theorem dL_law_495 : decode cL_law 495 = .ok (.i2l, 1) := by decide +kernel
theorem dL_law_496 : decode cL_law 496 = .ok (.bipush 32, 2) := by decide +kernel
theorem dL_law_498 : decode cL_law 498 = .ok (.lshl, 1) := by decide +kernel
theorem dL_law_499 : decode cL_law 499 = .ok (.aload_n 0, 1) := by decide +kernel
theorem dL_law_500 : decode cL_law 500 = .ok (.iload 4, 2) := by decide +kernel
theorem dL_law_502 : decode cL_law 502 = .ok (.iconst 3, 1) := by decide +kernel
theorem dL_law_503 : decode cL_law 503 = .ok (.iadd, 1) := by decide +kernel
theorem dL_law_504 : decode cL_law 504 = .ok (.iaload, 1) := by decide +kernel
theorem dL_law_505 : decode cL_law 505 = .ok (.i2l, 1) := by decide +kernel
theorem dL_law_506 : decode cL_law 506 = .ok (.ldc2_w 64, 3) := by decide +kernel
theorem dL_law_509 : decode cL_law 509 = .ok (.land, 1) := by decide +kernel
theorem dL_law_510 : decode cL_law 510 = .ok (.lor, 1) := by decide +kernel
theorem dL_law_511 : decode cL_law 511 = .ok (.aload_n 3, 1) := by decide +kernel
theorem dL_law_512 : decode cL_law 512 = .ok (.invokestatic 74, 3) := by decide +kernel
theorem dL_law_515 : decode cL_law 515 = .ok (.istore 5, 2) := by decide +kernel
theorem dL_law_517 : decode cL_law 517 = .ok (.aload_n 2, 1) := by decide +kernel
theorem dL_law_518 : decode cL_law 518 = .ok (.aload_n 0, 1) := by decide +kernel
theorem dL_law_519 : decode cL_law 519 = .ok (.iload 4, 2) := by decide +kernel
theorem dL_law_521 : decode cL_law 521 = .ok (.iconst 1, 1) := by decide +kernel
theorem dL_law_522 : decode cL_law 522 = .ok (.iadd, 1) := by decide +kernel
theorem dL_law_523 : decode cL_law 523 = .ok (.iaload, 1) := by decide +kernel
theorem dL_law_524 : decode cL_law 524 = .ok (.aload_n 0, 1) := by decide +kernel
theorem dL_law_525 : decode cL_law 525 = .ok (.iload 4, 2) := by decide +kernel
theorem dL_law_527 : decode cL_law 527 = .ok (.iconst 2, 1) := by decide +kernel
theorem dL_law_528 : decode cL_law 528 = .ok (.iadd, 1) := by decide +kernel
theorem dL_law_529 : decode cL_law 529 = .ok (.iaload, 1) := by decide +kernel
theorem dL_law_530 : decode cL_law 530 = .ok (.i2l, 1) := by decide +kernel
theorem dL_law_531 : decode cL_law 531 = .ok (.bipush 32, 2) := by decide +kernel
theorem dL_law_533 : decode cL_law 533 = .ok (.lshl, 1) := by decide +kernel
theorem dL_law_534 : decode cL_law 534 = .ok (.aload_n 0, 1) := by decide +kernel
theorem dL_law_535 : decode cL_law 535 = .ok (.iload 4, 2) := by decide +kernel
theorem dL_law_537 : decode cL_law 537 = .ok (.iconst 3, 1) := by decide +kernel
theorem dL_law_538 : decode cL_law 538 = .ok (.iadd, 1) := by decide +kernel
theorem dL_law_539 : decode cL_law 539 = .ok (.iaload, 1) := by decide +kernel
theorem dL_law_540 : decode cL_law 540 = .ok (.i2l, 1) := by decide +kernel
theorem dL_law_541 : decode cL_law 541 = .ok (.ldc2_w 64, 3) := by decide +kernel
theorem dL_law_544 : decode cL_law 544 = .ok (.land, 1) := by decide +kernel
theorem dL_law_545 : decode cL_law 545 = .ok (.lor, 1) := by decide +kernel
theorem dL_law_546 : decode cL_law 546 = .ok (.invokevirtual 77, 3) := by decide +kernel
theorem dL_law_549 : decode cL_law 549 = .ok (.istore 6, 2) := by decide +kernel
theorem dL_law_551 : decode cL_law 551 = .ok (.aload_n 2, 1) := by decide +kernel
theorem dL_law_552 : decode cL_law 552 = .ok (.invokevirtual 57, 3) := by decide +kernel
theorem dL_law_555 : decode cL_law 555 = .ok (.iload 5, 2) := by decide +kernel
theorem dL_law_557 : decode cL_law 557 = .ok (.if_icmp .eq 5, 3) := by decide +kernel
theorem dL_law_560 : decode cL_law 560 = .ok (.iconst 0, 1) := by decide +kernel
theorem dL_law_561 : decode cL_law 561 = .ok (.ireturn, 1) := by decide +kernel
theorem dL_law_562 : decode cL_law 562 = .ok (.iload 5, 2) := by decide +kernel
theorem dL_law_564 : decode cL_law 564 = .ok (.ifCond .ne 22, 3) := by decide +kernel
theorem dL_law_567 : decode cL_law 567 = .ok (.aload_n 3, 1) := by decide +kernel
theorem dL_law_568 : decode cL_law 568 = .ok (.iconst 0, 1) := by decide +kernel
theorem dL_law_569 : decode cL_law 569 = .ok (.laload, 1) := by decide +kernel
theorem dL_law_570 : decode cL_law 570 = .ok (.iload 6, 2) := by decide +kernel
theorem dL_law_572 : decode cL_law 572 = .ok (.ifCond .eq 7, 3) := by decide +kernel
theorem dL_law_575 : decode cL_law 575 = .ok (.lconst 1, 1) := by decide +kernel
theorem dL_law_576 : decode cL_law 576 = .ok (.goto 4, 3) := by decide +kernel
theorem dL_law_579 : decode cL_law 579 = .ok (.lconst 0, 1) := by decide +kernel
theorem dL_law_580 : decode cL_law 580 = .ok (.lcmp, 1) := by decide +kernel
theorem dL_law_581 : decode cL_law 581 = .ok (.ifCond .eq 5, 3) := by decide +kernel
theorem dL_law_584 : decode cL_law 584 = .ok (.iconst 0, 1) := by decide +kernel
theorem dL_law_585 : decode cL_law 585 = .ok (.ireturn, 1) := by decide +kernel
theorem dL_law_586 : decode cL_law 586 = .ok (.goto 150, 3) := by decide +kernel
theorem dL_law_589 : decode cL_law 589 = .ok (.aload_n 1, 1) := by decide +kernel
theorem dL_law_590 : decode cL_law 590 = .ok (.aload_n 3, 1) := by decide +kernel
theorem dL_law_591 : decode cL_law 591 = .ok (.invokestatic 78, 3) := by decide +kernel
theorem dL_law_594 : decode cL_law 594 = .ok (.istore 5, 2) := by decide +kernel
theorem dL_law_596 : decode cL_law 596 = .ok (.aload_n 2, 1) := by decide +kernel
theorem dL_law_597 : decode cL_law 597 = .ok (.invokevirtual 81, 3) := by decide +kernel
theorem dL_law_600 : decode cL_law 600 = .ok (.istore 6, 2) := by decide +kernel
theorem dL_law_602 : decode cL_law 602 = .ok (.aload_n 2, 1) := by decide +kernel
theorem dL_law_603 : decode cL_law 603 = .ok (.invokevirtual 57, 3) := by decide +kernel
theorem dL_law_606 : decode cL_law 606 = .ok (.iload 5, 2) := by decide +kernel
theorem dL_law_608 : decode cL_law 608 = .ok (.if_icmp .eq 5, 3) := by decide +kernel
theorem dL_law_611 : decode cL_law 611 = .ok (.iconst 0, 1) := by decide +kernel
theorem dL_law_612 : decode cL_law 612 = .ok (.ireturn, 1) := by decide +kernel
theorem dL_law_613 : decode cL_law 613 = .ok (.iload 5, 2) := by decide +kernel
theorem dL_law_615 : decode cL_law 615 = .ok (.ifCond .ne 22, 3) := by decide +kernel
theorem dL_law_618 : decode cL_law 618 = .ok (.aload_n 3, 1) := by decide +kernel
theorem dL_law_619 : decode cL_law 619 = .ok (.iconst 0, 1) := by decide +kernel
theorem dL_law_620 : decode cL_law 620 = .ok (.laload, 1) := by decide +kernel
theorem dL_law_621 : decode cL_law 621 = .ok (.iload 6, 2) := by decide +kernel
theorem dL_law_623 : decode cL_law 623 = .ok (.ifCond .eq 7, 3) := by decide +kernel
theorem dL_law_626 : decode cL_law 626 = .ok (.lconst 1, 1) := by decide +kernel
theorem dL_law_627 : decode cL_law 627 = .ok (.goto 4, 3) := by decide +kernel
theorem dL_law_630 : decode cL_law 630 = .ok (.lconst 0, 1) := by decide +kernel
theorem dL_law_631 : decode cL_law 631 = .ok (.lcmp, 1) := by decide +kernel
theorem dL_law_632 : decode cL_law 632 = .ok (.ifCond .eq 5, 3) := by decide +kernel
theorem dL_law_635 : decode cL_law 635 = .ok (.iconst 0, 1) := by decide +kernel
theorem dL_law_636 : decode cL_law 636 = .ok (.ireturn, 1) := by decide +kernel
theorem dL_law_637 : decode cL_law 637 = .ok (.goto 99, 3) := by decide +kernel
theorem dL_law_640 : decode cL_law 640 = .ok (.aload_n 1, 1) := by decide +kernel
theorem dL_law_641 : decode cL_law 641 = .ok (.aload_n 3, 1) := by decide +kernel
theorem dL_law_642 : decode cL_law 642 = .ok (.invokestatic 82, 3) := by decide +kernel
theorem dL_law_645 : decode cL_law 645 = .ok (.istore 5, 2) := by decide +kernel
theorem dL_law_647 : decode cL_law 647 = .ok (.aload_n 2, 1) := by decide +kernel
theorem dL_law_648 : decode cL_law 648 = .ok (.invokevirtual 84, 3) := by decide +kernel
theorem dL_law_651 : decode cL_law 651 = .ok (.istore 6, 2) := by decide +kernel
theorem dL_law_653 : decode cL_law 653 = .ok (.aload_n 2, 1) := by decide +kernel
theorem dL_law_654 : decode cL_law 654 = .ok (.invokevirtual 57, 3) := by decide +kernel
theorem dL_law_657 : decode cL_law 657 = .ok (.iload 5, 2) := by decide +kernel
theorem dL_law_659 : decode cL_law 659 = .ok (.if_icmp .eq 5, 3) := by decide +kernel
theorem dL_law_662 : decode cL_law 662 = .ok (.iconst 0, 1) := by decide +kernel
theorem dL_law_663 : decode cL_law 663 = .ok (.ireturn, 1) := by decide +kernel
theorem dL_law_664 : decode cL_law 664 = .ok (.iload 5, 2) := by decide +kernel
theorem dL_law_666 : decode cL_law 666 = .ok (.ifCond .ne 15, 3) := by decide +kernel
theorem dL_law_669 : decode cL_law 669 = .ok (.aload_n 3, 1) := by decide +kernel
theorem dL_law_670 : decode cL_law 670 = .ok (.iconst 0, 1) := by decide +kernel
theorem dL_law_671 : decode cL_law 671 = .ok (.laload, 1) := by decide +kernel
theorem dL_law_672 : decode cL_law 672 = .ok (.iload 6, 2) := by decide +kernel
theorem dL_law_674 : decode cL_law 674 = .ok (.i2l, 1) := by decide +kernel
theorem dL_law_675 : decode cL_law 675 = .ok (.lcmp, 1) := by decide +kernel
theorem dL_law_676 : decode cL_law 676 = .ok (.ifCond .eq 5, 3) := by decide +kernel
theorem dL_law_679 : decode cL_law 679 = .ok (.iconst 0, 1) := by decide +kernel
theorem dL_law_680 : decode cL_law 680 = .ok (.ireturn, 1) := by decide +kernel
theorem dL_law_681 : decode cL_law 681 = .ok (.goto 55, 3) := by decide +kernel
theorem dL_law_684 : decode cL_law 684 = .ok (.aload_n 1, 1) := by decide +kernel
theorem dL_law_685 : decode cL_law 685 = .ok (.invokevirtual 85, 3) := by decide +kernel
theorem dL_law_688 : decode cL_law 688 = .ok (.aload_n 2, 1) := by decide +kernel
theorem dL_law_689 : decode cL_law 689 = .ok (.invokevirtual 89, 3) := by decide +kernel
theorem dL_law_692 : decode cL_law 692 = .ok (.lcmp, 1) := by decide +kernel
theorem dL_law_693 : decode cL_law 693 = .ok (.ifCond .eq 43, 3) := by decide +kernel
theorem dL_law_696 : decode cL_law 696 = .ok (.iconst 0, 1) := by decide +kernel
theorem dL_law_697 : decode cL_law 697 = .ok (.ireturn, 1) := by decide +kernel
theorem dL_law_698 : decode cL_law 698 = .ok (.aload_n 1, 1) := by decide +kernel
theorem dL_law_699 : decode cL_law 699 = .ok (.invokevirtual 90, 3) := by decide +kernel
theorem dL_law_702 : decode cL_law 702 = .ok (.aload_n 2, 1) := by decide +kernel
theorem dL_law_703 : decode cL_law 703 = .ok (.invokevirtual 93, 3) := by decide +kernel
theorem dL_law_706 : decode cL_law 706 = .ok (.if_icmp .eq 30, 3) := by decide +kernel
theorem dL_law_709 : decode cL_law 709 = .ok (.iconst 0, 1) := by decide +kernel
theorem dL_law_710 : decode cL_law 710 = .ok (.ireturn, 1) := by decide +kernel
theorem dL_law_711 : decode cL_law 711 = .ok (.aload_n 1, 1) := by decide +kernel
theorem dL_law_712 : decode cL_law 712 = .ok (.aload_n 0, 1) := by decide +kernel
theorem dL_law_713 : decode cL_law 713 = .ok (.iload 4, 2) := by decide +kernel
theorem dL_law_715 : decode cL_law 715 = .ok (.iconst 1, 1) := by decide +kernel
theorem dL_law_716 : decode cL_law 716 = .ok (.iadd, 1) := by decide +kernel
theorem dL_law_717 : decode cL_law 717 = .ok (.iaload, 1) := by decide +kernel
theorem dL_law_718 : decode cL_law 718 = .ok (.invokevirtual 94, 3) := by decide +kernel
theorem dL_law_721 : decode cL_law 721 = .ok (.aload_n 2, 1) := by decide +kernel
theorem dL_law_722 : decode cL_law 722 = .ok (.aload_n 0, 1) := by decide +kernel
theorem dL_law_723 : decode cL_law 723 = .ok (.iload 4, 2) := by decide +kernel
theorem dL_law_725 : decode cL_law 725 = .ok (.iconst 1, 1) := by decide +kernel
theorem dL_law_726 : decode cL_law 726 = .ok (.iadd, 1) := by decide +kernel
theorem dL_law_727 : decode cL_law 727 = .ok (.iaload, 1) := by decide +kernel
theorem dL_law_728 : decode cL_law 728 = .ok (.invokevirtual 98, 3) := by decide +kernel
theorem dL_law_731 : decode cL_law 731 = .ok (.if_icmp .eq 5, 3) := by decide +kernel
theorem dL_law_734 : decode cL_law 734 = .ok (.iconst 0, 1) := by decide +kernel
theorem dL_law_735 : decode cL_law 735 = .ok (.ireturn, 1) := by decide +kernel
theorem dL_law_736 : decode cL_law 736 = .ok (.iinc 4 6, 3) := by decide +kernel
theorem dL_law_739 : decode cL_law 739 = .ok (.goto (-716), 3) := by decide +kernel
theorem dL_law_742 : decode cL_law 742 = .ok (.iconst 1, 1) := by decide +kernel
theorem dL_law_743 : decode cL_law 743 = .ok (.ireturn, 1) := by decide +kernel
theorem dJ6_bitCount_0 : decode cJ6_bitCount 0 = .ok (.iload_n 0, 1) := by decide +kernel
theorem dJ6_bitCount_1 : decode cJ6_bitCount 1 = .ok (.iload_n 0, 1) := by decide +kernel
theorem dJ6_bitCount_2 : decode cJ6_bitCount 2 = .ok (.iconst 1, 1) := by decide +kernel
theorem dJ6_bitCount_3 : decode cJ6_bitCount 3 = .ok (.iushr, 1) := by decide +kernel
theorem dJ6_bitCount_4 : decode cJ6_bitCount 4 = .ok (.ldc_w 265, 3) := by decide +kernel
theorem dJ6_bitCount_7 : decode cJ6_bitCount 7 = .ok (.iand, 1) := by decide +kernel
theorem dJ6_bitCount_8 : decode cJ6_bitCount 8 = .ok (.isub, 1) := by decide +kernel
theorem dJ6_bitCount_9 : decode cJ6_bitCount 9 = .ok (.istore_n 0, 1) := by decide +kernel
theorem dJ6_bitCount_10 : decode cJ6_bitCount 10 = .ok (.iload_n 0, 1) := by decide +kernel
theorem dJ6_bitCount_11 : decode cJ6_bitCount 11 = .ok (.ldc_w 266, 3) := by decide +kernel
theorem dJ6_bitCount_14 : decode cJ6_bitCount 14 = .ok (.iand, 1) := by decide +kernel
theorem dJ6_bitCount_15 : decode cJ6_bitCount 15 = .ok (.iload_n 0, 1) := by decide +kernel
theorem dJ6_bitCount_16 : decode cJ6_bitCount 16 = .ok (.iconst 2, 1) := by decide +kernel
theorem dJ6_bitCount_17 : decode cJ6_bitCount 17 = .ok (.iushr, 1) := by decide +kernel
theorem dJ6_bitCount_18 : decode cJ6_bitCount 18 = .ok (.ldc_w 266, 3) := by decide +kernel
theorem dJ6_bitCount_21 : decode cJ6_bitCount 21 = .ok (.iand, 1) := by decide +kernel
theorem dJ6_bitCount_22 : decode cJ6_bitCount 22 = .ok (.iadd, 1) := by decide +kernel
theorem dJ6_bitCount_23 : decode cJ6_bitCount 23 = .ok (.istore_n 0, 1) := by decide +kernel
theorem dJ6_bitCount_24 : decode cJ6_bitCount 24 = .ok (.iload_n 0, 1) := by decide +kernel
theorem dJ6_bitCount_25 : decode cJ6_bitCount 25 = .ok (.iload_n 0, 1) := by decide +kernel
theorem dJ6_bitCount_26 : decode cJ6_bitCount 26 = .ok (.iconst 4, 1) := by decide +kernel
theorem dJ6_bitCount_27 : decode cJ6_bitCount 27 = .ok (.iushr, 1) := by decide +kernel
theorem dJ6_bitCount_28 : decode cJ6_bitCount 28 = .ok (.iadd, 1) := by decide +kernel
theorem dJ6_bitCount_29 : decode cJ6_bitCount 29 = .ok (.ldc_w 267, 3) := by decide +kernel
theorem dJ6_bitCount_32 : decode cJ6_bitCount 32 = .ok (.iand, 1) := by decide +kernel
theorem dJ6_bitCount_33 : decode cJ6_bitCount 33 = .ok (.istore_n 0, 1) := by decide +kernel
theorem dJ6_bitCount_34 : decode cJ6_bitCount 34 = .ok (.iload_n 0, 1) := by decide +kernel
theorem dJ6_bitCount_35 : decode cJ6_bitCount 35 = .ok (.iload_n 0, 1) := by decide +kernel
theorem dJ6_bitCount_36 : decode cJ6_bitCount 36 = .ok (.bipush 8, 2) := by decide +kernel
theorem dJ6_bitCount_38 : decode cJ6_bitCount 38 = .ok (.iushr, 1) := by decide +kernel
theorem dJ6_bitCount_39 : decode cJ6_bitCount 39 = .ok (.iadd, 1) := by decide +kernel
theorem dJ6_bitCount_40 : decode cJ6_bitCount 40 = .ok (.istore_n 0, 1) := by decide +kernel
theorem dJ6_bitCount_41 : decode cJ6_bitCount 41 = .ok (.iload_n 0, 1) := by decide +kernel
theorem dJ6_bitCount_42 : decode cJ6_bitCount 42 = .ok (.iload_n 0, 1) := by decide +kernel
theorem dJ6_bitCount_43 : decode cJ6_bitCount 43 = .ok (.bipush 16, 2) := by decide +kernel
theorem dJ6_bitCount_45 : decode cJ6_bitCount 45 = .ok (.iushr, 1) := by decide +kernel
theorem dJ6_bitCount_46 : decode cJ6_bitCount 46 = .ok (.iadd, 1) := by decide +kernel
theorem dJ6_bitCount_47 : decode cJ6_bitCount 47 = .ok (.istore_n 0, 1) := by decide +kernel
theorem dJ6_bitCount_48 : decode cJ6_bitCount 48 = .ok (.iload_n 0, 1) := by decide +kernel
theorem dJ6_bitCount_49 : decode cJ6_bitCount 49 = .ok (.bipush 63, 2) := by decide +kernel
theorem dJ6_bitCount_51 : decode cJ6_bitCount 51 = .ok (.iand, 1) := by decide +kernel
theorem dJ6_bitCount_52 : decode cJ6_bitCount 52 = .ok (.ireturn, 1) := by decide +kernel
theorem dJ13_bitCount_0 : decode cJ13_bitCount 0 = .ok (.lload_n 0, 1) := by decide +kernel
theorem dJ13_bitCount_1 : decode cJ13_bitCount 1 = .ok (.lload_n 0, 1) := by decide +kernel
theorem dJ13_bitCount_2 : decode cJ13_bitCount 2 = .ok (.iconst 1, 1) := by decide +kernel
theorem dJ13_bitCount_3 : decode cJ13_bitCount 3 = .ok (.lushr, 1) := by decide +kernel
theorem dJ13_bitCount_4 : decode cJ13_bitCount 4 = .ok (.ldc2_w 314, 3) := by decide +kernel
theorem dJ13_bitCount_7 : decode cJ13_bitCount 7 = .ok (.land, 1) := by decide +kernel
theorem dJ13_bitCount_8 : decode cJ13_bitCount 8 = .ok (.lsub, 1) := by decide +kernel
theorem dJ13_bitCount_9 : decode cJ13_bitCount 9 = .ok (.lstore_n 0, 1) := by decide +kernel
theorem dJ13_bitCount_10 : decode cJ13_bitCount 10 = .ok (.lload_n 0, 1) := by decide +kernel
theorem dJ13_bitCount_11 : decode cJ13_bitCount 11 = .ok (.ldc2_w 316, 3) := by decide +kernel
theorem dJ13_bitCount_14 : decode cJ13_bitCount 14 = .ok (.land, 1) := by decide +kernel
theorem dJ13_bitCount_15 : decode cJ13_bitCount 15 = .ok (.lload_n 0, 1) := by decide +kernel
theorem dJ13_bitCount_16 : decode cJ13_bitCount 16 = .ok (.iconst 2, 1) := by decide +kernel
theorem dJ13_bitCount_17 : decode cJ13_bitCount 17 = .ok (.lushr, 1) := by decide +kernel
theorem dJ13_bitCount_18 : decode cJ13_bitCount 18 = .ok (.ldc2_w 316, 3) := by decide +kernel
theorem dJ13_bitCount_21 : decode cJ13_bitCount 21 = .ok (.land, 1) := by decide +kernel
theorem dJ13_bitCount_22 : decode cJ13_bitCount 22 = .ok (.ladd, 1) := by decide +kernel
theorem dJ13_bitCount_23 : decode cJ13_bitCount 23 = .ok (.lstore_n 0, 1) := by decide +kernel
theorem dJ13_bitCount_24 : decode cJ13_bitCount 24 = .ok (.lload_n 0, 1) := by decide +kernel
theorem dJ13_bitCount_25 : decode cJ13_bitCount 25 = .ok (.lload_n 0, 1) := by decide +kernel
theorem dJ13_bitCount_26 : decode cJ13_bitCount 26 = .ok (.iconst 4, 1) := by decide +kernel
theorem dJ13_bitCount_27 : decode cJ13_bitCount 27 = .ok (.lushr, 1) := by decide +kernel
theorem dJ13_bitCount_28 : decode cJ13_bitCount 28 = .ok (.ladd, 1) := by decide +kernel
theorem dJ13_bitCount_29 : decode cJ13_bitCount 29 = .ok (.ldc2_w 318, 3) := by decide +kernel
theorem dJ13_bitCount_32 : decode cJ13_bitCount 32 = .ok (.land, 1) := by decide +kernel
theorem dJ13_bitCount_33 : decode cJ13_bitCount 33 = .ok (.lstore_n 0, 1) := by decide +kernel
theorem dJ13_bitCount_34 : decode cJ13_bitCount 34 = .ok (.lload_n 0, 1) := by decide +kernel
theorem dJ13_bitCount_35 : decode cJ13_bitCount 35 = .ok (.lload_n 0, 1) := by decide +kernel
theorem dJ13_bitCount_36 : decode cJ13_bitCount 36 = .ok (.bipush 8, 2) := by decide +kernel
theorem dJ13_bitCount_38 : decode cJ13_bitCount 38 = .ok (.lushr, 1) := by decide +kernel
theorem dJ13_bitCount_39 : decode cJ13_bitCount 39 = .ok (.ladd, 1) := by decide +kernel
theorem dJ13_bitCount_40 : decode cJ13_bitCount 40 = .ok (.lstore_n 0, 1) := by decide +kernel
theorem dJ13_bitCount_41 : decode cJ13_bitCount 41 = .ok (.lload_n 0, 1) := by decide +kernel
theorem dJ13_bitCount_42 : decode cJ13_bitCount 42 = .ok (.lload_n 0, 1) := by decide +kernel
theorem dJ13_bitCount_43 : decode cJ13_bitCount 43 = .ok (.bipush 16, 2) := by decide +kernel
theorem dJ13_bitCount_45 : decode cJ13_bitCount 45 = .ok (.lushr, 1) := by decide +kernel
theorem dJ13_bitCount_46 : decode cJ13_bitCount 46 = .ok (.ladd, 1) := by decide +kernel
theorem dJ13_bitCount_47 : decode cJ13_bitCount 47 = .ok (.lstore_n 0, 1) := by decide +kernel
theorem dJ13_bitCount_48 : decode cJ13_bitCount 48 = .ok (.lload_n 0, 1) := by decide +kernel
theorem dJ13_bitCount_49 : decode cJ13_bitCount 49 = .ok (.lload_n 0, 1) := by decide +kernel
theorem dJ13_bitCount_50 : decode cJ13_bitCount 50 = .ok (.bipush 32, 2) := by decide +kernel
theorem dJ13_bitCount_52 : decode cJ13_bitCount 52 = .ok (.lushr, 1) := by decide +kernel
theorem dJ13_bitCount_53 : decode cJ13_bitCount 53 = .ok (.ladd, 1) := by decide +kernel
theorem dJ13_bitCount_54 : decode cJ13_bitCount 54 = .ok (.lstore_n 0, 1) := by decide +kernel
theorem dJ13_bitCount_55 : decode cJ13_bitCount 55 = .ok (.lload_n 0, 1) := by decide +kernel
theorem dJ13_bitCount_56 : decode cJ13_bitCount 56 = .ok (.l2i, 1) := by decide +kernel
theorem dJ13_bitCount_57 : decode cJ13_bitCount 57 = .ok (.bipush 127, 2) := by decide +kernel
theorem dJ13_bitCount_59 : decode cJ13_bitCount 59 = .ok (.iand, 1) := by decide +kernel
theorem dJ13_bitCount_60 : decode cJ13_bitCount 60 = .ok (.ireturn, 1) := by decide +kernel
theorem dJ7_fillI_0 : decode cJ7_fillI 0 = .ok (.iconst 0, 1) := by decide +kernel
theorem dJ7_fillI_1 : decode cJ7_fillI 1 = .ok (.istore_n 2, 1) := by decide +kernel
theorem dJ7_fillI_2 : decode cJ7_fillI 2 = .ok (.aload_n 0, 1) := by decide +kernel
theorem dJ7_fillI_3 : decode cJ7_fillI 3 = .ok (.arraylength, 1) := by decide +kernel
theorem dJ7_fillI_4 : decode cJ7_fillI 4 = .ok (.istore_n 3, 1) := by decide +kernel
theorem dJ7_fillI_5 : decode cJ7_fillI 5 = .ok (.iload_n 2, 1) := by decide +kernel
theorem dJ7_fillI_6 : decode cJ7_fillI 6 = .ok (.iload_n 3, 1) := by decide +kernel
theorem dJ7_fillI_7 : decode cJ7_fillI 7 = .ok (.if_icmp .ge 13, 3) := by decide +kernel
theorem dJ7_fillI_10 : decode cJ7_fillI 10 = .ok (.aload_n 0, 1) := by decide +kernel
theorem dJ7_fillI_11 : decode cJ7_fillI 11 = .ok (.iload_n 2, 1) := by decide +kernel
theorem dJ7_fillI_12 : decode cJ7_fillI 12 = .ok (.iload_n 1, 1) := by decide +kernel
theorem dJ7_fillI_13 : decode cJ7_fillI 13 = .ok (.iastore, 1) := by decide +kernel
theorem dJ7_fillI_14 : decode cJ7_fillI 14 = .ok (.iinc 2 1, 3) := by decide +kernel
theorem dJ7_fillI_17 : decode cJ7_fillI 17 = .ok (.goto (-12), 3) := by decide +kernel
theorem dJ7_fillI_20 : decode cJ7_fillI 20 = .ok (.return_, 1) := by decide +kernel
theorem dJ7_fillL_0 : decode cJ7_fillL 0 = .ok (.iconst 0, 1) := by decide +kernel
theorem dJ7_fillL_1 : decode cJ7_fillL 1 = .ok (.istore_n 3, 1) := by decide +kernel
theorem dJ7_fillL_2 : decode cJ7_fillL 2 = .ok (.aload_n 0, 1) := by decide +kernel
theorem dJ7_fillL_3 : decode cJ7_fillL 3 = .ok (.arraylength, 1) := by decide +kernel
theorem dJ7_fillL_4 : decode cJ7_fillL 4 = .ok (.istore 4, 2) := by decide +kernel
theorem dJ7_fillL_6 : decode cJ7_fillL 6 = .ok (.iload_n 3, 1) := by decide +kernel
theorem dJ7_fillL_7 : decode cJ7_fillL 7 = .ok (.iload 4, 2) := by decide +kernel
theorem dJ7_fillL_9 : decode cJ7_fillL 9 = .ok (.if_icmp .ge 13, 3) := by decide +kernel
theorem dJ7_fillL_12 : decode cJ7_fillL 12 = .ok (.aload_n 0, 1) := by decide +kernel
theorem dJ7_fillL_13 : decode cJ7_fillL 13 = .ok (.iload_n 3, 1) := by decide +kernel
theorem dJ7_fillL_14 : decode cJ7_fillL 14 = .ok (.lload_n 1, 1) := by decide +kernel
theorem dJ7_fillL_15 : decode cJ7_fillL 15 = .ok (.lastore, 1) := by decide +kernel
theorem dJ7_fillL_16 : decode cJ7_fillL 16 = .ok (.iinc 3 1, 3) := by decide +kernel
theorem dJ7_fillL_19 : decode cJ7_fillL 19 = .ok (.goto (-13), 3) := by decide +kernel
theorem dJ7_fillL_22 : decode cJ7_fillL 22 = .ok (.return_, 1) := by decide +kernel
end
section
theorem mw0 : (Jvm.Cond.selects "java/lang/Throwable" ({ cls := "java/lang/Throwable", name := "fillInStackTrace", desc := "(I)Ljava/lang/Throwable;" } : Jvm.MethodName) ({ cls := "java/lang/Throwable", name := "fillInStackTrace", desc := "(I)Ljava/lang/Throwable;" } : Jvm.MethodName)) ∈ wAll := wA 0 (by decide +kernel) (by decide +kernel)
theorem mw1 : (Jvm.Cond.selects RX3 yX3_requireTable yX3_requireTable) ∈ wAll := wA 1 (by decide +kernel) (by decide +kernel)
theorem mw2 : (Jvm.Cond.selects RX3 yX3_areMasksRight yX3_areMasksRight) ∈ wAll := wA 2 (by decide +kernel) (by decide +kernel)
theorem mw3 : (Jvm.Cond.selects RX3 yX3_askedMask yX3_askedMask) ∈ wAll := wA 3 (by decide +kernel) (by decide +kernel)
theorem mw4 : (Jvm.Cond.selects RX3 yX3_findAsked yX3_findAsked) ∈ wAll := wA 4 (by decide +kernel) (by decide +kernel)
theorem mw5 : (Jvm.Cond.selects RX3 yX3_isAsked yX3_isAsked) ∈ wAll := wA 5 (by decide +kernel) (by decide +kernel)
theorem mw6 : (Jvm.Cond.selects RX3 yX3_hasRoom yX3_hasRoom) ∈ wAll := wA 6 (by decide +kernel) (by decide +kernel)
theorem mw7 : (Jvm.Cond.selects RX3 yX3_addAsked yX3_addAsked) ∈ wAll := wA 7 (by decide +kernel) (by decide +kernel)
theorem mw8 : (Jvm.Cond.selects RX1 yX1_copy yX1_copy) ∈ wAll := wA 8 (by decide +kernel) (by decide +kernel)
theorem mw9 : (Jvm.Cond.selects RX3 yX3_fitsAsked yX3_fitsAsked) ∈ wAll := wA 9 (by decide +kernel) (by decide +kernel)
theorem mw10 : (Jvm.Cond.selects RX4 yX4_has yX4_has) ∈ wAll := wA 10 (by decide +kernel) (by decide +kernel)
theorem mw11 : (Jvm.Cond.selects RX4 yX4_hashed yX4_hashed) ∈ wAll := wA 11 (by decide +kernel) (by decide +kernel)
theorem mw12 : (Jvm.Cond.selects RX4 yX4_masksAreRight yX4_masksAreRight) ∈ wAll := wA 12 (by decide +kernel) (by decide +kernel)
theorem mw13 : (Jvm.Cond.selects RX4 yX4_ones yX4_ones) ∈ wAll := wA 13 (by decide +kernel) (by decide +kernel)
theorem mw14 : (Jvm.Cond.selects RX4 yX4_there yX4_there) ∈ wAll := wA 14 (by decide +kernel) (by decide +kernel)
theorem mw15 : (Jvm.Cond.selects RX4 yX4_most yX4_most) ∈ wAll := wA 15 (by decide +kernel) (by decide +kernel)
theorem mw16 : (Jvm.Cond.selects RX4 yX4_write yX4_write) ∈ wAll := wA 16 (by decide +kernel) (by decide +kernel)
theorem mw17 : (Jvm.Cond.selects RX4 yX4_above yX4_above) ∈ wAll := wA 17 (by decide +kernel) (by decide +kernel)
theorem mw18 : (Jvm.Cond.selects RX4 yX4_bucketOf yX4_bucketOf) ∈ wAll := wA 18 (by decide +kernel) (by decide +kernel)
theorem mw19 : (Jvm.Cond.selects RX4 yX4_matches yX4_matches) ∈ wAll := wA 19 (by decide +kernel) (by decide +kernel)
theorem mw20 : (Jvm.Cond.selects RX4 yX4_prefixOnes yX4_prefixOnes) ∈ wAll := wA 20 (by decide +kernel) (by decide +kernel)
theorem mw21 : (Jvm.Cond.initialized RL) ∈ wAll := wA 21 (by decide +kernel) (by decide +kernel)
theorem mw22 : (Jvm.Cond.initialized RX3) ∈ wAll := wA 22 (by decide +kernel) (by decide +kernel)
theorem mw23 : (Jvm.Cond.initialized RX2) ∈ wAll := wA 23 (by decide +kernel) (by decide +kernel)
theorem mw24 : (Jvm.Cond.initialized RX1) ∈ wAll := wA 24 (by decide +kernel) (by decide +kernel)
theorem mw25 : (Jvm.Cond.initialized RX0) ∈ wAll := wA 25 (by decide +kernel) (by decide +kernel)
theorem mw26 : (Jvm.Cond.initialized RX4) ∈ wAll := wA 26 (by decide +kernel) (by decide +kernel)
theorem mw27 : (Jvm.Cond.initialized RJ7) ∈ wAll := wA 27 (by decide +kernel) (by decide +kernel)
theorem mw28 : (Jvm.Cond.initialized "java/lang/Throwable") ∈ wAll := wA 28 (by decide +kernel) (by decide +kernel)
theorem mw29 : (Jvm.Cond.initialized "java/lang/Exception") ∈ wAll := wA 29 (by decide +kernel) (by decide +kernel)
theorem mw30 : (Jvm.Cond.initialized "java/lang/RuntimeException") ∈ wAll := wA 30 (by decide +kernel) (by decide +kernel)
theorem mw31 : (Jvm.Cond.initialized "java/lang/IllegalArgumentException") ∈ wAll := wA 31 (by decide +kernel) (by decide +kernel)
theorem mw32 : (Jvm.Cond.initialized "java/lang/IllegalStateException") ∈ wAll := wA 32 (by decide +kernel) (by decide +kernel)
theorem mw33 : (Jvm.Cond.initialized RJ6) ∈ wAll := wA 33 (by decide +kernel) (by decide +kernel)
theorem mw34 : (Jvm.Cond.initialized "java/lang/IndexOutOfBoundsException") ∈ wAll := wA 34 (by decide +kernel) (by decide +kernel)
theorem mw35 : (Jvm.Cond.initialized RJ9) ∈ wAll := wA 35 (by decide +kernel) (by decide +kernel)
theorem mw36 : (Jvm.Cond.initialized RJ13) ∈ wAll := wA 36 (by decide +kernel) (by decide +kernel)
theorem mw37 : (Jvm.Cond.classLink RL (8 : Nat) RX3) ∈ wAll := wA 37 (by decide +kernel) (by decide +kernel)
theorem mw38 : (Jvm.Cond.instantiable RX3 (9 : Nat)) ∈ wAll := wA 38 (by decide +kernel) (by decide +kernel)
theorem mw39 : (Jvm.Cond.methodLink RL (43 : Nat) yX3_init) ∈ wAll := wA 39 (by decide +kernel) (by decide +kernel)
theorem mw40 : (Jvm.Cond.instanceMethod yX3_init) ∈ wAll := wA 40 (by decide +kernel) (by decide +kernel)
theorem mw41 : (Jvm.Cond.code yX3_init prog_1_method_1_code (1 : Nat) (Option.none : Option Jvm.ClassFile.FieldType)) ∈ wAll := wA 41 (by decide +kernel) (by decide +kernel)
theorem mw42 : (Jvm.Cond.methodLink RX3 (3 : Nat) ({ cls := "java/lang/Object", name := "<init>", desc := "()V" } : Jvm.MethodName)) ∈ wAll := wA 42 (by decide +kernel) (by decide +kernel)
theorem mw43 : (Jvm.Cond.instanceMethod ({ cls := "java/lang/Object", name := "<init>", desc := "()V" } : Jvm.MethodName)) ∈ wAll := wA 43 (by decide +kernel) (by decide +kernel)
theorem mw44 : (Jvm.Cond.code ({ cls := "java/lang/Object", name := "<init>", desc := "()V" } : Jvm.MethodName) object_method_1_code (1 : Nat) (Option.none : Option Jvm.ClassFile.FieldType)) ∈ wAll := wA 44 (by decide +kernel) (by decide +kernel)
theorem mw45 : (Jvm.Cond.classLink RX3 (9 : Nat) RX2) ∈ wAll := wA 45 (by decide +kernel) (by decide +kernel)
theorem mw46 : (Jvm.Cond.instantiable RX2 (3 : Nat)) ∈ wAll := wA 46 (by decide +kernel) (by decide +kernel)
theorem mw48 : (Jvm.Cond.instanceMethod yX2_init) ∈ wAll := wA 48 (by decide +kernel) (by decide +kernel)
theorem mw49 : (Jvm.Cond.code yX2_init prog_4_method_1_code (1 : Nat) (Option.none : Option Jvm.ClassFile.FieldType)) ∈ wAll := wA 49 (by decide +kernel) (by decide +kernel)
theorem mw50 : (Jvm.Cond.methodLink RX2 (3 : Nat) ({ cls := "java/lang/Object", name := "<init>", desc := "()V" } : Jvm.MethodName)) ∈ wAll := wA 50 (by decide +kernel) (by decide +kernel)
theorem mw51 : (Jvm.Cond.fieldLink RX2 (9 : Nat) "WayTables$Keys" "kinds" "[I") ∈ wAll := wA 51 (by decide +kernel) (by decide +kernel)
theorem mw52 : (Jvm.Cond.fieldLink RX3 (197 : Nat) "WayTables$Keys" "kinds" "[I") ∈ wAll := wA 52 (by decide +kernel) (by decide +kernel)
theorem mw53 : (Jvm.Cond.fieldLink RX2 (15 : Nat) "WayTables$Keys" "ones" "[J") ∈ wAll := wA 53 (by decide +kernel) (by decide +kernel)
theorem mw54 : (Jvm.Cond.fieldLink RX3 (154 : Nat) "WayTables$Keys" "ones" "[J") ∈ wAll := wA 54 (by decide +kernel) (by decide +kernel)
theorem mw55 : (Jvm.Cond.fieldLink RX2 (19 : Nat) "WayTables$Keys" "size" "I") ∈ wAll := wA 55 (by decide +kernel) (by decide +kernel)
theorem mw56 : (Jvm.Cond.fieldLink RX3 (37 : Nat) "WayTables$Keys" "size" "I") ∈ wAll := wA 56 (by decide +kernel) (by decide +kernel)
theorem mw64 : (Jvm.Cond.arrayClass Jvm.ClassFile.FieldType.int) ∈ wAll := wA 64 (by decide +kernel) (by decide +kernel)
theorem mw65 : (Jvm.Cond.arrayClass Jvm.ClassFile.FieldType.long) ∈ wAll := wA 65 (by decide +kernel) (by decide +kernel)
theorem mw66 : (Jvm.Cond.classLink RX3 (16 : Nat) RX1) ∈ wAll := wA 66 (by decide +kernel) (by decide +kernel)
theorem mw67 : (Jvm.Cond.instantiable RX1 (7 : Nat)) ∈ wAll := wA 67 (by decide +kernel) (by decide +kernel)
theorem mw69 : (Jvm.Cond.instanceMethod yX1_init) ∈ wAll := wA 69 (by decide +kernel) (by decide +kernel)
theorem mw70 : (Jvm.Cond.code yX1_init prog_3_method_1_code (1 : Nat) (Option.none : Option Jvm.ClassFile.FieldType)) ∈ wAll := wA 70 (by decide +kernel) (by decide +kernel)
theorem mw71 : (Jvm.Cond.methodLink RX1 (3 : Nat) ({ cls := "java/lang/Object", name := "<init>", desc := "()V" } : Jvm.MethodName)) ∈ wAll := wA 71 (by decide +kernel) (by decide +kernel)
theorem mw72 : (Jvm.Cond.fieldLink RX1 (9 : Nat) "WayTables$Entries" "values" "[J") ∈ wAll := wA 72 (by decide +kernel) (by decide +kernel)
theorem mw73 : (Jvm.Cond.fieldLink RX3 (191 : Nat) "WayTables$Entries" "values" "[J") ∈ wAll := wA 73 (by decide +kernel) (by decide +kernel)
theorem mw74 : (Jvm.Cond.fieldLink RX1 (15 : Nat) "WayTables$Entries" "masks" "[J") ∈ wAll := wA 74 (by decide +kernel) (by decide +kernel)
theorem mw75 : (Jvm.Cond.fieldLink RX3 (188 : Nat) "WayTables$Entries" "masks" "[J") ∈ wAll := wA 75 (by decide +kernel) (by decide +kernel)
theorem mw76 : (Jvm.Cond.fieldLink RX1 (18 : Nat) "WayTables$Entries" "prefixOnes" "[I") ∈ wAll := wA 76 (by decide +kernel) (by decide +kernel)
theorem mw77 : (Jvm.Cond.fieldLink RX3 (204 : Nat) "WayTables$Entries" "prefixOnes" "[I") ∈ wAll := wA 77 (by decide +kernel) (by decide +kernel)
theorem mw78 : (Jvm.Cond.fieldLink RX1 (22 : Nat) "WayTables$Entries" "priorities" "[I") ∈ wAll := wA 78 (by decide +kernel) (by decide +kernel)
theorem mw79 : (Jvm.Cond.fieldLink RX3 (207 : Nat) "WayTables$Entries" "priorities" "[I") ∈ wAll := wA 79 (by decide +kernel) (by decide +kernel)
theorem mw80 : (Jvm.Cond.fieldLink RX1 (25 : Nat) "WayTables$Entries" "actions" "[I") ∈ wAll := wA 80 (by decide +kernel) (by decide +kernel)
theorem mw81 : (Jvm.Cond.fieldLink RX3 (134 : Nat) "WayTables$Entries" "actions" "[I") ∈ wAll := wA 81 (by decide +kernel) (by decide +kernel)
theorem mw82 : (Jvm.Cond.fieldLink RX1 (28 : Nat) "WayTables$Entries" "data" "[J") ∈ wAll := wA 82 (by decide +kernel) (by decide +kernel)
theorem mw83 : (Jvm.Cond.fieldLink RX3 (138 : Nat) "WayTables$Entries" "data" "[J") ∈ wAll := wA 83 (by decide +kernel) (by decide +kernel)
theorem mw84 : (Jvm.Cond.fieldLink RX3 (41 : Nat) "WayTables$Entries" "size" "I") ∈ wAll := wA 84 (by decide +kernel) (by decide +kernel)
theorem mw85 : (Jvm.Cond.fieldLink RX1 (31 : Nat) "WayTables$Entries" "size" "I") ∈ wAll := wA 85 (by decide +kernel) (by decide +kernel)
theorem mw101 : (Jvm.Cond.classLink RX3 (23 : Nat) RX0) ∈ wAll := wA 101 (by decide +kernel) (by decide +kernel)
theorem mw102 : (Jvm.Cond.instantiable RX0 (4 : Nat)) ∈ wAll := wA 102 (by decide +kernel) (by decide +kernel)
theorem mw104 : (Jvm.Cond.instanceMethod yX0_init) ∈ wAll := wA 104 (by decide +kernel) (by decide +kernel)
theorem mw105 : (Jvm.Cond.code yX0_init prog_2_method_1_code (1 : Nat) (Option.none : Option Jvm.ClassFile.FieldType)) ∈ wAll := wA 105 (by decide +kernel) (by decide +kernel)
theorem mw106 : (Jvm.Cond.methodLink RX0 (3 : Nat) ({ cls := "java/lang/Object", name := "<init>", desc := "()V" } : Jvm.MethodName)) ∈ wAll := wA 106 (by decide +kernel) (by decide +kernel)
theorem mw107 : (Jvm.Cond.fieldLink RX0 (9 : Nat) "WayTables$Buckets" "held" "[I") ∈ wAll := wA 107 (by decide +kernel) (by decide +kernel)
theorem mw108 : (Jvm.Cond.fieldLink RX0 (21 : Nat) "WayTables$Buckets" "size" "I") ∈ wAll := wA 108 (by decide +kernel) (by decide +kernel)
theorem mw109 : (Jvm.Cond.fieldLink RX0 (25 : Nat) "WayTables$Buckets" "ways" "I") ∈ wAll := wA 109 (by decide +kernel) (by decide +kernel)
theorem mw110 : (Jvm.Cond.fieldLink RX0 (28 : Nat) "WayTables$Buckets" "stash" "I") ∈ wAll := wA 110 (by decide +kernel) (by decide +kernel)
theorem mw120 : (Jvm.Cond.fieldLink RX3 (12 : Nat) "WayTables" "keys" "LWayTables$Keys;") ∈ wAll := wA 120 (by decide +kernel) (by decide +kernel)
theorem mw121 : (Jvm.Cond.fieldLink RX3 (19 : Nat) "WayTables" "entries" "LWayTables$Entries;") ∈ wAll := wA 121 (by decide +kernel) (by decide +kernel)
theorem mw122 : (Jvm.Cond.fieldLink RX3 (26 : Nat) "WayTables" "buckets" "LWayTables$Buckets;") ∈ wAll := wA 122 (by decide +kernel) (by decide +kernel)
theorem mw123 : (Jvm.Cond.fieldLink RX3 (30 : Nat) "WayTables" "askedValues" "[J") ∈ wAll := wA 123 (by decide +kernel) (by decide +kernel)
theorem mw124 : (Jvm.Cond.fieldLink RX3 (34 : Nat) "WayTables" "askedMasks" "[J") ∈ wAll := wA 124 (by decide +kernel) (by decide +kernel)
theorem mw125 : (Jvm.Cond.fieldLink RX3 (52 : Nat) "WayTables" "made" "Z") ∈ wAll := wA 125 (by decide +kernel) (by decide +kernel)
theorem mw126 : (Jvm.Cond.fieldLink RX3 (56 : Nat) "WayTables" "hashed" "Z") ∈ wAll := wA 126 (by decide +kernel) (by decide +kernel)
theorem mw127 : (Jvm.Cond.fieldLink RX3 (59 : Nat) "WayTables" "capacity" "I") ∈ wAll := wA 127 (by decide +kernel) (by decide +kernel)
theorem mw128 : (Jvm.Cond.fieldLink RX3 (62 : Nat) "WayTables" "latestDatum" "J") ∈ wAll := wA 128 (by decide +kernel) (by decide +kernel)
theorem mw148 : (Jvm.Cond.methodLink RL (47 : Nat) yX3_clear) ∈ wAll := wA 148 (by decide +kernel) (by decide +kernel)
theorem mw149 : (Jvm.Cond.instanceMethod yX3_clear) ∈ wAll := wA 149 (by decide +kernel) (by decide +kernel)
theorem mw150 : (Jvm.Cond.selects RX3 yX3_clear yX3_clear) ∈ wAll := wA 150 (by decide +kernel) (by decide +kernel)
theorem mw151 : (Jvm.Cond.code yX3_clear prog_1_method_2_code (1 : Nat) (Option.none : Option Jvm.ClassFile.FieldType)) ∈ wAll := wA 151 (by decide +kernel) (by decide +kernel)
theorem mw152 : (Jvm.Cond.methodLink RX3 (42 : Nat) yX0_lay) ∈ wAll := wA 152 (by decide +kernel) (by decide +kernel)
theorem mw153 : (Jvm.Cond.instanceMethod yX0_lay) ∈ wAll := wA 153 (by decide +kernel) (by decide +kernel)
theorem mw154 : (Jvm.Cond.selects RX0 yX0_lay yX0_lay) ∈ wAll := wA 154 (by decide +kernel) (by decide +kernel)
theorem mw155 : (Jvm.Cond.code yX0_lay prog_2_method_2_code (4 : Nat) (Option.none : Option Jvm.ClassFile.FieldType)) ∈ wAll := wA 155 (by decide +kernel) (by decide +kernel)
theorem mw156 : (Jvm.Cond.methodLink RX0 (15 : Nat) yJ7_fillI) ∈ wAll := wA 156 (by decide +kernel) (by decide +kernel)
theorem mw157 : (Jvm.Cond.static yJ7_fillI) ∈ wAll := wA 157 (by decide +kernel) (by decide +kernel)
theorem mw158 : (Jvm.Cond.code yJ7_fillI prog_17_method_103_code (4 : Nat) (Option.none : Option Jvm.ClassFile.FieldType)) ∈ wAll := wA 158 (by decide +kernel) (by decide +kernel)
theorem mw159 : (Jvm.Cond.methodLink RX3 (46 : Nat) yJ7_fillL) ∈ wAll := wA 159 (by decide +kernel) (by decide +kernel)
theorem mw160 : (Jvm.Cond.static yJ7_fillL) ∈ wAll := wA 160 (by decide +kernel) (by decide +kernel)
theorem mw161 : (Jvm.Cond.code yJ7_fillL prog_17_method_101_code (5 : Nat) (Option.none : Option Jvm.ClassFile.FieldType)) ∈ wAll := wA 161 (by decide +kernel) (by decide +kernel)
theorem mw162 : (Jvm.Cond.methodLink RL (85 : Nat) yX3_datum) ∈ wAll := wA 162 (by decide +kernel) (by decide +kernel)
theorem mw163 : (Jvm.Cond.instanceMethod yX3_datum) ∈ wAll := wA 163 (by decide +kernel) (by decide +kernel)
theorem mw164 : (Jvm.Cond.selects RX3 yX3_datum yX3_datum) ∈ wAll := wA 164 (by decide +kernel) (by decide +kernel)
theorem mw165 : (Jvm.Cond.code yX3_datum prog_1_method_10_code (1 : Nat) (Option.some Jvm.ClassFile.FieldType.long)) ∈ wAll := wA 165 (by decide +kernel) (by decide +kernel)
theorem mw166 : (Jvm.Cond.methodLink RL (90 : Nat) yX3_bucket) ∈ wAll := wA 166 (by decide +kernel) (by decide +kernel)
theorem mw167 : (Jvm.Cond.instanceMethod yX3_bucket) ∈ wAll := wA 167 (by decide +kernel) (by decide +kernel)
theorem mw168 : (Jvm.Cond.selects RX3 yX3_bucket yX3_bucket) ∈ wAll := wA 168 (by decide +kernel) (by decide +kernel)
theorem mw169 : (Jvm.Cond.code yX3_bucket prog_1_method_11_code (6 : Nat) (Option.some Jvm.ClassFile.FieldType.int)) ∈ wAll := wA 169 (by decide +kernel) (by decide +kernel)
theorem mw170 : (Jvm.Cond.constantLong RX3 (157 : Nat) (31 : Int64)) ∈ wAll := wA 170 (by decide +kernel) (by decide +kernel)
theorem mw171 : (Jvm.Cond.methodLink RX3 (159 : Nat) yX0_indexOf) ∈ wAll := wA 171 (by decide +kernel) (by decide +kernel)
theorem mw172 : (Jvm.Cond.instanceMethod yX0_indexOf) ∈ wAll := wA 172 (by decide +kernel) (by decide +kernel)
theorem mw173 : (Jvm.Cond.selects RX0 yX0_indexOf yX0_indexOf) ∈ wAll := wA 173 (by decide +kernel) (by decide +kernel)
theorem mw174 : (Jvm.Cond.code yX0_indexOf prog_2_method_3_code (3 : Nat) (Option.some Jvm.ClassFile.FieldType.int)) ∈ wAll := wA 174 (by decide +kernel) (by decide +kernel)
theorem mw175 : (Jvm.Cond.methodLink RL (94 : Nat) yX3_count) ∈ wAll := wA 175 (by decide +kernel) (by decide +kernel)
theorem mw176 : (Jvm.Cond.instanceMethod yX3_count) ∈ wAll := wA 176 (by decide +kernel) (by decide +kernel)
theorem mw177 : (Jvm.Cond.selects RX3 yX3_count yX3_count) ∈ wAll := wA 177 (by decide +kernel) (by decide +kernel)
theorem mw178 : (Jvm.Cond.code yX3_count prog_1_method_12_code (2 : Nat) (Option.some Jvm.ClassFile.FieldType.int)) ∈ wAll := wA 178 (by decide +kernel) (by decide +kernel)
theorem mw179 : (Jvm.Cond.methodLink RX3 (163 : Nat) yX0_above) ∈ wAll := wA 179 (by decide +kernel) (by decide +kernel)
theorem mw180 : (Jvm.Cond.instanceMethod yX0_above) ∈ wAll := wA 180 (by decide +kernel) (by decide +kernel)
theorem mw181 : (Jvm.Cond.selects RX0 yX0_above yX0_above) ∈ wAll := wA 181 (by decide +kernel) (by decide +kernel)
theorem mw182 : (Jvm.Cond.code yX0_above prog_2_method_8_code (3 : Nat) (Option.some Jvm.ClassFile.FieldType.int)) ∈ wAll := wA 182 (by decide +kernel) (by decide +kernel)
theorem mw183 : (Jvm.Cond.methodLink RX0 (39 : Nat) yJ9_max) ∈ wAll := wA 183 (by decide +kernel) (by decide +kernel)
theorem mw184 : (Jvm.Cond.static yJ9_max) ∈ wAll := wA 184 (by decide +kernel) (by decide +kernel)
theorem mw185 : (Jvm.Cond.code yJ9_max prog_13_method_65_code (2 : Nat) (Option.some Jvm.ClassFile.FieldType.int)) ∈ wAll := wA 185 (by decide +kernel) (by decide +kernel)
theorem mw186 : (Jvm.Cond.methodLink RL (51 : Nat) yL_key) ∈ wAll := wA 186 (by decide +kernel) (by decide +kernel)
theorem mw187 : (Jvm.Cond.static yL_key) ∈ wAll := wA 187 (by decide +kernel) (by decide +kernel)
theorem mw188 : (Jvm.Cond.codeWith yL_key method_3_code (5 : Nat) (Option.some Jvm.ClassFile.FieldType.int) [((0 : Nat), (10 : Nat), (13 : Nat), (13 : Nat)), ((0 : Nat), (10 : Nat), (17 : Nat), (15 : Nat))]) ∈ wAll := wA 188 (by decide +kernel) (by decide +kernel)
theorem mw189 : (Jvm.Cond.classLink RL (13 : Nat) "java/lang/IllegalArgumentException") ∈ wAll := wA 189 (by decide +kernel) (by decide +kernel)
theorem mw190 : (Jvm.Cond.classLink RL (15 : Nat) "java/lang/IllegalStateException") ∈ wAll := wA 190 (by decide +kernel) (by decide +kernel)
theorem mw191 : (Jvm.Cond.methodLink RL (7 : Nat) yX3_key) ∈ wAll := wA 191 (by decide +kernel) (by decide +kernel)
theorem mw192 : (Jvm.Cond.instanceMethod yX3_key) ∈ wAll := wA 192 (by decide +kernel) (by decide +kernel)
theorem mw193 : (Jvm.Cond.selects RX3 yX3_key yX3_key) ∈ wAll := wA 193 (by decide +kernel) (by decide +kernel)
theorem mw194 : (Jvm.Cond.code yX3_key prog_1_method_3_code (3 : Nat) (Option.some Jvm.ClassFile.FieldType.int)) ∈ wAll := wA 194 (by decide +kernel) (by decide +kernel)
theorem mw195 : (Jvm.Cond.classLink RX3 (66 : Nat) "java/lang/IllegalArgumentException") ∈ wAll := wA 195 (by decide +kernel) (by decide +kernel)
theorem mw196 : (Jvm.Cond.instantiable "java/lang/IllegalArgumentException" (6 : Nat)) ∈ wAll := wA 196 (by decide +kernel) (by decide +kernel)
theorem mw204 : (Jvm.Cond.selects "java/lang/IllegalArgumentException" ({ cls := "java/lang/Throwable", name := "fillInStackTrace", desc := "(I)Ljava/lang/Throwable;" } : Jvm.MethodName) ({ cls := "java/lang/Throwable", name := "fillInStackTrace", desc := "(I)Ljava/lang/Throwable;" } : Jvm.MethodName)) ∈ wAll := wA 204 (by decide +kernel) (by decide +kernel)
theorem mw205 : (Jvm.Cond.selects "java/lang/IllegalArgumentException" ({ cls := "java/lang/Throwable", name := "fillInStackTrace", desc := "()Ljava/lang/Throwable;" } : Jvm.MethodName) ({ cls := "java/lang/Throwable", name := "fillInStackTrace", desc := "()Ljava/lang/Throwable;" } : Jvm.MethodName)) ∈ wAll := wA 205 (by decide +kernel) (by decide +kernel)
theorem mw216 : (Jvm.Cond.fieldLink "java/lang/Throwable" (198 : Nat) "java/lang/Throwable" "backtrace" "Ljava/lang/Object;") ∈ wAll := wA 216 (by decide +kernel) (by decide +kernel)
theorem mw218 : (Jvm.Cond.instanceMethod ({ cls := "java/lang/Throwable", name := "<init>", desc := "()V" } : Jvm.MethodName)) ∈ wAll := wA 218 (by decide +kernel) (by decide +kernel)
theorem mw219 : (Jvm.Cond.code ({ cls := "java/lang/Throwable", name := "<init>", desc := "()V" } : Jvm.MethodName) prog_16_method_1_code (1 : Nat) (Option.none : Option Jvm.ClassFile.FieldType)) ∈ wAll := wA 219 (by decide +kernel) (by decide +kernel)
theorem mw220 : (Jvm.Cond.methodLink "java/lang/Throwable" (1 : Nat) ({ cls := "java/lang/Object", name := "<init>", desc := "()V" } : Jvm.MethodName)) ∈ wAll := wA 220 (by decide +kernel) (by decide +kernel)
theorem mw221 : (Jvm.Cond.fieldLink "java/lang/Throwable" (13 : Nat) "java/lang/Throwable" "UNASSIGNED_STACK" "[Ljava/lang/StackTraceElement;") ∈ wAll := wA 221 (by decide +kernel) (by decide +kernel)
theorem mw223 : (Jvm.Cond.fieldLink "java/lang/Throwable" (20 : Nat) "java/lang/Throwable" "SUPPRESSED_SENTINEL" "Ljava/util/List;") ∈ wAll := wA 223 (by decide +kernel) (by decide +kernel)
theorem mw225 : (Jvm.Cond.methodLink "java/lang/Throwable" (27 : Nat) ({ cls := "java/lang/Throwable", name := "fillInStackTrace", desc := "()Ljava/lang/Throwable;" } : Jvm.MethodName)) ∈ wAll := wA 225 (by decide +kernel) (by decide +kernel)
theorem mw226 : (Jvm.Cond.instanceMethod ({ cls := "java/lang/Throwable", name := "fillInStackTrace", desc := "()Ljava/lang/Throwable;" } : Jvm.MethodName)) ∈ wAll := wA 226 (by decide +kernel) (by decide +kernel)
theorem mw228 : (Jvm.Cond.selects "java/lang/IllegalStateException" ({ cls := "java/lang/Throwable", name := "fillInStackTrace", desc := "()Ljava/lang/Throwable;" } : Jvm.MethodName) ({ cls := "java/lang/Throwable", name := "fillInStackTrace", desc := "()Ljava/lang/Throwable;" } : Jvm.MethodName)) ∈ wAll := wA 228 (by decide +kernel) (by decide +kernel)
theorem mw229 : (Jvm.Cond.selects "java/lang/IndexOutOfBoundsException" ({ cls := "java/lang/Throwable", name := "fillInStackTrace", desc := "()Ljava/lang/Throwable;" } : Jvm.MethodName) ({ cls := "java/lang/Throwable", name := "fillInStackTrace", desc := "()Ljava/lang/Throwable;" } : Jvm.MethodName)) ∈ wAll := wA 229 (by decide +kernel) (by decide +kernel)
theorem mw231 : (Jvm.Cond.methodLink "java/lang/Throwable" (202 : Nat) ({ cls := "java/lang/Throwable", name := "fillInStackTrace", desc := "(I)Ljava/lang/Throwable;" } : Jvm.MethodName)) ∈ wAll := wA 231 (by decide +kernel) (by decide +kernel)
theorem mw233 : (Jvm.Cond.instanceMethod ({ cls := "java/lang/Throwable", name := "fillInStackTrace", desc := "(I)Ljava/lang/Throwable;" } : Jvm.MethodName)) ∈ wAll := wA 233 (by decide +kernel) (by decide +kernel)
theorem mw234 : (Jvm.Cond.instantiable "java/lang/Throwable" (6 : Nat)) ∈ wAll := wA 234 (by decide +kernel) (by decide +kernel)
theorem mw237 : (Jvm.Cond.methodLink RX3 (70 : Nat) ({ cls := "java/lang/IllegalArgumentException", name := "<init>", desc := "(Ljava/lang/String;)V" } : Jvm.MethodName)) ∈ wAll := wA 237 (by decide +kernel) (by decide +kernel)
theorem mw238 : (Jvm.Cond.instanceMethod ({ cls := "java/lang/IllegalArgumentException", name := "<init>", desc := "(Ljava/lang/String;)V" } : Jvm.MethodName)) ∈ wAll := wA 238 (by decide +kernel) (by decide +kernel)
theorem mw239 : (Jvm.Cond.code ({ cls := "java/lang/IllegalArgumentException", name := "<init>", desc := "(Ljava/lang/String;)V" } : Jvm.MethodName) prog_8_method_2_code (2 : Nat) (Option.none : Option Jvm.ClassFile.FieldType)) ∈ wAll := wA 239 (by decide +kernel) (by decide +kernel)
theorem mw240 : (Jvm.Cond.methodLink "java/lang/IllegalArgumentException" (7 : Nat) ({ cls := "java/lang/RuntimeException", name := "<init>", desc := "(Ljava/lang/String;)V" } : Jvm.MethodName)) ∈ wAll := wA 240 (by decide +kernel) (by decide +kernel)
theorem mw241 : (Jvm.Cond.instanceMethod ({ cls := "java/lang/RuntimeException", name := "<init>", desc := "(Ljava/lang/String;)V" } : Jvm.MethodName)) ∈ wAll := wA 241 (by decide +kernel) (by decide +kernel)
theorem mw242 : (Jvm.Cond.code ({ cls := "java/lang/RuntimeException", name := "<init>", desc := "(Ljava/lang/String;)V" } : Jvm.MethodName) prog_14_method_2_code (2 : Nat) (Option.none : Option Jvm.ClassFile.FieldType)) ∈ wAll := wA 242 (by decide +kernel) (by decide +kernel)
theorem mw243 : (Jvm.Cond.methodLink "java/lang/RuntimeException" (7 : Nat) ({ cls := "java/lang/Exception", name := "<init>", desc := "(Ljava/lang/String;)V" } : Jvm.MethodName)) ∈ wAll := wA 243 (by decide +kernel) (by decide +kernel)
theorem mw244 : (Jvm.Cond.instanceMethod ({ cls := "java/lang/Exception", name := "<init>", desc := "(Ljava/lang/String;)V" } : Jvm.MethodName)) ∈ wAll := wA 244 (by decide +kernel) (by decide +kernel)
theorem mw245 : (Jvm.Cond.code ({ cls := "java/lang/Exception", name := "<init>", desc := "(Ljava/lang/String;)V" } : Jvm.MethodName) prog_7_method_2_code (2 : Nat) (Option.none : Option Jvm.ClassFile.FieldType)) ∈ wAll := wA 245 (by decide +kernel) (by decide +kernel)
theorem mw246 : (Jvm.Cond.methodLink "java/lang/Exception" (7 : Nat) ({ cls := "java/lang/Throwable", name := "<init>", desc := "(Ljava/lang/String;)V" } : Jvm.MethodName)) ∈ wAll := wA 246 (by decide +kernel) (by decide +kernel)
theorem mw247 : (Jvm.Cond.instanceMethod ({ cls := "java/lang/Throwable", name := "<init>", desc := "(Ljava/lang/String;)V" } : Jvm.MethodName)) ∈ wAll := wA 247 (by decide +kernel) (by decide +kernel)
theorem mw248 : (Jvm.Cond.code ({ cls := "java/lang/Throwable", name := "<init>", desc := "(Ljava/lang/String;)V" } : Jvm.MethodName) prog_16_method_2_code (2 : Nat) (Option.none : Option Jvm.ClassFile.FieldType)) ∈ wAll := wA 248 (by decide +kernel) (by decide +kernel)
theorem mw250 : (Jvm.Cond.fieldLink "java/lang/Throwable" (31 : Nat) "java/lang/Throwable" "detailMessage" "Ljava/lang/String;") ∈ wAll := wA 250 (by decide +kernel) (by decide +kernel)
theorem mw251 : (Jvm.Cond.fieldLink "java/lang/Throwable" (7 : Nat) "java/lang/Throwable" "cause" "Ljava/lang/Throwable;") ∈ wAll := wA 251 (by decide +kernel) (by decide +kernel)
theorem mw252 : (Jvm.Cond.fieldLink "java/lang/Throwable" (17 : Nat) "java/lang/Throwable" "stackTrace" "[Ljava/lang/StackTraceElement;") ∈ wAll := wA 252 (by decide +kernel) (by decide +kernel)
theorem mw253 : (Jvm.Cond.fieldLink "java/lang/Throwable" (24 : Nat) "java/lang/Throwable" "suppressedExceptions" "Ljava/util/List;") ∈ wAll := wA 253 (by decide +kernel) (by decide +kernel)
theorem mw262 : (Jvm.Cond.arrayClass Jvm.ClassFile.FieldType.byte) ∈ wAll := wA 262 (by decide +kernel) (by decide +kernel)
theorem mw263 : (Jvm.Cond.classLink RX3 (73 : Nat) "java/lang/IllegalStateException") ∈ wAll := wA 263 (by decide +kernel) (by decide +kernel)
theorem mw264 : (Jvm.Cond.instantiable "java/lang/IllegalStateException" (6 : Nat)) ∈ wAll := wA 264 (by decide +kernel) (by decide +kernel)
theorem mw266 : (Jvm.Cond.selects "java/lang/IllegalStateException" ({ cls := "java/lang/Throwable", name := "fillInStackTrace", desc := "(I)Ljava/lang/Throwable;" } : Jvm.MethodName) ({ cls := "java/lang/Throwable", name := "fillInStackTrace", desc := "(I)Ljava/lang/Throwable;" } : Jvm.MethodName)) ∈ wAll := wA 266 (by decide +kernel) (by decide +kernel)
theorem mw273 : (Jvm.Cond.methodLink RX3 (77 : Nat) ({ cls := "java/lang/IllegalStateException", name := "<init>", desc := "(Ljava/lang/String;)V" } : Jvm.MethodName)) ∈ wAll := wA 273 (by decide +kernel) (by decide +kernel)
theorem mw274 : (Jvm.Cond.instanceMethod ({ cls := "java/lang/IllegalStateException", name := "<init>", desc := "(Ljava/lang/String;)V" } : Jvm.MethodName)) ∈ wAll := wA 274 (by decide +kernel) (by decide +kernel)
theorem mw275 : (Jvm.Cond.code ({ cls := "java/lang/IllegalStateException", name := "<init>", desc := "(Ljava/lang/String;)V" } : Jvm.MethodName) prog_9_method_2_code (2 : Nat) (Option.none : Option Jvm.ClassFile.FieldType)) ∈ wAll := wA 275 (by decide +kernel) (by decide +kernel)
theorem mw276 : (Jvm.Cond.methodLink "java/lang/IllegalStateException" (7 : Nat) ({ cls := "java/lang/RuntimeException", name := "<init>", desc := "(Ljava/lang/String;)V" } : Jvm.MethodName)) ∈ wAll := wA 276 (by decide +kernel) (by decide +kernel)
theorem mw279 : (Jvm.Cond.methodLink RX3 (78 : Nat) yX2_allow) ∈ wAll := wA 279 (by decide +kernel) (by decide +kernel)
theorem mw280 : (Jvm.Cond.instanceMethod yX2_allow) ∈ wAll := wA 280 (by decide +kernel) (by decide +kernel)
theorem mw281 : (Jvm.Cond.selects RX2 yX2_allow yX2_allow) ∈ wAll := wA 281 (by decide +kernel) (by decide +kernel)
theorem mw282 : (Jvm.Cond.code yX2_allow prog_4_method_4_code (2 : Nat) (Option.some Jvm.ClassFile.FieldType.boolean)) ∈ wAll := wA 282 (by decide +kernel) (by decide +kernel)
theorem mw283 : (Jvm.Cond.methodLink RX2 (27 : Nat) yX2_areExact) ∈ wAll := wA 283 (by decide +kernel) (by decide +kernel)
theorem mw284 : (Jvm.Cond.instanceMethod yX2_areExact) ∈ wAll := wA 284 (by decide +kernel) (by decide +kernel)
theorem mw285 : (Jvm.Cond.selects RX2 yX2_areExact yX2_areExact) ∈ wAll := wA 285 (by decide +kernel) (by decide +kernel)
theorem mw286 : (Jvm.Cond.code yX2_areExact prog_4_method_3_code (1 : Nat) (Option.some Jvm.ClassFile.FieldType.boolean)) ∈ wAll := wA 286 (by decide +kernel) (by decide +kernel)
theorem mw287 : (Jvm.Cond.methodLink RX2 (23 : Nat) yX2_have) ∈ wAll := wA 287 (by decide +kernel) (by decide +kernel)
theorem mw288 : (Jvm.Cond.instanceMethod yX2_have) ∈ wAll := wA 288 (by decide +kernel) (by decide +kernel)
theorem mw289 : (Jvm.Cond.selects RX2 yX2_have yX2_have) ∈ wAll := wA 289 (by decide +kernel) (by decide +kernel)
theorem mw290 : (Jvm.Cond.code yX2_have prog_4_method_2_code (3 : Nat) (Option.some Jvm.ClassFile.FieldType.boolean)) ∈ wAll := wA 290 (by decide +kernel) (by decide +kernel)
theorem mw292 : (Jvm.Cond.methodLink RX3 (84 : Nat) yX2_add) ∈ wAll := wA 292 (by decide +kernel) (by decide +kernel)
theorem mw293 : (Jvm.Cond.instanceMethod yX2_add) ∈ wAll := wA 293 (by decide +kernel) (by decide +kernel)
theorem mw294 : (Jvm.Cond.selects RX2 yX2_add yX2_add) ∈ wAll := wA 294 (by decide +kernel) (by decide +kernel)
theorem mw295 : (Jvm.Cond.code yX2_add prog_4_method_5_code (4 : Nat) (Option.some Jvm.ClassFile.FieldType.int)) ∈ wAll := wA 295 (by decide +kernel) (by decide +kernel)
theorem mw296 : (Jvm.Cond.constantLong RX2 (31 : Nat) (-1 : Int64)) ∈ wAll := wA 296 (by decide +kernel) (by decide +kernel)
theorem mw297 : (Jvm.Cond.methodLink RL (60 : Nat) yL_make) ∈ wAll := wA 297 (by decide +kernel) (by decide +kernel)
theorem mw298 : (Jvm.Cond.static yL_make) ∈ wAll := wA 298 (by decide +kernel) (by decide +kernel)
theorem mw299 : (Jvm.Cond.codeWith yL_make method_4_code (5 : Nat) (Option.some Jvm.ClassFile.FieldType.int) [((0 : Nat), (7 : Nat), (10 : Nat), (13 : Nat)), ((0 : Nat), (7 : Nat), (14 : Nat), (15 : Nat))]) ∈ wAll := wA 299 (by decide +kernel) (by decide +kernel)
theorem mw300 : (Jvm.Cond.methodLink RL (17 : Nat) yX3_make) ∈ wAll := wA 300 (by decide +kernel) (by decide +kernel)
theorem mw301 : (Jvm.Cond.instanceMethod yX3_make) ∈ wAll := wA 301 (by decide +kernel) (by decide +kernel)
theorem mw302 : (Jvm.Cond.selects RX3 yX3_make yX3_make) ∈ wAll := wA 302 (by decide +kernel) (by decide +kernel)
theorem mw303 : (Jvm.Cond.code yX3_make prog_1_method_4_code (5 : Nat) (Option.none : Option Jvm.ClassFile.FieldType)) ∈ wAll := wA 303 (by decide +kernel) (by decide +kernel)
theorem mw305 : (Jvm.Cond.methodLink RX3 (90 : Nat) yX2_areExact) ∈ wAll := wA 305 (by decide +kernel) (by decide +kernel)
theorem mw306 : (Jvm.Cond.methodLink RX3 (94 : Nat) yX3_isHashedShape) ∈ wAll := wA 306 (by decide +kernel) (by decide +kernel)
theorem mw307 : (Jvm.Cond.static yX3_isHashedShape) ∈ wAll := wA 307 (by decide +kernel) (by decide +kernel)
theorem mw308 : (Jvm.Cond.code yX3_isHashedShape prog_1_method_14_code (3 : Nat) (Option.some Jvm.ClassFile.FieldType.boolean)) ∈ wAll := wA 308 (by decide +kernel) (by decide +kernel)
theorem mw309 : (Jvm.Cond.methodLink RX3 (168 : Nat) yJ6_bitCount) ∈ wAll := wA 309 (by decide +kernel) (by decide +kernel)
theorem mw310 : (Jvm.Cond.static yJ6_bitCount) ∈ wAll := wA 310 (by decide +kernel) (by decide +kernel)
theorem mw311 : (Jvm.Cond.code yJ6_bitCount prog_11_method_49_code (1 : Nat) (Option.some Jvm.ClassFile.FieldType.int)) ∈ wAll := wA 311 (by decide +kernel) (by decide +kernel)
theorem mw312 : (Jvm.Cond.constant RJ6 (265 : Nat) (1431655765 : Int32)) ∈ wAll := wA 312 (by decide +kernel) (by decide +kernel)
theorem mw313 : (Jvm.Cond.constant RJ6 (266 : Nat) (858993459 : Int32)) ∈ wAll := wA 313 (by decide +kernel) (by decide +kernel)
theorem mw314 : (Jvm.Cond.constant RJ6 (267 : Nat) (252645135 : Int32)) ∈ wAll := wA 314 (by decide +kernel) (by decide +kernel)
theorem mw315 : (Jvm.Cond.methodLink RX3 (98 : Nat) yX3_isListedShape) ∈ wAll := wA 315 (by decide +kernel) (by decide +kernel)
theorem mw316 : (Jvm.Cond.static yX3_isListedShape) ∈ wAll := wA 316 (by decide +kernel) (by decide +kernel)
theorem mw317 : (Jvm.Cond.code yX3_isListedShape prog_1_method_15_code (1 : Nat) (Option.some Jvm.ClassFile.FieldType.boolean)) ∈ wAll := wA 317 (by decide +kernel) (by decide +kernel)
theorem mw319 : (Jvm.Cond.methodLink RL (66 : Nat) yL_set) ∈ wAll := wA 319 (by decide +kernel) (by decide +kernel)
theorem mw320 : (Jvm.Cond.static yL_set) ∈ wAll := wA 320 (by decide +kernel) (by decide +kernel)
theorem mw321 : (Jvm.Cond.codeWith yL_set method_5_code (7 : Nat) (Option.some Jvm.ClassFile.FieldType.int) [((0 : Nat), (8 : Nat), (11 : Nat), (25 : Nat))]) ∈ wAll := wA 321 (by decide +kernel) (by decide +kernel)
theorem mw322 : (Jvm.Cond.classLink RL (25 : Nat) "java/lang/IndexOutOfBoundsException") ∈ wAll := wA 322 (by decide +kernel) (by decide +kernel)
theorem mw323 : (Jvm.Cond.methodLink RL (21 : Nat) yX3_set) ∈ wAll := wA 323 (by decide +kernel) (by decide +kernel)
theorem mw324 : (Jvm.Cond.instanceMethod yX3_set) ∈ wAll := wA 324 (by decide +kernel) (by decide +kernel)
theorem mw325 : (Jvm.Cond.selects RX3 yX3_set yX3_set) ∈ wAll := wA 325 (by decide +kernel) (by decide +kernel)
theorem mw326 : (Jvm.Cond.code yX3_set prog_1_method_5_code (6 : Nat) (Option.none : Option Jvm.ClassFile.FieldType)) ∈ wAll := wA 326 (by decide +kernel) (by decide +kernel)
theorem mw327 : (Jvm.Cond.classLink RX3 (103 : Nat) "java/lang/IndexOutOfBoundsException") ∈ wAll := wA 327 (by decide +kernel) (by decide +kernel)
theorem mw328 : (Jvm.Cond.instantiable "java/lang/IndexOutOfBoundsException" (6 : Nat)) ∈ wAll := wA 328 (by decide +kernel) (by decide +kernel)
theorem mw330 : (Jvm.Cond.selects "java/lang/IndexOutOfBoundsException" ({ cls := "java/lang/Throwable", name := "fillInStackTrace", desc := "(I)Ljava/lang/Throwable;" } : Jvm.MethodName) ({ cls := "java/lang/Throwable", name := "fillInStackTrace", desc := "(I)Ljava/lang/Throwable;" } : Jvm.MethodName)) ∈ wAll := wA 330 (by decide +kernel) (by decide +kernel)
theorem mw337 : (Jvm.Cond.methodLink RX3 (107 : Nat) ({ cls := "java/lang/IndexOutOfBoundsException", name := "<init>", desc := "(Ljava/lang/String;)V" } : Jvm.MethodName)) ∈ wAll := wA 337 (by decide +kernel) (by decide +kernel)
theorem mw338 : (Jvm.Cond.instanceMethod ({ cls := "java/lang/IndexOutOfBoundsException", name := "<init>", desc := "(Ljava/lang/String;)V" } : Jvm.MethodName)) ∈ wAll := wA 338 (by decide +kernel) (by decide +kernel)
theorem mw339 : (Jvm.Cond.code ({ cls := "java/lang/IndexOutOfBoundsException", name := "<init>", desc := "(Ljava/lang/String;)V" } : Jvm.MethodName) prog_10_method_2_code (2 : Nat) (Option.none : Option Jvm.ClassFile.FieldType)) ∈ wAll := wA 339 (by decide +kernel) (by decide +kernel)
theorem mw340 : (Jvm.Cond.methodLink "java/lang/IndexOutOfBoundsException" (7 : Nat) ({ cls := "java/lang/RuntimeException", name := "<init>", desc := "(Ljava/lang/String;)V" } : Jvm.MethodName)) ∈ wAll := wA 340 (by decide +kernel) (by decide +kernel)
theorem mw343 : (Jvm.Cond.methodLink RL (70 : Nat) yL_insert) ∈ wAll := wA 343 (by decide +kernel) (by decide +kernel)
theorem mw344 : (Jvm.Cond.static yL_insert) ∈ wAll := wA 344 (by decide +kernel) (by decide +kernel)
theorem mw345 : (Jvm.Cond.codeWith yL_insert method_6_code (7 : Nat) (Option.some Jvm.ClassFile.FieldType.int) [((0 : Nat), (19 : Nat), (22 : Nat), (15 : Nat))]) ∈ wAll := wA 345 (by decide +kernel) (by decide +kernel)
theorem mw346 : (Jvm.Cond.methodLink RL (27 : Nat) yX3_insert) ∈ wAll := wA 346 (by decide +kernel) (by decide +kernel)
theorem mw347 : (Jvm.Cond.instanceMethod yX3_insert) ∈ wAll := wA 347 (by decide +kernel) (by decide +kernel)
theorem mw348 : (Jvm.Cond.selects RX3 yX3_insert yX3_insert) ∈ wAll := wA 348 (by decide +kernel) (by decide +kernel)
theorem mw349 : (Jvm.Cond.code yX3_insert prog_1_method_6_code (5 : Nat) (Option.some Jvm.ClassFile.FieldType.boolean)) ∈ wAll := wA 349 (by decide +kernel) (by decide +kernel)
theorem mw350 : (Jvm.Cond.methodLink RX3 (108 : Nat) yX3_requireTable) ∈ wAll := wA 350 (by decide +kernel) (by decide +kernel)
theorem mw352 : (Jvm.Cond.instanceMethod yX3_requireTable) ∈ wAll := wA 352 (by decide +kernel) (by decide +kernel)
theorem mw353 : (Jvm.Cond.code yX3_requireTable prog_1_method_13_code (1 : Nat) (Option.none : Option Jvm.ClassFile.FieldType)) ∈ wAll := wA 353 (by decide +kernel) (by decide +kernel)
theorem mw355 : (Jvm.Cond.methodLink RX3 (111 : Nat) yX3_isAction) ∈ wAll := wA 355 (by decide +kernel) (by decide +kernel)
theorem mw356 : (Jvm.Cond.static yX3_isAction) ∈ wAll := wA 356 (by decide +kernel) (by decide +kernel)
theorem mw357 : (Jvm.Cond.code yX3_isAction prog_1_method_16_code (1 : Nat) (Option.some Jvm.ClassFile.FieldType.boolean)) ∈ wAll := wA 357 (by decide +kernel) (by decide +kernel)
theorem mw358 : (Jvm.Cond.methodLink RX3 (114 : Nat) yX3_areMasksRight) ∈ wAll := wA 358 (by decide +kernel) (by decide +kernel)
theorem mw360 : (Jvm.Cond.instanceMethod yX3_areMasksRight) ∈ wAll := wA 360 (by decide +kernel) (by decide +kernel)
theorem mw361 : (Jvm.Cond.code yX3_areMasksRight prog_1_method_18_code (2 : Nat) (Option.some Jvm.ClassFile.FieldType.boolean)) ∈ wAll := wA 361 (by decide +kernel) (by decide +kernel)
theorem mw362 : (Jvm.Cond.methodLink RX3 (174 : Nat) yX3_askedMask) ∈ wAll := wA 362 (by decide +kernel) (by decide +kernel)
theorem mw364 : (Jvm.Cond.instanceMethod yX3_askedMask) ∈ wAll := wA 364 (by decide +kernel) (by decide +kernel)
theorem mw365 : (Jvm.Cond.code yX3_askedMask prog_1_method_17_code (2 : Nat) (Option.some Jvm.ClassFile.FieldType.long)) ∈ wAll := wA 365 (by decide +kernel) (by decide +kernel)
theorem mw366 : (Jvm.Cond.methodLink RX3 (178 : Nat) yX2_takeMask) ∈ wAll := wA 366 (by decide +kernel) (by decide +kernel)
theorem mw367 : (Jvm.Cond.instanceMethod yX2_takeMask) ∈ wAll := wA 367 (by decide +kernel) (by decide +kernel)
theorem mw368 : (Jvm.Cond.selects RX2 yX2_takeMask yX2_takeMask) ∈ wAll := wA 368 (by decide +kernel) (by decide +kernel)
theorem mw369 : (Jvm.Cond.code yX2_takeMask prog_4_method_6_code (6 : Nat) (Option.some Jvm.ClassFile.FieldType.boolean)) ∈ wAll := wA 369 (by decide +kernel) (by decide +kernel)
theorem mw370 : (Jvm.Cond.methodLink RX3 (117 : Nat) yX3_findAsked) ∈ wAll := wA 370 (by decide +kernel) (by decide +kernel)
theorem mw372 : (Jvm.Cond.instanceMethod yX3_findAsked) ∈ wAll := wA 372 (by decide +kernel) (by decide +kernel)
theorem mw373 : (Jvm.Cond.code yX3_findAsked prog_1_method_19_code (2 : Nat) (Option.some Jvm.ClassFile.FieldType.int)) ∈ wAll := wA 373 (by decide +kernel) (by decide +kernel)
theorem mw374 : (Jvm.Cond.methodLink RX3 (182 : Nat) yX3_isAsked) ∈ wAll := wA 374 (by decide +kernel) (by decide +kernel)
theorem mw376 : (Jvm.Cond.instanceMethod yX3_isAsked) ∈ wAll := wA 376 (by decide +kernel) (by decide +kernel)
theorem mw377 : (Jvm.Cond.code yX3_isAsked prog_1_method_20_code (6 : Nat) (Option.some Jvm.ClassFile.FieldType.boolean)) ∈ wAll := wA 377 (by decide +kernel) (by decide +kernel)
theorem mw378 : (Jvm.Cond.methodLink RX3 (185 : Nat) yX1_place) ∈ wAll := wA 378 (by decide +kernel) (by decide +kernel)
theorem mw379 : (Jvm.Cond.static yX1_place) ∈ wAll := wA 379 (by decide +kernel) (by decide +kernel)
theorem mw380 : (Jvm.Cond.code yX1_place prog_3_method_2_code (2 : Nat) (Option.some Jvm.ClassFile.FieldType.int)) ∈ wAll := wA 380 (by decide +kernel) (by decide +kernel)
theorem mw381 : (Jvm.Cond.methodLink RX3 (121 : Nat) yX3_hasRoom) ∈ wAll := wA 381 (by decide +kernel) (by decide +kernel)
theorem mw383 : (Jvm.Cond.instanceMethod yX3_hasRoom) ∈ wAll := wA 383 (by decide +kernel) (by decide +kernel)
theorem mw384 : (Jvm.Cond.code yX3_hasRoom prog_1_method_22_code (1 : Nat) (Option.some Jvm.ClassFile.FieldType.boolean)) ∈ wAll := wA 384 (by decide +kernel) (by decide +kernel)
theorem mw385 : (Jvm.Cond.methodLink RX3 (128 : Nat) yX3_bucket) ∈ wAll := wA 385 (by decide +kernel) (by decide +kernel)
theorem mw386 : (Jvm.Cond.methodLink RX3 (194 : Nat) yX0_haveRoom) ∈ wAll := wA 386 (by decide +kernel) (by decide +kernel)
theorem mw387 : (Jvm.Cond.instanceMethod yX0_haveRoom) ∈ wAll := wA 387 (by decide +kernel) (by decide +kernel)
theorem mw388 : (Jvm.Cond.selects RX0 yX0_haveRoom yX0_haveRoom) ∈ wAll := wA 388 (by decide +kernel) (by decide +kernel)
theorem mw389 : (Jvm.Cond.code yX0_haveRoom prog_2_method_5_code (2 : Nat) (Option.some Jvm.ClassFile.FieldType.boolean)) ∈ wAll := wA 389 (by decide +kernel) (by decide +kernel)
theorem mw390 : (Jvm.Cond.methodLink RX0 (31 : Nat) yX0_isOne) ∈ wAll := wA 390 (by decide +kernel) (by decide +kernel)
theorem mw391 : (Jvm.Cond.instanceMethod yX0_isOne) ∈ wAll := wA 391 (by decide +kernel) (by decide +kernel)
theorem mw392 : (Jvm.Cond.selects RX0 yX0_isOne yX0_isOne) ∈ wAll := wA 392 (by decide +kernel) (by decide +kernel)
theorem mw393 : (Jvm.Cond.code yX0_isOne prog_2_method_4_code (2 : Nat) (Option.some Jvm.ClassFile.FieldType.boolean)) ∈ wAll := wA 393 (by decide +kernel) (by decide +kernel)
theorem mw394 : (Jvm.Cond.methodLink RX0 (35 : Nat) yX0_above) ∈ wAll := wA 394 (by decide +kernel) (by decide +kernel)
theorem mw395 : (Jvm.Cond.methodLink RX3 (124 : Nat) yX3_addAsked) ∈ wAll := wA 395 (by decide +kernel) (by decide +kernel)
theorem mw397 : (Jvm.Cond.instanceMethod yX3_addAsked) ∈ wAll := wA 397 (by decide +kernel) (by decide +kernel)
theorem mw398 : (Jvm.Cond.code yX3_addAsked prog_1_method_23_code (11 : Nat) (Option.none : Option Jvm.ClassFile.FieldType)) ∈ wAll := wA 398 (by decide +kernel) (by decide +kernel)
theorem mw399 : (Jvm.Cond.methodLink RX3 (200 : Nat) yJ13_bitCount) ∈ wAll := wA 399 (by decide +kernel) (by decide +kernel)
theorem mw400 : (Jvm.Cond.static yJ13_bitCount) ∈ wAll := wA 400 (by decide +kernel) (by decide +kernel)
theorem mw401 : (Jvm.Cond.code yJ13_bitCount prog_12_method_50_code (2 : Nat) (Option.some Jvm.ClassFile.FieldType.int)) ∈ wAll := wA 401 (by decide +kernel) (by decide +kernel)
theorem mw402 : (Jvm.Cond.constantLong RJ13 (314 : Nat) (6148914691236517205 : Int64)) ∈ wAll := wA 402 (by decide +kernel) (by decide +kernel)
theorem mw403 : (Jvm.Cond.constantLong RJ13 (316 : Nat) (3689348814741910323 : Int64)) ∈ wAll := wA 403 (by decide +kernel) (by decide +kernel)
theorem mw404 : (Jvm.Cond.constantLong RJ13 (318 : Nat) (1085102592571150095 : Int64)) ∈ wAll := wA 404 (by decide +kernel) (by decide +kernel)
theorem mw405 : (Jvm.Cond.methodLink RX3 (131 : Nat) yX0_fill) ∈ wAll := wA 405 (by decide +kernel) (by decide +kernel)
theorem mw406 : (Jvm.Cond.instanceMethod yX0_fill) ∈ wAll := wA 406 (by decide +kernel) (by decide +kernel)
theorem mw407 : (Jvm.Cond.selects RX0 yX0_fill yX0_fill) ∈ wAll := wA 407 (by decide +kernel) (by decide +kernel)
theorem mw408 : (Jvm.Cond.code yX0_fill prog_2_method_6_code (2 : Nat) (Option.none : Option Jvm.ClassFile.FieldType)) ∈ wAll := wA 408 (by decide +kernel) (by decide +kernel)
theorem mw409 : (Jvm.Cond.methodLink RL (74 : Nat) yL_change) ∈ wAll := wA 409 (by decide +kernel) (by decide +kernel)
theorem mw410 : (Jvm.Cond.static yL_change) ∈ wAll := wA 410 (by decide +kernel) (by decide +kernel)
theorem mw411 : (Jvm.Cond.codeWith yL_change method_7_code (6 : Nat) (Option.some Jvm.ClassFile.FieldType.int) [((0 : Nat), (18 : Nat), (21 : Nat), (15 : Nat))]) ∈ wAll := wA 411 (by decide +kernel) (by decide +kernel)
theorem mw412 : (Jvm.Cond.methodLink RL (31 : Nat) yX3_change) ∈ wAll := wA 412 (by decide +kernel) (by decide +kernel)
theorem mw413 : (Jvm.Cond.instanceMethod yX3_change) ∈ wAll := wA 413 (by decide +kernel) (by decide +kernel)
theorem mw414 : (Jvm.Cond.selects RX3 yX3_change yX3_change) ∈ wAll := wA 414 (by decide +kernel) (by decide +kernel)
theorem mw415 : (Jvm.Cond.code yX3_change prog_1_method_7_code (5 : Nat) (Option.some Jvm.ClassFile.FieldType.boolean)) ∈ wAll := wA 415 (by decide +kernel) (by decide +kernel)
theorem mw416 : (Jvm.Cond.methodLink RL (78 : Nat) yL_remove) ∈ wAll := wA 416 (by decide +kernel) (by decide +kernel)
theorem mw417 : (Jvm.Cond.static yL_remove) ∈ wAll := wA 417 (by decide +kernel) (by decide +kernel)
theorem mw418 : (Jvm.Cond.codeWith yL_remove method_8_code (3 : Nat) (Option.some Jvm.ClassFile.FieldType.int) [((0 : Nat), (15 : Nat), (18 : Nat), (15 : Nat))]) ∈ wAll := wA 418 (by decide +kernel) (by decide +kernel)
theorem mw419 : (Jvm.Cond.methodLink RL (35 : Nat) yX3_remove) ∈ wAll := wA 419 (by decide +kernel) (by decide +kernel)
theorem mw420 : (Jvm.Cond.instanceMethod yX3_remove) ∈ wAll := wA 420 (by decide +kernel) (by decide +kernel)
theorem mw421 : (Jvm.Cond.selects RX3 yX3_remove yX3_remove) ∈ wAll := wA 421 (by decide +kernel) (by decide +kernel)
theorem mw422 : (Jvm.Cond.code yX3_remove prog_1_method_8_code (2 : Nat) (Option.some Jvm.ClassFile.FieldType.boolean)) ∈ wAll := wA 422 (by decide +kernel) (by decide +kernel)
theorem mw423 : (Jvm.Cond.methodLink RX3 (141 : Nat) yX1_drop) ∈ wAll := wA 423 (by decide +kernel) (by decide +kernel)
theorem mw424 : (Jvm.Cond.instanceMethod yX1_drop) ∈ wAll := wA 424 (by decide +kernel) (by decide +kernel)
theorem mw425 : (Jvm.Cond.selects RX1 yX1_drop yX1_drop) ∈ wAll := wA 425 (by decide +kernel) (by decide +kernel)
theorem mw426 : (Jvm.Cond.code yX1_drop prog_3_method_3_code (3 : Nat) (Option.none : Option Jvm.ClassFile.FieldType)) ∈ wAll := wA 426 (by decide +kernel) (by decide +kernel)
theorem mw427 : (Jvm.Cond.methodLink RX1 (35 : Nat) yX1_copy) ∈ wAll := wA 427 (by decide +kernel) (by decide +kernel)
theorem mw429 : (Jvm.Cond.instanceMethod yX1_copy) ∈ wAll := wA 429 (by decide +kernel) (by decide +kernel)
theorem mw430 : (Jvm.Cond.code yX1_copy prog_3_method_4_code (4 : Nat) (Option.none : Option Jvm.ClassFile.FieldType)) ∈ wAll := wA 430 (by decide +kernel) (by decide +kernel)
theorem mw431 : (Jvm.Cond.methodLink RX1 (39 : Nat) yX1_place) ∈ wAll := wA 431 (by decide +kernel) (by decide +kernel)
theorem mw432 : (Jvm.Cond.methodLink RX3 (144 : Nat) yX0_empty) ∈ wAll := wA 432 (by decide +kernel) (by decide +kernel)
theorem mw433 : (Jvm.Cond.instanceMethod yX0_empty) ∈ wAll := wA 433 (by decide +kernel) (by decide +kernel)
theorem mw434 : (Jvm.Cond.selects RX0 yX0_empty yX0_empty) ∈ wAll := wA 434 (by decide +kernel) (by decide +kernel)
theorem mw435 : (Jvm.Cond.code yX0_empty prog_2_method_7_code (2 : Nat) (Option.none : Option Jvm.ClassFile.FieldType)) ∈ wAll := wA 435 (by decide +kernel) (by decide +kernel)
theorem mw436 : (Jvm.Cond.methodLink RL (82 : Nat) yL_match) ∈ wAll := wA 436 (by decide +kernel) (by decide +kernel)
theorem mw437 : (Jvm.Cond.static yL_match) ∈ wAll := wA 437 (by decide +kernel) (by decide +kernel)
theorem mw438 : (Jvm.Cond.codeWith yL_match method_9_code (3 : Nat) (Option.some Jvm.ClassFile.FieldType.int) [((0 : Nat), (8 : Nat), (11 : Nat), (15 : Nat))]) ∈ wAll := wA 438 (by decide +kernel) (by decide +kernel)
theorem mw439 : (Jvm.Cond.methodLink RL (39 : Nat) yX3_match) ∈ wAll := wA 439 (by decide +kernel) (by decide +kernel)
theorem mw440 : (Jvm.Cond.instanceMethod yX3_match) ∈ wAll := wA 440 (by decide +kernel) (by decide +kernel)
theorem mw441 : (Jvm.Cond.selects RX3 yX3_match yX3_match) ∈ wAll := wA 441 (by decide +kernel) (by decide +kernel)
theorem mw442 : (Jvm.Cond.code yX3_match prog_1_method_9_code (3 : Nat) (Option.some Jvm.ClassFile.FieldType.int)) ∈ wAll := wA 442 (by decide +kernel) (by decide +kernel)
theorem mw443 : (Jvm.Cond.methodLink RX3 (147 : Nat) yX3_fitsAsked) ∈ wAll := wA 443 (by decide +kernel) (by decide +kernel)
theorem mw445 : (Jvm.Cond.instanceMethod yX3_fitsAsked) ∈ wAll := wA 445 (by decide +kernel) (by decide +kernel)
theorem mw446 : (Jvm.Cond.code yX3_fitsAsked prog_1_method_21_code (4 : Nat) (Option.some Jvm.ClassFile.FieldType.boolean)) ∈ wAll := wA 446 (by decide +kernel) (by decide +kernel)
theorem mw447 : (Jvm.Cond.methodLink RX3 (150 : Nat) yX1_isWorthMore) ∈ wAll := wA 447 (by decide +kernel) (by decide +kernel)
theorem mw448 : (Jvm.Cond.instanceMethod yX1_isWorthMore) ∈ wAll := wA 448 (by decide +kernel) (by decide +kernel)
theorem mw449 : (Jvm.Cond.selects RX1 yX1_isWorthMore yX1_isWorthMore) ∈ wAll := wA 449 (by decide +kernel) (by decide +kernel)
theorem mw450 : (Jvm.Cond.code yX1_isWorthMore prog_3_method_5_code (3 : Nat) (Option.some Jvm.ClassFile.FieldType.boolean)) ∈ wAll := wA 450 (by decide +kernel) (by decide +kernel)
theorem mw451 : (Jvm.Cond.classLink RL (44 : Nat) RX4) ∈ wAll := wA 451 (by decide +kernel) (by decide +kernel)
theorem mw452 : (Jvm.Cond.instantiable RX4 (18 : Nat)) ∈ wAll := wA 452 (by decide +kernel) (by decide +kernel)
theorem mw453 : (Jvm.Cond.methodLink RL (46 : Nat) yX4_init) ∈ wAll := wA 453 (by decide +kernel) (by decide +kernel)
theorem mw454 : (Jvm.Cond.instanceMethod yX4_init) ∈ wAll := wA 454 (by decide +kernel) (by decide +kernel)
theorem mw455 : (Jvm.Cond.code yX4_init prog_6_method_1_code (1 : Nat) (Option.none : Option Jvm.ClassFile.FieldType)) ∈ wAll := wA 455 (by decide +kernel) (by decide +kernel)
theorem mw456 : (Jvm.Cond.methodLink RX4 (1 : Nat) ({ cls := "java/lang/Object", name := "<init>", desc := "()V" } : Jvm.MethodName)) ∈ wAll := wA 456 (by decide +kernel) (by decide +kernel)
theorem mw457 : (Jvm.Cond.fieldLink RX4 (41 : Nat) "WayTablesModel" "thrown" "I") ∈ wAll := wA 457 (by decide +kernel) (by decide +kernel)
theorem mw458 : (Jvm.Cond.fieldLink RX4 (45 : Nat) "WayTablesModel" "keys" "I") ∈ wAll := wA 458 (by decide +kernel) (by decide +kernel)
theorem mw459 : (Jvm.Cond.fieldLink RX4 (67 : Nat) "WayTablesModel" "n" "I") ∈ wAll := wA 459 (by decide +kernel) (by decide +kernel)
theorem mw460 : (Jvm.Cond.fieldLink RX4 (70 : Nat) "WayTablesModel" "w" "I") ∈ wAll := wA 460 (by decide +kernel) (by decide +kernel)
theorem mw461 : (Jvm.Cond.fieldLink RX4 (73 : Nat) "WayTablesModel" "s" "I") ∈ wAll := wA 461 (by decide +kernel) (by decide +kernel)
theorem mw462 : (Jvm.Cond.fieldLink RX4 (52 : Nat) "WayTablesModel" "entries" "I") ∈ wAll := wA 462 (by decide +kernel) (by decide +kernel)
theorem mw463 : (Jvm.Cond.fieldLink RX4 (48 : Nat) "WayTablesModel" "made" "Z") ∈ wAll := wA 463 (by decide +kernel) (by decide +kernel)
theorem mw464 : (Jvm.Cond.fieldLink RX4 (7 : Nat) "WayTablesModel" "width" "[I") ∈ wAll := wA 464 (by decide +kernel) (by decide +kernel)
theorem mw465 : (Jvm.Cond.fieldLink RX4 (13 : Nat) "WayTablesModel" "kind" "[I") ∈ wAll := wA 465 (by decide +kernel) (by decide +kernel)
theorem mw466 : (Jvm.Cond.fieldLink RX4 (16 : Nat) "WayTablesModel" "value" "[J") ∈ wAll := wA 466 (by decide +kernel) (by decide +kernel)
theorem mw467 : (Jvm.Cond.fieldLink RX4 (20 : Nat) "WayTablesModel" "mask" "[J") ∈ wAll := wA 467 (by decide +kernel) (by decide +kernel)
theorem mw468 : (Jvm.Cond.fieldLink RX4 (23 : Nat) "WayTablesModel" "values" "[J") ∈ wAll := wA 468 (by decide +kernel) (by decide +kernel)
theorem mw469 : (Jvm.Cond.fieldLink RX4 (26 : Nat) "WayTablesModel" "masks" "[J") ∈ wAll := wA 469 (by decide +kernel) (by decide +kernel)
theorem mw470 : (Jvm.Cond.fieldLink RX4 (29 : Nat) "WayTablesModel" "priority" "[I") ∈ wAll := wA 470 (by decide +kernel) (by decide +kernel)
theorem mw471 : (Jvm.Cond.fieldLink RX4 (32 : Nat) "WayTablesModel" "action" "[I") ∈ wAll := wA 471 (by decide +kernel) (by decide +kernel)
theorem mw472 : (Jvm.Cond.fieldLink RX4 (35 : Nat) "WayTablesModel" "data" "[J") ∈ wAll := wA 472 (by decide +kernel) (by decide +kernel)
theorem mw473 : (Jvm.Cond.fieldLink RX4 (38 : Nat) "WayTablesModel" "inBucket" "[I") ∈ wAll := wA 473 (by decide +kernel) (by decide +kernel)
theorem mw474 : (Jvm.Cond.fieldLink RX4 (55 : Nat) "WayTablesModel" "datum" "J") ∈ wAll := wA 474 (by decide +kernel) (by decide +kernel)
theorem mw512 : (Jvm.Cond.methodLink RL (57 : Nat) yX4_thrown) ∈ wAll := wA 512 (by decide +kernel) (by decide +kernel)
theorem mw513 : (Jvm.Cond.instanceMethod yX4_thrown) ∈ wAll := wA 513 (by decide +kernel) (by decide +kernel)
theorem mw514 : (Jvm.Cond.selects RX4 yX4_thrown yX4_thrown) ∈ wAll := wA 514 (by decide +kernel) (by decide +kernel)
theorem mw515 : (Jvm.Cond.code yX4_thrown prog_6_method_2_code (1 : Nat) (Option.some Jvm.ClassFile.FieldType.int)) ∈ wAll := wA 515 (by decide +kernel) (by decide +kernel)
theorem mw516 : (Jvm.Cond.methodLink RL (50 : Nat) yX4_clear) ∈ wAll := wA 516 (by decide +kernel) (by decide +kernel)
theorem mw517 : (Jvm.Cond.instanceMethod yX4_clear) ∈ wAll := wA 517 (by decide +kernel) (by decide +kernel)
theorem mw518 : (Jvm.Cond.selects RX4 yX4_clear yX4_clear) ∈ wAll := wA 518 (by decide +kernel) (by decide +kernel)
theorem mw519 : (Jvm.Cond.code yX4_clear prog_6_method_3_code (2 : Nat) (Option.none : Option Jvm.ClassFile.FieldType)) ∈ wAll := wA 519 (by decide +kernel) (by decide +kernel)
theorem mw520 : (Jvm.Cond.methodLink RL (56 : Nat) yX4_key) ∈ wAll := wA 520 (by decide +kernel) (by decide +kernel)
theorem mw521 : (Jvm.Cond.instanceMethod yX4_key) ∈ wAll := wA 521 (by decide +kernel) (by decide +kernel)
theorem mw522 : (Jvm.Cond.selects RX4 yX4_key yX4_key) ∈ wAll := wA 522 (by decide +kernel) (by decide +kernel)
theorem mw523 : (Jvm.Cond.code yX4_key prog_6_method_5_code (4 : Nat) (Option.some Jvm.ClassFile.FieldType.int)) ∈ wAll := wA 523 (by decide +kernel) (by decide +kernel)
theorem mw524 : (Jvm.Cond.methodLink RX4 (59 : Nat) yX4_has) ∈ wAll := wA 524 (by decide +kernel) (by decide +kernel)
theorem mw526 : (Jvm.Cond.instanceMethod yX4_has) ∈ wAll := wA 526 (by decide +kernel) (by decide +kernel)
theorem mw527 : (Jvm.Cond.code yX4_has prog_6_method_4_code (3 : Nat) (Option.some Jvm.ClassFile.FieldType.boolean)) ∈ wAll := wA 527 (by decide +kernel) (by decide +kernel)
theorem mw528 : (Jvm.Cond.methodLink RL (63 : Nat) yX4_make) ∈ wAll := wA 528 (by decide +kernel) (by decide +kernel)
theorem mw529 : (Jvm.Cond.instanceMethod yX4_make) ∈ wAll := wA 529 (by decide +kernel) (by decide +kernel)
theorem mw530 : (Jvm.Cond.selects RX4 yX4_make yX4_make) ∈ wAll := wA 530 (by decide +kernel) (by decide +kernel)
theorem mw531 : (Jvm.Cond.code yX4_make prog_6_method_7_code (5 : Nat) (Option.none : Option Jvm.ClassFile.FieldType)) ∈ wAll := wA 531 (by decide +kernel) (by decide +kernel)
theorem mw532 : (Jvm.Cond.methodLink RX4 (63 : Nat) yX4_hashed) ∈ wAll := wA 532 (by decide +kernel) (by decide +kernel)
theorem mw534 : (Jvm.Cond.instanceMethod yX4_hashed) ∈ wAll := wA 534 (by decide +kernel) (by decide +kernel)
theorem mw535 : (Jvm.Cond.code yX4_hashed prog_6_method_6_code (1 : Nat) (Option.some Jvm.ClassFile.FieldType.boolean)) ∈ wAll := wA 535 (by decide +kernel) (by decide +kernel)
theorem mw536 : (Jvm.Cond.methodLink RL (69 : Nat) yX4_set) ∈ wAll := wA 536 (by decide +kernel) (by decide +kernel)
theorem mw537 : (Jvm.Cond.instanceMethod yX4_set) ∈ wAll := wA 537 (by decide +kernel) (by decide +kernel)
theorem mw538 : (Jvm.Cond.selects RX4 yX4_set yX4_set) ∈ wAll := wA 538 (by decide +kernel) (by decide +kernel)
theorem mw539 : (Jvm.Cond.code yX4_set prog_6_method_8_code (6 : Nat) (Option.none : Option Jvm.ClassFile.FieldType)) ∈ wAll := wA 539 (by decide +kernel) (by decide +kernel)
theorem mw540 : (Jvm.Cond.methodLink RL (73 : Nat) yX4_insert) ∈ wAll := wA 540 (by decide +kernel) (by decide +kernel)
theorem mw541 : (Jvm.Cond.instanceMethod yX4_insert) ∈ wAll := wA 541 (by decide +kernel) (by decide +kernel)
theorem mw542 : (Jvm.Cond.selects RX4 yX4_insert yX4_insert) ∈ wAll := wA 542 (by decide +kernel) (by decide +kernel)
theorem mw543 : (Jvm.Cond.code yX4_insert prog_6_method_16_code (5 : Nat) (Option.some Jvm.ClassFile.FieldType.boolean)) ∈ wAll := wA 543 (by decide +kernel) (by decide +kernel)
theorem mw544 : (Jvm.Cond.methodLink RX4 (88 : Nat) yX4_masksAreRight) ∈ wAll := wA 544 (by decide +kernel) (by decide +kernel)
theorem mw546 : (Jvm.Cond.instanceMethod yX4_masksAreRight) ∈ wAll := wA 546 (by decide +kernel) (by decide +kernel)
theorem mw547 : (Jvm.Cond.code yX4_masksAreRight prog_6_method_11_code (8 : Nat) (Option.some Jvm.ClassFile.FieldType.boolean)) ∈ wAll := wA 547 (by decide +kernel) (by decide +kernel)
theorem mw548 : (Jvm.Cond.methodLink RX4 (78 : Nat) yX4_ones) ∈ wAll := wA 548 (by decide +kernel) (by decide +kernel)
theorem mw550 : (Jvm.Cond.instanceMethod yX4_ones) ∈ wAll := wA 550 (by decide +kernel) (by decide +kernel)
theorem mw551 : (Jvm.Cond.code yX4_ones prog_6_method_9_code (2 : Nat) (Option.some Jvm.ClassFile.FieldType.long)) ∈ wAll := wA 551 (by decide +kernel) (by decide +kernel)
theorem mw552 : (Jvm.Cond.constantLong RX4 (76 : Nat) (-1 : Int64)) ∈ wAll := wA 552 (by decide +kernel) (by decide +kernel)
theorem mw553 : (Jvm.Cond.methodLink RX4 (91 : Nat) yX4_there) ∈ wAll := wA 553 (by decide +kernel) (by decide +kernel)
theorem mw555 : (Jvm.Cond.instanceMethod yX4_there) ∈ wAll := wA 555 (by decide +kernel) (by decide +kernel)
theorem mw556 : (Jvm.Cond.code yX4_there prog_6_method_12_code (6 : Nat) (Option.some Jvm.ClassFile.FieldType.int)) ∈ wAll := wA 556 (by decide +kernel) (by decide +kernel)
theorem mw557 : (Jvm.Cond.methodLink RX4 (95 : Nat) yX4_most) ∈ wAll := wA 557 (by decide +kernel) (by decide +kernel)
theorem mw559 : (Jvm.Cond.instanceMethod yX4_most) ∈ wAll := wA 559 (by decide +kernel) (by decide +kernel)
theorem mw560 : (Jvm.Cond.code yX4_most prog_6_method_24_code (1 : Nat) (Option.some Jvm.ClassFile.FieldType.int)) ∈ wAll := wA 560 (by decide +kernel) (by decide +kernel)
theorem mw561 : (Jvm.Cond.methodLink RX4 (98 : Nat) yX4_write) ∈ wAll := wA 561 (by decide +kernel) (by decide +kernel)
theorem mw563 : (Jvm.Cond.instanceMethod yX4_write) ∈ wAll := wA 563 (by decide +kernel) (by decide +kernel)
theorem mw564 : (Jvm.Cond.code yX4_write prog_6_method_15_code (7 : Nat) (Option.none : Option Jvm.ClassFile.FieldType)) ∈ wAll := wA 564 (by decide +kernel) (by decide +kernel)
theorem mw565 : (Jvm.Cond.methodLink RX4 (102 : Nat) yX4_above) ∈ wAll := wA 565 (by decide +kernel) (by decide +kernel)
theorem mw567 : (Jvm.Cond.instanceMethod yX4_above) ∈ wAll := wA 567 (by decide +kernel) (by decide +kernel)
theorem mw568 : (Jvm.Cond.code yX4_above prog_6_method_14_code (4 : Nat) (Option.some Jvm.ClassFile.FieldType.int)) ∈ wAll := wA 568 (by decide +kernel) (by decide +kernel)
theorem mw569 : (Jvm.Cond.methodLink RX4 (84 : Nat) yX4_bucketOf) ∈ wAll := wA 569 (by decide +kernel) (by decide +kernel)
theorem mw571 : (Jvm.Cond.instanceMethod yX4_bucketOf) ∈ wAll := wA 571 (by decide +kernel) (by decide +kernel)
theorem mw572 : (Jvm.Cond.code yX4_bucketOf prog_6_method_13_code (8 : Nat) (Option.some Jvm.ClassFile.FieldType.int)) ∈ wAll := wA 572 (by decide +kernel) (by decide +kernel)
theorem mw573 : (Jvm.Cond.constantLong RX4 (82 : Nat) (31 : Int64)) ∈ wAll := wA 573 (by decide +kernel) (by decide +kernel)
theorem mw574 : (Jvm.Cond.methodLink RL (77 : Nat) yX4_change) ∈ wAll := wA 574 (by decide +kernel) (by decide +kernel)
theorem mw575 : (Jvm.Cond.instanceMethod yX4_change) ∈ wAll := wA 575 (by decide +kernel) (by decide +kernel)
theorem mw576 : (Jvm.Cond.selects RX4 yX4_change yX4_change) ∈ wAll := wA 576 (by decide +kernel) (by decide +kernel)
theorem mw577 : (Jvm.Cond.code yX4_change prog_6_method_17_code (5 : Nat) (Option.some Jvm.ClassFile.FieldType.boolean)) ∈ wAll := wA 577 (by decide +kernel) (by decide +kernel)
theorem mw578 : (Jvm.Cond.methodLink RL (81 : Nat) yX4_remove) ∈ wAll := wA 578 (by decide +kernel) (by decide +kernel)
theorem mw579 : (Jvm.Cond.instanceMethod yX4_remove) ∈ wAll := wA 579 (by decide +kernel) (by decide +kernel)
theorem mw580 : (Jvm.Cond.selects RX4 yX4_remove yX4_remove) ∈ wAll := wA 580 (by decide +kernel) (by decide +kernel)
theorem mw581 : (Jvm.Cond.code yX4_remove prog_6_method_18_code (4 : Nat) (Option.some Jvm.ClassFile.FieldType.boolean)) ∈ wAll := wA 581 (by decide +kernel) (by decide +kernel)
theorem mw582 : (Jvm.Cond.methodLink RL (84 : Nat) yX4_match) ∈ wAll := wA 582 (by decide +kernel) (by decide +kernel)
theorem mw583 : (Jvm.Cond.instanceMethod yX4_match) ∈ wAll := wA 583 (by decide +kernel) (by decide +kernel)
theorem mw584 : (Jvm.Cond.selects RX4 yX4_match yX4_match) ∈ wAll := wA 584 (by decide +kernel) (by decide +kernel)
theorem mw585 : (Jvm.Cond.code yX4_match prog_6_method_21_code (4 : Nat) (Option.some Jvm.ClassFile.FieldType.int)) ∈ wAll := wA 585 (by decide +kernel) (by decide +kernel)
theorem mw586 : (Jvm.Cond.methodLink RX4 (109 : Nat) yX4_matches) ∈ wAll := wA 586 (by decide +kernel) (by decide +kernel)
theorem mw588 : (Jvm.Cond.instanceMethod yX4_matches) ∈ wAll := wA 588 (by decide +kernel) (by decide +kernel)
theorem mw589 : (Jvm.Cond.code yX4_matches prog_6_method_19_code (3 : Nat) (Option.some Jvm.ClassFile.FieldType.boolean)) ∈ wAll := wA 589 (by decide +kernel) (by decide +kernel)
theorem mw590 : (Jvm.Cond.methodLink RX4 (112 : Nat) yX4_prefixOnes) ∈ wAll := wA 590 (by decide +kernel) (by decide +kernel)
theorem mw592 : (Jvm.Cond.instanceMethod yX4_prefixOnes) ∈ wAll := wA 592 (by decide +kernel) (by decide +kernel)
theorem mw593 : (Jvm.Cond.code yX4_prefixOnes prog_6_method_20_code (3 : Nat) (Option.some Jvm.ClassFile.FieldType.int)) ∈ wAll := wA 593 (by decide +kernel) (by decide +kernel)
theorem mw594 : (Jvm.Cond.methodLink RX4 (105 : Nat) yX4_onesIn) ∈ wAll := wA 594 (by decide +kernel) (by decide +kernel)
theorem mw595 : (Jvm.Cond.static yX4_onesIn) ∈ wAll := wA 595 (by decide +kernel) (by decide +kernel)
theorem mw596 : (Jvm.Cond.code yX4_onesIn prog_6_method_10_code (4 : Nat) (Option.some Jvm.ClassFile.FieldType.int)) ∈ wAll := wA 596 (by decide +kernel) (by decide +kernel)
theorem mw597 : (Jvm.Cond.methodLink RL (89 : Nat) yX4_datum) ∈ wAll := wA 597 (by decide +kernel) (by decide +kernel)
theorem mw598 : (Jvm.Cond.instanceMethod yX4_datum) ∈ wAll := wA 598 (by decide +kernel) (by decide +kernel)
theorem mw599 : (Jvm.Cond.selects RX4 yX4_datum yX4_datum) ∈ wAll := wA 599 (by decide +kernel) (by decide +kernel)
theorem mw600 : (Jvm.Cond.code yX4_datum prog_6_method_22_code (1 : Nat) (Option.some Jvm.ClassFile.FieldType.long)) ∈ wAll := wA 600 (by decide +kernel) (by decide +kernel)
theorem mw601 : (Jvm.Cond.methodLink RL (93 : Nat) yX4_bucket) ∈ wAll := wA 601 (by decide +kernel) (by decide +kernel)
theorem mw602 : (Jvm.Cond.instanceMethod yX4_bucket) ∈ wAll := wA 602 (by decide +kernel) (by decide +kernel)
theorem mw603 : (Jvm.Cond.selects RX4 yX4_bucket yX4_bucket) ∈ wAll := wA 603 (by decide +kernel) (by decide +kernel)
theorem mw604 : (Jvm.Cond.code yX4_bucket prog_6_method_23_code (1 : Nat) (Option.some Jvm.ClassFile.FieldType.int)) ∈ wAll := wA 604 (by decide +kernel) (by decide +kernel)
theorem mw605 : (Jvm.Cond.methodLink RL (98 : Nat) yX4_count) ∈ wAll := wA 605 (by decide +kernel) (by decide +kernel)
theorem mw606 : (Jvm.Cond.instanceMethod yX4_count) ∈ wAll := wA 606 (by decide +kernel) (by decide +kernel)
theorem mw607 : (Jvm.Cond.selects RX4 yX4_count yX4_count) ∈ wAll := wA 607 (by decide +kernel) (by decide +kernel)
theorem mw608 : (Jvm.Cond.code yX4_count prog_6_method_25_code (2 : Nat) (Option.some Jvm.ClassFile.FieldType.int)) ∈ wAll := wA 608 (by decide +kernel) (by decide +kernel)
theorem mw609 : (Jvm.Cond.constantLong RL (64 : Nat) (4294967295 : Int64)) ∈ wAll := wA 609 (by decide +kernel) (by decide +kernel)
end
section
/-! 04.base: reads (the heap stays), writes (a world becomes another at the same places), and rows for places counted by Nat -/
section BASE
variable {p : Program} {l : Launch} {e : Env} {R : Room} {s : State} {m : MethodId} {args : Array Value} {below : List Frame} {meth : Method} {c : Code} {H : Heap} {locs : List Loc} {cells slots : Nat} {Q : State → Prop}
variable {cc : ByteArray} {pc : Nat} {ls : Array Slot} {rest st0 : List Value} {D : va_G} {cl : List vw_C} {tys : List (ClassId × FieldType)} {A : Nat → Prop} {H0 : Heap} {ws : va_W}

/-- a read: it answers v, and the heap is as it was -/
def rd_Q (v : Option Value) : Array Value → State → Outcome → State → Prop := fun _ st o t => o = .returned v ∧ t.heap = st.heap
/-- what a read asks: the cells w -/
def rd_P (D : va_G) (cl : List vw_C) (tys : List (ClassId × FieldType)) (w : va_W) (av : List Value) : Array Value → State → Prop := va_Pc av (fun U => va_P D cl w U.heap ∧ va_K D cl tys U)
theorem rd_blind {w : va_W} {av : List Value} : FrameBlind (rd_P D cl tys w av) := fun a U g mk q => ⟨q.1, q.2.1, va_K.moved (u := U) (U := U.calling g mk a) (Vm.Alike.refl U.vm) q.2.2⟩
theorem rd_preS {w : va_W} {As : List Value} (hP : va_P D cl w H) (hK : va_K D cl tys s) : PreS s H (rd_P D cl tys w As) As :=
  ⟨rd_blind, fun U hU hW => ⟨rfl, by rw [hU]; exact hP, va_K.moved hW.alike hK⟩⟩
theorem rd_preV {w : va_W} {As : List Value} {C : String} {b : Addr} (hP : va_P D cl w H) (hK : va_K D cl tys s) (hr : ∃ cell : Cell, H[b]? = some cell ∧ cell.vm.isStatics = false ∧ s.vm.findClass C = some cell.cls) : PreV s H C b (rd_P D cl tys w (.ref b :: As)) As :=
  ⟨rd_blind, hr, fun U hU hW => ⟨rfl, by rw [hU]; exact hP, va_K.moved hW.alike hK⟩⟩
theorem rd_calli {r : Int32} {a : Array Value} (hr : va_Run p l e R s m args below meth c H locs cells slots 0 0 (F0 m pc ls st0) rest (rd_Q (some (.int r)) a) (fun _ => False)) (kk : W p l e R s m args below meth c H locs cells slots Q (F0 m (pc + 3) ls (.int r :: rest))) : W p l e R s m args below meth c H locs cells slots Q (F0 m pc ls st0) := by
  intro T hT X
  obtain ⟨v, st₀, t, T', L, h0, X', hL, e1, e2, ⟨hv, hh⟩, st⟩ := hr T hT X
  cases hv
  obtain ⟨t2, a1, b1⟩ := kk T' (by rw [e1, hh, h0]) (Stand.forget X' (fun q h => (hL q h).elim))
  exact ⟨t2, st t2 a1, b1⟩
theorem rd_calll {r : Int64} {a : Array Value} (hr : va_Run p l e R s m args below meth c H locs cells slots 0 0 (F0 m pc ls st0) rest (rd_Q (some (.long r)) a) (fun _ => False)) (kk : W p l e R s m args below meth c H locs cells slots Q (F0 m (pc + 3) ls (.long r :: rest))) : W p l e R s m args below meth c H locs cells slots Q (F0 m pc ls st0) := by
  intro T hT X
  obtain ⟨v, st₀, t, T', L, h0, X', hL, e1, e2, ⟨hv, hh⟩, st⟩ := hr T hT X
  cases hv
  obtain ⟨t2, a1, b1⟩ := kk T' (by rw [e1, hh, h0]) (Stand.forget X' (fun q h => (hL q h).elim))
  exact ⟨t2, st t2 a1, b1⟩
/-- the ends of a read -/
theorem rd_iret {v r : Int32} {ty : FieldType} (hexec : p.tables.exec = Jvm.exec) (hb : c.code = cc) (hr : meth.sig.returnType = some ty) (hlocks : meth.locks = false) (hdg : decode cc pc = .ok (.ireturn, 1)) (hn : narrow ty (.int v) = .int v) (hv : v = r) :
    W p l e R s m args below meth c s.heap [] 0 0 (MQ below (rd_Q (some (.int r))) args s 0 0 (fun _ => False)) (F0 m pc ls [.int v]) :=
  W.zret hexec hb hr hn (fun t ht _ => ⟨by rw [hv], ht⟩) (fun _ h => nomatch h) hdg hlocks
theorem rd_lret {v r : Int64} (hexec : p.tables.exec = Jvm.exec) (hb : c.code = cc) (hr : meth.sig.returnType = some .long) (hlocks : meth.locks = false) (hdg : decode cc pc = .ok (.lreturn, 1)) (hv : v = r) :
    W p l e R s m args below meth c s.heap [] 0 0 (MQ below (rd_Q (some (.long r))) args s 0 0 (fun _ => False)) (F0 m pc ls [.long v]) :=
  W.lret hexec hb hr (fun t ht _ => ⟨by rw [hv], ht⟩) (fun _ h => nomatch h) hdg hlocks

/-- the places of a world -/
def wr_I (w : va_W) : Nat → Prop := fun q => ∃ (k : Nat) (e : va_E), w[k]? = some (q, e)
/-- a write: it answers v, the cells w are now w', all else that was there is as it was -/
def wr_Q (D : va_G) (cl : List vw_C) (v : Option Value) (w w' : va_W) : Array Value → State → Outcome → State → Prop := fun _ st o t => o = .returned v ∧ va_P D cl w' t.heap ∧ va_F (wr_I w) st t
def wr_P (D : va_G) (cl : List vw_C) (tys : List (ClassId × FieldType)) (w : va_W) (av : List Value) : Array Value → State → Prop := va_Pc av (fun U => va_P D cl w U.heap ∧ va_K D cl tys U ∧ va_D (fun _ => True) w)
theorem wr_blind {w : va_W} {av : List Value} : FrameBlind (wr_P D cl tys w av) := fun a U g mk q => ⟨q.1, q.2.1, va_K.moved (u := U) (U := U.calling g mk a) (Vm.Alike.refl U.vm) q.2.2.1, q.2.2.2⟩
theorem wr_preS {w : va_W} {As : List Value} (hP : va_P D cl w H) (hK : va_K D cl tys s) (hD : va_D A w) : PreS s H (wr_P D cl tys w As) As :=
  ⟨wr_blind, fun U hU hW => ⟨rfl, by rw [hU]; exact hP, va_K.moved hW.alike hK, hD.weaken (fun _ _ _ _ => trivial)⟩⟩
theorem wr_preV {w : va_W} {As : List Value} {C : String} {b : Addr} (hP : va_P D cl w H) (hK : va_K D cl tys s) (hD : va_D A w) (hr : ∃ cell : Cell, H[b]? = some cell ∧ cell.vm.isStatics = false ∧ s.vm.findClass C = some cell.cls) : PreV s H C b (wr_P D cl tys w (.ref b :: As)) As :=
  ⟨wr_blind, hr, fun U hU hW => ⟨rfl, by rw [hU]; exact hP, va_K.moved hW.alike hK, hD.weaken (fun _ _ _ _ => trivial)⟩⟩
theorem wr_addr {ws ws' : va_W} (hD : va_D A ws) (ha : ws'.map (fun q => q.1) = ws.map (fun q => q.1)) : va_D A ws' := by
  have h1 : ∀ (k : Nat) (q : Nat × va_E), ws'[k]? = some q → ∃ e, ws[k]? = some (q.1, e) := by
    intro k q hq
    have h2 : (ws'.map (fun q => q.1))[k]? = some q.1 := by rw [List.getElem?_map, hq]; rfl
    rw [ha, List.getElem?_map] at h2
    cases h3 : ws[k]? with
    | none => rw [h3] at h2; cases h2
    | some z =>
      rw [h3] at h2
      obtain ⟨z1, z2⟩ := z
      have h4 : z1 = q.1 := Option.some.inj h2
      exact ⟨z2, by rw [h4]⟩
  refine ⟨fun i j x y hx hy hxy => ?_, fun k q hk => ?_⟩
  · obtain ⟨e1, g1⟩ := h1 i x hx
    obtain ⟨e2, g2⟩ := h1 j y hy
    exact hD.1 i j _ _ g1 g2 hxy
  · obtain ⟨e1, g1⟩ := h1 k q hk
    exact hD.2 k (q.1, e1) g1
/-- behind a write of the cells w, at the places isC of ws: the world in its old order -/
theorem wr_join {w w' wr ws' : va_W} {H1 : Heap} (hP : va_P D cl ws H) (hD : va_D A ws) (isC isR pm : List Nat) (hC : isC.map (fun i => ws[i]?) = w.map some) (hR : isR.map (fun i => ws[i]?) = wr.map some) (hdis : ∀ i ∈ isR, i ∉ isC) (hpm : pm.filterMap (fun i => (wr ++ w')[i]?) = ws') (ha : ws'.map (fun q => q.1) = ws.map (fun q => q.1))
    (hk : ∀ q : Nat, q < H.size → ¬ wr_I w q → H1[q]? = H[q]?) (hP1 : va_P D cl w' H1) : va_P D cl ws' H1 ∧ va_D A ws' := by
  have at' : ∀ {is : List Nat} {w : va_W}, is.map (fun i => ws[i]?) = w.map some → ∀ (k : Nat) (q : Nat × va_E), w[k]? = some q → ∃ i, is[k]? = some i ∧ ws[i]? = some q := by
    intro is w hs k q hq
    have h1 : (is.map (fun i => ws[i]?))[k]? = some (some q) := by rw [hs, List.getElem?_map, hq]; rfl
    rw [List.getElem?_map] at h1
    cases hi : is[k]? with
    | none => rw [hi] at h1; cases h1
    | some i => rw [hi] at h1; exact ⟨i, rfl, Option.some.inj h1⟩
  have hPr : va_P D cl wr H1 := by
    intro k q hq
    obtain ⟨i, h1, h2⟩ := at' hR k q hq
    refine (hP i q h2).kept (hk q.1 (hP i q h2).lt ?_)
    rintro ⟨k2, e, h⟩
    obtain ⟨j, h3, h4⟩ := at' hC k2 (q.1, e) h
    have hij := hD.1 i j q (q.1, e) h2 h4 rfl
    subst hij
    exact hdis i (List.mem_of_getElem? h1) (List.mem_of_getElem? h3)
  exact ⟨(hPr.app hP1).sub pm hpm, wr_addr hD ha⟩
theorem wr_in {w : va_W} (hD : va_D A ws) (isC : List Nat) (hC : isC.map (fun i => ws[i]?) = w.map some) : ∀ q, wr_I w q → A q := by
  rintro q ⟨k, e, h⟩
  have h1 : (isC.map (fun i => ws[i]?))[k]? = some (some (q, e)) := by rw [hC, List.getElem?_map, h]; rfl
  rw [List.getElem?_map] at h1
  cases hi : isC[k]? with
  | none => rw [hi] at h1; cases h1
  | some i => rw [hi] at h1; exact hD.2 i _ (Option.some.inj h1)
theorem wr_call {w w' wr ws' : va_W} {v : Option Value} {a : Array Value} (hr : va_Run p l e R s m args below meth c H locs cells slots 0 0 (F0 m pc ls st0) rest (wr_Q D cl v w w' a) (wr_I w)) (hP : va_P D cl ws H) (hD : va_D A ws) (hS : va_S A H0 H locs)
    (isC isR pm : List Nat) (hC : isC.map (fun i => ws[i]?) = w.map some) (hR : isR.map (fun i => ws[i]?) = wr.map some) (hdis : ∀ i ∈ isR, i ∉ isC) (hpm : pm.filterMap (fun i => (wr ++ w')[i]?) = ws') (ha : ws'.map (fun q => q.1) = ws.map (fun q => q.1))
    (kk : ∀ (H1 : Heap) (locs1 : List Loc), va_P D cl ws' H1 → va_D A ws' → va_S A H0 H1 locs1 → W p l e R s m args below meth c H1 locs1 cells slots Q (F0 m (pc + 3) ls (v.toList ++ rest))) : W p l e R s m args below meth c H locs cells slots Q (F0 m pc ls st0) := by
  intro T hT X
  obtain ⟨v', st₀, t, T', L, h0, X', hL, e1, e2, ⟨hv, hP1, hz, hk⟩, st⟩ := hr T hT X
  cases hv
  rw [h0] at hz hk
  rw [← e1] at hP1 hz hk
  have hin := wr_in hD isC hC
  obtain ⟨hP2, hD2⟩ := wr_join hP hD isC isR pm hC hR hdis hpm ha hk hP1
  obtain ⟨t2, a1, b1⟩ := kk T'.heap (locs ++ L) hP2 hD2 ⟨Nat.le_trans hS.1 hz, fun q h1 h2 => by rw [hk q (Nat.lt_of_lt_of_le h1 hS.1) (fun z => h2 (hin q z))]; exact hS.2.1 q h1 h2, fun q hq => by
      rcases List.mem_append.mp hq with h | h
      · exact hS.2.2 q h
      · exact hin _ (hL q h)⟩ T' rfl X'
  exact ⟨t2, st t2 a1, b1⟩
/-- the ends of a write -/
theorem wr_iret {v r : Int32} {ty : FieldType} {w w' : va_W} (hexec : p.tables.exec = Jvm.exec) (hb : c.code = cc) (hr : meth.sig.returnType = some ty) (hlocks : meth.locks = false) (hP : va_P D cl w' H) (hS : va_S (wr_I w) s.heap H locs) (hdg : decode cc pc = .ok (.ireturn, 1)) (hn : narrow ty (.int v) = .int v) (hv : v = r) :
    W p l e R s m args below meth c H locs 0 0 (MQ below (wr_Q D cl (some (.int r)) w w') args s 0 0 (wr_I w)) (F0 m pc ls [.int v]) :=
  W.zret hexec hb hr hn (fun t ht _ => ⟨by rw [hv], by rw [ht]; exact hP, hS.F ht⟩) hS.2.2 hdg hlocks
theorem wr_vret {w w' : va_W} (hexec : p.tables.exec = Jvm.exec) (hb : c.code = cc) (hr : meth.sig.returnType = none) (hlocks : meth.locks = false) (hP : va_P D cl w' H) (hS : va_S (wr_I w) s.heap H locs) (hdg : decode cc pc = .ok (.return_, 1)) :
    W p l e R s m args below meth c H locs 0 0 (MQ below (wr_Q D cl none w w') args s 0 0 (wr_I w)) (F0 m pc ls []) :=
  W.vret hexec hb hr (fun t ht _ => ⟨rfl, by rw [ht]; exact hP, hS.F ht⟩) hS.2.2 hdg hlocks
theorem wr_self {w : va_W} {B : Nat → Prop} (h : va_D B w) : va_D (wr_I w) w := ⟨h.1, fun k q hk => ⟨k, q.2, hk⟩⟩

/-- rows for places by Nat -/
theorem n_lald (hexec : p.tables.exec = Jvm.exec) (hb : c.code = cc) (hK : va_K D cl tys s) (hP : va_P D cl ws H) (q0 t0 : Nat) {a : Nat} {cA : ClassId} {n : Nat} {f : Nat → Int64} (ha : ws[q0]? = some (a, .inl (cA, n, .inr (.inl f)))) (ht : tys[t0]? = some (cA, .long)) {i : Int32} {k : Nat} (hi : i = nI k) (hk : k < n) (hn : n < 2147483648) (hdg : decode cc pc = .ok (.laload, 1))
    (kk : W p l e R s m args below meth c H locs cells slots Q (F0 m (pc + 1) ls (.long (f k) :: rest))) : W p l e R s m args below meth c H locs cells slots Q (F0 m pc ls (.int i :: .ref a :: rest)) := by
  subst hi
  refine va_lald hexec hb hK hP q0 t0 ha ht (vp_in_nI hk hn) hdg ?_
  rw [nI_clamp (Nat.lt_trans hk hn)]; exact kk
theorem n_iald (hexec : p.tables.exec = Jvm.exec) (hb : c.code = cc) (hK : va_K D cl tys s) (hP : va_P D cl ws H) (q0 t0 : Nat) {a : Nat} {cA : ClassId} {n : Nat} {f : Nat → Int32} (ha : ws[q0]? = some (a, .inl (cA, n, .inl f))) (ht : tys[t0]? = some (cA, .int)) {i : Int32} {k : Nat} (hi : i = nI k) (hk : k < n) (hn : n < 2147483648) (hdg : decode cc pc = .ok (.iaload, 1))
    (kk : W p l e R s m args below meth c H locs cells slots Q (F0 m (pc + 1) ls (.int (f k) :: rest))) : W p l e R s m args below meth c H locs cells slots Q (F0 m pc ls (.int i :: .ref a :: rest)) := by
  subst hi
  refine va_iald hexec hb hK hP q0 t0 ha ht (vp_in_nI hk hn) hdg ?_
  rw [nI_clamp (Nat.lt_trans hk hn)]; exact kk
theorem n_last (hexec : p.tables.exec = Jvm.exec) (hb : c.code = cc) (hK : va_K D cl tys s) (hP : va_P D cl ws H) (hD : va_D A ws) (hS : va_S A H0 H locs) (q0 t0 : Nat) {a : Nat} {cA : ClassId} {n : Nat} {f : Nat → Int64} (ha : ws[q0]? = some (a, .inl (cA, n, .inr (.inl f)))) (ht : tys[t0]? = some (cA, .long)) {i : Int32} {x : Int64} {k : Nat} (hi : i = nI k) (hk : k < n) (hn : n < 2147483648) (hdg : decode cc pc = .ok (.lastore, 1))
    {ws' : va_W} (hw : ws.set q0 (a, .inl (cA, n, .inr (.inl (vp_updL f k x)))) = ws')
    (kk : ∀ (H1 : Heap) (locs1 : List Loc), va_P D cl ws' H1 → va_D A ws' → va_S A H0 H1 locs1 → W p l e R s m args below meth c H1 locs1 cells slots Q (F0 m (pc + 1) ls rest)) : W p l e R s m args below meth c H locs cells slots Q (F0 m pc ls (.long x :: .int i :: .ref a :: rest)) := by
  subst hi
  refine va_last hexec hb hK hP hD hS q0 t0 ha ht (vp_in_nI hk hn) hdg ?_
  rw [nI_clamp (Nat.lt_trans hk hn), hw]; exact kk
theorem n_iast (hexec : p.tables.exec = Jvm.exec) (hb : c.code = cc) (hK : va_K D cl tys s) (hP : va_P D cl ws H) (hD : va_D A ws) (hS : va_S A H0 H locs) (q0 t0 : Nat) {a : Nat} {cA : ClassId} {n : Nat} {f : Nat → Int32} (ha : ws[q0]? = some (a, .inl (cA, n, .inl f))) (ht : tys[t0]? = some (cA, .int)) {i : Int32} {x : Int32} {k : Nat} (hi : i = nI k) (hk : k < n) (hn : n < 2147483648) (hdg : decode cc pc = .ok (.iastore, 1))
    {ws' : va_W} (hw : ws.set q0 (a, .inl (cA, n, .inl (upd f k x))) = ws')
    (kk : ∀ (H1 : Heap) (locs1 : List Loc), va_P D cl ws' H1 → va_D A ws' → va_S A H0 H1 locs1 → W p l e R s m args below meth c H1 locs1 cells slots Q (F0 m (pc + 1) ls rest)) : W p l e R s m args below meth c H locs cells slots Q (F0 m pc ls (.int x :: .int i :: .ref a :: rest)) := by
  subst hi
  refine va_iast hexec hb hK hP hD hS q0 t0 ha ht (vp_in_nI hk hn) hdg ?_
  rw [nI_clamp (Nat.lt_trans hk hn), hw]; exact kk
theorem n_cmp (x y : Int64) : lg_cmp x y = 0 ↔ x = y := by
  unfold lg_cmp
  by_cases h1 : x > y
  · have h2 : x ≠ y := fun h => by subst h; exact absurd h1 (by simp)
    simp [h1, h2]
  · by_cases h2 : x = y
    · simp [h1, h2]
    · simp [h1, h2]
theorem n_lne (hexec : p.tables.exec = Jvm.exec) (hb : c.code = cc) {x y : Int64} {off : Int} {tgt : Nat} (hdg : decode cc pc = .ok (.lcmp, 1)) (hdg2 : decode cc (pc + 1) = .ok (.ifCond .ne off, 3)) (ht : ((pc + 1 : Nat) : Int) + off = (tgt : Int))
    (kt : x ≠ y → W p l e R s m args below meth c H locs cells slots Q (F0 m tgt ls rest)) (kf : x = y → W p l e R s m args below meth c H locs cells slots Q (F0 m (pc + 4) ls rest)) : W p l e R s m args below meth c H locs cells slots Q (F0 m pc ls (.long y :: .long x :: rest)) :=
  W.lcmp hexec hb hdg (lv_if_ne hexec hb hdg2 ht (fun h => kt (fun h2 => h ((n_cmp x y).mpr h2))) (fun h => kf ((n_cmp x y).mp h)))
theorem n_leq (hexec : p.tables.exec = Jvm.exec) (hb : c.code = cc) {x y : Int64} {off : Int} {tgt : Nat} (hdg : decode cc pc = .ok (.lcmp, 1)) (hdg2 : decode cc (pc + 1) = .ok (.ifCond .eq off, 3)) (ht : ((pc + 1 : Nat) : Int) + off = (tgt : Int))
    (kt : x = y → W p l e R s m args below meth c H locs cells slots Q (F0 m tgt ls rest)) (kf : x ≠ y → W p l e R s m args below meth c H locs cells slots Q (F0 m (pc + 4) ls rest)) : W p l e R s m args below meth c H locs cells slots Q (F0 m pc ls (.long y :: .long x :: rest)) :=
  W.lcmp hexec hb hdg (lv_if_eq hexec hb hdg2 ht (fun h => kt ((n_cmp x y).mp h)) (fun h => kf (fun h2 => h ((n_cmp x y).mpr h2))))
theorem n_ige (hexec : p.tables.exec = Jvm.exec) (hb : c.code = cc) {x y : Int32} (a b : Nat) {off : Int} {tgt : Nat} (hdg : decode cc pc = .ok (.if_icmp .ge off, 3)) (ht : (pc : Int) + off = (tgt : Int)) (hx : x = nI a) (hy : y = nI b) (ha : a < 2147483648) (hb2 : b < 2147483648)
    (kt : b ≤ a → W p l e R s m args below meth c H locs cells slots Q (F0 m tgt ls rest)) (kf : a < b → W p l e R s m args below meth c H locs cells slots Q (F0 m (pc + 3) ls rest)) : W p l e R s m args below meth c H locs cells slots Q (F0 m pc ls (.int y :: .int x :: rest)) := by
  subst hx; subst hy
  exact lv_icmp_ge hexec hb hdg ht (fun h => kt ((nI_leI hb2 ha).mp h)) (fun h => kf (Nat.not_le.mp (fun z => h ((nI_leI hb2 ha).mpr z))))
theorem n_put (hexec : p.tables.exec = Jvm.exec) (hb : c.code = cc) {own ref C : String} {T : u_T} {N ci index a : Nat} {Ts : List Cond} (hts : ∀ w ∈ Ts, w.before args s = true) (hin : ∀ w ∈ u_ws C T N, w ∈ Ts) (ty0 : Nat → FieldType) (hty : ∀ k, k < N → parseFieldDescriptor (T k).2.2.1 = some (ty0 k)) (hnm : ∀ a, a < N → ∀ b, b < N → a ≠ b → (T a).2.1 ≠ (T b).2.1) (hown : s.vm.findClass own = some m.cls) (hK : va_K D cl tys s) (hP : va_P D cl ws H) (hD : va_D A ws) (hS0 : va_S A H0 H locs) (q0 : Nat) {fs : List Value} (he : ws[q0]? = some (a, .inr (ci, fs))) (hc : cl[ci]? = some (C, T, N)) (k : Nat) (hk : k < N) (hlink : (Cond.fieldLink own index ref (T k).2.1 (T k).2.2.1).before args s = true) (hsame : ∀ x, s.fieldFound? (T k).1 (T k).2.1 (T k).2.2.1 = some x → s.fieldFound? ref (T k).2.1 (T k).2.2.1 = some x) (hfin : (T k).2.2.2 = false) {ty : FieldType} {v : Value} (hd : parseFieldDescriptor (T k).2.2.1 = some ty) (hn : narrow ty v = v) (hfit : fits ty v = true) (hl : k < fs.length)
    (hdg : decode cc pc = .ok (.putfield index, 3)) {ws' : va_W} (hw : ws.set q0 (a, .inr (ci, fs.set k v)) = ws') (kk : ∀ (H1 : Heap) (locs1 : List Loc), va_P D cl ws' H1 → va_D A ws' → va_S A H0 H1 locs1 → W p l e R s m args below meth c H1 locs1 cells slots Q (F0 m (pc + 3) ls rest)) : W p l e R s m args below meth c H locs cells slots Q (F0 m pc ls (v :: .ref a :: rest)) := by
  subst hw
  exact va_put hexec hb hts hin ty0 hty hnm hown hK hP hD hS0 q0 he hc k hk hlink hsame hfin hd hn hfit hl hdg kk
theorem n_putF (hexec : p.tables.exec = Jvm.exec) (hb : c.code = cc) {own ref C : String} {T : u_T} {N ci index a : Nat} {Ts : List Cond} (hts : ∀ w ∈ Ts, w.before args s = true) (hin : ∀ w ∈ u_ws C T N, w ∈ Ts) (ty0 : Nat → FieldType) (hty : ∀ k, k < N → parseFieldDescriptor (T k).2.2.1 = some (ty0 k)) (hnm : ∀ a, a < N → ∀ b, b < N → a ≠ b → (T a).2.1 ≠ (T b).2.1) (hown : s.vm.findClass own = some m.cls) (hK : va_K D cl tys s) (hP : va_P D cl ws H) (hD : va_D A ws) (hS0 : va_S A H0 H locs) (q0 : Nat) {fs : List Value} (he : ws[q0]? = some (a, .inr (ci, fs))) (hc : cl[ci]? = some (C, T, N)) (k : Nat) (hk : k < N) (hlink : (Cond.fieldLink own index ref (T k).2.1 (T k).2.2.1).before args s = true) (hsame : ∀ x, s.fieldFound? (T k).1 (T k).2.1 (T k).2.2.1 = some x → s.fieldFound? ref (T k).2.1 (T k).2.2.1 = some x) (hfin : (T k).2.2.2 = true) (hin2 : meth.name = "<init>") (hdecl : (T k).1 = own) {ty : FieldType} {v : Value} (hd : parseFieldDescriptor (T k).2.2.1 = some ty) (hn : narrow ty v = v) (hfit : fits ty v = true) (hl : k < fs.length)
    (hdg : decode cc pc = .ok (.putfield index, 3)) {ws' : va_W} (hw : ws.set q0 (a, .inr (ci, fs.set k v)) = ws') (kk : ∀ (H1 : Heap) (locs1 : List Loc), va_P D cl ws' H1 → va_D A ws' → va_S A H0 H1 locs1 → W p l e R s m args below meth c H1 locs1 cells slots Q (F0 m (pc + 3) ls rest)) : W p l e R s m args below meth c H locs cells slots Q (F0 m pc ls (v :: .ref a :: rest)) := by
  subst hw
  exact va_putF hexec hb hts hin ty0 hty hnm hown hK hP hD hS0 q0 he hc k hk hlink hsame hfin hin2 hdecl hd hn hfit hl hdg kk
/-- 0 or 1 -/
def bI (b : Bool) : Int32 := if b then 1 else 0
theorem bI_nar (b : Bool) : narrow .boolean (.int (bI b)) = .int (bI b) := by cases b <;> rfl
theorem bI_nar_int (x : Int32) : narrow .int (.int x) = .int x := rfl
theorem bI_ne {b : Bool} (h : ¬ bI b = 0) : b = true := by cases b; exact absurd rfl h; rfl
theorem bI_eq {b : Bool} (h : bI b = 0) : b = false := by cases b; rfl; exact absurd h (by decide)
end BASE
end
section
/-! 05.words: what the class's reads answer, as functions -/
def anyF (P : Nat → Bool) : Nat → Nat → Bool
  | _, 0 => false
  | i, n + 1 => P i || anyF P (i + 1) n
def allF (P : Nat → Bool) : Nat → Nat → Bool
  | _, 0 => true
  | i, n + 1 => P i && allF P (i + 1) n
def findF (P : Nat → Bool) : Nat → Nat → Int32
  | _, 0 => -1
  | i, n + 1 => if P i then nI i else findF P (i + 1) n
theorem anyF_t {P : Nat → Bool} {i n : Nat} (h : P i = true) : anyF P i (n + 1) = true := by simp [anyF, h]
theorem anyF_f {P : Nat → Bool} {i n : Nat} (h : P i = false) : anyF P i (n + 1) = anyF P (i + 1) n := by simp [anyF, h]
theorem allF_t {P : Nat → Bool} {i n : Nat} (h : P i = true) : allF P i (n + 1) = allF P (i + 1) n := by simp [allF, h]
theorem allF_f {P : Nat → Bool} {i n : Nat} (h : P i = false) : allF P i (n + 1) = false := by simp [allF, h]
theorem findF_t {P : Nat → Bool} {i n : Nat} (h : P i = true) : findF P i (n + 1) = nI i := by simp [findF, h]
theorem findF_f {P : Nat → Bool} {i n : Nat} (h : P i = false) : findF P i (n + 1) = findF P (i + 1) n := by simp [findF, h]
abbrev ush (x : Int64) (y : Int32) : Int64 := (x.toUInt64 >>> (y.toInt64.toUInt64 &&& Int64.toUInt64 63)).toInt64
abbrev iush (x : Int32) (y : Int32) : Int32 := (x.toUInt32 >>> (y.toUInt32 &&& Int32.toUInt32 31)).toInt32
def kHave (kinds : Nat → Int32) (kn : Nat) (kind : Int32) : Bool := anyF (fun k => decide (kinds k = kind)) 0 kn
def kExact (kinds : Nat → Int32) (kn : Nat) : Bool := !kHave kinds kn 1 && !kHave kinds kn 2
def kAllow (kinds : Nat → Int32) (kn : Nat) (kind : Int32) : Bool := if kind = 1 then kExact kinds kn else if kind = 2 then !kHave kinds kn 1 else true
def kTake (kind : Int32) (one mask : Int64) : Bool :=
  if kind = 0 then decide (one &&& (mask ^^^ (-1)) = 0) else if kind = 1 then decide ((one &&& (mask ^^^ (-1))) &&& ((one &&& (mask ^^^ (-1))) + 1) = 0) else true
def hStep (h v : Int64) : Int64 := 31 * h + ((v ^^^ ush v 32) ^^^ ush v 17)
def hashF (f : Nat → Int64) : Int64 → Nat → Nat → Int64
  | h, _, 0 => h
  | h, i, n + 1 => hashF f (hStep h (f i)) (i + 1) n
def hMix (h : Int64) : Int64 := (h ^^^ ush h 20) ^^^ ush h 7
def bIndex (bn : Nat) (h : Int64) : Int32 := if bn = 0 then -1 else (h &&& (nI bn - 1).toInt64).toInt32
def bAbove (held : Nat → Int32) (wy : Int32) : Int32 → Nat → Nat → Int32
  | a, _, 0 => a
  | a, i, n + 1 => bAbove held wy (a + (if 0 < held i - wy then held i - wy else 0)) (i + 1) n
def bOne (bn : Nat) (b : Int32) : Bool := decide (0 ≤ b) && decide (b < nI bn)
def eMore (pre pri : Nat → Int32) (a b : Nat) : Bool := if pre a = pre b then decide (pri b < pri a) else decide (pre b < pre a)
theorem n_nI0 {n : Nat} (h : n < 2147483648) (h0 : nI n = 0) : n = 0 := (nI_eq h (by decide)).mp h0
def bRoom (held : Nat → Int32) (bn : Nat) (wy stt b : Int32) : Bool := bOne bn b && (decide (held b.toNatClampNeg < wy) || decide (bAbove held wy 0 0 bn < stt))
def fillI (v : Int32) : (Nat → Int32) → Nat → Nat → Nat → Int32
  | f, _, 0 => f
  | f, i, n + 1 => fillI v (upd f i v) (i + 1) n
def fillL (v : Int64) : (Nat → Int64) → Nat → Nat → Nat → Int64
  | f, _, 0 => f
  | f, i, n + 1 => fillL v (vp_updL f i v) (i + 1) n
def cpRow (fr t : Nat) : (Nat → Int64) → Nat → Nat → Nat → Int64
  | f, _, 0 => f
  | f, k, n + 1 => cpRow fr t (vp_updL f (t * 4 + k) (f (fr * 4 + k))) (k + 1) n
def dropR : (Nat → Int64) → Nat → Nat → Nat → Int64
  | f, _, 0 => f
  | f, t, n + 1 => dropR (cpRow (t + 1) t f 0 4) (t + 1) n
def dropI : (Nat → Int32) → Nat → Nat → Nat → Int32
  | f, _, 0 => f
  | f, t, n + 1 => dropI (upd f t (f (t + 1))) (t + 1) n
def dropL : (Nat → Int64) → Nat → Nat → Nat → Int64
  | f, _, 0 => f
  | f, t, n + 1 => dropL (vp_updL f t (f (t + 1))) (t + 1) n
def fillB (held : Nat → Int32) (bn : Nat) (b d : Int32) : Nat → Int32 := if bOne bn b then upd held b.toNatClampNeg (held b.toNatClampNeg + d) else held
theorem bOne_of {bn : Nat} {b : Int32} (hbn : bn ≤ 16) (h : bOne bn b = true) : ∃ j : Nat, j < bn ∧ b = nI j := by
  unfold bOne at h
  rw [Bool.and_eq_true, decide_eq_true_eq, decide_eq_true_eq] at h
  obtain ⟨j, hj, rfl⟩ := nI_of (x := b) (Int32.not_lt.mpr h.1)
  exact ⟨j, (nI_ltI hj (by omega)).mp h.2, rfl⟩
abbrev bi1 (x : Int32) : Int32 := x - (iush x 1 &&& 1431655765)
abbrev bi2 (x : Int32) : Int32 := (x &&& 858993459) + (iush x 2 &&& 858993459)
abbrev bi3 (x : Int32) : Int32 := (x + iush x 4) &&& 252645135
abbrev bi4 (x : Int32) : Int32 := x + iush x 8
abbrev bi5 (x : Int32) : Int32 := x + iush x 16
def bc32 (x : Int32) : Int32 := bi5 (bi4 (bi3 (bi2 (bi1 x)))) &&& 63
abbrev bl1 (x : Int64) : Int64 := x - (ush x 1 &&& 6148914691236517205)
abbrev bl2 (x : Int64) : Int64 := (x &&& 3689348814741910323) + (ush x 2 &&& 3689348814741910323)
abbrev bl3 (x : Int64) : Int64 := (x + ush x 4) &&& 1085102592571150095
abbrev bl4 (x : Int64) : Int64 := x + ush x 8
abbrev bl5 (x : Int64) : Int64 := x + ush x 16
abbrev bl6 (x : Int64) : Int64 := x + ush x 32
def bc64 (x : Int64) : Int32 := (bl6 (bl5 (bl4 (bl3 (bl2 (bl1 x)))))).toInt32 &&& 127
theorem n_dec {n : Nat} (h : 0 < n) : nI n - 1 = nI (n - 1) := by
  obtain ⟨k, rfl⟩ : ∃ k, n = k + 1 := ⟨n - 1, by omega⟩
  exact nI_pred k
/-! the class itself -/
def hShape (n w t : Int32) : Bool := !decide (n < 1) && (!decide (16 < n) && (decide (bc32 n = 1) && (!decide (w < 1) && (!decide (4 < w) && (!decide (t < 0) && !decide (8 < t))))))
def lShape (n : Int32) : Bool := !decide (n < 1) && !decide (32 < n)
def cAct (a : Int32) : Bool := !decide (a < 0) && !decide (7 < a)
def cTakeAll (kinds : Nat → Int32) (ones am : Nat → Int64) (kn : Nat) : Bool := allF (fun k => kTake (kinds k) (ones k) (am k &&& ones k)) 0 kn
def cAskP (ones av am vals msks : Nat → Int64) (q k : Nat) : Bool := decide (msks (q * 4 + k) = am k &&& ones k) && decide (vals (q * 4 + k) = av k &&& (am k &&& ones k))
def cAsk (ones av am vals msks : Nat → Int64) (kn q : Nat) : Bool := allF (cAskP ones av am vals msks q) 0 kn
def cFind (ones av am vals msks : Nat → Int64) (kn en : Nat) : Int32 := findF (cAsk ones av am vals msks kn) 0 en
def cFitP (av vals msks : Nat → Int64) (q k : Nat) : Bool := decide (av k &&& msks (q * 4 + k) = vals (q * 4 + k))
def cFit (av vals msks : Nat → Int64) (kn q : Nat) : Bool := allF (cFitP av vals msks q) 0 kn
def cBucket (ones av : Nat → Int64) (kn bn : Nat) (hashed : Bool) : Int32 := if hashed then bIndex bn (hMix (hashF (fun k => av k &&& ones k) 0 0 kn)) else -1
def cRoom (ones av : Nat → Int64) (kn en : Nat) (held : Nat → Int32) (bn : Nat) (wy stt : Int32) (hashed : Bool) (cap : Int32) : Bool := decide (nI en < cap) && (!hashed || bRoom held bn wy stt (cBucket ones av kn bn hashed))
def cCount (kn en : Nat) (held : Nat → Int32) (bn : Nat) (wy : Int32) (made : Bool) (cap what : Int32) : Int32 := if what = 2 then nI kn else if made then (if what = 0 then nI en else if what = 1 then bAbove held wy 0 0 bn else if what = 3 then cap else -1) else -1
def putRow (t : Nat) (g : Nat → Int64) : (Nat → Int64) → Nat → Nat → Nat → Int64
  | f, _, 0 => f
  | f, k, n + 1 => putRow t g (vp_updL f (t * 4 + k) (g k)) (k + 1) n
def pOnes (kinds : Nat → Int32) (g : Nat → Int64) : Int32 → Nat → Nat → Int32
  | p, _, 0 => p
  | p, k, n + 1 => pOnes kinds g (if kinds k = 1 then bc64 (g k) else p) (k + 1) n
theorem pOnes_t {kinds : Nat → Int32} {g : Nat → Int64} {p : Int32} {k n : Nat} (h : kinds k = 1) : pOnes kinds g p k (n + 1) = pOnes kinds g (bc64 (g k)) (k + 1) n := by simp [pOnes, h]
theorem pOnes_f {kinds : Nat → Int32} {g : Nat → Int64} {p : Int32} {k n : Nat} (h : ¬ kinds k = 1) : pOnes kinds g p k (n + 1) = pOnes kinds g p (k + 1) n := by simp [pOnes, h]
theorem if_t {α : Type} {b : Bool} {x y : α} (h : b = true) : (if b then x else y) = x := by rw [h]; rfl
theorem n_ne9 {q : Nat} (h : q < 72) : ¬ nI q = -1 := fun z => absurd (by rw [z]; decide : nI q < 0) (nI_pos (by omega))
end
section
/-! keys -/
set_option maxHeartbeats 4000000 in
set_option maxRecDepth 100000 in
/-- Keys.have: whether a key is of that kind -/
theorem c_X2_have (l : Launch) (dC : Nat → ClassId) (dI : Nat → Nat → Nat) (cI cL : ClassId) (k0 k1 k2 : Nat) (kinds : Nat → Int32) (ones : Nat → Int64) (kn : Nat) (kind : Int32) (hk : kn ≤ 4) : Met l yX2_have wsX2_have ({ frames := 0, cells := 0, slots := 0, locals := 0 }) (rd_P (dC, dI) vwCl [(cI, .int), (cL, .long)] [(k0, .inr (2, [.ref k1, .ref k2, .int (nI kn)])), (k1, .inl (cI, 4, .inl kinds)), (k2, .inl (cL, 4, .inr (.inl ones)))] [.ref k0, .int kind]) (rd_Q (some (.int (bI (kHave kinds kn kind))))) 0 0 (fun _ => False) := by
  refine Met.ofW (cc := cX2_have) (maxL := 3) (ret := some .boolean) (by decide) rfl ?_
  intro p e s m args below meth c s₁ B hml hv
  obtain ⟨rfl, hP, hK⟩ := hv
  have hx := B.exec
  have hb := B.bytes
  have hr := B.returns
  have hts := fun w h => atoms_spec (ws := wsX2_have) B.pre w (List.mem_cons_of_mem _ h)
  have hown : s.vm.findClass RX2 = some m.cls := findClass_of_methodNamed B.named
  have hlocks := B.notSynchronized
  have hl := lv_entry ([.ref k0, .int kind]) (n := 3) (Nat.le_of_ble_eq_true rfl)
  rw [lg_entry_eq]
  generalize (lg_sl ([.ref k0, .int kind]) ++ List.replicate (3 - (lg_sl ([.ref k0, .int kind])).length) Slot.unset).toArray = ls at hl ⊢
  have hl : lv_has ls 3 [(0, .ref k0), (1, .int kind)] := hl
  refine lv_iconst (v := (nI 0)) hx hb dX2_have_0 (by decide) ?_
  refine lv_istore_n (lv' := [(2, .int (nI 0)), (0, .ref k0), (1, .int kind)]) hx hb dX2_have_1 rfl hl (by decide) rfl (fun ls hl => ?_)
  have loop : ∀ (n i : Nat), i + n = kn → ∀ ls : Array Slot, lv_has ls 3 [(2, .int (nI i)), (0, .ref k0), (1, .int kind)] → W p l e (headSpec wsX2_have ({ frames := 0, cells := 0, slots := 0, locals := 0 })).room s m ([.ref k0, .int kind]).toArray below meth c s.heap [] 0 0 (MQ below (rd_Q (some (.int (bI (anyF (fun k => decide (kinds k = kind)) i n))))) ([.ref k0, .int kind]).toArray s 0 0 (fun _ => False)) (F0 m 2 ls []) := by
    intro n
    induction n with
    | zero =>
      intro i hi ls hl
      refine lv_iload_n hx hb dX2_have_2 rfl (lv_at hl 0 rfl) ?_
      refine lv_aload_n hx hb dX2_have_3 rfl (lv_at hl 1 rfl) ?_
      refine va_get (D := (dC, dI)) (ci := 2) (v := .int (nI kn)) (C := RX2) (T := TX2) (N := 3) hx hb hts inX2 hown hK hP 0 rfl rfl 2 (by decide) (hts _ mw55) (fun _ h9 => h9) rfl dX2_have_4 ?_
      refine n_ige i kn (tgt := 28) (hexec := hx) (hb := hb) dX2_have_7 (by decide) rfl rfl (by omega) (by omega) (fun c7 => ?_) (fun c7 => absurd c7 (by omega))
      refine lv_iconst (v := 0) hx hb dX2_have_28 (by decide) ?_
      exact rd_iret hx hb hr hlocks dX2_have_29 rfl (rfl)
    | succ n ih =>
      intro i hi ls hl
      refine lv_iload_n hx hb dX2_have_2 rfl (lv_at hl 0 rfl) ?_
      refine lv_aload_n hx hb dX2_have_3 rfl (lv_at hl 1 rfl) ?_
      refine va_get (D := (dC, dI)) (ci := 2) (v := .int (nI kn)) (C := RX2) (T := TX2) (N := 3) hx hb hts inX2 hown hK hP 0 rfl rfl 2 (by decide) (hts _ mw55) (fun _ h9 => h9) rfl dX2_have_4 ?_
      refine n_ige i kn (tgt := 28) (hexec := hx) (hb := hb) dX2_have_7 (by decide) rfl rfl (by omega) (by omega) (fun c7 => absurd c7 (by omega)) (fun c7 => ?_)
      refine lv_aload_n hx hb dX2_have_10 rfl (lv_at hl 1 rfl) ?_
      refine va_get (D := (dC, dI)) (ci := 2) (v := .ref k1) (C := RX2) (T := TX2) (N := 3) hx hb hts inX2 hown hK hP 0 rfl rfl 0 (by decide) (hts _ mw51) (fun _ h9 => h9) rfl dX2_have_11 ?_
      refine lv_iload_n hx hb dX2_have_14 rfl (lv_at hl 0 rfl) ?_
      refine n_iald hx hb hK hP 1 0 rfl rfl (k := i) rfl (by omega) (by omega) dX2_have_15 ?_
      refine lv_iload_n hx hb dX2_have_16 rfl (lv_at hl 2 rfl) ?_
      refine lv_icmp_ne (tgt := 22) hx hb dX2_have_17 (by decide) (fun c17 => ?_) (fun c17 => ?_)
      · rw [show anyF (fun k => decide (kinds k = kind)) i (n + 1) = anyF (fun k => decide (kinds k = kind)) (i + 1) n from anyF_f (decide_eq_false c17)]
        refine lv_iinc (v := nI (i + 1)) (lv' := [(2, .int (nI (i + 1))), (0, .ref k0), (1, .int kind)]) hx hb dX2_have_22 hl (k := 0) rfl (nI_1 i) (by decide) rfl (fun ls hl => ?_)
        refine lv_goto (tgt := 2) hx hb dX2_have_25 (by decide) ?_
        exact ih (i + 1) (by omega) ls (lv_sub hl [0, 1, 2] rfl)
      · refine lv_iconst (v := 1) hx hb dX2_have_20 (by decide) ?_
        exact rd_iret hx hb hr hlocks dX2_have_21 rfl (by rw [show anyF (fun k => decide (kinds k = kind)) i (n + 1) = true from anyF_t (decide_eq_true c17)]; rfl)
  exact loop kn 0 (by omega) ls (lv_sub hl [0, 1, 2] rfl)

set_option maxHeartbeats 4000000 in
set_option maxRecDepth 100000 in
/-- Keys.areExact -/
theorem c_X2_areExact (l : Launch) (dC : Nat → ClassId) (dI : Nat → Nat → Nat) (cI cL : ClassId) (k0 k1 k2 : Nat) (kinds : Nat → Int32) (ones : Nat → Int64) (kn : Nat) (hk : kn ≤ 4) : Met l yX2_areExact wsX2_areExact ({ frames := 1, cells := 0, slots := 0, locals := 22 }) (rd_P (dC, dI) vwCl [(cI, .int), (cL, .long)] [(k0, .inr (2, [.ref k1, .ref k2, .int (nI kn)])), (k1, .inl (cI, 4, .inl kinds)), (k2, .inl (cL, 4, .inr (.inl ones)))] [.ref k0]) (rd_Q (some (.int (bI (kExact kinds kn))))) 0 0 (fun _ => False) := by
  refine Met.ofW (cc := cX2_areExact) (maxL := 1) (ret := some .boolean) (by decide) rfl ?_
  intro p e s m args below meth c s₁ B hml hv
  obtain ⟨rfl, hP, hK⟩ := hv
  have hx := B.exec
  have hb := B.bytes
  have hr := B.returns
  have hts := fun w h => atoms_spec (ws := wsX2_areExact) B.pre w (List.mem_cons_of_mem _ h)
  have hown : s.vm.findClass RX2 = some m.cls := findClass_of_methodNamed B.named
  have hlocks := B.notSynchronized
  have hl := lv_entry ([.ref k0]) (n := 1) (Nat.le_of_ble_eq_true rfl)
  rw [lg_entry_eq]
  generalize (lg_sl ([.ref k0]) ++ List.replicate (1 - (lg_sl ([.ref k0])).length) Slot.unset).toArray = ls at hl ⊢
  have hl : lv_has ls 1 [(0, .ref k0)] := hl
  refine lv_aload_n hx hb dX2_areExact_0 rfl (lv_at hl 0 rfl) ?_
  refine lv_iconst (v := 1) hx hb dX2_areExact_1 (by decide) ?_
  refine rd_calli (r := (bI (kHave kinds kn 1))) (va_runV (As := [.int 1]) (rest := []) ⟨hx, hb, hml, hown, hts⟩ (c_X2_have l dC dI cI cL k0 k1 k2 kinds ones kn 1 hk) (cwV 1 hts (gV mw287 mw288 mw289 mw23 mw290) rfl rfl rfl (by decide +kernel) ⟨Nat.le_of_ble_eq_true rfl, Nat.le_of_ble_eq_true rfl⟩) (rd_preV (hP.sub (ws' := [(k0, .inr (2, [.ref k1, .ref k2, .int (nI kn)])), (k1, .inl (cI, 4, .inl kinds)), (k2, .inl (cL, 4, .inr (.inl ones)))]) [0, 1, 2] rfl) hK (va_recv (ci := 2) hK hP rfl (q0 := 0) rfl)) rfl rfl hl.1 rfl (lv_room (Nat.le_of_ble_eq_true rfl)) dX2_areExact_2 ⟨Nat.zero_le _, Nat.zero_le _⟩) ?_
  refine lv_if_ne (tgt := 20) hx hb dX2_areExact_5 (by decide) (fun c5 => ?_) (fun c5 => ?_)
  · refine lv_iconst (v := 0) hx hb dX2_areExact_20 (by decide) ?_
    exact rd_iret hx hb hr hlocks dX2_areExact_21 rfl (by unfold kExact; rw [bI_ne c5]; rfl)
  · refine lv_aload_n hx hb dX2_areExact_8 rfl (lv_at hl 0 rfl) ?_
    refine lv_iconst (v := 2) hx hb dX2_areExact_9 (by decide) ?_
    refine rd_calli (r := (bI (kHave kinds kn 2))) (va_runV (As := [.int 2]) (rest := []) ⟨hx, hb, hml, hown, hts⟩ (c_X2_have l dC dI cI cL k0 k1 k2 kinds ones kn 2 hk) (cwV 1 hts (gV mw287 mw288 mw289 mw23 mw290) rfl rfl rfl (by decide +kernel) ⟨Nat.le_of_ble_eq_true rfl, Nat.le_of_ble_eq_true rfl⟩) (rd_preV (hP.sub (ws' := [(k0, .inr (2, [.ref k1, .ref k2, .int (nI kn)])), (k1, .inl (cI, 4, .inl kinds)), (k2, .inl (cL, 4, .inr (.inl ones)))]) [0, 1, 2] rfl) hK (va_recv (ci := 2) hK hP rfl (q0 := 0) rfl)) rfl rfl hl.1 rfl (lv_room (Nat.le_of_ble_eq_true rfl)) dX2_areExact_10 ⟨Nat.zero_le _, Nat.zero_le _⟩) ?_
    refine lv_if_ne (tgt := 20) hx hb dX2_areExact_13 (by decide) (fun c13 => ?_) (fun c13 => ?_)
    · refine lv_iconst (v := 0) hx hb dX2_areExact_20 (by decide) ?_
      exact rd_iret hx hb hr hlocks dX2_areExact_21 rfl (by unfold kExact; rw [bI_eq c5, bI_ne c13]; rfl)
    · refine lv_iconst (v := 1) hx hb dX2_areExact_16 (by decide) ?_
      refine lv_goto (tgt := 21) hx hb dX2_areExact_17 (by decide) ?_
      exact rd_iret hx hb hr hlocks dX2_areExact_21 rfl (by unfold kExact; rw [bI_eq c5, bI_eq c13]; rfl)

set_option maxHeartbeats 4000000 in
set_option maxRecDepth 100000 in
/-- Keys.allow -/
theorem c_X2_allow (l : Launch) (dC : Nat → ClassId) (dI : Nat → Nat → Nat) (cI cL : ClassId) (k0 k1 k2 : Nat) (kinds : Nat → Int32) (ones : Nat → Int64) (kn : Nat) (kind : Int32) (hk : kn ≤ 4) : Met l yX2_allow wsX2_allow ({ frames := 2, cells := 0, slots := 0, locals := 42 }) (rd_P (dC, dI) vwCl [(cI, .int), (cL, .long)] [(k0, .inr (2, [.ref k1, .ref k2, .int (nI kn)])), (k1, .inl (cI, 4, .inl kinds)), (k2, .inl (cL, 4, .inr (.inl ones)))] [.ref k0, .int kind]) (rd_Q (some (.int (bI (kAllow kinds kn kind))))) 0 0 (fun _ => False) := by
  refine Met.ofW (cc := cX2_allow) (maxL := 2) (ret := some .boolean) (by decide) rfl ?_
  intro p e s m args below meth c s₁ B hml hv
  obtain ⟨rfl, hP, hK⟩ := hv
  have hx := B.exec
  have hb := B.bytes
  have hr := B.returns
  have hts := fun w h => atoms_spec (ws := wsX2_allow) B.pre w (List.mem_cons_of_mem _ h)
  have hown : s.vm.findClass RX2 = some m.cls := findClass_of_methodNamed B.named
  have hlocks := B.notSynchronized
  have hl := lv_entry ([.ref k0, .int kind]) (n := 2) (Nat.le_of_ble_eq_true rfl)
  rw [lg_entry_eq]
  generalize (lg_sl ([.ref k0, .int kind]) ++ List.replicate (2 - (lg_sl ([.ref k0, .int kind])).length) Slot.unset).toArray = ls at hl ⊢
  have hl : lv_has ls 2 [(0, .ref k0), (1, .int kind)] := hl
  refine lv_iload_n hx hb dX2_allow_0 rfl (lv_at hl 1 rfl) ?_
  by_cases c1 : kind = 1
  · subst c1
    refine lv_lookup (off := 27) (tgt := 28) hx hb dX2_allow_1 (by decide) (by decide) (by decide) ?_
    refine lv_aload_n hx hb dX2_allow_28 rfl (lv_at hl 0 rfl) ?_
    refine rd_calli (r := (bI (kExact kinds kn))) (va_runV (As := []) (rest := []) ⟨hx, hb, hml, hown, hts⟩ (c_X2_areExact l dC dI cI cL k0 k1 k2 kinds ones kn hk) (cwV 0 hts (gV mw283 mw284 mw285 mw23 mw286) rfl rfl rfl (by decide +kernel) ⟨Nat.le_of_ble_eq_true rfl, Nat.le_of_ble_eq_true rfl⟩) (rd_preV (hP.sub (ws' := [(k0, .inr (2, [.ref k1, .ref k2, .int (nI kn)])), (k1, .inl (cI, 4, .inl kinds)), (k2, .inl (cL, 4, .inr (.inl ones)))]) [0, 1, 2] rfl) hK (va_recv (ci := 2) hK hP rfl (q0 := 0) rfl)) rfl rfl hl.1 rfl (lv_room (Nat.le_of_ble_eq_true rfl)) dX2_allow_29 ⟨Nat.zero_le _, Nat.zero_le _⟩) ?_
    exact rd_iret hx hb hr hlocks dX2_allow_32 (bI_nar _) (by unfold kAllow; rfl)
  · by_cases c2 : kind = 2
    · subst c2
      refine lv_lookup (off := 32) (tgt := 33) hx hb dX2_allow_1 (by decide) (by decide) (by decide) ?_
      refine lv_aload_n hx hb dX2_allow_33 rfl (lv_at hl 0 rfl) ?_
      refine lv_iconst (v := 1) hx hb dX2_allow_34 (by decide) ?_
      refine rd_calli (r := (bI (kHave kinds kn 1))) (va_runV (As := [.int 1]) (rest := []) ⟨hx, hb, hml, hown, hts⟩ (c_X2_have l dC dI cI cL k0 k1 k2 kinds ones kn 1 hk) (cwV 1 hts (gV mw287 mw288 mw289 mw23 mw290) rfl rfl rfl (by decide +kernel) ⟨Nat.le_of_ble_eq_true rfl, Nat.le_of_ble_eq_true rfl⟩) (rd_preV (hP.sub (ws' := [(k0, .inr (2, [.ref k1, .ref k2, .int (nI kn)])), (k1, .inl (cI, 4, .inl kinds)), (k2, .inl (cL, 4, .inr (.inl ones)))]) [0, 1, 2] rfl) hK (va_recv (ci := 2) hK hP rfl (q0 := 0) rfl)) rfl rfl hl.1 rfl (lv_room (Nat.le_of_ble_eq_true rfl)) dX2_allow_35 ⟨Nat.zero_le _, Nat.zero_le _⟩) ?_
      refine lv_if_ne (tgt := 45) hx hb dX2_allow_38 (by decide) (fun c38 => ?_) (fun c38 => ?_)
      · refine lv_iconst (v := 0) hx hb dX2_allow_45 (by decide) ?_
        exact rd_iret hx hb hr hlocks dX2_allow_46 rfl (by unfold kAllow; rw [bI_ne c38]; rfl)
      · refine lv_iconst (v := 1) hx hb dX2_allow_41 (by decide) ?_
        refine lv_goto (tgt := 46) hx hb dX2_allow_42 (by decide) ?_
        exact rd_iret hx hb hr hlocks dX2_allow_46 rfl (by unfold kAllow; rw [bI_eq c38]; rfl)
    · refine lv_lookup (off := 46) (tgt := 47) hx hb dX2_allow_1 (by decide) (show Op.lookupswitch.offset [(1, 27), (2, 32)] 46 kind.toInt = 46 by rw [lv_osw c1 (by decide), lv_osw c2 (by decide)] <;> rfl) (by decide) ?_
      refine lv_iconst (v := 1) hx hb dX2_allow_47 (by decide) ?_
      exact rd_iret hx hb hr hlocks dX2_allow_48 rfl (by unfold kAllow; rw [if_neg c1, if_neg c2]; rfl)

set_option maxHeartbeats 4000000 in
set_option maxRecDepth 100000 in
/-- Keys.add: a key comes -/
theorem c_X2_add (l : Launch) (dC : Nat → ClassId) (dI : Nat → Nat → Nat) (cI cL : ClassId) (k0 k1 k2 : Nat) (kinds : Nat → Int32) (ones : Nat → Int64) (kn : Nat) (w kind : Int32) (hk : kn < 4) : Met l yX2_add wsX2_add ({ frames := 0, cells := 0, slots := 0, locals := 0 }) (wr_P (dC, dI) vwCl [(cI, .int), (cL, .long)] [(k0, .inr (2, [.ref k1, .ref k2, .int (nI kn)])), (k1, .inl (cI, 4, .inl kinds)), (k2, .inl (cL, 4, .inr (.inl ones)))] [.ref k0, .int w, .int kind]) (wr_Q (dC, dI) vwCl (some (.int (nI kn))) [(k0, .inr (2, [.ref k1, .ref k2, .int (nI kn)])), (k1, .inl (cI, 4, .inl kinds)), (k2, .inl (cL, 4, .inr (.inl ones)))] [(k0, .inr (2, [.ref k1, .ref k2, .int (nI (kn + 1))])), (k1, .inl (cI, 4, .inl (upd kinds kn kind))), (k2, .inl (cL, 4, .inr (.inl (vp_updL ones kn (ush (-1) (64 - w))))))]) 0 0 (wr_I [(k0, .inr (2, [.ref k1, .ref k2, .int (nI kn)])), (k1, .inl (cI, 4, .inl kinds)), (k2, .inl (cL, 4, .inr (.inl ones)))]) := by
  refine Met.ofW (cc := cX2_add) (maxL := 4) (ret := some .int) (by decide) rfl ?_
  intro p e s m args below meth c s₁ B hml hv
  obtain ⟨rfl, hP, hK, hD0⟩ := hv
  have hx := B.exec
  have hb := B.bytes
  have hr := B.returns
  have hts := fun w h => atoms_spec (ws := wsX2_add) B.pre w (List.mem_cons_of_mem _ h)
  have hown : s.vm.findClass RX2 = some m.cls := findClass_of_methodNamed B.named
  have hlocks := B.notSynchronized
  have hD := wr_self hD0
  have hS : va_S (wr_I [(k0, .inr (2, [.ref k1, .ref k2, .int (nI kn)])), (k1, .inl (cI, 4, .inl kinds)), (k2, .inl (cL, 4, .inr (.inl ones)))]) s.heap s.heap [] := va_S.rf
  have hl := lv_entry ([.ref k0, .int w, .int kind]) (n := 4) (Nat.le_of_ble_eq_true rfl)
  rw [lg_entry_eq]
  generalize (lg_sl ([.ref k0, .int w, .int kind]) ++ List.replicate (4 - (lg_sl ([.ref k0, .int w, .int kind])).length) Slot.unset).toArray = ls at hl ⊢
  have hl : lv_has ls 4 [(0, .ref k0), (1, .int w), (2, .int kind)] := hl
  refine lv_aload_n hx hb dX2_add_0 rfl (lv_at hl 0 rfl) ?_
  refine va_get (D := (dC, dI)) (ci := 2) (v := .int (nI kn)) (C := RX2) (T := TX2) (N := 3) hx hb hts inX2 hown hK hP 0 rfl rfl 2 (by decide) (hts _ mw55) (fun _ h9 => h9) rfl dX2_add_1 ?_
  refine lv_istore_n (lv' := [(3, .int (nI kn)), (0, .ref k0), (1, .int w), (2, .int kind)]) hx hb dX2_add_4 rfl hl (by decide) rfl (fun ls hl => ?_)
  refine lv_aload_n hx hb dX2_add_5 rfl (lv_at hl 1 rfl) ?_
  refine va_get (D := (dC, dI)) (ci := 2) (v := .ref k1) (C := RX2) (T := TX2) (N := 3) hx hb hts inX2 hown hK hP 0 rfl rfl 0 (by decide) (hts _ mw51) (fun _ h9 => h9) rfl dX2_add_6 ?_
  refine lv_iload_n hx hb dX2_add_9 rfl (lv_at hl 0 rfl) ?_
  refine lv_iload_n hx hb dX2_add_10 rfl (lv_at hl 3 rfl) ?_
  refine n_iast (ws' := [(k0, .inr (2, [.ref k1, .ref k2, .int (nI kn)])), (k1, .inl (cI, 4, .inl (upd kinds kn kind))), (k2, .inl (cL, 4, .inr (.inl ones)))]) hx hb hK hP hD hS 1 0 rfl rfl (k := kn) rfl (by omega) (by omega) dX2_add_11 rfl (fun H locs hP hD hS => ?_)
  refine lv_aload_n hx hb dX2_add_12 rfl (lv_at hl 1 rfl) ?_
  refine va_get (D := (dC, dI)) (ci := 2) (v := .ref k2) (C := RX2) (T := TX2) (N := 3) hx hb hts inX2 hown hK hP 0 rfl rfl 1 (by decide) (hts _ mw53) (fun _ h9 => h9) rfl dX2_add_13 ?_
  refine lv_iload_n hx hb dX2_add_16 rfl (lv_at hl 0 rfl) ?_
  refine lv_ldc2 (v := (-1)) hx hb hown (hts _ mw296) dX2_add_17 ?_
  refine lv_bipush (v := 64) hx hb dX2_add_20 (by decide) ?_
  refine lv_iload_n hx hb dX2_add_22 rfl (lv_at hl 2 rfl) ?_
  refine lv_isub hx hb dX2_add_23 ?_
  refine lv_lushr (v := ush (-1) (64 - w)) hx hb dX2_add_24 rfl ?_
  refine n_last (ws' := [(k0, .inr (2, [.ref k1, .ref k2, .int (nI kn)])), (k1, .inl (cI, 4, .inl (upd kinds kn kind))), (k2, .inl (cL, 4, .inr (.inl (vp_updL ones kn (ush (-1) (64 - w))))))]) hx hb hK hP hD hS 2 1 rfl rfl (k := kn) rfl (by omega) (by omega) dX2_add_25 rfl (fun H locs hP hD hS => ?_)
  refine lv_aload_n hx hb dX2_add_26 rfl (lv_at hl 1 rfl) ?_
  refine lv_iload_n hx hb dX2_add_27 rfl (lv_at hl 0 rfl) ?_
  refine lv_iconst (v := 1) hx hb dX2_add_28 (by decide) ?_
  refine lv_iadd hx hb dX2_add_29 ?_
  rw [nI_1]
  refine n_put (ws' := [(k0, .inr (2, [.ref k1, .ref k2, .int (nI (kn + 1))])), (k1, .inl (cI, 4, .inl (upd kinds kn kind))), (k2, .inl (cL, 4, .inr (.inl (vp_updL ones kn (ush (-1) (64 - w))))))]) (D := (dC, dI)) (ci := 2) (v := .int (nI (kn + 1))) (ty := .int) (C := RX2) (T := TX2) (N := 3) hx hb hts inX2 tyX2 tyX2_ok nmX2 hown hK hP hD hS 0 rfl rfl 2 (by decide) (hts _ mw55) (fun _ h9 => h9) rfl rfl rfl rfl (Nat.le_of_ble_eq_true rfl) dX2_add_30 rfl (fun H locs hP hD hS => ?_)
  refine lv_iload_n hx hb dX2_add_33 rfl (lv_at hl 0 rfl) ?_
  exact wr_iret hx hb hr hlocks hP hS dX2_add_34 rfl rfl

set_option maxHeartbeats 4000000 in
set_option maxRecDepth 100000 in
/-- Keys.takeMask -/
theorem c_X2_takeMask (l : Launch) (dC : Nat → ClassId) (dI : Nat → Nat → Nat) (cI cL : ClassId) (k0 k1 k2 : Nat) (kinds : Nat → Int32) (ones : Nat → Int64) (kn : Nat) (k : Nat) (mask : Int64) (hk : kn ≤ 4) (hk4 : k < 4) : Met l yX2_takeMask wsX2_takeMask ({ frames := 0, cells := 0, slots := 0, locals := 0 }) (rd_P (dC, dI) vwCl [(cI, .int), (cL, .long)] [(k0, .inr (2, [.ref k1, .ref k2, .int (nI kn)])), (k1, .inl (cI, 4, .inl kinds)), (k2, .inl (cL, 4, .inr (.inl ones)))] [.ref k0, .int (nI k), .long mask]) (rd_Q (some (.int (bI (kTake (kinds k) (ones k) mask))))) 0 0 (fun _ => False) := by
  refine Met.ofW (cc := cX2_takeMask) (maxL := 6) (ret := some .boolean) (by decide) rfl ?_
  intro p e s m args below meth c s₁ B hml hv
  obtain ⟨rfl, hP, hK⟩ := hv
  have hx := B.exec
  have hb := B.bytes
  have hr := B.returns
  have hts := fun w h => atoms_spec (ws := wsX2_takeMask) B.pre w (List.mem_cons_of_mem _ h)
  have hown : s.vm.findClass RX2 = some m.cls := findClass_of_methodNamed B.named
  have hlocks := B.notSynchronized
  have hl := lv_entry ([.ref k0, .int (nI k), .long mask]) (n := 6) (Nat.le_of_ble_eq_true rfl)
  rw [lg_entry_eq]
  generalize (lg_sl ([.ref k0, .int (nI k), .long mask]) ++ List.replicate (6 - (lg_sl ([.ref k0, .int (nI k), .long mask])).length) Slot.unset).toArray = ls at hl ⊢
  have hl : lv_has ls 6 [(0, .ref k0), (1, .int (nI k)), (2, .long mask)] := hl
  refine lv_aload_n hx hb dX2_takeMask_0 rfl (lv_at hl 0 rfl) ?_
  refine va_get (D := (dC, dI)) (ci := 2) (v := .ref k2) (C := RX2) (T := TX2) (N := 3) hx hb hts inX2 hown hK hP 0 rfl rfl 1 (by decide) (hts _ mw53) (fun _ h9 => h9) rfl dX2_takeMask_1 ?_
  refine lv_iload_n hx hb dX2_takeMask_4 rfl (lv_at hl 1 rfl) ?_
  refine n_lald hx hb hK hP 2 1 rfl rfl (k := k) rfl (by omega) (by omega) dX2_takeMask_5 ?_
  refine lv_lload_n hx hb dX2_takeMask_6 rfl (lv_at hl 2 rfl) ?_
  refine lv_ldc2 (v := (-1)) hx hb hown (hts _ mw296) dX2_takeMask_7 ?_
  refine lv_lxor hx hb dX2_takeMask_10 ?_
  refine lv_land hx hb dX2_takeMask_11 ?_
  refine lv_lstore (lv' := [(4, .long ((ones k) &&& (mask ^^^ (-1)))), (0, .ref k0), (1, .int (nI k)), (2, .long mask)]) hx hb dX2_takeMask_12 hl (by decide) rfl (fun ls hl => ?_)
  refine lv_aload_n hx hb dX2_takeMask_14 rfl (lv_at hl 1 rfl) ?_
  refine va_get (D := (dC, dI)) (ci := 2) (v := .ref k1) (C := RX2) (T := TX2) (N := 3) hx hb hts inX2 hown hK hP 0 rfl rfl 0 (by decide) (hts _ mw51) (fun _ h9 => h9) rfl dX2_takeMask_15 ?_
  refine lv_iload_n hx hb dX2_takeMask_18 rfl (lv_at hl 2 rfl) ?_
  refine n_iald hx hb hK hP 1 0 rfl rfl (k := k) rfl (by omega) (by omega) dX2_takeMask_19 ?_
  by_cases c1 : kinds k = 0
  · refine lv_lookup (off := 28) (tgt := 48) hx hb dX2_takeMask_20 (by decide) (by rw [c1]; decide) (by decide) ?_
    refine lv_lload hx hb dX2_takeMask_48 (lv_at hl 0 rfl) ?_
    refine lv_lconst (v := 0) hx hb dX2_takeMask_50 (by decide) ?_
    refine n_lne (tgt := 59) hx hb dX2_takeMask_51 dX2_takeMask_52 (by decide) (fun c51 => ?_) (fun c51 => ?_)
    · refine lv_iconst (v := 0) hx hb dX2_takeMask_59 (by decide) ?_
      exact rd_iret hx hb hr hlocks dX2_takeMask_60 rfl (by unfold kTake; rw [c1, if_pos rfl, decide_eq_false c51]; rfl)
    · refine lv_iconst (v := 1) hx hb dX2_takeMask_55 (by decide) ?_
      refine lv_goto (tgt := 60) hx hb dX2_takeMask_56 (by decide) ?_
      exact rd_iret hx hb hr hlocks dX2_takeMask_60 rfl (by unfold kTake; rw [c1, if_pos rfl, decide_eq_true c51]; rfl)
  · by_cases c2 : kinds k = 1
    · refine lv_lookup (off := 41) (tgt := 61) hx hb dX2_takeMask_20 (by decide) (by rw [c2]; decide) (by decide) ?_
      refine lv_lload hx hb dX2_takeMask_61 (lv_at hl 0 rfl) ?_
      refine lv_lload hx hb dX2_takeMask_63 (lv_at hl 0 rfl) ?_
      refine lv_lconst (v := 1) hx hb dX2_takeMask_65 (by decide) ?_
      refine lv_ladd hx hb dX2_takeMask_66 ?_
      refine lv_land hx hb dX2_takeMask_67 ?_
      refine lv_lconst (v := 0) hx hb dX2_takeMask_68 (by decide) ?_
      refine n_lne (tgt := 77) hx hb dX2_takeMask_69 dX2_takeMask_70 (by decide) (fun c69 => ?_) (fun c69 => ?_)
      · refine lv_iconst (v := 0) hx hb dX2_takeMask_77 (by decide) ?_
        exact rd_iret hx hb hr hlocks dX2_takeMask_78 rfl (by unfold kTake; rw [c2, if_neg (by decide), if_pos rfl, decide_eq_false c69]; rfl)
      · refine lv_iconst (v := 1) hx hb dX2_takeMask_73 (by decide) ?_
        refine lv_goto (tgt := 78) hx hb dX2_takeMask_74 (by decide) ?_
        exact rd_iret hx hb hr hlocks dX2_takeMask_78 rfl (by unfold kTake; rw [c2, if_neg (by decide), if_pos rfl, decide_eq_true c69]; rfl)
    · refine lv_lookup (off := 59) (tgt := 79) hx hb dX2_takeMask_20 (by decide) (show Op.lookupswitch.offset [(0, 28), (1, 41)] 59 (kinds k).toInt = 59 by rw [lv_osw c1 (by decide), lv_osw c2 (by decide)] <;> rfl) (by decide) ?_
      refine lv_iconst (v := 1) hx hb dX2_takeMask_79 (by decide) ?_
      exact rd_iret hx hb hr hlocks dX2_takeMask_80 rfl (by unfold kTake; rw [if_neg c1, if_neg c2]; rfl)
end
section
/-! small -/
set_option maxHeartbeats 4000000 in
set_option maxRecDepth 100000 in
/-- Entries.place -/
theorem c_X1_place (l : Launch) (dC : Nat → ClassId) (dI : Nat → Nat → Nat) (cI cL : ClassId) (a b : Nat) : Met l yX1_place wsX1_place ({ frames := 0, cells := 0, slots := 0, locals := 0 }) (rd_P (dC, dI) vwCl [(cI, .int), (cL, .long)] [] [.int (nI a), .int (nI b)]) (rd_Q (some (.int (nI (a * 4 + b))))) 0 0 (fun _ => False) := by
  refine Met.ofW (cc := cX1_place) (maxL := 2) (ret := some .int) (by decide) rfl ?_
  intro p e s m args below meth c s₁ B hml hv
  obtain ⟨rfl, hP, hK⟩ := hv
  have hx := B.exec
  have hb := B.bytes
  have hr := B.returns
  have hts := fun w h => atoms_spec (ws := wsX1_place) B.pre w (List.mem_cons_of_mem _ h)
  have hown : s.vm.findClass RX1 = some m.cls := findClass_of_methodNamed B.named
  have hlocks := B.notSynchronized
  have hl := lv_entry ([.int (nI a), .int (nI b)]) (n := 2) (Nat.le_of_ble_eq_true rfl)
  rw [lg_entry_eq]
  generalize (lg_sl ([.int (nI a), .int (nI b)]) ++ List.replicate (2 - (lg_sl ([.int (nI a), .int (nI b)])).length) Slot.unset).toArray = ls at hl ⊢
  have hl : lv_has ls 2 [(0, .int (nI a)), (1, .int (nI b))] := hl
  refine lv_iload_n hx hb dX1_place_0 rfl (lv_at hl 0 rfl) ?_
  refine lv_iconst (v := 4) hx hb dX1_place_1 (by decide) ?_
  refine lv_imul hx hb dX1_place_2 ?_
  refine lv_iload_n hx hb dX1_place_3 rfl (lv_at hl 1 rfl) ?_
  refine lv_iadd hx hb dX1_place_4 ?_
  exact rd_iret hx hb hr hlocks dX1_place_5 rfl (by rw [show (4 : Int32) = nI 4 from rfl, pk_mul, nI_add])

set_option maxHeartbeats 4000000 in
set_option maxRecDepth 100000 in
/-- Entries.isWorthMore -/
theorem c_X1_isWorthMore (l : Launch) (dC : Nat → ClassId) (dI : Nat → Nat → Nat) (cI cL : ClassId) (e0 e1 e2 e3 e4 e5 e6 : Nat) (vals msks : Nat → Int64) (pre pri act : Nat → Int32) (dat : Nat → Int64) (en : Nat) (a b : Nat) (ha : a < 72) (hb9 : b < 72) : Met l yX1_isWorthMore wsX1_isWorthMore ({ frames := 0, cells := 0, slots := 0, locals := 0 }) (rd_P (dC, dI) vwCl [(cI, .int), (cL, .long)] [(e0, .inr (1, [.ref e1, .ref e2, .ref e3, .ref e4, .ref e5, .ref e6, .int (nI en)])), (e1, .inl (cL, 288, .inr (.inl vals))), (e2, .inl (cL, 288, .inr (.inl msks))), (e3, .inl (cI, 72, .inl pre)), (e4, .inl (cI, 72, .inl pri)), (e5, .inl (cI, 72, .inl act)), (e6, .inl (cL, 72, .inr (.inl dat)))] [.ref e0, .int (nI a), .int (nI b)]) (rd_Q (some (.int (bI (eMore pre pri a b))))) 0 0 (fun _ => False) := by
  refine Met.ofW (cc := cX1_isWorthMore) (maxL := 3) (ret := some .boolean) (by decide) rfl ?_
  intro p e s m args below meth c s₁ B hml hv
  obtain ⟨rfl, hP, hK⟩ := hv
  have hx := B.exec
  have hb := B.bytes
  have hr := B.returns
  have hts := fun w h => atoms_spec (ws := wsX1_isWorthMore) B.pre w (List.mem_cons_of_mem _ h)
  have hown : s.vm.findClass RX1 = some m.cls := findClass_of_methodNamed B.named
  have hlocks := B.notSynchronized
  have hl := lv_entry ([.ref e0, .int (nI a), .int (nI b)]) (n := 3) (Nat.le_of_ble_eq_true rfl)
  rw [lg_entry_eq]
  generalize (lg_sl ([.ref e0, .int (nI a), .int (nI b)]) ++ List.replicate (3 - (lg_sl ([.ref e0, .int (nI a), .int (nI b)])).length) Slot.unset).toArray = ls at hl ⊢
  have hl : lv_has ls 3 [(0, .ref e0), (1, .int (nI a)), (2, .int (nI b))] := hl
  refine lv_aload_n hx hb dX1_isWorthMore_0 rfl (lv_at hl 0 rfl) ?_
  refine va_get (D := (dC, dI)) (ci := 1) (v := .ref e3) (C := RX1) (T := TX1) (N := 7) hx hb hts inX1 hown hK hP 0 rfl rfl 2 (by decide) (hts _ mw76) (fun _ h9 => h9) rfl dX1_isWorthMore_1 ?_
  refine lv_iload_n hx hb dX1_isWorthMore_4 rfl (lv_at hl 1 rfl) ?_
  refine n_iald hx hb hK hP 3 0 rfl rfl (k := a) rfl ha (by omega) dX1_isWorthMore_5 ?_
  refine lv_aload_n hx hb dX1_isWorthMore_6 rfl (lv_at hl 0 rfl) ?_
  refine va_get (D := (dC, dI)) (ci := 1) (v := .ref e3) (C := RX1) (T := TX1) (N := 7) hx hb hts inX1 hown hK hP 0 rfl rfl 2 (by decide) (hts _ mw76) (fun _ h9 => h9) rfl dX1_isWorthMore_7 ?_
  refine lv_iload_n hx hb dX1_isWorthMore_10 rfl (lv_at hl 2 rfl) ?_
  refine n_iald hx hb hK hP 3 0 rfl rfl (k := b) rfl hb9 (by omega) dX1_isWorthMore_11 ?_
  refine lv_icmp_eq (tgt := 36) hx hb dX1_isWorthMore_12 (by decide) (fun c12 => ?_) (fun c12 => ?_)
  · refine lv_aload_n hx hb dX1_isWorthMore_36 rfl (lv_at hl 0 rfl) ?_
    refine va_get (D := (dC, dI)) (ci := 1) (v := .ref e4) (C := RX1) (T := TX1) (N := 7) hx hb hts inX1 hown hK hP 0 rfl rfl 3 (by decide) (hts _ mw78) (fun _ h9 => h9) rfl dX1_isWorthMore_37 ?_
    refine lv_iload_n hx hb dX1_isWorthMore_40 rfl (lv_at hl 1 rfl) ?_
    refine n_iald hx hb hK hP 4 0 rfl rfl (k := a) rfl ha (by omega) dX1_isWorthMore_41 ?_
    refine lv_aload_n hx hb dX1_isWorthMore_42 rfl (lv_at hl 0 rfl) ?_
    refine va_get (D := (dC, dI)) (ci := 1) (v := .ref e4) (C := RX1) (T := TX1) (N := 7) hx hb hts inX1 hown hK hP 0 rfl rfl 3 (by decide) (hts _ mw78) (fun _ h9 => h9) rfl dX1_isWorthMore_43 ?_
    refine lv_iload_n hx hb dX1_isWorthMore_46 rfl (lv_at hl 2 rfl) ?_
    refine n_iald hx hb hK hP 4 0 rfl rfl (k := b) rfl hb9 (by omega) dX1_isWorthMore_47 ?_
    refine lv_icmp_le (tgt := 55) hx hb dX1_isWorthMore_48 (by decide) (fun c48 => ?_) (fun c48 => ?_)
    · refine lv_iconst (v := 0) hx hb dX1_isWorthMore_55 (by decide) ?_
      exact rd_iret hx hb hr hlocks dX1_isWorthMore_56 rfl (by unfold eMore; rw [if_pos c12, decide_eq_false (Int32.not_lt.mpr c48)]; rfl)
    · refine lv_iconst (v := 1) hx hb dX1_isWorthMore_51 (by decide) ?_
      refine lv_goto (tgt := 56) hx hb dX1_isWorthMore_52 (by decide) ?_
      exact rd_iret hx hb hr hlocks dX1_isWorthMore_56 rfl (by unfold eMore; rw [if_pos c12, decide_eq_true (Int32.not_le.mp c48)]; rfl)
  · refine lv_aload_n hx hb dX1_isWorthMore_15 rfl (lv_at hl 0 rfl) ?_
    refine va_get (D := (dC, dI)) (ci := 1) (v := .ref e3) (C := RX1) (T := TX1) (N := 7) hx hb hts inX1 hown hK hP 0 rfl rfl 2 (by decide) (hts _ mw76) (fun _ h9 => h9) rfl dX1_isWorthMore_16 ?_
    refine lv_iload_n hx hb dX1_isWorthMore_19 rfl (lv_at hl 1 rfl) ?_
    refine n_iald hx hb hK hP 3 0 rfl rfl (k := a) rfl ha (by omega) dX1_isWorthMore_20 ?_
    refine lv_aload_n hx hb dX1_isWorthMore_21 rfl (lv_at hl 0 rfl) ?_
    refine va_get (D := (dC, dI)) (ci := 1) (v := .ref e3) (C := RX1) (T := TX1) (N := 7) hx hb hts inX1 hown hK hP 0 rfl rfl 2 (by decide) (hts _ mw76) (fun _ h9 => h9) rfl dX1_isWorthMore_22 ?_
    refine lv_iload_n hx hb dX1_isWorthMore_25 rfl (lv_at hl 2 rfl) ?_
    refine n_iald hx hb hK hP 3 0 rfl rfl (k := b) rfl hb9 (by omega) dX1_isWorthMore_26 ?_
    refine lv_icmp_le (tgt := 34) hx hb dX1_isWorthMore_27 (by decide) (fun c27 => ?_) (fun c27 => ?_)
    · refine lv_iconst (v := 0) hx hb dX1_isWorthMore_34 (by decide) ?_
      exact rd_iret hx hb hr hlocks dX1_isWorthMore_35 rfl (by unfold eMore; rw [if_neg c12, decide_eq_false (Int32.not_lt.mpr c27)]; rfl)
    · refine lv_iconst (v := 1) hx hb dX1_isWorthMore_30 (by decide) ?_
      refine lv_goto (tgt := 35) hx hb dX1_isWorthMore_31 (by decide) ?_
      exact rd_iret hx hb hr hlocks dX1_isWorthMore_35 rfl (by unfold eMore; rw [if_neg c12, decide_eq_true (Int32.not_le.mp c27)]; rfl)

set_option maxHeartbeats 4000000 in
set_option maxRecDepth 100000 in
/-- Buckets.indexOf -/
theorem c_X0_indexOf (l : Launch) (dC : Nat → ClassId) (dI : Nat → Nat → Nat) (cI cL : ClassId) (b0 b1 : Nat) (held : Nat → Int32) (bn : Nat) (wy stt : Int32) (hh : Int64) (hbn : bn ≤ 16) : Met l yX0_indexOf wsX0_indexOf ({ frames := 0, cells := 0, slots := 0, locals := 0 }) (rd_P (dC, dI) vwCl [(cI, .int), (cL, .long)] [(b0, .inr (0, [.ref b1, .int (nI bn), .int wy, .int stt])), (b1, .inl (cI, 16, .inl held))] [.ref b0, .long hh]) (rd_Q (some (.int (bIndex bn hh)))) 0 0 (fun _ => False) := by
  refine Met.ofW (cc := cX0_indexOf) (maxL := 3) (ret := some .int) (by decide) rfl ?_
  intro p e s m args below meth c s₁ B hml hv
  obtain ⟨rfl, hP, hK⟩ := hv
  have hx := B.exec
  have hb := B.bytes
  have hr := B.returns
  have hts := fun w h => atoms_spec (ws := wsX0_indexOf) B.pre w (List.mem_cons_of_mem _ h)
  have hown : s.vm.findClass RX0 = some m.cls := findClass_of_methodNamed B.named
  have hlocks := B.notSynchronized
  have hl := lv_entry ([.ref b0, .long hh]) (n := 3) (Nat.le_of_ble_eq_true rfl)
  rw [lg_entry_eq]
  generalize (lg_sl ([.ref b0, .long hh]) ++ List.replicate (3 - (lg_sl ([.ref b0, .long hh])).length) Slot.unset).toArray = ls at hl ⊢
  have hl : lv_has ls 3 [(0, .ref b0), (1, .long hh)] := hl
  refine lv_aload_n hx hb dX0_indexOf_0 rfl (lv_at hl 0 rfl) ?_
  refine va_get (D := (dC, dI)) (ci := 0) (v := .int (nI bn)) (C := RX0) (T := TX0) (N := 4) hx hb hts inX0 hown hK hP 0 rfl rfl 1 (by decide) (hts _ mw108) (fun _ h9 => h9) rfl dX0_indexOf_1 ?_
  refine lv_if_ne (tgt := 11) hx hb dX0_indexOf_4 (by decide) (fun c4 => ?_) (fun c4 => ?_)
  · refine lv_lload_n hx hb dX0_indexOf_11 rfl (lv_at hl 1 rfl) ?_
    refine lv_aload_n hx hb dX0_indexOf_12 rfl (lv_at hl 0 rfl) ?_
    refine va_get (D := (dC, dI)) (ci := 0) (v := .int (nI bn)) (C := RX0) (T := TX0) (N := 4) hx hb hts inX0 hown hK hP 0 rfl rfl 1 (by decide) (hts _ mw108) (fun _ h9 => h9) rfl dX0_indexOf_13 ?_
    refine lv_iconst (v := 1) hx hb dX0_indexOf_16 (by decide) ?_
    refine lv_isub hx hb dX0_indexOf_17 ?_
    refine lv_i2l (v := ((nI bn) - 1).toInt64) hx hb dX0_indexOf_18 rfl ?_
    refine lv_land hx hb dX0_indexOf_19 ?_
    refine lv_l2i (v := (hh &&& (((nI bn) - 1).toInt64)).toInt32) hx hb dX0_indexOf_20 rfl ?_
    exact rd_iret hx hb hr hlocks dX0_indexOf_21 rfl (by unfold bIndex; rw [if_neg (fun z => c4 (by rw [z]; rfl))])
  · refine lv_iconst (v := (-1)) hx hb dX0_indexOf_7 (by decide) ?_
    refine lv_goto (tgt := 21) hx hb dX0_indexOf_8 (by decide) ?_
    exact rd_iret hx hb hr hlocks dX0_indexOf_21 rfl (by unfold bIndex; rw [if_pos (n_nI0 (by omega) c4)])

set_option maxHeartbeats 4000000 in
set_option maxRecDepth 100000 in
/-- Buckets.isOne -/
theorem c_X0_isOne (l : Launch) (dC : Nat → ClassId) (dI : Nat → Nat → Nat) (cI cL : ClassId) (b0 b1 : Nat) (held : Nat → Int32) (bn : Nat) (wy stt : Int32) (b : Int32) : Met l yX0_isOne wsX0_isOne ({ frames := 0, cells := 0, slots := 0, locals := 0 }) (rd_P (dC, dI) vwCl [(cI, .int), (cL, .long)] [(b0, .inr (0, [.ref b1, .int (nI bn), .int wy, .int stt])), (b1, .inl (cI, 16, .inl held))] [.ref b0, .int b]) (rd_Q (some (.int (bI (bOne bn b))))) 0 0 (fun _ => False) := by
  refine Met.ofW (cc := cX0_isOne) (maxL := 2) (ret := some .boolean) (by decide) rfl ?_
  intro p e s m args below meth c s₁ B hml hv
  obtain ⟨rfl, hP, hK⟩ := hv
  have hx := B.exec
  have hb := B.bytes
  have hr := B.returns
  have hts := fun w h => atoms_spec (ws := wsX0_isOne) B.pre w (List.mem_cons_of_mem _ h)
  have hown : s.vm.findClass RX0 = some m.cls := findClass_of_methodNamed B.named
  have hlocks := B.notSynchronized
  have hl := lv_entry ([.ref b0, .int b]) (n := 2) (Nat.le_of_ble_eq_true rfl)
  rw [lg_entry_eq]
  generalize (lg_sl ([.ref b0, .int b]) ++ List.replicate (2 - (lg_sl ([.ref b0, .int b])).length) Slot.unset).toArray = ls at hl ⊢
  have hl : lv_has ls 2 [(0, .ref b0), (1, .int b)] := hl
  refine lv_iload_n hx hb dX0_isOne_0 rfl (lv_at hl 1 rfl) ?_
  refine lv_if_lt (tgt := 16) hx hb dX0_isOne_1 (by decide) (fun c1 => ?_) (fun c1 => ?_)
  · refine lv_iconst (v := 0) hx hb dX0_isOne_16 (by decide) ?_
    exact rd_iret hx hb hr hlocks dX0_isOne_17 rfl (by unfold bOne; rw [decide_eq_false (Int32.not_le.mpr c1)]; rfl)
  · refine lv_iload_n hx hb dX0_isOne_4 rfl (lv_at hl 1 rfl) ?_
    refine lv_aload_n hx hb dX0_isOne_5 rfl (lv_at hl 0 rfl) ?_
    refine va_get (D := (dC, dI)) (ci := 0) (v := .int (nI bn)) (C := RX0) (T := TX0) (N := 4) hx hb hts inX0 hown hK hP 0 rfl rfl 1 (by decide) (hts _ mw108) (fun _ h9 => h9) rfl dX0_isOne_6 ?_
    refine lv_icmp_ge (tgt := 16) hx hb dX0_isOne_9 (by decide) (fun c9 => ?_) (fun c9 => ?_)
    · refine lv_iconst (v := 0) hx hb dX0_isOne_16 (by decide) ?_
      exact rd_iret hx hb hr hlocks dX0_isOne_17 rfl (by unfold bOne; rw [decide_eq_false (Int32.not_lt.mpr c9), Bool.and_false]; rfl)
    · refine lv_iconst (v := 1) hx hb dX0_isOne_12 (by decide) ?_
      refine lv_goto (tgt := 17) hx hb dX0_isOne_13 (by decide) ?_
      exact rd_iret hx hb hr hlocks dX0_isOne_17 rfl (by unfold bOne; rw [decide_eq_true (Int32.not_lt.mp c1), decide_eq_true (Int32.not_le.mp c9)]; rfl)

set_option maxHeartbeats 4000000 in
set_option maxRecDepth 100000 in
/-- Buckets.above -/
theorem c_X0_above (l : Launch) (dC : Nat → ClassId) (dI : Nat → Nat → Nat) (cI cL : ClassId) (b0 b1 : Nat) (held : Nat → Int32) (bn : Nat) (wy stt : Int32) (hbn : bn ≤ 16) : Met l yX0_above wsX0_above ({ frames := 1, cells := 0, slots := 0, locals := 16 }) (rd_P (dC, dI) vwCl [(cI, .int), (cL, .long)] [(b0, .inr (0, [.ref b1, .int (nI bn), .int wy, .int stt])), (b1, .inl (cI, 16, .inl held))] [.ref b0]) (rd_Q (some (.int (bAbove held wy 0 0 bn)))) 0 0 (fun _ => False) := by
  refine Met.ofW (cc := cX0_above) (maxL := 3) (ret := some .int) (by decide) rfl ?_
  intro p e s m args below meth c s₁ B hml hv
  obtain ⟨rfl, hP, hK⟩ := hv
  have hx := B.exec
  have hb := B.bytes
  have hr := B.returns
  have hts := fun w h => atoms_spec (ws := wsX0_above) B.pre w (List.mem_cons_of_mem _ h)
  have hown : s.vm.findClass RX0 = some m.cls := findClass_of_methodNamed B.named
  have hlocks := B.notSynchronized
  have hl := lv_entry ([.ref b0]) (n := 3) (Nat.le_of_ble_eq_true rfl)
  rw [lg_entry_eq]
  generalize (lg_sl ([.ref b0]) ++ List.replicate (3 - (lg_sl ([.ref b0])).length) Slot.unset).toArray = ls at hl ⊢
  have hl : lv_has ls 3 [(0, .ref b0)] := hl
  refine lv_iconst (v := 0) hx hb dX0_above_0 (by decide) ?_
  refine lv_istore_n (lv' := [(1, .int 0), (0, .ref b0)]) hx hb dX0_above_1 rfl hl (by decide) rfl (fun ls hl => ?_)
  refine lv_iconst (v := (nI 0)) hx hb dX0_above_2 (by decide) ?_
  refine lv_istore_n (lv' := [(2, .int (nI 0)), (1, .int 0), (0, .ref b0)]) hx hb dX0_above_3 rfl hl (by decide) rfl (fun ls hl => ?_)
  have loop : ∀ (n i : Nat) (a : Int32), i + n = bn → ∀ ls : Array Slot, lv_has ls 3 [(2, .int (nI i)), (1, .int a), (0, .ref b0)] → W p l e (headSpec wsX0_above ({ frames := 1, cells := 0, slots := 0, locals := 16 })).room s m ([.ref b0]).toArray below meth c s.heap [] 0 0 (MQ below (rd_Q (some (.int (bAbove held wy a i n)))) ([.ref b0]).toArray s 0 0 (fun _ => False)) (F0 m 4 ls []) := by
    intro n
    induction n with
    | zero =>
      intro i a hi ls hl
      refine lv_iload_n hx hb dX0_above_4 rfl (lv_at hl 0 rfl) ?_
      refine lv_aload_n hx hb dX0_above_5 rfl (lv_at hl 2 rfl) ?_
      refine va_get (D := (dC, dI)) (ci := 0) (v := .int (nI bn)) (C := RX0) (T := TX0) (N := 4) hx hb hts inX0 hown hK hP 0 rfl rfl 1 (by decide) (hts _ mw108) (fun _ h9 => h9) rfl dX0_above_6 ?_
      refine n_ige i bn (tgt := 36) (hexec := hx) (hb := hb) dX0_above_9 (by decide) rfl rfl (by omega) (by omega) (fun c9 => ?_) (fun c9 => absurd c9 (by omega))
      refine lv_iload_n hx hb dX0_above_36 rfl (lv_at hl 1 rfl) ?_
      exact rd_iret hx hb hr hlocks dX0_above_37 rfl (rfl)
    | succ n ih =>
      intro i a hi ls hl
      refine lv_iload_n hx hb dX0_above_4 rfl (lv_at hl 0 rfl) ?_
      refine lv_aload_n hx hb dX0_above_5 rfl (lv_at hl 2 rfl) ?_
      refine va_get (D := (dC, dI)) (ci := 0) (v := .int (nI bn)) (C := RX0) (T := TX0) (N := 4) hx hb hts inX0 hown hK hP 0 rfl rfl 1 (by decide) (hts _ mw108) (fun _ h9 => h9) rfl dX0_above_6 ?_
      refine n_ige i bn (tgt := 36) (hexec := hx) (hb := hb) dX0_above_9 (by decide) rfl rfl (by omega) (by omega) (fun c9 => absurd c9 (by omega)) (fun c9 => ?_)
      refine lv_iload_n hx hb dX0_above_12 rfl (lv_at hl 1 rfl) ?_
      refine lv_iconst (v := 0) hx hb dX0_above_13 (by decide) ?_
      refine lv_aload_n hx hb dX0_above_14 rfl (lv_at hl 2 rfl) ?_
      refine va_get (D := (dC, dI)) (ci := 0) (v := .ref b1) (C := RX0) (T := TX0) (N := 4) hx hb hts inX0 hown hK hP 0 rfl rfl 0 (by decide) (hts _ mw107) (fun _ h9 => h9) rfl dX0_above_15 ?_
      refine lv_iload_n hx hb dX0_above_18 rfl (lv_at hl 0 rfl) ?_
      refine n_iald hx hb hK hP 1 0 rfl rfl (k := i) rfl (by omega) (by omega) dX0_above_19 ?_
      refine lv_aload_n hx hb dX0_above_20 rfl (lv_at hl 2 rfl) ?_
      refine va_get (D := (dC, dI)) (ci := 0) (v := .int wy) (C := RX0) (T := TX0) (N := 4) hx hb hts inX0 hown hK hP 0 rfl rfl 2 (by decide) (hts _ mw109) (fun _ h9 => h9) rfl dX0_above_21 ?_
      refine lv_isub hx hb dX0_above_24 ?_
      refine va_mmax hx hb (hml.trans hl.1.symm) hown (hts _ mw183) (hts _ mw184) (hts _ mw35) (hts _ mw185) (Nat.le_of_ble_eq_true rfl) (Nat.le_of_ble_eq_true rfl) (Nat.zero_le _) (Nat.zero_le _) dX0_above_25 ?_
      refine lv_iadd hx hb dX0_above_28 ?_
      refine lv_istore_n (lv' := [(1, .int (a + (if 0 < held i - wy then held i - wy else 0))), (2, .int (nI i)), (0, .ref b0)]) hx hb dX0_above_29 rfl hl (by decide) rfl (fun ls hl => ?_)
      refine lv_iinc (v := nI (i + 1)) (lv' := [(2, .int (nI (i + 1))), (1, .int (a + (if 0 < held i - wy then held i - wy else 0))), (0, .ref b0)]) hx hb dX0_above_30 hl (k := 1) rfl (nI_1 i) (by decide) rfl (fun ls hl => ?_)
      refine lv_goto (tgt := 4) hx hb dX0_above_33 (by decide) ?_
      exact ih (i + 1) (a + (if 0 < held i - wy then held i - wy else 0)) (by omega) ls (lv_sub hl [0, 1, 2] rfl)
  exact loop bn 0 0 (by omega) ls (lv_sub hl [0, 1, 2] rfl)

set_option maxHeartbeats 4000000 in
set_option maxRecDepth 100000 in
/-- Buckets.haveRoom -/
theorem c_X0_haveRoom (l : Launch) (dC : Nat → ClassId) (dI : Nat → Nat → Nat) (cI cL : ClassId) (b0 b1 : Nat) (held : Nat → Int32) (bn : Nat) (wy stt : Int32) (b : Int32) (hbn : bn ≤ 16) : Met l yX0_haveRoom wsX0_haveRoom ({ frames := 2, cells := 0, slots := 0, locals := 38 }) (rd_P (dC, dI) vwCl [(cI, .int), (cL, .long)] [(b0, .inr (0, [.ref b1, .int (nI bn), .int wy, .int stt])), (b1, .inl (cI, 16, .inl held))] [.ref b0, .int b]) (rd_Q (some (.int (bI (bRoom held bn wy stt b))))) 0 0 (fun _ => False) := by
  refine Met.ofW (cc := cX0_haveRoom) (maxL := 2) (ret := some .boolean) (by decide) rfl ?_
  intro p e s m args below meth c s₁ B hml hv
  obtain ⟨rfl, hP, hK⟩ := hv
  have hx := B.exec
  have hb := B.bytes
  have hr := B.returns
  have hts := fun w h => atoms_spec (ws := wsX0_haveRoom) B.pre w (List.mem_cons_of_mem _ h)
  have hown : s.vm.findClass RX0 = some m.cls := findClass_of_methodNamed B.named
  have hlocks := B.notSynchronized
  have hl := lv_entry ([.ref b0, .int b]) (n := 2) (Nat.le_of_ble_eq_true rfl)
  rw [lg_entry_eq]
  generalize (lg_sl ([.ref b0, .int b]) ++ List.replicate (2 - (lg_sl ([.ref b0, .int b])).length) Slot.unset).toArray = ls at hl ⊢
  have hl : lv_has ls 2 [(0, .ref b0), (1, .int b)] := hl
  refine lv_aload_n hx hb dX0_haveRoom_0 rfl (lv_at hl 0 rfl) ?_
  refine lv_iload_n hx hb dX0_haveRoom_1 rfl (lv_at hl 1 rfl) ?_
  refine rd_calli (r := (bI (bOne bn b))) (va_runV (As := [.int b]) (rest := []) ⟨hx, hb, hml, hown, hts⟩ (c_X0_isOne l dC dI cI cL b0 b1 held bn wy stt b) (cwV 1 hts (gV mw390 mw391 mw392 mw25 mw393) rfl rfl rfl (by decide +kernel) ⟨Nat.le_of_ble_eq_true rfl, Nat.le_of_ble_eq_true rfl⟩) (rd_preV (hP.sub (ws' := [(b0, .inr (0, [.ref b1, .int (nI bn), .int wy, .int stt])), (b1, .inl (cI, 16, .inl held))]) [0, 1] rfl) hK (va_recv (ci := 0) hK hP rfl (q0 := 0) rfl)) rfl rfl hl.1 rfl (lv_room (Nat.le_of_ble_eq_true rfl)) dX0_haveRoom_2 ⟨Nat.zero_le _, Nat.zero_le _⟩) ?_
  refine lv_if_eq (tgt := 36) hx hb dX0_haveRoom_5 (by decide) (fun c5 => ?_) (fun c5 => ?_)
  · refine lv_iconst (v := 0) hx hb dX0_haveRoom_36 (by decide) ?_
    exact rd_iret hx hb hr hlocks dX0_haveRoom_37 rfl (by unfold bRoom; rw [bI_eq c5]; rfl)
  · obtain ⟨j, hj, ej⟩ := bOne_of hbn (bI_ne c5)
    have ec : b.toNatClampNeg = j := by rw [ej]; exact nI_clamp (by omega)
    refine lv_aload_n hx hb dX0_haveRoom_8 rfl (lv_at hl 0 rfl) ?_
    refine va_get (D := (dC, dI)) (ci := 0) (v := .ref b1) (C := RX0) (T := TX0) (N := 4) hx hb hts inX0 hown hK hP 0 rfl rfl 0 (by decide) (hts _ mw107) (fun _ h9 => h9) rfl dX0_haveRoom_9 ?_
    refine lv_iload_n hx hb dX0_haveRoom_12 rfl (lv_at hl 1 rfl) ?_
    refine n_iald hx hb hK hP 1 0 rfl rfl (k := j) ej (by omega) (by omega) dX0_haveRoom_13 ?_
    refine lv_aload_n hx hb dX0_haveRoom_14 rfl (lv_at hl 0 rfl) ?_
    refine va_get (D := (dC, dI)) (ci := 0) (v := .int wy) (C := RX0) (T := TX0) (N := 4) hx hb hts inX0 hown hK hP 0 rfl rfl 2 (by decide) (hts _ mw109) (fun _ h9 => h9) rfl dX0_haveRoom_15 ?_
    refine lv_icmp_lt (tgt := 32) hx hb dX0_haveRoom_18 (by decide) (fun c18 => ?_) (fun c18 => ?_)
    · refine lv_iconst (v := 1) hx hb dX0_haveRoom_32 (by decide) ?_
      refine lv_goto (tgt := 37) hx hb dX0_haveRoom_33 (by decide) ?_
      exact rd_iret hx hb hr hlocks dX0_haveRoom_37 rfl (by unfold bRoom; rw [bI_ne c5, ec, decide_eq_true c18]; rfl)
    · refine lv_aload_n hx hb dX0_haveRoom_21 rfl (lv_at hl 0 rfl) ?_
      refine rd_calli (r := (bAbove held wy 0 0 bn)) (va_runV (As := []) (rest := []) ⟨hx, hb, hml, hown, hts⟩ (c_X0_above l dC dI cI cL b0 b1 held bn wy stt hbn) (cwV 0 hts (gV mw394 mw180 mw181 mw25 mw182) rfl rfl rfl (by decide +kernel) ⟨Nat.le_of_ble_eq_true rfl, Nat.le_of_ble_eq_true rfl⟩) (rd_preV (hP.sub (ws' := [(b0, .inr (0, [.ref b1, .int (nI bn), .int wy, .int stt])), (b1, .inl (cI, 16, .inl held))]) [0, 1] rfl) hK (va_recv (ci := 0) hK hP rfl (q0 := 0) rfl)) rfl rfl hl.1 rfl (lv_room (Nat.le_of_ble_eq_true rfl)) dX0_haveRoom_22 ⟨Nat.zero_le _, Nat.zero_le _⟩) ?_
      refine lv_aload_n hx hb dX0_haveRoom_25 rfl (lv_at hl 0 rfl) ?_
      refine va_get (D := (dC, dI)) (ci := 0) (v := .int stt) (C := RX0) (T := TX0) (N := 4) hx hb hts inX0 hown hK hP 0 rfl rfl 3 (by decide) (hts _ mw110) (fun _ h9 => h9) rfl dX0_haveRoom_26 ?_
      refine lv_icmp_ge (tgt := 36) hx hb dX0_haveRoom_29 (by decide) (fun c29 => ?_) (fun c29 => ?_)
      · refine lv_iconst (v := 0) hx hb dX0_haveRoom_36 (by decide) ?_
        exact rd_iret hx hb hr hlocks dX0_haveRoom_37 rfl (by unfold bRoom; rw [ec, decide_eq_false c18, decide_eq_false (Int32.not_lt.mpr c29), Bool.or_false, Bool.and_false]; rfl)
      · refine lv_iconst (v := 1) hx hb dX0_haveRoom_32 (by decide) ?_
        refine lv_goto (tgt := 37) hx hb dX0_haveRoom_33 (by decide) ?_
        exact rd_iret hx hb hr hlocks dX0_haveRoom_37 rfl (by unfold bRoom; rw [bI_ne c5, decide_eq_true (Int32.not_le.mp c29), Bool.or_true]; rfl)

set_option maxHeartbeats 4000000 in
set_option maxRecDepth 100000 in
/-- Buckets.fill -/
theorem c_X0_fill (l : Launch) (dC : Nat → ClassId) (dI : Nat → Nat → Nat) (cI cL : ClassId) (b0 b1 : Nat) (held : Nat → Int32) (bn : Nat) (wy stt : Int32) (b : Int32) (hbn : bn ≤ 16) : Met l yX0_fill wsX0_fill ({ frames := 1, cells := 0, slots := 0, locals := 21 }) (wr_P (dC, dI) vwCl [(cI, .int), (cL, .long)] [(b0, .inr (0, [.ref b1, .int (nI bn), .int wy, .int stt])), (b1, .inl (cI, 16, .inl held))] [.ref b0, .int b]) (wr_Q (dC, dI) vwCl none [(b0, .inr (0, [.ref b1, .int (nI bn), .int wy, .int stt])), (b1, .inl (cI, 16, .inl held))] [(b0, .inr (0, [.ref b1, .int (nI bn), .int wy, .int stt])), (b1, .inl (cI, 16, .inl (fillB held bn b 1)))]) 0 0 (wr_I [(b0, .inr (0, [.ref b1, .int (nI bn), .int wy, .int stt])), (b1, .inl (cI, 16, .inl held))]) := by
  refine Met.ofW (cc := cX0_fill) (maxL := 2) (ret := none) (by decide) rfl ?_
  intro p e s m args below meth c s₁ B hml hv
  obtain ⟨rfl, hP, hK, hD0⟩ := hv
  have hx := B.exec
  have hb := B.bytes
  have hr := B.returns
  have hts := fun w h => atoms_spec (ws := wsX0_fill) B.pre w (List.mem_cons_of_mem _ h)
  have hown : s.vm.findClass RX0 = some m.cls := findClass_of_methodNamed B.named
  have hlocks := B.notSynchronized
  have hD := wr_self hD0
  have hS : va_S (wr_I [(b0, .inr (0, [.ref b1, .int (nI bn), .int wy, .int stt])), (b1, .inl (cI, 16, .inl held))]) s.heap s.heap [] := va_S.rf
  have hl := lv_entry ([.ref b0, .int b]) (n := 2) (Nat.le_of_ble_eq_true rfl)
  rw [lg_entry_eq]
  generalize (lg_sl ([.ref b0, .int b]) ++ List.replicate (2 - (lg_sl ([.ref b0, .int b])).length) Slot.unset).toArray = ls at hl ⊢
  have hl : lv_has ls 2 [(0, .ref b0), (1, .int b)] := hl
  refine lv_aload_n hx hb dX0_fill_0 rfl (lv_at hl 0 rfl) ?_
  refine lv_iload_n hx hb dX0_fill_1 rfl (lv_at hl 1 rfl) ?_
  refine rd_calli (r := (bI (bOne bn b))) (va_runV (As := [.int b]) (rest := []) ⟨hx, hb, hml, hown, hts⟩ (c_X0_isOne l dC dI cI cL b0 b1 held bn wy stt b) (cwV 1 hts (gV mw390 mw391 mw392 mw25 mw393) rfl rfl rfl (by decide +kernel) ⟨Nat.le_of_ble_eq_true rfl, Nat.le_of_ble_eq_true rfl⟩) (rd_preV (hP.sub (ws' := [(b0, .inr (0, [.ref b1, .int (nI bn), .int wy, .int stt])), (b1, .inl (cI, 16, .inl held))]) [0, 1] rfl) hK (va_recv (ci := 0) hK hP rfl (q0 := 0) rfl)) rfl rfl hl.1 rfl (lv_room (Nat.le_of_ble_eq_true rfl)) dX0_fill_2 ⟨Nat.zero_le _, Nat.zero_le _⟩) ?_
  refine lv_if_eq (tgt := 18) hx hb dX0_fill_5 (by decide) (fun c5 => ?_) (fun c5 => ?_)
  · have e9 : fillB held bn b 1 = held := by unfold fillB; rw [bI_eq c5]; rfl
    rw [e9]
    exact wr_vret hx hb hr hlocks hP hS dX0_fill_18
  · obtain ⟨j, hj, ej⟩ := bOne_of hbn (bI_ne c5)
    have ec : b.toNatClampNeg = j := by rw [ej]; exact nI_clamp (by omega)
    refine lv_aload_n hx hb dX0_fill_8 rfl (lv_at hl 0 rfl) ?_
    refine va_get (D := (dC, dI)) (ci := 0) (v := .ref b1) (C := RX0) (T := TX0) (N := 4) hx hb hts inX0 hown hK hP 0 rfl rfl 0 (by decide) (hts _ mw107) (fun _ h9 => h9) rfl dX0_fill_9 ?_
    refine lv_iload_n hx hb dX0_fill_12 rfl (lv_at hl 1 rfl) ?_
    refine lv_dup2_11 hx hb dX0_fill_13 rfl rfl ?_
    refine n_iald hx hb hK hP 1 0 rfl rfl (k := j) ej (by omega) (by omega) dX0_fill_14 ?_
    refine lv_iconst (v := 1) hx hb dX0_fill_15 (by decide) ?_
    refine lv_iadd hx hb dX0_fill_16 ?_
    refine n_iast (ws' := [(b0, .inr (0, [.ref b1, .int (nI bn), .int wy, .int stt])), (b1, .inl (cI, 16, .inl (upd held j ((held j) + 1))))]) hx hb hK hP hD hS 1 0 rfl rfl (k := j) ej (by omega) (by omega) dX0_fill_17 rfl (fun H locs hP hD hS => ?_)
    have e9 : fillB held bn b 1 = upd held j (held j + 1) := by unfold fillB; rw [bI_ne c5, ec]; rfl
    rw [e9]
    exact wr_vret hx hb hr hlocks hP hS dX0_fill_18

set_option maxHeartbeats 4000000 in
set_option maxRecDepth 100000 in
/-- Buckets.empty -/
theorem c_X0_empty (l : Launch) (dC : Nat → ClassId) (dI : Nat → Nat → Nat) (cI cL : ClassId) (b0 b1 : Nat) (held : Nat → Int32) (bn : Nat) (wy stt : Int32) (b : Int32) (hbn : bn ≤ 16) : Met l yX0_empty wsX0_empty ({ frames := 1, cells := 0, slots := 0, locals := 21 }) (wr_P (dC, dI) vwCl [(cI, .int), (cL, .long)] [(b0, .inr (0, [.ref b1, .int (nI bn), .int wy, .int stt])), (b1, .inl (cI, 16, .inl held))] [.ref b0, .int b]) (wr_Q (dC, dI) vwCl none [(b0, .inr (0, [.ref b1, .int (nI bn), .int wy, .int stt])), (b1, .inl (cI, 16, .inl held))] [(b0, .inr (0, [.ref b1, .int (nI bn), .int wy, .int stt])), (b1, .inl (cI, 16, .inl (fillB held bn b (-1))))]) 0 0 (wr_I [(b0, .inr (0, [.ref b1, .int (nI bn), .int wy, .int stt])), (b1, .inl (cI, 16, .inl held))]) := by
  refine Met.ofW (cc := cX0_empty) (maxL := 2) (ret := none) (by decide) rfl ?_
  intro p e s m args below meth c s₁ B hml hv
  obtain ⟨rfl, hP, hK, hD0⟩ := hv
  have hx := B.exec
  have hb := B.bytes
  have hr := B.returns
  have hts := fun w h => atoms_spec (ws := wsX0_empty) B.pre w (List.mem_cons_of_mem _ h)
  have hown : s.vm.findClass RX0 = some m.cls := findClass_of_methodNamed B.named
  have hlocks := B.notSynchronized
  have hD := wr_self hD0
  have hS : va_S (wr_I [(b0, .inr (0, [.ref b1, .int (nI bn), .int wy, .int stt])), (b1, .inl (cI, 16, .inl held))]) s.heap s.heap [] := va_S.rf
  have hl := lv_entry ([.ref b0, .int b]) (n := 2) (Nat.le_of_ble_eq_true rfl)
  rw [lg_entry_eq]
  generalize (lg_sl ([.ref b0, .int b]) ++ List.replicate (2 - (lg_sl ([.ref b0, .int b])).length) Slot.unset).toArray = ls at hl ⊢
  have hl : lv_has ls 2 [(0, .ref b0), (1, .int b)] := hl
  refine lv_aload_n hx hb dX0_empty_0 rfl (lv_at hl 0 rfl) ?_
  refine lv_iload_n hx hb dX0_empty_1 rfl (lv_at hl 1 rfl) ?_
  refine rd_calli (r := (bI (bOne bn b))) (va_runV (As := [.int b]) (rest := []) ⟨hx, hb, hml, hown, hts⟩ (c_X0_isOne l dC dI cI cL b0 b1 held bn wy stt b) (cwV 1 hts (gV mw390 mw391 mw392 mw25 mw393) rfl rfl rfl (by decide +kernel) ⟨Nat.le_of_ble_eq_true rfl, Nat.le_of_ble_eq_true rfl⟩) (rd_preV (hP.sub (ws' := [(b0, .inr (0, [.ref b1, .int (nI bn), .int wy, .int stt])), (b1, .inl (cI, 16, .inl held))]) [0, 1] rfl) hK (va_recv (ci := 0) hK hP rfl (q0 := 0) rfl)) rfl rfl hl.1 rfl (lv_room (Nat.le_of_ble_eq_true rfl)) dX0_empty_2 ⟨Nat.zero_le _, Nat.zero_le _⟩) ?_
  refine lv_if_eq (tgt := 18) hx hb dX0_empty_5 (by decide) (fun c5 => ?_) (fun c5 => ?_)
  · have e9 : fillB held bn b (-1) = held := by unfold fillB; rw [bI_eq c5]; rfl
    rw [e9]
    exact wr_vret hx hb hr hlocks hP hS dX0_empty_18
  · obtain ⟨j, hj, ej⟩ := bOne_of hbn (bI_ne c5)
    have ec : b.toNatClampNeg = j := by rw [ej]; exact nI_clamp (by omega)
    refine lv_aload_n hx hb dX0_empty_8 rfl (lv_at hl 0 rfl) ?_
    refine va_get (D := (dC, dI)) (ci := 0) (v := .ref b1) (C := RX0) (T := TX0) (N := 4) hx hb hts inX0 hown hK hP 0 rfl rfl 0 (by decide) (hts _ mw107) (fun _ h9 => h9) rfl dX0_empty_9 ?_
    refine lv_iload_n hx hb dX0_empty_12 rfl (lv_at hl 1 rfl) ?_
    refine lv_dup2_11 hx hb dX0_empty_13 rfl rfl ?_
    refine n_iald hx hb hK hP 1 0 rfl rfl (k := j) ej (by omega) (by omega) dX0_empty_14 ?_
    refine lv_iconst (v := 1) hx hb dX0_empty_15 (by decide) ?_
    refine lv_isub hx hb dX0_empty_16 ?_
    refine n_iast (ws' := [(b0, .inr (0, [.ref b1, .int (nI bn), .int wy, .int stt])), (b1, .inl (cI, 16, .inl (upd held j ((held j) - 1))))]) hx hb hK hP hD hS 1 0 rfl rfl (k := j) ej (by omega) (by omega) dX0_empty_17 rfl (fun H locs hP hD hS => ?_)
    have e9 : fillB held bn b (-1) = upd held j (held j - 1) := by unfold fillB; rw [bI_ne c5, ec, Int32.sub_eq_add_neg]; rfl
    rw [e9]
    exact wr_vret hx hb hr hlocks hP hS dX0_empty_18
end
section
/-! jdk -/
set_option maxHeartbeats 4000000 in
set_option maxRecDepth 100000 in
/-- Arrays.fill -/
theorem c_J7_fillI (l : Launch) (dC : Nat → ClassId) (dI : Nat → Nat → Nat) (cI cL : ClassId) (a cnt : Nat) (f : Nat → Int32) (v : Int32) (hn : cnt < 2147483648) : Met l yJ7_fillI wsJ7_fillI ({ frames := 0, cells := 0, slots := 0, locals := 0 }) (wr_P (dC, dI) vwCl [(cI, .int), (cL, .long)] [(a, .inl (cI, cnt, .inl f))] [.ref a, .int v]) (wr_Q (dC, dI) vwCl none [(a, .inl (cI, cnt, .inl f))] [(a, .inl (cI, cnt, .inl (fillI v f 0 cnt)))]) 0 0 (wr_I [(a, .inl (cI, cnt, .inl f))]) := by
  refine Met.ofW (cc := cJ7_fillI) (maxL := 4) (ret := none) (by decide) rfl ?_
  intro p e s m args below meth c s₁ B hml hv
  obtain ⟨rfl, hP, hK, hD0⟩ := hv
  have hx := B.exec
  have hb := B.bytes
  have hr := B.returns
  have hts := fun w h => atoms_spec (ws := wsJ7_fillI) B.pre w (List.mem_cons_of_mem _ h)
  have hown : s.vm.findClass RJ7 = some m.cls := findClass_of_methodNamed B.named
  have hlocks := B.notSynchronized
  have hD := wr_self hD0
  have hS : va_S (wr_I [(a, .inl (cI, cnt, .inl f))]) s.heap s.heap [] := va_S.rf
  have hl := lv_entry ([.ref a, .int v]) (n := 4) (Nat.le_of_ble_eq_true rfl)
  rw [lg_entry_eq]
  generalize (lg_sl ([.ref a, .int v]) ++ List.replicate (4 - (lg_sl ([.ref a, .int v])).length) Slot.unset).toArray = ls at hl ⊢
  have hl : lv_has ls 4 [(0, .ref a), (1, .int v)] := hl
  refine lv_iconst (v := (nI 0)) hx hb dJ7_fillI_0 (by decide) ?_
  refine lv_istore_n (lv' := [(2, .int (nI 0)), (0, .ref a), (1, .int v)]) hx hb dJ7_fillI_1 rfl hl (by decide) rfl (fun ls hl => ?_)
  refine lv_aload_n hx hb dJ7_fillI_2 rfl (lv_at hl 1 rfl) ?_
  refine va_alen (v := nI cnt) hx hb hK hP 0 0 rfl rfl rfl dJ7_fillI_3 ?_
  refine lv_istore_n (lv' := [(3, .int (nI cnt)), (2, .int (nI 0)), (0, .ref a), (1, .int v)]) hx hb dJ7_fillI_4 rfl hl (by decide) rfl (fun ls hl => ?_)
  have loop : ∀ (n : Nat) (i : Nat) (f1 : Nat → Int32) (H : Heap) (locs : List Loc), i + n = cnt → va_P (dC, dI) vwCl [(a, .inl (cI, cnt, .inl f1))] H → va_D (wr_I [(a, .inl (cI, cnt, .inl f))]) [(a, .inl (cI, cnt, .inl f1))] → va_S (wr_I [(a, .inl (cI, cnt, .inl f))]) s.heap H locs → ∀ ls : Array Slot, lv_has ls 4 [(2, .int (nI i)), (3, .int (nI cnt)), (0, .ref a), (1, .int v)] → W p l e (headSpec wsJ7_fillI ({ frames := 0, cells := 0, slots := 0, locals := 0 })).room s m ([.ref a, .int v]).toArray below meth c H locs 0 0 (MQ below (wr_Q (dC, dI) vwCl none [(a, .inl (cI, cnt, .inl f))] [(a, .inl (cI, cnt, .inl (fillI v f1 i n)))]) ([.ref a, .int v]).toArray s 0 0 (wr_I [(a, .inl (cI, cnt, .inl f))])) (F0 m 5 ls []) := by
    intro n
    induction n with
    | zero =>
      intro i f1 H locs hi hP hD hS ls hl
      refine lv_iload_n hx hb dJ7_fillI_5 rfl (lv_at hl 0 rfl) ?_
      refine lv_iload_n hx hb dJ7_fillI_6 rfl (lv_at hl 1 rfl) ?_
      refine n_ige i cnt (tgt := 20) (hexec := hx) (hb := hb) dJ7_fillI_7 (by decide) rfl rfl (by omega) (by omega) (fun c7 => ?_) (fun c7 => absurd c7 (by omega))
      exact wr_vret hx hb hr hlocks hP hS dJ7_fillI_20
    | succ n ih =>
      intro i f1 H locs hi hP hD hS ls hl
      refine lv_iload_n hx hb dJ7_fillI_5 rfl (lv_at hl 0 rfl) ?_
      refine lv_iload_n hx hb dJ7_fillI_6 rfl (lv_at hl 1 rfl) ?_
      refine n_ige i cnt (tgt := 20) (hexec := hx) (hb := hb) dJ7_fillI_7 (by decide) rfl rfl (by omega) (by omega) (fun c7 => absurd c7 (by omega)) (fun c7 => ?_)
      refine lv_aload_n hx hb dJ7_fillI_10 rfl (lv_at hl 2 rfl) ?_
      refine lv_iload_n hx hb dJ7_fillI_11 rfl (lv_at hl 0 rfl) ?_
      refine lv_iload_n hx hb dJ7_fillI_12 rfl (lv_at hl 3 rfl) ?_
      refine n_iast (ws' := [(a, .inl (cI, cnt, .inl (upd f1 i v)))]) hx hb hK hP hD hS 0 0 rfl rfl (k := i) rfl (by omega) (by omega) dJ7_fillI_13 rfl (fun H locs hP hD hS => ?_)
      refine lv_iinc (v := nI (i + 1)) (lv' := [(2, .int (nI (i + 1))), (3, .int (nI cnt)), (0, .ref a), (1, .int v)]) hx hb dJ7_fillI_14 hl (k := 0) rfl (nI_1 i) (by decide) rfl (fun ls hl => ?_)
      refine lv_goto (tgt := 5) hx hb dJ7_fillI_17 (by decide) ?_
      exact ih (i + 1) _ _ _ (by omega) hP hD hS ls (lv_sub hl [0, 1, 2, 3] rfl)
  exact loop cnt 0 f _ _ (by omega) hP hD hS ls (lv_sub hl [1, 0, 2, 3] rfl)

set_option maxHeartbeats 4000000 in
set_option maxRecDepth 100000 in
/-- Arrays.fill -/
theorem c_J7_fillL (l : Launch) (dC : Nat → ClassId) (dI : Nat → Nat → Nat) (cI cL : ClassId) (a cnt : Nat) (f : Nat → Int64) (v : Int64) (hn : cnt < 2147483648) : Met l yJ7_fillL wsJ7_fillL ({ frames := 0, cells := 0, slots := 0, locals := 0 }) (wr_P (dC, dI) vwCl [(cI, .int), (cL, .long)] [(a, .inl (cL, cnt, .inr (.inl f)))] [.ref a, .long v]) (wr_Q (dC, dI) vwCl none [(a, .inl (cL, cnt, .inr (.inl f)))] [(a, .inl (cL, cnt, .inr (.inl (fillL v f 0 cnt))))]) 0 0 (wr_I [(a, .inl (cL, cnt, .inr (.inl f)))]) := by
  refine Met.ofW (cc := cJ7_fillL) (maxL := 5) (ret := none) (by decide) rfl ?_
  intro p e s m args below meth c s₁ B hml hv
  obtain ⟨rfl, hP, hK, hD0⟩ := hv
  have hx := B.exec
  have hb := B.bytes
  have hr := B.returns
  have hts := fun w h => atoms_spec (ws := wsJ7_fillL) B.pre w (List.mem_cons_of_mem _ h)
  have hown : s.vm.findClass RJ7 = some m.cls := findClass_of_methodNamed B.named
  have hlocks := B.notSynchronized
  have hD := wr_self hD0
  have hS : va_S (wr_I [(a, .inl (cL, cnt, .inr (.inl f)))]) s.heap s.heap [] := va_S.rf
  have hl := lv_entry ([.ref a, .long v]) (n := 5) (Nat.le_of_ble_eq_true rfl)
  rw [lg_entry_eq]
  generalize (lg_sl ([.ref a, .long v]) ++ List.replicate (5 - (lg_sl ([.ref a, .long v])).length) Slot.unset).toArray = ls at hl ⊢
  have hl : lv_has ls 5 [(0, .ref a), (1, .long v)] := hl
  refine lv_iconst (v := (nI 0)) hx hb dJ7_fillL_0 (by decide) ?_
  refine lv_istore_n (lv' := [(3, .int (nI 0)), (0, .ref a), (1, .long v)]) hx hb dJ7_fillL_1 rfl hl (by decide) rfl (fun ls hl => ?_)
  refine lv_aload_n hx hb dJ7_fillL_2 rfl (lv_at hl 1 rfl) ?_
  refine va_alen (v := nI cnt) hx hb hK hP 0 1 rfl rfl rfl dJ7_fillL_3 ?_
  refine lv_istore (lv' := [(4, .int (nI cnt)), (3, .int (nI 0)), (0, .ref a), (1, .long v)]) hx hb dJ7_fillL_4 hl (by decide) rfl (fun ls hl => ?_)
  have loop : ∀ (n : Nat) (i : Nat) (f1 : Nat → Int64) (H : Heap) (locs : List Loc), i + n = cnt → va_P (dC, dI) vwCl [(a, .inl (cL, cnt, .inr (.inl f1)))] H → va_D (wr_I [(a, .inl (cL, cnt, .inr (.inl f)))]) [(a, .inl (cL, cnt, .inr (.inl f1)))] → va_S (wr_I [(a, .inl (cL, cnt, .inr (.inl f)))]) s.heap H locs → ∀ ls : Array Slot, lv_has ls 5 [(3, .int (nI i)), (4, .int (nI cnt)), (0, .ref a), (1, .long v)] → W p l e (headSpec wsJ7_fillL ({ frames := 0, cells := 0, slots := 0, locals := 0 })).room s m ([.ref a, .long v]).toArray below meth c H locs 0 0 (MQ below (wr_Q (dC, dI) vwCl none [(a, .inl (cL, cnt, .inr (.inl f)))] [(a, .inl (cL, cnt, .inr (.inl (fillL v f1 i n))))]) ([.ref a, .long v]).toArray s 0 0 (wr_I [(a, .inl (cL, cnt, .inr (.inl f)))])) (F0 m 6 ls []) := by
    intro n
    induction n with
    | zero =>
      intro i f1 H locs hi hP hD hS ls hl
      refine lv_iload_n hx hb dJ7_fillL_6 rfl (lv_at hl 0 rfl) ?_
      refine lv_iload hx hb dJ7_fillL_7 (lv_at hl 1 rfl) ?_
      refine n_ige i cnt (tgt := 22) (hexec := hx) (hb := hb) dJ7_fillL_9 (by decide) rfl rfl (by omega) (by omega) (fun c9 => ?_) (fun c9 => absurd c9 (by omega))
      exact wr_vret hx hb hr hlocks hP hS dJ7_fillL_22
    | succ n ih =>
      intro i f1 H locs hi hP hD hS ls hl
      refine lv_iload_n hx hb dJ7_fillL_6 rfl (lv_at hl 0 rfl) ?_
      refine lv_iload hx hb dJ7_fillL_7 (lv_at hl 1 rfl) ?_
      refine n_ige i cnt (tgt := 22) (hexec := hx) (hb := hb) dJ7_fillL_9 (by decide) rfl rfl (by omega) (by omega) (fun c9 => absurd c9 (by omega)) (fun c9 => ?_)
      refine lv_aload_n hx hb dJ7_fillL_12 rfl (lv_at hl 2 rfl) ?_
      refine lv_iload_n hx hb dJ7_fillL_13 rfl (lv_at hl 0 rfl) ?_
      refine lv_lload_n hx hb dJ7_fillL_14 rfl (lv_at hl 3 rfl) ?_
      refine n_last (ws' := [(a, .inl (cL, cnt, .inr (.inl (vp_updL f1 i v))))]) hx hb hK hP hD hS 0 1 rfl rfl (k := i) rfl (by omega) (by omega) dJ7_fillL_15 rfl (fun H locs hP hD hS => ?_)
      refine lv_iinc (v := nI (i + 1)) (lv' := [(3, .int (nI (i + 1))), (4, .int (nI cnt)), (0, .ref a), (1, .long v)]) hx hb dJ7_fillL_16 hl (k := 0) rfl (nI_1 i) (by decide) rfl (fun ls hl => ?_)
      refine lv_goto (tgt := 6) hx hb dJ7_fillL_19 (by decide) ?_
      exact ih (i + 1) _ _ _ (by omega) hP hD hS ls (lv_sub hl [0, 1, 2, 3] rfl)
  exact loop cnt 0 f _ _ (by omega) hP hD hS ls (lv_sub hl [1, 0, 2, 3] rfl)

set_option maxHeartbeats 4000000 in
set_option maxRecDepth 100000 in
/-- Integer.bitCount -/
theorem c_J6_bitCount (l : Launch) (dC : Nat → ClassId) (dI : Nat → Nat → Nat) (cI cL : ClassId) (x : Int32) : Met l yJ6_bitCount wsJ6_bitCount ({ frames := 0, cells := 0, slots := 0, locals := 0 }) (rd_P (dC, dI) vwCl [(cI, .int), (cL, .long)] [] [.int x]) (rd_Q (some (.int (bc32 x)))) 0 0 (fun _ => False) := by
  refine Met.ofW (cc := cJ6_bitCount) (maxL := 1) (ret := some .int) (by decide) rfl ?_
  intro p e s m args below meth c s₁ B hml hv
  obtain ⟨rfl, hP, hK⟩ := hv
  have hx := B.exec
  have hb := B.bytes
  have hr := B.returns
  have hts := fun w h => atoms_spec (ws := wsJ6_bitCount) B.pre w (List.mem_cons_of_mem _ h)
  have hown : s.vm.findClass RJ6 = some m.cls := findClass_of_methodNamed B.named
  have hlocks := B.notSynchronized
  have hl := lv_entry ([.int x]) (n := 1) (Nat.le_of_ble_eq_true rfl)
  rw [lg_entry_eq]
  generalize (lg_sl ([.int x]) ++ List.replicate (1 - (lg_sl ([.int x])).length) Slot.unset).toArray = ls at hl ⊢
  have hl : lv_has ls 1 [(0, .int x)] := hl
  refine lv_iload_n hx hb dJ6_bitCount_0 rfl (lv_at hl 0 rfl) ?_
  refine lv_iload_n hx hb dJ6_bitCount_1 rfl (lv_at hl 0 rfl) ?_
  refine lv_iconst (v := 1) hx hb dJ6_bitCount_2 (by decide) ?_
  refine lv_iushr (v := iush x 1) hx hb dJ6_bitCount_3 rfl ?_
  refine lv_ldcw (v := 1431655765) hx hb hown (hts _ mw312) dJ6_bitCount_4 ?_
  refine lv_iand hx hb dJ6_bitCount_7 ?_
  refine lv_isub hx hb dJ6_bitCount_8 ?_
  refine lv_istore_n (lv' := [(0, .int (bi1 x))]) hx hb dJ6_bitCount_9 rfl hl (by decide) rfl (fun ls hl => ?_)
  refine lv_iload_n hx hb dJ6_bitCount_10 rfl (lv_at hl 0 rfl) ?_
  refine lv_ldcw (v := 858993459) hx hb hown (hts _ mw313) dJ6_bitCount_11 ?_
  refine lv_iand hx hb dJ6_bitCount_14 ?_
  refine lv_iload_n hx hb dJ6_bitCount_15 rfl (lv_at hl 0 rfl) ?_
  refine lv_iconst (v := 2) hx hb dJ6_bitCount_16 (by decide) ?_
  refine lv_iushr (v := iush (bi1 x) 2) hx hb dJ6_bitCount_17 rfl ?_
  refine lv_ldcw (v := 858993459) hx hb hown (hts _ mw313) dJ6_bitCount_18 ?_
  refine lv_iand hx hb dJ6_bitCount_21 ?_
  refine lv_iadd hx hb dJ6_bitCount_22 ?_
  refine lv_istore_n (lv' := [(0, .int (bi2 (bi1 x)))]) hx hb dJ6_bitCount_23 rfl hl (by decide) rfl (fun ls hl => ?_)
  refine lv_iload_n hx hb dJ6_bitCount_24 rfl (lv_at hl 0 rfl) ?_
  refine lv_iload_n hx hb dJ6_bitCount_25 rfl (lv_at hl 0 rfl) ?_
  refine lv_iconst (v := 4) hx hb dJ6_bitCount_26 (by decide) ?_
  refine lv_iushr (v := iush (bi2 (bi1 x)) 4) hx hb dJ6_bitCount_27 rfl ?_
  refine lv_iadd hx hb dJ6_bitCount_28 ?_
  refine lv_ldcw (v := 252645135) hx hb hown (hts _ mw314) dJ6_bitCount_29 ?_
  refine lv_iand hx hb dJ6_bitCount_32 ?_
  refine lv_istore_n (lv' := [(0, .int (bi3 (bi2 (bi1 x))))]) hx hb dJ6_bitCount_33 rfl hl (by decide) rfl (fun ls hl => ?_)
  refine lv_iload_n hx hb dJ6_bitCount_34 rfl (lv_at hl 0 rfl) ?_
  refine lv_iload_n hx hb dJ6_bitCount_35 rfl (lv_at hl 0 rfl) ?_
  refine lv_bipush (v := 8) hx hb dJ6_bitCount_36 (by decide) ?_
  refine lv_iushr (v := iush (bi3 (bi2 (bi1 x))) 8) hx hb dJ6_bitCount_38 rfl ?_
  refine lv_iadd hx hb dJ6_bitCount_39 ?_
  refine lv_istore_n (lv' := [(0, .int (bi4 (bi3 (bi2 (bi1 x)))))]) hx hb dJ6_bitCount_40 rfl hl (by decide) rfl (fun ls hl => ?_)
  refine lv_iload_n hx hb dJ6_bitCount_41 rfl (lv_at hl 0 rfl) ?_
  refine lv_iload_n hx hb dJ6_bitCount_42 rfl (lv_at hl 0 rfl) ?_
  refine lv_bipush (v := 16) hx hb dJ6_bitCount_43 (by decide) ?_
  refine lv_iushr (v := iush (bi4 (bi3 (bi2 (bi1 x)))) 16) hx hb dJ6_bitCount_45 rfl ?_
  refine lv_iadd hx hb dJ6_bitCount_46 ?_
  refine lv_istore_n (lv' := [(0, .int (bi5 (bi4 (bi3 (bi2 (bi1 x))))))]) hx hb dJ6_bitCount_47 rfl hl (by decide) rfl (fun ls hl => ?_)
  refine lv_iload_n hx hb dJ6_bitCount_48 rfl (lv_at hl 0 rfl) ?_
  refine lv_bipush (v := 63) hx hb dJ6_bitCount_49 (by decide) ?_
  refine lv_iand hx hb dJ6_bitCount_51 ?_
  exact rd_iret hx hb hr hlocks dJ6_bitCount_52 rfl (rfl)

set_option maxHeartbeats 4000000 in
set_option maxRecDepth 100000 in
/-- Long.bitCount -/
theorem c_J13_bitCount (l : Launch) (dC : Nat → ClassId) (dI : Nat → Nat → Nat) (cI cL : ClassId) (x : Int64) : Met l yJ13_bitCount wsJ13_bitCount ({ frames := 0, cells := 0, slots := 0, locals := 0 }) (rd_P (dC, dI) vwCl [(cI, .int), (cL, .long)] [] [.long x]) (rd_Q (some (.int (bc64 x)))) 0 0 (fun _ => False) := by
  refine Met.ofW (cc := cJ13_bitCount) (maxL := 2) (ret := some .int) (by decide) rfl ?_
  intro p e s m args below meth c s₁ B hml hv
  obtain ⟨rfl, hP, hK⟩ := hv
  have hx := B.exec
  have hb := B.bytes
  have hr := B.returns
  have hts := fun w h => atoms_spec (ws := wsJ13_bitCount) B.pre w (List.mem_cons_of_mem _ h)
  have hown : s.vm.findClass RJ13 = some m.cls := findClass_of_methodNamed B.named
  have hlocks := B.notSynchronized
  have hl := lv_entry ([.long x]) (n := 2) (Nat.le_of_ble_eq_true rfl)
  rw [lg_entry_eq]
  generalize (lg_sl ([.long x]) ++ List.replicate (2 - (lg_sl ([.long x])).length) Slot.unset).toArray = ls at hl ⊢
  have hl : lv_has ls 2 [(0, .long x)] := hl
  refine lv_lload_n hx hb dJ13_bitCount_0 rfl (lv_at hl 0 rfl) ?_
  refine lv_lload_n hx hb dJ13_bitCount_1 rfl (lv_at hl 0 rfl) ?_
  refine lv_iconst (v := 1) hx hb dJ13_bitCount_2 (by decide) ?_
  refine lv_lushr (v := ush x 1) hx hb dJ13_bitCount_3 rfl ?_
  refine lv_ldc2 (v := 6148914691236517205) hx hb hown (hts _ mw402) dJ13_bitCount_4 ?_
  refine lv_land hx hb dJ13_bitCount_7 ?_
  refine lv_lsub hx hb dJ13_bitCount_8 ?_
  refine lv_lstore_n (lv' := [(0, .long (bl1 x))]) hx hb dJ13_bitCount_9 rfl hl (by decide) rfl (fun ls hl => ?_)
  refine lv_lload_n hx hb dJ13_bitCount_10 rfl (lv_at hl 0 rfl) ?_
  refine lv_ldc2 (v := 3689348814741910323) hx hb hown (hts _ mw403) dJ13_bitCount_11 ?_
  refine lv_land hx hb dJ13_bitCount_14 ?_
  refine lv_lload_n hx hb dJ13_bitCount_15 rfl (lv_at hl 0 rfl) ?_
  refine lv_iconst (v := 2) hx hb dJ13_bitCount_16 (by decide) ?_
  refine lv_lushr (v := ush (bl1 x) 2) hx hb dJ13_bitCount_17 rfl ?_
  refine lv_ldc2 (v := 3689348814741910323) hx hb hown (hts _ mw403) dJ13_bitCount_18 ?_
  refine lv_land hx hb dJ13_bitCount_21 ?_
  refine lv_ladd hx hb dJ13_bitCount_22 ?_
  refine lv_lstore_n (lv' := [(0, .long (bl2 (bl1 x)))]) hx hb dJ13_bitCount_23 rfl hl (by decide) rfl (fun ls hl => ?_)
  refine lv_lload_n hx hb dJ13_bitCount_24 rfl (lv_at hl 0 rfl) ?_
  refine lv_lload_n hx hb dJ13_bitCount_25 rfl (lv_at hl 0 rfl) ?_
  refine lv_iconst (v := 4) hx hb dJ13_bitCount_26 (by decide) ?_
  refine lv_lushr (v := ush (bl2 (bl1 x)) 4) hx hb dJ13_bitCount_27 rfl ?_
  refine lv_ladd hx hb dJ13_bitCount_28 ?_
  refine lv_ldc2 (v := 1085102592571150095) hx hb hown (hts _ mw404) dJ13_bitCount_29 ?_
  refine lv_land hx hb dJ13_bitCount_32 ?_
  refine lv_lstore_n (lv' := [(0, .long (bl3 (bl2 (bl1 x))))]) hx hb dJ13_bitCount_33 rfl hl (by decide) rfl (fun ls hl => ?_)
  refine lv_lload_n hx hb dJ13_bitCount_34 rfl (lv_at hl 0 rfl) ?_
  refine lv_lload_n hx hb dJ13_bitCount_35 rfl (lv_at hl 0 rfl) ?_
  refine lv_bipush (v := 8) hx hb dJ13_bitCount_36 (by decide) ?_
  refine lv_lushr (v := ush (bl3 (bl2 (bl1 x))) 8) hx hb dJ13_bitCount_38 rfl ?_
  refine lv_ladd hx hb dJ13_bitCount_39 ?_
  refine lv_lstore_n (lv' := [(0, .long (bl4 (bl3 (bl2 (bl1 x)))))]) hx hb dJ13_bitCount_40 rfl hl (by decide) rfl (fun ls hl => ?_)
  refine lv_lload_n hx hb dJ13_bitCount_41 rfl (lv_at hl 0 rfl) ?_
  refine lv_lload_n hx hb dJ13_bitCount_42 rfl (lv_at hl 0 rfl) ?_
  refine lv_bipush (v := 16) hx hb dJ13_bitCount_43 (by decide) ?_
  refine lv_lushr (v := ush (bl4 (bl3 (bl2 (bl1 x)))) 16) hx hb dJ13_bitCount_45 rfl ?_
  refine lv_ladd hx hb dJ13_bitCount_46 ?_
  refine lv_lstore_n (lv' := [(0, .long (bl5 (bl4 (bl3 (bl2 (bl1 x))))))]) hx hb dJ13_bitCount_47 rfl hl (by decide) rfl (fun ls hl => ?_)
  refine lv_lload_n hx hb dJ13_bitCount_48 rfl (lv_at hl 0 rfl) ?_
  refine lv_lload_n hx hb dJ13_bitCount_49 rfl (lv_at hl 0 rfl) ?_
  refine lv_bipush (v := 32) hx hb dJ13_bitCount_50 (by decide) ?_
  refine lv_lushr (v := ush (bl5 (bl4 (bl3 (bl2 (bl1 x))))) 32) hx hb dJ13_bitCount_52 rfl ?_
  refine lv_ladd hx hb dJ13_bitCount_53 ?_
  refine lv_lstore_n (lv' := [(0, .long (bl6 (bl5 (bl4 (bl3 (bl2 (bl1 x)))))))]) hx hb dJ13_bitCount_54 rfl hl (by decide) rfl (fun ls hl => ?_)
  refine lv_lload_n hx hb dJ13_bitCount_55 rfl (lv_at hl 0 rfl) ?_
  refine lv_l2i (v := (bl6 (bl5 (bl4 (bl3 (bl2 (bl1 x)))))).toInt32) hx hb dJ13_bitCount_56 rfl ?_
  refine lv_bipush (v := 127) hx hb dJ13_bitCount_57 (by decide) ?_
  refine lv_iand hx hb dJ13_bitCount_59 ?_
  exact rd_iret hx hb hr hlocks dJ13_bitCount_60 rfl (rfl)

set_option maxHeartbeats 4000000 in
set_option maxRecDepth 100000 in
/-- Buckets.lay -/
theorem c_X0_lay (l : Launch) (dC : Nat → ClassId) (dI : Nat → Nat → Nat) (cI cL : ClassId) (b0 b1 : Nat) (held : Nat → Int32) (bn : Nat) (wy stt : Int32) (n2 : Nat) (w2 s2 : Int32) : Met l yX0_lay wsX0_lay ({ frames := 1, cells := 0, slots := 0, locals := 23 }) (wr_P (dC, dI) vwCl [(cI, .int), (cL, .long)] [(b0, .inr (0, [.ref b1, .int (nI bn), .int wy, .int stt])), (b1, .inl (cI, 16, .inl held))] [.ref b0, .int (nI n2), .int w2, .int s2]) (wr_Q (dC, dI) vwCl none [(b0, .inr (0, [.ref b1, .int (nI bn), .int wy, .int stt])), (b1, .inl (cI, 16, .inl held))] [(b0, .inr (0, [.ref b1, .int (nI n2), .int w2, .int s2])), (b1, .inl (cI, 16, .inl (fillI 0 held 0 16)))]) 0 0 (wr_I [(b0, .inr (0, [.ref b1, .int (nI bn), .int wy, .int stt])), (b1, .inl (cI, 16, .inl held))]) := by
  refine Met.ofW (cc := cX0_lay) (maxL := 4) (ret := none) (by decide) rfl ?_
  intro p e s m args below meth c s₁ B hml hv
  obtain ⟨rfl, hP, hK, hD0⟩ := hv
  have hx := B.exec
  have hb := B.bytes
  have hr := B.returns
  have hts := fun w h => atoms_spec (ws := wsX0_lay) B.pre w (List.mem_cons_of_mem _ h)
  have hown : s.vm.findClass RX0 = some m.cls := findClass_of_methodNamed B.named
  have hlocks := B.notSynchronized
  have hD := wr_self hD0
  have hS : va_S (wr_I [(b0, .inr (0, [.ref b1, .int (nI bn), .int wy, .int stt])), (b1, .inl (cI, 16, .inl held))]) s.heap s.heap [] := va_S.rf
  have hl := lv_entry ([.ref b0, .int (nI n2), .int w2, .int s2]) (n := 4) (Nat.le_of_ble_eq_true rfl)
  rw [lg_entry_eq]
  generalize (lg_sl ([.ref b0, .int (nI n2), .int w2, .int s2]) ++ List.replicate (4 - (lg_sl ([.ref b0, .int (nI n2), .int w2, .int s2])).length) Slot.unset).toArray = ls at hl ⊢
  have hl : lv_has ls 4 [(0, .ref b0), (1, .int (nI n2)), (2, .int w2), (3, .int s2)] := hl
  refine lv_aload_n hx hb dX0_lay_0 rfl (lv_at hl 0 rfl) ?_
  refine va_get (D := (dC, dI)) (ci := 0) (v := .ref b1) (C := RX0) (T := TX0) (N := 4) hx hb hts inX0 hown hK hP 0 rfl rfl 0 (by decide) (hts _ mw107) (fun _ h9 => h9) rfl dX0_lay_1 ?_
  refine lv_iconst (v := 0) hx hb dX0_lay_4 (by decide) ?_
  refine wr_call (w := [(b1, .inl (cI, 16, .inl held))]) (w' := [(b1, .inl (cI, 16, .inl (fillI 0 held 0 16)))]) (wr := [(b0, .inr (0, [.ref b1, .int (nI bn), .int wy, .int stt]))]) (ws' := [(b0, .inr (0, [.ref b1, .int (nI bn), .int wy, .int stt])), (b1, .inl (cI, 16, .inl (fillI 0 held 0 16)))]) (va_runS (As := [.ref b1, .int 0]) (rest := []) ⟨hx, hb, hml, hown, hts⟩ (c_J7_fillI l dC dI cI cL b1 16 held 0 (by decide)) (va_cwS 2 hts (gSo mw156 mw157 mw27 mw158) rfl rfl rfl (by decide +kernel) ⟨Nat.le_of_ble_eq_true rfl, Nat.le_of_ble_eq_true rfl⟩) (wr_preS (hP.sub (ws' := [(b1, .inl (cI, 16, .inl held))]) [1] rfl) hK (hD.sub (ws' := [(b1, .inl (cI, 16, .inl held))]) [1] (by decide) rfl)) rfl rfl hl.1 rfl (lv_room (Nat.le_of_ble_eq_true rfl)) dX0_lay_5 ⟨Nat.zero_le _, Nat.zero_le _⟩) hP hD hS [1] [0] [0, 1] rfl rfl (by decide) rfl rfl (fun H locs hP hD hS => ?_)
  refine lv_aload_n hx hb dX0_lay_8 rfl (lv_at hl 0 rfl) ?_
  refine lv_iload_n hx hb dX0_lay_9 rfl (lv_at hl 1 rfl) ?_
  refine n_put (ws' := [(b0, .inr (0, [.ref b1, .int (nI n2), .int wy, .int stt])), (b1, .inl (cI, 16, .inl (fillI 0 held 0 16)))]) (D := (dC, dI)) (ci := 0) (v := .int (nI n2)) (ty := .int) (C := RX0) (T := TX0) (N := 4) hx hb hts inX0 tyX0 tyX0_ok nmX0 hown hK hP hD hS 0 rfl rfl 1 (by decide) (hts _ mw108) (fun _ h9 => h9) rfl rfl rfl rfl (Nat.le_of_ble_eq_true rfl) dX0_lay_10 rfl (fun H locs hP hD hS => ?_)
  refine lv_aload_n hx hb dX0_lay_13 rfl (lv_at hl 0 rfl) ?_
  refine lv_iload_n hx hb dX0_lay_14 rfl (lv_at hl 2 rfl) ?_
  refine n_put (ws' := [(b0, .inr (0, [.ref b1, .int (nI n2), .int w2, .int stt])), (b1, .inl (cI, 16, .inl (fillI 0 held 0 16)))]) (D := (dC, dI)) (ci := 0) (v := .int w2) (ty := .int) (C := RX0) (T := TX0) (N := 4) hx hb hts inX0 tyX0 tyX0_ok nmX0 hown hK hP hD hS 0 rfl rfl 2 (by decide) (hts _ mw109) (fun _ h9 => h9) rfl rfl rfl rfl (Nat.le_of_ble_eq_true rfl) dX0_lay_15 rfl (fun H locs hP hD hS => ?_)
  refine lv_aload_n hx hb dX0_lay_18 rfl (lv_at hl 0 rfl) ?_
  refine lv_iload_n hx hb dX0_lay_19 rfl (lv_at hl 3 rfl) ?_
  refine n_put (ws' := [(b0, .inr (0, [.ref b1, .int (nI n2), .int w2, .int s2])), (b1, .inl (cI, 16, .inl (fillI 0 held 0 16)))]) (D := (dC, dI)) (ci := 0) (v := .int s2) (ty := .int) (C := RX0) (T := TX0) (N := 4) hx hb hts inX0 tyX0 tyX0_ok nmX0 hown hK hP hD hS 0 rfl rfl 3 (by decide) (hts _ mw110) (fun _ h9 => h9) rfl rfl rfl rfl (Nat.le_of_ble_eq_true rfl) dX0_lay_20 rfl (fun H locs hP hD hS => ?_)
  exact wr_vret hx hb hr hlocks hP hS dX0_lay_23

set_option maxHeartbeats 4000000 in
set_option maxRecDepth 100000 in
/-- Entries.copy -/
theorem c_X1_copy (l : Launch) (dC : Nat → ClassId) (dI : Nat → Nat → Nat) (cI cL : ClassId) (e0 e1 e2 e3 e4 e5 e6 : Nat) (vals msks : Nat → Int64) (pre pri act : Nat → Int32) (dat : Nat → Int64) (en : Nat) (fr t : Nat) (hf : fr < 72) (ht : t < 72) : Met l yX1_copy wsX1_copy ({ frames := 1, cells := 0, slots := 0, locals := 21 }) (wr_P (dC, dI) vwCl [(cI, .int), (cL, .long)] [(e0, .inr (1, [.ref e1, .ref e2, .ref e3, .ref e4, .ref e5, .ref e6, .int (nI en)])), (e1, .inl (cL, 288, .inr (.inl vals))), (e2, .inl (cL, 288, .inr (.inl msks))), (e3, .inl (cI, 72, .inl pre)), (e4, .inl (cI, 72, .inl pri)), (e5, .inl (cI, 72, .inl act)), (e6, .inl (cL, 72, .inr (.inl dat)))] [.ref e0, .int (nI fr), .int (nI t)]) (wr_Q (dC, dI) vwCl none [(e0, .inr (1, [.ref e1, .ref e2, .ref e3, .ref e4, .ref e5, .ref e6, .int (nI en)])), (e1, .inl (cL, 288, .inr (.inl vals))), (e2, .inl (cL, 288, .inr (.inl msks))), (e3, .inl (cI, 72, .inl pre)), (e4, .inl (cI, 72, .inl pri)), (e5, .inl (cI, 72, .inl act)), (e6, .inl (cL, 72, .inr (.inl dat)))] [(e0, .inr (1, [.ref e1, .ref e2, .ref e3, .ref e4, .ref e5, .ref e6, .int (nI en)])), (e1, .inl (cL, 288, .inr (.inl (cpRow fr t vals 0 4)))), (e2, .inl (cL, 288, .inr (.inl (cpRow fr t msks 0 4)))), (e3, .inl (cI, 72, .inl (upd pre t (pre fr)))), (e4, .inl (cI, 72, .inl (upd pri t (pri fr)))), (e5, .inl (cI, 72, .inl (upd act t (act fr)))), (e6, .inl (cL, 72, .inr (.inl (vp_updL dat t (dat fr)))))]) 0 0 (wr_I [(e0, .inr (1, [.ref e1, .ref e2, .ref e3, .ref e4, .ref e5, .ref e6, .int (nI en)])), (e1, .inl (cL, 288, .inr (.inl vals))), (e2, .inl (cL, 288, .inr (.inl msks))), (e3, .inl (cI, 72, .inl pre)), (e4, .inl (cI, 72, .inl pri)), (e5, .inl (cI, 72, .inl act)), (e6, .inl (cL, 72, .inr (.inl dat)))]) := by
  refine Met.ofW (cc := cX1_copy) (maxL := 4) (ret := none) (by decide) rfl ?_
  intro p e s m args below meth c s₁ B hml hv
  obtain ⟨rfl, hP, hK, hD0⟩ := hv
  have hx := B.exec
  have hb := B.bytes
  have hr := B.returns
  have hts := fun w h => atoms_spec (ws := wsX1_copy) B.pre w (List.mem_cons_of_mem _ h)
  have hown : s.vm.findClass RX1 = some m.cls := findClass_of_methodNamed B.named
  have hlocks := B.notSynchronized
  have hD := wr_self hD0
  have hS : va_S (wr_I [(e0, .inr (1, [.ref e1, .ref e2, .ref e3, .ref e4, .ref e5, .ref e6, .int (nI en)])), (e1, .inl (cL, 288, .inr (.inl vals))), (e2, .inl (cL, 288, .inr (.inl msks))), (e3, .inl (cI, 72, .inl pre)), (e4, .inl (cI, 72, .inl pri)), (e5, .inl (cI, 72, .inl act)), (e6, .inl (cL, 72, .inr (.inl dat)))]) s.heap s.heap [] := va_S.rf
  have hl := lv_entry ([.ref e0, .int (nI fr), .int (nI t)]) (n := 4) (Nat.le_of_ble_eq_true rfl)
  rw [lg_entry_eq]
  generalize (lg_sl ([.ref e0, .int (nI fr), .int (nI t)]) ++ List.replicate (4 - (lg_sl ([.ref e0, .int (nI fr), .int (nI t)])).length) Slot.unset).toArray = ls at hl ⊢
  have hl : lv_has ls 4 [(0, .ref e0), (1, .int (nI fr)), (2, .int (nI t))] := hl
  refine lv_iconst (v := (nI 0)) hx hb dX1_copy_0 (by decide) ?_
  refine lv_istore_n (lv' := [(3, .int (nI 0)), (0, .ref e0), (1, .int (nI fr)), (2, .int (nI t))]) hx hb dX1_copy_1 rfl hl (by decide) rfl (fun ls hl => ?_)
  have loop : ∀ (n : Nat) (i : Nat) (vals1 msks1 : Nat → Int64) (H : Heap) (locs : List Loc), i + n = 4 → va_P (dC, dI) vwCl [(e0, .inr (1, [.ref e1, .ref e2, .ref e3, .ref e4, .ref e5, .ref e6, .int (nI en)])), (e1, .inl (cL, 288, .inr (.inl vals1))), (e2, .inl (cL, 288, .inr (.inl msks1))), (e3, .inl (cI, 72, .inl pre)), (e4, .inl (cI, 72, .inl pri)), (e5, .inl (cI, 72, .inl act)), (e6, .inl (cL, 72, .inr (.inl dat)))] H → va_D (wr_I [(e0, .inr (1, [.ref e1, .ref e2, .ref e3, .ref e4, .ref e5, .ref e6, .int (nI en)])), (e1, .inl (cL, 288, .inr (.inl vals))), (e2, .inl (cL, 288, .inr (.inl msks))), (e3, .inl (cI, 72, .inl pre)), (e4, .inl (cI, 72, .inl pri)), (e5, .inl (cI, 72, .inl act)), (e6, .inl (cL, 72, .inr (.inl dat)))]) [(e0, .inr (1, [.ref e1, .ref e2, .ref e3, .ref e4, .ref e5, .ref e6, .int (nI en)])), (e1, .inl (cL, 288, .inr (.inl vals1))), (e2, .inl (cL, 288, .inr (.inl msks1))), (e3, .inl (cI, 72, .inl pre)), (e4, .inl (cI, 72, .inl pri)), (e5, .inl (cI, 72, .inl act)), (e6, .inl (cL, 72, .inr (.inl dat)))] → va_S (wr_I [(e0, .inr (1, [.ref e1, .ref e2, .ref e3, .ref e4, .ref e5, .ref e6, .int (nI en)])), (e1, .inl (cL, 288, .inr (.inl vals))), (e2, .inl (cL, 288, .inr (.inl msks))), (e3, .inl (cI, 72, .inl pre)), (e4, .inl (cI, 72, .inl pri)), (e5, .inl (cI, 72, .inl act)), (e6, .inl (cL, 72, .inr (.inl dat)))]) s.heap H locs → ∀ ls : Array Slot, lv_has ls 4 [(3, .int (nI i)), (0, .ref e0), (1, .int (nI fr)), (2, .int (nI t))] → W p l e (headSpec wsX1_copy ({ frames := 1, cells := 0, slots := 0, locals := 21 })).room s m ([.ref e0, .int (nI fr), .int (nI t)]).toArray below meth c H locs 0 0 (MQ below (wr_Q (dC, dI) vwCl none [(e0, .inr (1, [.ref e1, .ref e2, .ref e3, .ref e4, .ref e5, .ref e6, .int (nI en)])), (e1, .inl (cL, 288, .inr (.inl vals))), (e2, .inl (cL, 288, .inr (.inl msks))), (e3, .inl (cI, 72, .inl pre)), (e4, .inl (cI, 72, .inl pri)), (e5, .inl (cI, 72, .inl act)), (e6, .inl (cL, 72, .inr (.inl dat)))] [(e0, .inr (1, [.ref e1, .ref e2, .ref e3, .ref e4, .ref e5, .ref e6, .int (nI en)])), (e1, .inl (cL, 288, .inr (.inl (cpRow fr t vals1 i n)))), (e2, .inl (cL, 288, .inr (.inl (cpRow fr t msks1 i n)))), (e3, .inl (cI, 72, .inl (upd pre t (pre fr)))), (e4, .inl (cI, 72, .inl (upd pri t (pri fr)))), (e5, .inl (cI, 72, .inl (upd act t (act fr)))), (e6, .inl (cL, 72, .inr (.inl (vp_updL dat t (dat fr)))))]) ([.ref e0, .int (nI fr), .int (nI t)]).toArray s 0 0 (wr_I [(e0, .inr (1, [.ref e1, .ref e2, .ref e3, .ref e4, .ref e5, .ref e6, .int (nI en)])), (e1, .inl (cL, 288, .inr (.inl vals))), (e2, .inl (cL, 288, .inr (.inl msks))), (e3, .inl (cI, 72, .inl pre)), (e4, .inl (cI, 72, .inl pri)), (e5, .inl (cI, 72, .inl act)), (e6, .inl (cL, 72, .inr (.inl dat)))])) (F0 m 2 ls []) := by
    intro n
    induction n with
    | zero =>
      intro i vals1 msks1 H locs hi hP hD hS ls hl
      refine lv_iload_n hx hb dX1_copy_2 rfl (lv_at hl 0 rfl) ?_
      refine lv_iconst (v := 4) hx hb dX1_copy_3 (by decide) ?_
      refine n_ige i 4 (tgt := 53) (hexec := hx) (hb := hb) dX1_copy_4 (by decide) rfl rfl (by omega) (by omega) (fun c4 => ?_) (fun c4 => absurd c4 (by omega))
      refine lv_aload_n hx hb dX1_copy_53 rfl (lv_at hl 1 rfl) ?_
      refine va_get (D := (dC, dI)) (ci := 1) (v := .ref e3) (C := RX1) (T := TX1) (N := 7) hx hb hts inX1 hown hK hP 0 rfl rfl 2 (by decide) (hts _ mw76) (fun _ h9 => h9) rfl dX1_copy_54 ?_
      refine lv_iload_n hx hb dX1_copy_57 rfl (lv_at hl 3 rfl) ?_
      refine lv_aload_n hx hb dX1_copy_58 rfl (lv_at hl 1 rfl) ?_
      refine va_get (D := (dC, dI)) (ci := 1) (v := .ref e3) (C := RX1) (T := TX1) (N := 7) hx hb hts inX1 hown hK hP 0 rfl rfl 2 (by decide) (hts _ mw76) (fun _ h9 => h9) rfl dX1_copy_59 ?_
      refine lv_iload_n hx hb dX1_copy_62 rfl (lv_at hl 2 rfl) ?_
      refine n_iald hx hb hK hP 3 0 rfl rfl (k := fr) rfl hf (by omega) dX1_copy_63 ?_
      refine n_iast (ws' := [(e0, .inr (1, [.ref e1, .ref e2, .ref e3, .ref e4, .ref e5, .ref e6, .int (nI en)])), (e1, .inl (cL, 288, .inr (.inl vals1))), (e2, .inl (cL, 288, .inr (.inl msks1))), (e3, .inl (cI, 72, .inl (upd pre t (pre fr)))), (e4, .inl (cI, 72, .inl pri)), (e5, .inl (cI, 72, .inl act)), (e6, .inl (cL, 72, .inr (.inl dat)))]) hx hb hK hP hD hS 3 0 rfl rfl (k := t) rfl ht (by omega) dX1_copy_64 rfl (fun H locs hP hD hS => ?_)
      refine lv_aload_n hx hb dX1_copy_65 rfl (lv_at hl 1 rfl) ?_
      refine va_get (D := (dC, dI)) (ci := 1) (v := .ref e4) (C := RX1) (T := TX1) (N := 7) hx hb hts inX1 hown hK hP 0 rfl rfl 3 (by decide) (hts _ mw78) (fun _ h9 => h9) rfl dX1_copy_66 ?_
      refine lv_iload_n hx hb dX1_copy_69 rfl (lv_at hl 3 rfl) ?_
      refine lv_aload_n hx hb dX1_copy_70 rfl (lv_at hl 1 rfl) ?_
      refine va_get (D := (dC, dI)) (ci := 1) (v := .ref e4) (C := RX1) (T := TX1) (N := 7) hx hb hts inX1 hown hK hP 0 rfl rfl 3 (by decide) (hts _ mw78) (fun _ h9 => h9) rfl dX1_copy_71 ?_
      refine lv_iload_n hx hb dX1_copy_74 rfl (lv_at hl 2 rfl) ?_
      refine n_iald hx hb hK hP 4 0 rfl rfl (k := fr) rfl hf (by omega) dX1_copy_75 ?_
      refine n_iast (ws' := [(e0, .inr (1, [.ref e1, .ref e2, .ref e3, .ref e4, .ref e5, .ref e6, .int (nI en)])), (e1, .inl (cL, 288, .inr (.inl vals1))), (e2, .inl (cL, 288, .inr (.inl msks1))), (e3, .inl (cI, 72, .inl (upd pre t (pre fr)))), (e4, .inl (cI, 72, .inl (upd pri t (pri fr)))), (e5, .inl (cI, 72, .inl act)), (e6, .inl (cL, 72, .inr (.inl dat)))]) hx hb hK hP hD hS 4 0 rfl rfl (k := t) rfl ht (by omega) dX1_copy_76 rfl (fun H locs hP hD hS => ?_)
      refine lv_aload_n hx hb dX1_copy_77 rfl (lv_at hl 1 rfl) ?_
      refine va_get (D := (dC, dI)) (ci := 1) (v := .ref e5) (C := RX1) (T := TX1) (N := 7) hx hb hts inX1 hown hK hP 0 rfl rfl 4 (by decide) (hts _ mw80) (fun _ h9 => h9) rfl dX1_copy_78 ?_
      refine lv_iload_n hx hb dX1_copy_81 rfl (lv_at hl 3 rfl) ?_
      refine lv_aload_n hx hb dX1_copy_82 rfl (lv_at hl 1 rfl) ?_
      refine va_get (D := (dC, dI)) (ci := 1) (v := .ref e5) (C := RX1) (T := TX1) (N := 7) hx hb hts inX1 hown hK hP 0 rfl rfl 4 (by decide) (hts _ mw80) (fun _ h9 => h9) rfl dX1_copy_83 ?_
      refine lv_iload_n hx hb dX1_copy_86 rfl (lv_at hl 2 rfl) ?_
      refine n_iald hx hb hK hP 5 0 rfl rfl (k := fr) rfl hf (by omega) dX1_copy_87 ?_
      refine n_iast (ws' := [(e0, .inr (1, [.ref e1, .ref e2, .ref e3, .ref e4, .ref e5, .ref e6, .int (nI en)])), (e1, .inl (cL, 288, .inr (.inl vals1))), (e2, .inl (cL, 288, .inr (.inl msks1))), (e3, .inl (cI, 72, .inl (upd pre t (pre fr)))), (e4, .inl (cI, 72, .inl (upd pri t (pri fr)))), (e5, .inl (cI, 72, .inl (upd act t (act fr)))), (e6, .inl (cL, 72, .inr (.inl dat)))]) hx hb hK hP hD hS 5 0 rfl rfl (k := t) rfl ht (by omega) dX1_copy_88 rfl (fun H locs hP hD hS => ?_)
      refine lv_aload_n hx hb dX1_copy_89 rfl (lv_at hl 1 rfl) ?_
      refine va_get (D := (dC, dI)) (ci := 1) (v := .ref e6) (C := RX1) (T := TX1) (N := 7) hx hb hts inX1 hown hK hP 0 rfl rfl 5 (by decide) (hts _ mw82) (fun _ h9 => h9) rfl dX1_copy_90 ?_
      refine lv_iload_n hx hb dX1_copy_93 rfl (lv_at hl 3 rfl) ?_
      refine lv_aload_n hx hb dX1_copy_94 rfl (lv_at hl 1 rfl) ?_
      refine va_get (D := (dC, dI)) (ci := 1) (v := .ref e6) (C := RX1) (T := TX1) (N := 7) hx hb hts inX1 hown hK hP 0 rfl rfl 5 (by decide) (hts _ mw82) (fun _ h9 => h9) rfl dX1_copy_95 ?_
      refine lv_iload_n hx hb dX1_copy_98 rfl (lv_at hl 2 rfl) ?_
      refine n_lald hx hb hK hP 6 1 rfl rfl (k := fr) rfl hf (by omega) dX1_copy_99 ?_
      refine n_last (ws' := [(e0, .inr (1, [.ref e1, .ref e2, .ref e3, .ref e4, .ref e5, .ref e6, .int (nI en)])), (e1, .inl (cL, 288, .inr (.inl vals1))), (e2, .inl (cL, 288, .inr (.inl msks1))), (e3, .inl (cI, 72, .inl (upd pre t (pre fr)))), (e4, .inl (cI, 72, .inl (upd pri t (pri fr)))), (e5, .inl (cI, 72, .inl (upd act t (act fr)))), (e6, .inl (cL, 72, .inr (.inl (vp_updL dat t (dat fr)))))]) hx hb hK hP hD hS 6 1 rfl rfl (k := t) rfl ht (by omega) dX1_copy_100 rfl (fun H locs hP hD hS => ?_)
      exact wr_vret hx hb hr hlocks hP hS dX1_copy_101
    | succ n ih =>
      intro i vals1 msks1 H locs hi hP hD hS ls hl
      refine lv_iload_n hx hb dX1_copy_2 rfl (lv_at hl 0 rfl) ?_
      refine lv_iconst (v := 4) hx hb dX1_copy_3 (by decide) ?_
      refine n_ige i 4 (tgt := 53) (hexec := hx) (hb := hb) dX1_copy_4 (by decide) rfl rfl (by omega) (by omega) (fun c4 => absurd c4 (by omega)) (fun c4 => ?_)
      refine lv_aload_n hx hb dX1_copy_7 rfl (lv_at hl 1 rfl) ?_
      refine va_get (D := (dC, dI)) (ci := 1) (v := .ref e1) (C := RX1) (T := TX1) (N := 7) hx hb hts inX1 hown hK hP 0 rfl rfl 0 (by decide) (hts _ mw72) (fun _ h9 => h9) rfl dX1_copy_8 ?_
      refine lv_iload_n hx hb dX1_copy_11 rfl (lv_at hl 3 rfl) ?_
      refine lv_iload_n hx hb dX1_copy_12 rfl (lv_at hl 0 rfl) ?_
      refine rd_calli (r := (nI (t * 4 + i))) (va_runS (As := [.int (nI t), .int (nI i)]) (rest := [.ref e1]) ⟨hx, hb, hml, hown, hts⟩ (c_X1_place l dC dI cI cL t i) (cwS 2 hts (gS mw431 mw379 mw24 mw380) rfl rfl rfl (by decide +kernel) ⟨Nat.le_of_ble_eq_true rfl, Nat.le_of_ble_eq_true rfl⟩) (rd_preS (hP.sub (ws' := []) [] rfl) hK) rfl rfl hl.1 rfl (lv_room (Nat.le_of_ble_eq_true rfl)) dX1_copy_13 ⟨Nat.zero_le _, Nat.zero_le _⟩) ?_
      refine lv_aload_n hx hb dX1_copy_16 rfl (lv_at hl 1 rfl) ?_
      refine va_get (D := (dC, dI)) (ci := 1) (v := .ref e1) (C := RX1) (T := TX1) (N := 7) hx hb hts inX1 hown hK hP 0 rfl rfl 0 (by decide) (hts _ mw72) (fun _ h9 => h9) rfl dX1_copy_17 ?_
      refine lv_iload_n hx hb dX1_copy_20 rfl (lv_at hl 2 rfl) ?_
      refine lv_iload_n hx hb dX1_copy_21 rfl (lv_at hl 0 rfl) ?_
      refine rd_calli (r := (nI (fr * 4 + i))) (va_runS (As := [.int (nI fr), .int (nI i)]) (rest := [.ref e1, .int (nI (t * 4 + i)), .ref e1]) ⟨hx, hb, hml, hown, hts⟩ (c_X1_place l dC dI cI cL fr i) (cwS 2 hts (gS mw431 mw379 mw24 mw380) rfl rfl rfl (by decide +kernel) ⟨Nat.le_of_ble_eq_true rfl, Nat.le_of_ble_eq_true rfl⟩) (rd_preS (hP.sub (ws' := []) [] rfl) hK) rfl rfl hl.1 rfl (lv_room (Nat.le_of_ble_eq_true rfl)) dX1_copy_22 ⟨Nat.zero_le _, Nat.zero_le _⟩) ?_
      refine n_lald hx hb hK hP 1 1 rfl rfl (k := fr * 4 + i) rfl (by omega) (by omega) dX1_copy_25 ?_
      refine n_last (ws' := [(e0, .inr (1, [.ref e1, .ref e2, .ref e3, .ref e4, .ref e5, .ref e6, .int (nI en)])), (e1, .inl (cL, 288, .inr (.inl (vp_updL vals1 (t * 4 + i) (vals1 (fr * 4 + i)))))), (e2, .inl (cL, 288, .inr (.inl msks1))), (e3, .inl (cI, 72, .inl pre)), (e4, .inl (cI, 72, .inl pri)), (e5, .inl (cI, 72, .inl act)), (e6, .inl (cL, 72, .inr (.inl dat)))]) hx hb hK hP hD hS 1 1 rfl rfl (k := t * 4 + i) rfl (by omega) (by omega) dX1_copy_26 rfl (fun H locs hP hD hS => ?_)
      refine lv_aload_n hx hb dX1_copy_27 rfl (lv_at hl 1 rfl) ?_
      refine va_get (D := (dC, dI)) (ci := 1) (v := .ref e2) (C := RX1) (T := TX1) (N := 7) hx hb hts inX1 hown hK hP 0 rfl rfl 1 (by decide) (hts _ mw74) (fun _ h9 => h9) rfl dX1_copy_28 ?_
      refine lv_iload_n hx hb dX1_copy_31 rfl (lv_at hl 3 rfl) ?_
      refine lv_iload_n hx hb dX1_copy_32 rfl (lv_at hl 0 rfl) ?_
      refine rd_calli (r := (nI (t * 4 + i))) (va_runS (As := [.int (nI t), .int (nI i)]) (rest := [.ref e2]) ⟨hx, hb, hml, hown, hts⟩ (c_X1_place l dC dI cI cL t i) (cwS 2 hts (gS mw431 mw379 mw24 mw380) rfl rfl rfl (by decide +kernel) ⟨Nat.le_of_ble_eq_true rfl, Nat.le_of_ble_eq_true rfl⟩) (rd_preS (hP.sub (ws' := []) [] rfl) hK) rfl rfl hl.1 rfl (lv_room (Nat.le_of_ble_eq_true rfl)) dX1_copy_33 ⟨Nat.zero_le _, Nat.zero_le _⟩) ?_
      refine lv_aload_n hx hb dX1_copy_36 rfl (lv_at hl 1 rfl) ?_
      refine va_get (D := (dC, dI)) (ci := 1) (v := .ref e2) (C := RX1) (T := TX1) (N := 7) hx hb hts inX1 hown hK hP 0 rfl rfl 1 (by decide) (hts _ mw74) (fun _ h9 => h9) rfl dX1_copy_37 ?_
      refine lv_iload_n hx hb dX1_copy_40 rfl (lv_at hl 2 rfl) ?_
      refine lv_iload_n hx hb dX1_copy_41 rfl (lv_at hl 0 rfl) ?_
      refine rd_calli (r := (nI (fr * 4 + i))) (va_runS (As := [.int (nI fr), .int (nI i)]) (rest := [.ref e2, .int (nI (t * 4 + i)), .ref e2]) ⟨hx, hb, hml, hown, hts⟩ (c_X1_place l dC dI cI cL fr i) (cwS 2 hts (gS mw431 mw379 mw24 mw380) rfl rfl rfl (by decide +kernel) ⟨Nat.le_of_ble_eq_true rfl, Nat.le_of_ble_eq_true rfl⟩) (rd_preS (hP.sub (ws' := []) [] rfl) hK) rfl rfl hl.1 rfl (lv_room (Nat.le_of_ble_eq_true rfl)) dX1_copy_42 ⟨Nat.zero_le _, Nat.zero_le _⟩) ?_
      refine n_lald hx hb hK hP 2 1 rfl rfl (k := fr * 4 + i) rfl (by omega) (by omega) dX1_copy_45 ?_
      refine n_last (ws' := [(e0, .inr (1, [.ref e1, .ref e2, .ref e3, .ref e4, .ref e5, .ref e6, .int (nI en)])), (e1, .inl (cL, 288, .inr (.inl (vp_updL vals1 (t * 4 + i) (vals1 (fr * 4 + i)))))), (e2, .inl (cL, 288, .inr (.inl (vp_updL msks1 (t * 4 + i) (msks1 (fr * 4 + i)))))), (e3, .inl (cI, 72, .inl pre)), (e4, .inl (cI, 72, .inl pri)), (e5, .inl (cI, 72, .inl act)), (e6, .inl (cL, 72, .inr (.inl dat)))]) hx hb hK hP hD hS 2 1 rfl rfl (k := t * 4 + i) rfl (by omega) (by omega) dX1_copy_46 rfl (fun H locs hP hD hS => ?_)
      refine lv_iinc (v := nI (i + 1)) (lv' := [(3, .int (nI (i + 1))), (0, .ref e0), (1, .int (nI fr)), (2, .int (nI t))]) hx hb dX1_copy_47 hl (k := 0) rfl (nI_1 i) (by decide) rfl (fun ls hl => ?_)
      refine lv_goto (tgt := 2) hx hb dX1_copy_50 (by decide) ?_
      exact ih (i + 1) _ _ _ _ (by omega) hP hD hS ls (lv_sub hl [0, 1, 2, 3] rfl)
  exact loop 4 0 vals msks _ _ (by omega) hP hD hS ls (lv_sub hl [0, 1, 2, 3] rfl)

set_option maxHeartbeats 4000000 in
set_option maxRecDepth 100000 in
/-- Entries.drop -/
theorem c_X1_drop (l : Launch) (dC : Nat → ClassId) (dI : Nat → Nat → Nat) (cI cL : ClassId) (e0 e1 e2 e3 e4 e5 e6 : Nat) (vals msks : Nat → Int64) (pre pri act : Nat → Int32) (dat : Nat → Int64) (en : Nat) (q : Nat) (he : en ≤ 72) (hq : q < en) : Met l yX1_drop wsX1_drop ({ frames := 2, cells := 0, slots := 0, locals := 44 }) (wr_P (dC, dI) vwCl [(cI, .int), (cL, .long)] [(e0, .inr (1, [.ref e1, .ref e2, .ref e3, .ref e4, .ref e5, .ref e6, .int (nI en)])), (e1, .inl (cL, 288, .inr (.inl vals))), (e2, .inl (cL, 288, .inr (.inl msks))), (e3, .inl (cI, 72, .inl pre)), (e4, .inl (cI, 72, .inl pri)), (e5, .inl (cI, 72, .inl act)), (e6, .inl (cL, 72, .inr (.inl dat)))] [.ref e0, .int (nI q)]) (wr_Q (dC, dI) vwCl none [(e0, .inr (1, [.ref e1, .ref e2, .ref e3, .ref e4, .ref e5, .ref e6, .int (nI en)])), (e1, .inl (cL, 288, .inr (.inl vals))), (e2, .inl (cL, 288, .inr (.inl msks))), (e3, .inl (cI, 72, .inl pre)), (e4, .inl (cI, 72, .inl pri)), (e5, .inl (cI, 72, .inl act)), (e6, .inl (cL, 72, .inr (.inl dat)))] [(e0, .inr (1, [.ref e1, .ref e2, .ref e3, .ref e4, .ref e5, .ref e6, .int (nI (en - 1))])), (e1, .inl (cL, 288, .inr (.inl (dropR vals q (en - 1 - q))))), (e2, .inl (cL, 288, .inr (.inl (dropR msks q (en - 1 - q))))), (e3, .inl (cI, 72, .inl (dropI pre q (en - 1 - q)))), (e4, .inl (cI, 72, .inl (dropI pri q (en - 1 - q)))), (e5, .inl (cI, 72, .inl (dropI act q (en - 1 - q)))), (e6, .inl (cL, 72, .inr (.inl (dropL dat q (en - 1 - q)))))]) 0 0 (wr_I [(e0, .inr (1, [.ref e1, .ref e2, .ref e3, .ref e4, .ref e5, .ref e6, .int (nI en)])), (e1, .inl (cL, 288, .inr (.inl vals))), (e2, .inl (cL, 288, .inr (.inl msks))), (e3, .inl (cI, 72, .inl pre)), (e4, .inl (cI, 72, .inl pri)), (e5, .inl (cI, 72, .inl act)), (e6, .inl (cL, 72, .inr (.inl dat)))]) := by
  refine Met.ofW (cc := cX1_drop) (maxL := 3) (ret := none) (by decide) rfl ?_
  intro p e s m args below meth c s₁ B hml hv
  obtain ⟨rfl, hP, hK, hD0⟩ := hv
  have hx := B.exec
  have hb := B.bytes
  have hr := B.returns
  have hts := fun w h => atoms_spec (ws := wsX1_drop) B.pre w (List.mem_cons_of_mem _ h)
  have hown : s.vm.findClass RX1 = some m.cls := findClass_of_methodNamed B.named
  have hlocks := B.notSynchronized
  have hD := wr_self hD0
  have hS : va_S (wr_I [(e0, .inr (1, [.ref e1, .ref e2, .ref e3, .ref e4, .ref e5, .ref e6, .int (nI en)])), (e1, .inl (cL, 288, .inr (.inl vals))), (e2, .inl (cL, 288, .inr (.inl msks))), (e3, .inl (cI, 72, .inl pre)), (e4, .inl (cI, 72, .inl pri)), (e5, .inl (cI, 72, .inl act)), (e6, .inl (cL, 72, .inr (.inl dat)))]) s.heap s.heap [] := va_S.rf
  have hl := lv_entry ([.ref e0, .int (nI q)]) (n := 3) (Nat.le_of_ble_eq_true rfl)
  rw [lg_entry_eq]
  generalize (lg_sl ([.ref e0, .int (nI q)]) ++ List.replicate (3 - (lg_sl ([.ref e0, .int (nI q)])).length) Slot.unset).toArray = ls at hl ⊢
  have hl : lv_has ls 3 [(0, .ref e0), (1, .int (nI q))] := hl
  refine lv_iload_n hx hb dX1_drop_0 rfl (lv_at hl 1 rfl) ?_
  refine lv_istore_n (lv' := [(2, .int (nI q)), (0, .ref e0), (1, .int (nI q))]) hx hb dX1_drop_1 rfl hl (by decide) rfl (fun ls hl => ?_)
  have loop : ∀ (n : Nat) (i : Nat) (vals1 msks1 : Nat → Int64) (pre1 pri1 act1 : Nat → Int32) (dat1 : Nat → Int64) (H : Heap) (locs : List Loc), i + n + 1 = en → va_P (dC, dI) vwCl [(e0, .inr (1, [.ref e1, .ref e2, .ref e3, .ref e4, .ref e5, .ref e6, .int (nI en)])), (e1, .inl (cL, 288, .inr (.inl vals1))), (e2, .inl (cL, 288, .inr (.inl msks1))), (e3, .inl (cI, 72, .inl pre1)), (e4, .inl (cI, 72, .inl pri1)), (e5, .inl (cI, 72, .inl act1)), (e6, .inl (cL, 72, .inr (.inl dat1)))] H → va_D (wr_I [(e0, .inr (1, [.ref e1, .ref e2, .ref e3, .ref e4, .ref e5, .ref e6, .int (nI en)])), (e1, .inl (cL, 288, .inr (.inl vals))), (e2, .inl (cL, 288, .inr (.inl msks))), (e3, .inl (cI, 72, .inl pre)), (e4, .inl (cI, 72, .inl pri)), (e5, .inl (cI, 72, .inl act)), (e6, .inl (cL, 72, .inr (.inl dat)))]) [(e0, .inr (1, [.ref e1, .ref e2, .ref e3, .ref e4, .ref e5, .ref e6, .int (nI en)])), (e1, .inl (cL, 288, .inr (.inl vals1))), (e2, .inl (cL, 288, .inr (.inl msks1))), (e3, .inl (cI, 72, .inl pre1)), (e4, .inl (cI, 72, .inl pri1)), (e5, .inl (cI, 72, .inl act1)), (e6, .inl (cL, 72, .inr (.inl dat1)))] → va_S (wr_I [(e0, .inr (1, [.ref e1, .ref e2, .ref e3, .ref e4, .ref e5, .ref e6, .int (nI en)])), (e1, .inl (cL, 288, .inr (.inl vals))), (e2, .inl (cL, 288, .inr (.inl msks))), (e3, .inl (cI, 72, .inl pre)), (e4, .inl (cI, 72, .inl pri)), (e5, .inl (cI, 72, .inl act)), (e6, .inl (cL, 72, .inr (.inl dat)))]) s.heap H locs → ∀ ls : Array Slot, lv_has ls 3 [(2, .int (nI i)), (0, .ref e0), (1, .int (nI q))] → W p l e (headSpec wsX1_drop ({ frames := 2, cells := 0, slots := 0, locals := 44 })).room s m ([.ref e0, .int (nI q)]).toArray below meth c H locs 0 0 (MQ below (wr_Q (dC, dI) vwCl none [(e0, .inr (1, [.ref e1, .ref e2, .ref e3, .ref e4, .ref e5, .ref e6, .int (nI en)])), (e1, .inl (cL, 288, .inr (.inl vals))), (e2, .inl (cL, 288, .inr (.inl msks))), (e3, .inl (cI, 72, .inl pre)), (e4, .inl (cI, 72, .inl pri)), (e5, .inl (cI, 72, .inl act)), (e6, .inl (cL, 72, .inr (.inl dat)))] [(e0, .inr (1, [.ref e1, .ref e2, .ref e3, .ref e4, .ref e5, .ref e6, .int (nI (en - 1))])), (e1, .inl (cL, 288, .inr (.inl (dropR vals1 i n)))), (e2, .inl (cL, 288, .inr (.inl (dropR msks1 i n)))), (e3, .inl (cI, 72, .inl (dropI pre1 i n))), (e4, .inl (cI, 72, .inl (dropI pri1 i n))), (e5, .inl (cI, 72, .inl (dropI act1 i n))), (e6, .inl (cL, 72, .inr (.inl (dropL dat1 i n))))]) ([.ref e0, .int (nI q)]).toArray s 0 0 (wr_I [(e0, .inr (1, [.ref e1, .ref e2, .ref e3, .ref e4, .ref e5, .ref e6, .int (nI en)])), (e1, .inl (cL, 288, .inr (.inl vals))), (e2, .inl (cL, 288, .inr (.inl msks))), (e3, .inl (cI, 72, .inl pre)), (e4, .inl (cI, 72, .inl pri)), (e5, .inl (cI, 72, .inl act)), (e6, .inl (cL, 72, .inr (.inl dat)))])) (F0 m 2 ls []) := by
    intro n
    induction n with
    | zero =>
      intro i vals1 msks1 pre1 pri1 act1 dat1 H locs hi hP hD hS ls hl
      refine lv_iload_n hx hb dX1_drop_2 rfl (lv_at hl 0 rfl) ?_
      refine lv_iconst (v := 1) hx hb dX1_drop_3 (by decide) ?_
      refine lv_iadd hx hb dX1_drop_4 ?_
      refine lv_aload_n hx hb dX1_drop_5 rfl (lv_at hl 1 rfl) ?_
      refine va_get (D := (dC, dI)) (ci := 1) (v := .int (nI en)) (C := RX1) (T := TX1) (N := 7) hx hb hts inX1 hown hK hP 0 rfl rfl 6 (by decide) (hts _ mw85) (fun _ h9 => h9) rfl dX1_drop_6 ?_
      refine n_ige (i + 1) en (tgt := 26) (hexec := hx) (hb := hb) dX1_drop_9 (by decide) (nI_1 i) rfl (by omega) (by omega) (fun c9 => ?_) (fun c9 => absurd c9 (by omega))
      refine lv_aload_n hx hb dX1_drop_26 rfl (lv_at hl 1 rfl) ?_
      refine lv_dup hx hb dX1_drop_27 rfl ?_
      refine va_get (D := (dC, dI)) (ci := 1) (v := .int (nI en)) (C := RX1) (T := TX1) (N := 7) hx hb hts inX1 hown hK hP 0 rfl rfl 6 (by decide) (hts _ mw85) (fun _ h9 => h9) rfl dX1_drop_28 ?_
      refine lv_iconst (v := 1) hx hb dX1_drop_31 (by decide) ?_
      refine lv_isub hx hb dX1_drop_32 ?_
      rw [n_dec (show 0 < en by omega)]
      refine n_put (ws' := [(e0, .inr (1, [.ref e1, .ref e2, .ref e3, .ref e4, .ref e5, .ref e6, .int (nI (en - 1))])), (e1, .inl (cL, 288, .inr (.inl vals1))), (e2, .inl (cL, 288, .inr (.inl msks1))), (e3, .inl (cI, 72, .inl pre1)), (e4, .inl (cI, 72, .inl pri1)), (e5, .inl (cI, 72, .inl act1)), (e6, .inl (cL, 72, .inr (.inl dat1)))]) (D := (dC, dI)) (ci := 1) (v := .int (nI (en - 1))) (ty := .int) (C := RX1) (T := TX1) (N := 7) hx hb hts inX1 tyX1 tyX1_ok nmX1 hown hK hP hD hS 0 rfl rfl 6 (by decide) (hts _ mw85) (fun _ h9 => h9) rfl rfl rfl rfl (Nat.le_of_ble_eq_true rfl) dX1_drop_33 rfl (fun H locs hP hD hS => ?_)
      exact wr_vret hx hb hr hlocks hP hS dX1_drop_36
    | succ n ih =>
      intro i vals1 msks1 pre1 pri1 act1 dat1 H locs hi hP hD hS ls hl
      refine lv_iload_n hx hb dX1_drop_2 rfl (lv_at hl 0 rfl) ?_
      refine lv_iconst (v := 1) hx hb dX1_drop_3 (by decide) ?_
      refine lv_iadd hx hb dX1_drop_4 ?_
      refine lv_aload_n hx hb dX1_drop_5 rfl (lv_at hl 1 rfl) ?_
      refine va_get (D := (dC, dI)) (ci := 1) (v := .int (nI en)) (C := RX1) (T := TX1) (N := 7) hx hb hts inX1 hown hK hP 0 rfl rfl 6 (by decide) (hts _ mw85) (fun _ h9 => h9) rfl dX1_drop_6 ?_
      refine n_ige (i + 1) en (tgt := 26) (hexec := hx) (hb := hb) dX1_drop_9 (by decide) (nI_1 i) rfl (by omega) (by omega) (fun c9 => absurd c9 (by omega)) (fun c9 => ?_)
      refine lv_aload_n hx hb dX1_drop_12 rfl (lv_at hl 1 rfl) ?_
      refine lv_iload_n hx hb dX1_drop_13 rfl (lv_at hl 0 rfl) ?_
      refine lv_iconst (v := 1) hx hb dX1_drop_14 (by decide) ?_
      refine lv_iadd hx hb dX1_drop_15 ?_
      rw [nI_1]
      refine lv_iload_n hx hb dX1_drop_16 rfl (lv_at hl 0 rfl) ?_
      refine wr_call (w := [(e0, .inr (1, [.ref e1, .ref e2, .ref e3, .ref e4, .ref e5, .ref e6, .int (nI en)])), (e1, .inl (cL, 288, .inr (.inl vals1))), (e2, .inl (cL, 288, .inr (.inl msks1))), (e3, .inl (cI, 72, .inl pre1)), (e4, .inl (cI, 72, .inl pri1)), (e5, .inl (cI, 72, .inl act1)), (e6, .inl (cL, 72, .inr (.inl dat1)))]) (w' := [(e0, .inr (1, [.ref e1, .ref e2, .ref e3, .ref e4, .ref e5, .ref e6, .int (nI en)])), (e1, .inl (cL, 288, .inr (.inl (cpRow (i + 1) i vals1 0 4)))), (e2, .inl (cL, 288, .inr (.inl (cpRow (i + 1) i msks1 0 4)))), (e3, .inl (cI, 72, .inl (upd pre1 i (pre1 (i + 1))))), (e4, .inl (cI, 72, .inl (upd pri1 i (pri1 (i + 1))))), (e5, .inl (cI, 72, .inl (upd act1 i (act1 (i + 1))))), (e6, .inl (cL, 72, .inr (.inl (vp_updL dat1 i (dat1 (i + 1))))))]) (wr := []) (ws' := [(e0, .inr (1, [.ref e1, .ref e2, .ref e3, .ref e4, .ref e5, .ref e6, .int (nI en)])), (e1, .inl (cL, 288, .inr (.inl (cpRow (i + 1) i vals1 0 4)))), (e2, .inl (cL, 288, .inr (.inl (cpRow (i + 1) i msks1 0 4)))), (e3, .inl (cI, 72, .inl (upd pre1 i (pre1 (i + 1))))), (e4, .inl (cI, 72, .inl (upd pri1 i (pri1 (i + 1))))), (e5, .inl (cI, 72, .inl (upd act1 i (act1 (i + 1))))), (e6, .inl (cL, 72, .inr (.inl (vp_updL dat1 i (dat1 (i + 1))))))]) (va_runV (As := [.int (nI (i + 1)), .int (nI i)]) (rest := []) ⟨hx, hb, hml, hown, hts⟩ (c_X1_copy l dC dI cI cL e0 e1 e2 e3 e4 e5 e6 vals1 msks1 pre1 pri1 act1 dat1 en (i + 1) i (by omega) (by omega)) (cwV 2 hts (gV mw427 mw429 mw8 mw24 mw430) rfl rfl rfl (by decide +kernel) ⟨Nat.le_of_ble_eq_true rfl, Nat.le_of_ble_eq_true rfl⟩) (wr_preV (hP.sub (ws' := [(e0, .inr (1, [.ref e1, .ref e2, .ref e3, .ref e4, .ref e5, .ref e6, .int (nI en)])), (e1, .inl (cL, 288, .inr (.inl vals1))), (e2, .inl (cL, 288, .inr (.inl msks1))), (e3, .inl (cI, 72, .inl pre1)), (e4, .inl (cI, 72, .inl pri1)), (e5, .inl (cI, 72, .inl act1)), (e6, .inl (cL, 72, .inr (.inl dat1)))]) [0, 1, 2, 3, 4, 5, 6] rfl) hK (hD.sub (ws' := [(e0, .inr (1, [.ref e1, .ref e2, .ref e3, .ref e4, .ref e5, .ref e6, .int (nI en)])), (e1, .inl (cL, 288, .inr (.inl vals1))), (e2, .inl (cL, 288, .inr (.inl msks1))), (e3, .inl (cI, 72, .inl pre1)), (e4, .inl (cI, 72, .inl pri1)), (e5, .inl (cI, 72, .inl act1)), (e6, .inl (cL, 72, .inr (.inl dat1)))]) [0, 1, 2, 3, 4, 5, 6] (by decide) rfl) (va_recv (ci := 1) hK hP rfl (q0 := 0) rfl)) rfl rfl hl.1 rfl (lv_room (Nat.le_of_ble_eq_true rfl)) dX1_drop_17 ⟨Nat.zero_le _, Nat.zero_le _⟩) hP hD hS [0, 1, 2, 3, 4, 5, 6] [] [0, 1, 2, 3, 4, 5, 6] rfl rfl (by decide) rfl rfl (fun H locs hP hD hS => ?_)
      refine lv_iinc (v := nI (i + 1)) (lv' := [(2, .int (nI (i + 1))), (0, .ref e0), (1, .int (nI q))]) hx hb dX1_drop_20 hl (k := 0) rfl (nI_1 i) (by decide) rfl (fun ls hl => ?_)
      refine lv_goto (tgt := 2) hx hb dX1_drop_23 (by decide) ?_
      exact ih (i + 1) _ _ _ _ _ _ _ _ (by omega) hP hD hS ls (lv_sub hl [0, 1, 2] rfl)
  exact loop (en - 1 - q) q vals msks pre pri act dat _ _ (by omega) hP hD hS ls (lv_sub hl [0, 1, 2] rfl)
end
section
/-! 12.base2: reads without an answer, and words of the calls that may throw -/
section BASE2
variable {p : Program} {l : Launch} {e : Env} {R : Room} {s : State} {m : MethodId} {args : Array Value} {below : List Frame} {meth : Method} {c : Code} {H : Heap} {locs : List Loc} {cells slots : Nat} {Q : State → Prop}
variable {cc : ByteArray} {pc : Nat} {ls : Array Slot} {rest st0 : List Value} {D : va_G} {cl : List vw_C} {tys : List (ClassId × FieldType)} {A : Nat → Prop} {H0 : Heap} {ws : va_W}
theorem rd_callv {a : Array Value} (hr : va_Run p l e R s m args below meth c H locs cells slots 0 0 (F0 m pc ls st0) rest (rd_Q none a) (fun _ => False)) (kk : W p l e R s m args below meth c H locs cells slots Q (F0 m (pc + 3) ls rest)) : W p l e R s m args below meth c H locs cells slots Q (F0 m pc ls st0) := by
  intro T hT X
  obtain ⟨v, st₀, t, T', L, h0, X', hL, e1, e2, ⟨hv, hh⟩, st⟩ := hr T hT X
  cases hv
  obtain ⟨t2, a1, b1⟩ := kk T' (by rw [e1, hh, h0]) (Stand.forget X' (fun q h => (hL q h).elim))
  exact ⟨t2, st t2 a1, b1⟩
theorem rd_vret (hexec : p.tables.exec = Jvm.exec) (hb : c.code = cc) (hr : meth.sig.returnType = none) (hlocks : meth.locks = false) (hdg : decode cc pc = .ok (.return_, 1)) :
    W p l e R s m args below meth c s.heap [] 0 0 (MQ below (rd_Q none) args s 0 0 (fun _ => False)) (F0 m pc ls []) :=
  W.vret hexec hb hr (fun t ht _ => ⟨rfl, ht⟩) (fun _ h => nomatch h) hdg hlocks
theorem bI_fit (b : Bool) : fits .boolean (.int (bI b)) = true := by cases b <;> rfl
end BASE2
def cIns (kinds : Nat → Int32) (ones av am vals msks : Nat → Int64) (kn en : Nat) (held : Nat → Int32) (bn : Nat) (wy stt : Int32) (hashed : Bool) (cap ac : Int32) : Bool := cAct ac && (cTakeAll kinds ones am kn && (decide (cFind ones av am vals msks kn en = -1) && cRoom ones av kn en held bn wy stt hashed cap))
def oI : Option Nat → Int32
  | none => -1
  | some j => nI j
def cBest (av vals msks : Nat → Int64) (kn : Nat) (pre pri : Nat → Int32) : Option Nat → Nat → Nat → Option Nat
  | b, _, 0 => b
  | b, i, n + 1 => cBest av vals msks kn pre pri (if cFit av vals msks kn i && (match b with | none => true | some j => eMore pre pri i j) then some i else b) (i + 1) n
def mAct (act : Nat → Int32) : Option Nat → Int32
  | none => -1
  | some j => act j
def mDat (dat : Nat → Int64) : Option Nat → Int64
  | none => 0
  | some j => dat j
theorem cBest_n {av vals msks : Nat → Int64} {kn : Nat} {pre pri : Nat → Int32} {b : Option Nat} {i n : Nat} (h : cFit av vals msks kn i = false) : cBest av vals msks kn pre pri b i (n + 1) = cBest av vals msks kn pre pri b (i + 1) n := by simp [cBest, h]
theorem cBest_0 {av vals msks : Nat → Int64} {kn : Nat} {pre pri : Nat → Int32} {i n : Nat} (h : cFit av vals msks kn i = true) : cBest av vals msks kn pre pri none i (n + 1) = cBest av vals msks kn pre pri (some i) (i + 1) n := by simp [cBest, h]
theorem cBest_y {av vals msks : Nat → Int64} {kn : Nat} {pre pri : Nat → Int32} {i j n : Nat} (h : cFit av vals msks kn i = true) (h2 : eMore pre pri i j = true) : cBest av vals msks kn pre pri (some j) i (n + 1) = cBest av vals msks kn pre pri (some i) (i + 1) n := by simp [cBest, h, h2]
theorem cBest_k {av vals msks : Nat → Int64} {kn : Nat} {pre pri : Nat → Int32} {i j n : Nat} (h2 : eMore pre pri i j = false) : cBest av vals msks kn pre pri (some j) i (n + 1) = cBest av vals msks kn pre pri (some j) (i + 1) n := by simp [cBest, h2]
end
section
/-! wt -/
set_option maxHeartbeats 4000000 in
set_option maxRecDepth 100000 in
/-- datum -/
theorem c_X3_datum (l : Launch) (dC : Nat → ClassId) (dI : Nat → Nat → Nat) (cI cL : ClassId) (h : Nat → Nat) (kinds : Nat → Int32) (ones : Nat → Int64) (kn : Nat) (av am : Nat → Int64) (vals msks : Nat → Int64) (pre pri act : Nat → Int32) (dat : Nat → Int64) (en : Nat) (held : Nat → Int32) (bn : Nat) (wy stt : Int32) (made hashed : Bool) (cap : Int32) (lat : Int64) : Met l yX3_datum wsX3_datum ({ frames := 0, cells := 0, slots := 0, locals := 0 }) (rd_P (dC, dI) vwCl [(cI, .int), (cL, .long)] [(h 0, .inr (3, [.ref (h 1), .ref (h 2), .ref (h 3), .ref (h 4), .ref (h 5), .int (bI made), .int (bI hashed), .int cap, .long lat])), (h 1, .inr (2, [.ref (h 6), .ref (h 7), .int (nI kn)])), (h 2, .inr (1, [.ref (h 8), .ref (h 9), .ref (h 10), .ref (h 11), .ref (h 12), .ref (h 13), .int (nI en)])), (h 3, .inr (0, [.ref (h 14), .int (nI bn), .int wy, .int stt])), (h 4, .inl (cL, 4, .inr (.inl av))), (h 5, .inl (cL, 4, .inr (.inl am))), (h 6, .inl (cI, 4, .inl kinds)), (h 7, .inl (cL, 4, .inr (.inl ones))), (h 8, .inl (cL, 288, .inr (.inl vals))), (h 9, .inl (cL, 288, .inr (.inl msks))), (h 10, .inl (cI, 72, .inl pre)), (h 11, .inl (cI, 72, .inl pri)), (h 12, .inl (cI, 72, .inl act)), (h 13, .inl (cL, 72, .inr (.inl dat))), (h 14, .inl (cI, 16, .inl held))] [.ref (h 0)]) (rd_Q (some (.long lat))) 0 0 (fun _ => False) := by
  refine Met.ofW (cc := cX3_datum) (maxL := 1) (ret := some .long) (by decide) rfl ?_
  intro p e s m args below meth c s₁ B hml hv
  obtain ⟨rfl, hP, hK⟩ := hv
  have hx := B.exec
  have hb := B.bytes
  have hr := B.returns
  have hts := fun w h => atoms_spec (ws := wsX3_datum) B.pre w (List.mem_cons_of_mem _ h)
  have hown : s.vm.findClass RX3 = some m.cls := findClass_of_methodNamed B.named
  have hlocks := B.notSynchronized
  have hl := lv_entry ([.ref (h 0)]) (n := 1) (Nat.le_of_ble_eq_true rfl)
  rw [lg_entry_eq]
  generalize (lg_sl ([.ref (h 0)]) ++ List.replicate (1 - (lg_sl ([.ref (h 0)])).length) Slot.unset).toArray = ls at hl ⊢
  have hl : lv_has ls 1 [(0, .ref (h 0))] := hl
  refine lv_aload_n hx hb dX3_datum_0 rfl (lv_at hl 0 rfl) ?_
  refine va_get (D := (dC, dI)) (ci := 3) (v := .long lat) (C := RX3) (T := TX3) (N := 9) hx hb hts inX3 hown hK hP 0 rfl rfl 8 (by decide) (hts _ mw128) (fun _ h9 => h9) rfl dX3_datum_1 ?_
  exact rd_lret hx hb hr hlocks dX3_datum_4 (rfl)

set_option maxHeartbeats 4000000 in
set_option maxRecDepth 100000 in
/-- askedMask -/
theorem c_X3_askedMask (l : Launch) (dC : Nat → ClassId) (dI : Nat → Nat → Nat) (cI cL : ClassId) (h : Nat → Nat) (kinds : Nat → Int32) (ones : Nat → Int64) (kn : Nat) (av am : Nat → Int64) (vals msks : Nat → Int64) (pre pri act : Nat → Int32) (dat : Nat → Int64) (en : Nat) (held : Nat → Int32) (bn : Nat) (wy stt : Int32) (made hashed : Bool) (cap : Int32) (lat : Int64) (k : Nat) (hk : k < 4) : Met l yX3_askedMask wsX3_askedMask ({ frames := 0, cells := 0, slots := 0, locals := 0 }) (rd_P (dC, dI) vwCl [(cI, .int), (cL, .long)] [(h 0, .inr (3, [.ref (h 1), .ref (h 2), .ref (h 3), .ref (h 4), .ref (h 5), .int (bI made), .int (bI hashed), .int cap, .long lat])), (h 1, .inr (2, [.ref (h 6), .ref (h 7), .int (nI kn)])), (h 2, .inr (1, [.ref (h 8), .ref (h 9), .ref (h 10), .ref (h 11), .ref (h 12), .ref (h 13), .int (nI en)])), (h 3, .inr (0, [.ref (h 14), .int (nI bn), .int wy, .int stt])), (h 4, .inl (cL, 4, .inr (.inl av))), (h 5, .inl (cL, 4, .inr (.inl am))), (h 6, .inl (cI, 4, .inl kinds)), (h 7, .inl (cL, 4, .inr (.inl ones))), (h 8, .inl (cL, 288, .inr (.inl vals))), (h 9, .inl (cL, 288, .inr (.inl msks))), (h 10, .inl (cI, 72, .inl pre)), (h 11, .inl (cI, 72, .inl pri)), (h 12, .inl (cI, 72, .inl act)), (h 13, .inl (cL, 72, .inr (.inl dat))), (h 14, .inl (cI, 16, .inl held))] [.ref (h 0), .int (nI k)]) (rd_Q (some (.long (am k &&& ones k)))) 0 0 (fun _ => False) := by
  refine Met.ofW (cc := cX3_askedMask) (maxL := 2) (ret := some .long) (by decide) rfl ?_
  intro p e s m args below meth c s₁ B hml hv
  obtain ⟨rfl, hP, hK⟩ := hv
  have hx := B.exec
  have hb := B.bytes
  have hr := B.returns
  have hts := fun w h => atoms_spec (ws := wsX3_askedMask) B.pre w (List.mem_cons_of_mem _ h)
  have hown : s.vm.findClass RX3 = some m.cls := findClass_of_methodNamed B.named
  have hlocks := B.notSynchronized
  have hl := lv_entry ([.ref (h 0), .int (nI k)]) (n := 2) (Nat.le_of_ble_eq_true rfl)
  rw [lg_entry_eq]
  generalize (lg_sl ([.ref (h 0), .int (nI k)]) ++ List.replicate (2 - (lg_sl ([.ref (h 0), .int (nI k)])).length) Slot.unset).toArray = ls at hl ⊢
  have hl : lv_has ls 2 [(0, .ref (h 0)), (1, .int (nI k))] := hl
  refine lv_aload_n hx hb dX3_askedMask_0 rfl (lv_at hl 0 rfl) ?_
  refine va_get (D := (dC, dI)) (ci := 3) (v := .ref (h 5)) (C := RX3) (T := TX3) (N := 9) hx hb hts inX3 hown hK hP 0 rfl rfl 4 (by decide) (hts _ mw124) (fun _ h9 => h9) rfl dX3_askedMask_1 ?_
  refine lv_iload_n hx hb dX3_askedMask_4 rfl (lv_at hl 1 rfl) ?_
  refine n_lald hx hb hK hP 5 1 rfl rfl (k := k) rfl hk (by omega) dX3_askedMask_5 ?_
  refine lv_aload_n hx hb dX3_askedMask_6 rfl (lv_at hl 0 rfl) ?_
  refine va_get (D := (dC, dI)) (ci := 3) (v := .ref (h 1)) (C := RX3) (T := TX3) (N := 9) hx hb hts inX3 hown hK hP 0 rfl rfl 0 (by decide) (hts _ mw120) (fun _ h9 => h9) rfl dX3_askedMask_7 ?_
  refine va_get (D := (dC, dI)) (ci := 2) (v := .ref (h 7)) (C := RX2) (T := TX2) (N := 3) hx hb hts inX2 hown hK hP 1 rfl rfl 1 (by decide) (hts _ mw54) (fun _ h9 => h9) rfl dX3_askedMask_10 ?_
  refine lv_iload_n hx hb dX3_askedMask_13 rfl (lv_at hl 1 rfl) ?_
  refine n_lald hx hb hK hP 7 1 rfl rfl (k := k) rfl hk (by omega) dX3_askedMask_14 ?_
  refine lv_land hx hb dX3_askedMask_15 ?_
  exact rd_lret hx hb hr hlocks dX3_askedMask_16 (rfl)

set_option maxHeartbeats 4000000 in
set_option maxRecDepth 100000 in
/-- isHashedShape -/
theorem c_X3_isHashedShape (l : Launch) (dC : Nat → ClassId) (dI : Nat → Nat → Nat) (cI cL : ClassId) (n w t : Int32) : Met l yX3_isHashedShape wsX3_isHashedShape ({ frames := 1, cells := 0, slots := 0, locals := 20 }) (rd_P (dC, dI) vwCl [(cI, .int), (cL, .long)] [] [.int n, .int w, .int t]) (rd_Q (some (.int (bI (hShape n w t))))) 0 0 (fun _ => False) := by
  refine Met.ofW (cc := cX3_isHashedShape) (maxL := 3) (ret := some .boolean) (by decide) rfl ?_
  intro p e s m args below meth c s₁ B hml hv
  obtain ⟨rfl, hP, hK⟩ := hv
  have hx := B.exec
  have hb := B.bytes
  have hr := B.returns
  have hts := fun w h => atoms_spec (ws := wsX3_isHashedShape) B.pre w (List.mem_cons_of_mem _ h)
  have hown : s.vm.findClass RX3 = some m.cls := findClass_of_methodNamed B.named
  have hlocks := B.notSynchronized
  have hl := lv_entry ([.int n, .int w, .int t]) (n := 3) (Nat.le_of_ble_eq_true rfl)
  rw [lg_entry_eq]
  generalize (lg_sl ([.int n, .int w, .int t]) ++ List.replicate (3 - (lg_sl ([.int n, .int w, .int t])).length) Slot.unset).toArray = ls at hl ⊢
  have hl : lv_has ls 3 [(0, .int n), (1, .int w), (2, .int t)] := hl
  refine lv_iload_n hx hb dX3_isHashedShape_0 rfl (lv_at hl 0 rfl) ?_
  refine lv_iconst (v := 1) hx hb dX3_isHashedShape_1 (by decide) ?_
  refine lv_icmp_lt (tgt := 43) hx hb dX3_isHashedShape_2 (by decide) (fun c2 => ?_) (fun c2 => ?_)
  · refine lv_iconst (v := 0) hx hb dX3_isHashedShape_43 (by decide) ?_
    exact rd_iret hx hb hr hlocks dX3_isHashedShape_44 rfl (by simp [hShape, bI, c2])
  · refine lv_iload_n hx hb dX3_isHashedShape_5 rfl (lv_at hl 0 rfl) ?_
    refine lv_bipush (v := 16) hx hb dX3_isHashedShape_6 (by decide) ?_
    refine lv_icmp_gt (tgt := 43) hx hb dX3_isHashedShape_8 (by decide) (fun c8 => ?_) (fun c8 => ?_)
    · refine lv_iconst (v := 0) hx hb dX3_isHashedShape_43 (by decide) ?_
      exact rd_iret hx hb hr hlocks dX3_isHashedShape_44 rfl (by simp [hShape, bI, c2, c8])
    · refine lv_iload_n hx hb dX3_isHashedShape_11 rfl (lv_at hl 0 rfl) ?_
      refine rd_calli (r := (bc32 n)) (va_runS (As := [.int n]) (rest := []) ⟨hx, hb, hml, hown, hts⟩ (c_J6_bitCount l dC dI cI cL n) (va_cwS 1 hts (gSo mw309 mw310 mw33 mw311) rfl rfl rfl (by decide +kernel) ⟨Nat.le_of_ble_eq_true rfl, Nat.le_of_ble_eq_true rfl⟩) (rd_preS (hP.sub (ws' := []) [] rfl) hK) rfl rfl hl.1 rfl (lv_room (Nat.le_of_ble_eq_true rfl)) dX3_isHashedShape_12 ⟨Nat.zero_le _, Nat.zero_le _⟩) ?_
      refine lv_iconst (v := 1) hx hb dX3_isHashedShape_15 (by decide) ?_
      refine lv_icmp_ne (tgt := 43) hx hb dX3_isHashedShape_16 (by decide) (fun c16 => ?_) (fun c16 => ?_)
      · refine lv_iconst (v := 0) hx hb dX3_isHashedShape_43 (by decide) ?_
        exact rd_iret hx hb hr hlocks dX3_isHashedShape_44 rfl (by simp [hShape, bI, c2, c8, c16])
      · refine lv_iload_n hx hb dX3_isHashedShape_19 rfl (lv_at hl 1 rfl) ?_
        refine lv_iconst (v := 1) hx hb dX3_isHashedShape_20 (by decide) ?_
        refine lv_icmp_lt (tgt := 43) hx hb dX3_isHashedShape_21 (by decide) (fun c21 => ?_) (fun c21 => ?_)
        · refine lv_iconst (v := 0) hx hb dX3_isHashedShape_43 (by decide) ?_
          exact rd_iret hx hb hr hlocks dX3_isHashedShape_44 rfl (by simp [hShape, bI, c2, c8, c16, c21])
        · refine lv_iload_n hx hb dX3_isHashedShape_24 rfl (lv_at hl 1 rfl) ?_
          refine lv_iconst (v := 4) hx hb dX3_isHashedShape_25 (by decide) ?_
          refine lv_icmp_gt (tgt := 43) hx hb dX3_isHashedShape_26 (by decide) (fun c26 => ?_) (fun c26 => ?_)
          · refine lv_iconst (v := 0) hx hb dX3_isHashedShape_43 (by decide) ?_
            exact rd_iret hx hb hr hlocks dX3_isHashedShape_44 rfl (by simp [hShape, bI, c2, c8, c16, c21, c26])
          · refine lv_iload_n hx hb dX3_isHashedShape_29 rfl (lv_at hl 2 rfl) ?_
            refine lv_if_lt (tgt := 43) hx hb dX3_isHashedShape_30 (by decide) (fun c30 => ?_) (fun c30 => ?_)
            · refine lv_iconst (v := 0) hx hb dX3_isHashedShape_43 (by decide) ?_
              exact rd_iret hx hb hr hlocks dX3_isHashedShape_44 rfl (by simp [hShape, bI, c2, c8, c16, c21, c26, c30])
            · refine lv_iload_n hx hb dX3_isHashedShape_33 rfl (lv_at hl 2 rfl) ?_
              refine lv_bipush (v := 8) hx hb dX3_isHashedShape_34 (by decide) ?_
              refine lv_icmp_gt (tgt := 43) hx hb dX3_isHashedShape_36 (by decide) (fun c36 => ?_) (fun c36 => ?_)
              · refine lv_iconst (v := 0) hx hb dX3_isHashedShape_43 (by decide) ?_
                exact rd_iret hx hb hr hlocks dX3_isHashedShape_44 rfl (by simp [hShape, bI, c2, c8, c16, c21, c26, c30, c36])
              · refine lv_iconst (v := 1) hx hb dX3_isHashedShape_39 (by decide) ?_
                refine lv_goto (tgt := 44) hx hb dX3_isHashedShape_40 (by decide) ?_
                exact rd_iret hx hb hr hlocks dX3_isHashedShape_44 rfl (by simp [hShape, bI, c2, c8, c16, c21, c26, c30, c36])

set_option maxHeartbeats 4000000 in
set_option maxRecDepth 100000 in
/-- isListedShape -/
theorem c_X3_isListedShape (l : Launch) (dC : Nat → ClassId) (dI : Nat → Nat → Nat) (cI cL : ClassId) (n : Int32) : Met l yX3_isListedShape wsX3_isListedShape ({ frames := 0, cells := 0, slots := 0, locals := 0 }) (rd_P (dC, dI) vwCl [(cI, .int), (cL, .long)] [] [.int n]) (rd_Q (some (.int (bI (lShape n))))) 0 0 (fun _ => False) := by
  refine Met.ofW (cc := cX3_isListedShape) (maxL := 1) (ret := some .boolean) (by decide) rfl ?_
  intro p e s m args below meth c s₁ B hml hv
  obtain ⟨rfl, hP, hK⟩ := hv
  have hx := B.exec
  have hb := B.bytes
  have hr := B.returns
  have hts := fun w h => atoms_spec (ws := wsX3_isListedShape) B.pre w (List.mem_cons_of_mem _ h)
  have hown : s.vm.findClass RX3 = some m.cls := findClass_of_methodNamed B.named
  have hlocks := B.notSynchronized
  have hl := lv_entry ([.int n]) (n := 1) (Nat.le_of_ble_eq_true rfl)
  rw [lg_entry_eq]
  generalize (lg_sl ([.int n]) ++ List.replicate (1 - (lg_sl ([.int n])).length) Slot.unset).toArray = ls at hl ⊢
  have hl : lv_has ls 1 [(0, .int n)] := hl
  refine lv_iload_n hx hb dX3_isListedShape_0 rfl (lv_at hl 0 rfl) ?_
  refine lv_iconst (v := 1) hx hb dX3_isListedShape_1 (by decide) ?_
  refine lv_icmp_lt (tgt := 15) hx hb dX3_isListedShape_2 (by decide) (fun c2 => ?_) (fun c2 => ?_)
  · refine lv_iconst (v := 0) hx hb dX3_isListedShape_15 (by decide) ?_
    exact rd_iret hx hb hr hlocks dX3_isListedShape_16 rfl (by simp [lShape, bI, c2])
  · refine lv_iload_n hx hb dX3_isListedShape_5 rfl (lv_at hl 0 rfl) ?_
    refine lv_bipush (v := 32) hx hb dX3_isListedShape_6 (by decide) ?_
    refine lv_icmp_gt (tgt := 15) hx hb dX3_isListedShape_8 (by decide) (fun c8 => ?_) (fun c8 => ?_)
    · refine lv_iconst (v := 0) hx hb dX3_isListedShape_15 (by decide) ?_
      exact rd_iret hx hb hr hlocks dX3_isListedShape_16 rfl (by simp [lShape, bI, c2, c8])
    · refine lv_iconst (v := 1) hx hb dX3_isListedShape_11 (by decide) ?_
      refine lv_goto (tgt := 16) hx hb dX3_isListedShape_12 (by decide) ?_
      exact rd_iret hx hb hr hlocks dX3_isListedShape_16 rfl (by simp [lShape, bI, c2, c8])

set_option maxHeartbeats 4000000 in
set_option maxRecDepth 100000 in
/-- isAction -/
theorem c_X3_isAction (l : Launch) (dC : Nat → ClassId) (dI : Nat → Nat → Nat) (cI cL : ClassId) (a : Int32) : Met l yX3_isAction wsX3_isAction ({ frames := 0, cells := 0, slots := 0, locals := 0 }) (rd_P (dC, dI) vwCl [(cI, .int), (cL, .long)] [] [.int a]) (rd_Q (some (.int (bI (cAct a))))) 0 0 (fun _ => False) := by
  refine Met.ofW (cc := cX3_isAction) (maxL := 1) (ret := some .boolean) (by decide) rfl ?_
  intro p e s m args below meth c s₁ B hml hv
  obtain ⟨rfl, hP, hK⟩ := hv
  have hx := B.exec
  have hb := B.bytes
  have hr := B.returns
  have hts := fun w h => atoms_spec (ws := wsX3_isAction) B.pre w (List.mem_cons_of_mem _ h)
  have hown : s.vm.findClass RX3 = some m.cls := findClass_of_methodNamed B.named
  have hlocks := B.notSynchronized
  have hl := lv_entry ([.int a]) (n := 1) (Nat.le_of_ble_eq_true rfl)
  rw [lg_entry_eq]
  generalize (lg_sl ([.int a]) ++ List.replicate (1 - (lg_sl ([.int a])).length) Slot.unset).toArray = ls at hl ⊢
  have hl : lv_has ls 1 [(0, .int a)] := hl
  refine lv_iload_n hx hb dX3_isAction_0 rfl (lv_at hl 0 rfl) ?_
  refine lv_if_lt (tgt := 14) hx hb dX3_isAction_1 (by decide) (fun c1 => ?_) (fun c1 => ?_)
  · refine lv_iconst (v := 0) hx hb dX3_isAction_14 (by decide) ?_
    exact rd_iret hx hb hr hlocks dX3_isAction_15 rfl (by simp [cAct, bI, c1])
  · refine lv_iload_n hx hb dX3_isAction_4 rfl (lv_at hl 0 rfl) ?_
    refine lv_bipush (v := 7) hx hb dX3_isAction_5 (by decide) ?_
    refine lv_icmp_gt (tgt := 14) hx hb dX3_isAction_7 (by decide) (fun c7 => ?_) (fun c7 => ?_)
    · refine lv_iconst (v := 0) hx hb dX3_isAction_14 (by decide) ?_
      exact rd_iret hx hb hr hlocks dX3_isAction_15 rfl (by simp [cAct, bI, c1, c7])
    · refine lv_iconst (v := 1) hx hb dX3_isAction_10 (by decide) ?_
      refine lv_goto (tgt := 15) hx hb dX3_isAction_11 (by decide) ?_
      exact rd_iret hx hb hr hlocks dX3_isAction_15 rfl (by simp [cAct, bI, c1, c7])

set_option maxHeartbeats 4000000 in
set_option maxRecDepth 100000 in
/-- areMasksRight -/
theorem c_X3_areMasksRight (l : Launch) (dC : Nat → ClassId) (dI : Nat → Nat → Nat) (cI cL : ClassId) (h : Nat → Nat) (kinds : Nat → Int32) (ones : Nat → Int64) (kn : Nat) (av am : Nat → Int64) (vals msks : Nat → Int64) (pre pri act : Nat → Int32) (dat : Nat → Int64) (en : Nat) (held : Nat → Int32) (bn : Nat) (wy stt : Int32) (made hashed : Bool) (cap : Int32) (lat : Int64) (hk : kn ≤ 4) : Met l yX3_areMasksRight wsX3_areMasksRight ({ frames := 1, cells := 0, slots := 0, locals := 25 }) (rd_P (dC, dI) vwCl [(cI, .int), (cL, .long)] [(h 0, .inr (3, [.ref (h 1), .ref (h 2), .ref (h 3), .ref (h 4), .ref (h 5), .int (bI made), .int (bI hashed), .int cap, .long lat])), (h 1, .inr (2, [.ref (h 6), .ref (h 7), .int (nI kn)])), (h 2, .inr (1, [.ref (h 8), .ref (h 9), .ref (h 10), .ref (h 11), .ref (h 12), .ref (h 13), .int (nI en)])), (h 3, .inr (0, [.ref (h 14), .int (nI bn), .int wy, .int stt])), (h 4, .inl (cL, 4, .inr (.inl av))), (h 5, .inl (cL, 4, .inr (.inl am))), (h 6, .inl (cI, 4, .inl kinds)), (h 7, .inl (cL, 4, .inr (.inl ones))), (h 8, .inl (cL, 288, .inr (.inl vals))), (h 9, .inl (cL, 288, .inr (.inl msks))), (h 10, .inl (cI, 72, .inl pre)), (h 11, .inl (cI, 72, .inl pri)), (h 12, .inl (cI, 72, .inl act)), (h 13, .inl (cL, 72, .inr (.inl dat))), (h 14, .inl (cI, 16, .inl held))] [.ref (h 0)]) (rd_Q (some (.int (bI (cTakeAll kinds ones am kn))))) 0 0 (fun _ => False) := by
  refine Met.ofW (cc := cX3_areMasksRight) (maxL := 2) (ret := some .boolean) (by decide) rfl ?_
  intro p e s m args below meth c s₁ B hml hv
  obtain ⟨rfl, hP, hK⟩ := hv
  have hx := B.exec
  have hb := B.bytes
  have hr := B.returns
  have hts := fun w h => atoms_spec (ws := wsX3_areMasksRight) B.pre w (List.mem_cons_of_mem _ h)
  have hown : s.vm.findClass RX3 = some m.cls := findClass_of_methodNamed B.named
  have hlocks := B.notSynchronized
  have hl := lv_entry ([.ref (h 0)]) (n := 2) (Nat.le_of_ble_eq_true rfl)
  rw [lg_entry_eq]
  generalize (lg_sl ([.ref (h 0)]) ++ List.replicate (2 - (lg_sl ([.ref (h 0)])).length) Slot.unset).toArray = ls at hl ⊢
  have hl : lv_has ls 2 [(0, .ref (h 0))] := hl
  refine lv_iconst (v := (nI 0)) hx hb dX3_areMasksRight_0 (by decide) ?_
  refine lv_istore_n (lv' := [(1, .int (nI 0)), (0, .ref (h 0))]) hx hb dX3_areMasksRight_1 rfl hl (by decide) rfl (fun ls hl => ?_)
  have loop : ∀ (n i : Nat), i + n = kn → ∀ ls : Array Slot, lv_has ls 2 [(1, .int (nI i)), (0, .ref (h 0))] → W p l e (headSpec wsX3_areMasksRight ({ frames := 1, cells := 0, slots := 0, locals := 25 })).room s m ([.ref (h 0)]).toArray below meth c s.heap [] 0 0 (MQ below (rd_Q (some (.int (bI (allF (fun k => kTake (kinds k) (ones k) (am k &&& ones k)) i n))))) ([.ref (h 0)]).toArray s 0 0 (fun _ => False)) (F0 m 2 ls []) := by
    intro n
    induction n with
    | zero =>
      intro i hi ls hl
      refine lv_iload_n hx hb dX3_areMasksRight_2 rfl (lv_at hl 0 rfl) ?_
      refine lv_aload_n hx hb dX3_areMasksRight_3 rfl (lv_at hl 1 rfl) ?_
      refine va_get (D := (dC, dI)) (ci := 3) (v := .ref (h 1)) (C := RX3) (T := TX3) (N := 9) hx hb hts inX3 hown hK hP 0 rfl rfl 0 (by decide) (hts _ mw120) (fun _ h9 => h9) rfl dX3_areMasksRight_4 ?_
      refine va_get (D := (dC, dI)) (ci := 2) (v := .int (nI kn)) (C := RX2) (T := TX2) (N := 3) hx hb hts inX2 hown hK hP 1 rfl rfl 2 (by decide) (hts _ mw56) (fun _ h9 => h9) rfl dX3_areMasksRight_7 ?_
      refine n_ige i kn (tgt := 37) (hexec := hx) (hb := hb) dX3_areMasksRight_10 (by decide) rfl rfl (by omega) (by omega) (fun c10 => ?_) (fun c10 => absurd c10 (by omega))
      refine lv_iconst (v := 1) hx hb dX3_areMasksRight_37 (by decide) ?_
      exact rd_iret hx hb hr hlocks dX3_areMasksRight_38 rfl (rfl)
    | succ n ih =>
      intro i hi ls hl
      refine lv_iload_n hx hb dX3_areMasksRight_2 rfl (lv_at hl 0 rfl) ?_
      refine lv_aload_n hx hb dX3_areMasksRight_3 rfl (lv_at hl 1 rfl) ?_
      refine va_get (D := (dC, dI)) (ci := 3) (v := .ref (h 1)) (C := RX3) (T := TX3) (N := 9) hx hb hts inX3 hown hK hP 0 rfl rfl 0 (by decide) (hts _ mw120) (fun _ h9 => h9) rfl dX3_areMasksRight_4 ?_
      refine va_get (D := (dC, dI)) (ci := 2) (v := .int (nI kn)) (C := RX2) (T := TX2) (N := 3) hx hb hts inX2 hown hK hP 1 rfl rfl 2 (by decide) (hts _ mw56) (fun _ h9 => h9) rfl dX3_areMasksRight_7 ?_
      refine n_ige i kn (tgt := 37) (hexec := hx) (hb := hb) dX3_areMasksRight_10 (by decide) rfl rfl (by omega) (by omega) (fun c10 => absurd c10 (by omega)) (fun c10 => ?_)
      refine lv_aload_n hx hb dX3_areMasksRight_13 rfl (lv_at hl 1 rfl) ?_
      refine va_get (D := (dC, dI)) (ci := 3) (v := .ref (h 1)) (C := RX3) (T := TX3) (N := 9) hx hb hts inX3 hown hK hP 0 rfl rfl 0 (by decide) (hts _ mw120) (fun _ h9 => h9) rfl dX3_areMasksRight_14 ?_
      refine lv_iload_n hx hb dX3_areMasksRight_17 rfl (lv_at hl 0 rfl) ?_
      refine lv_aload_n hx hb dX3_areMasksRight_18 rfl (lv_at hl 1 rfl) ?_
      refine lv_iload_n hx hb dX3_areMasksRight_19 rfl (lv_at hl 0 rfl) ?_
      refine rd_calll (r := (am i &&& ones i)) (va_runV (As := [.int (nI i)]) (rest := [.int (nI i), .ref (h 1)]) ⟨hx, hb, hml, hown, hts⟩ (c_X3_askedMask l dC dI cI cL h kinds ones kn av am vals msks pre pri act dat en held bn wy stt made hashed cap lat i (by omega)) (cwV 1 hts (gV mw362 mw364 mw3 mw22 mw365) rfl rfl rfl (by decide +kernel) ⟨Nat.le_of_ble_eq_true rfl, Nat.le_of_ble_eq_true rfl⟩) (rd_preV (hP.sub (ws' := [(h 0, .inr (3, [.ref (h 1), .ref (h 2), .ref (h 3), .ref (h 4), .ref (h 5), .int (bI made), .int (bI hashed), .int cap, .long lat])), (h 1, .inr (2, [.ref (h 6), .ref (h 7), .int (nI kn)])), (h 2, .inr (1, [.ref (h 8), .ref (h 9), .ref (h 10), .ref (h 11), .ref (h 12), .ref (h 13), .int (nI en)])), (h 3, .inr (0, [.ref (h 14), .int (nI bn), .int wy, .int stt])), (h 4, .inl (cL, 4, .inr (.inl av))), (h 5, .inl (cL, 4, .inr (.inl am))), (h 6, .inl (cI, 4, .inl kinds)), (h 7, .inl (cL, 4, .inr (.inl ones))), (h 8, .inl (cL, 288, .inr (.inl vals))), (h 9, .inl (cL, 288, .inr (.inl msks))), (h 10, .inl (cI, 72, .inl pre)), (h 11, .inl (cI, 72, .inl pri)), (h 12, .inl (cI, 72, .inl act)), (h 13, .inl (cL, 72, .inr (.inl dat))), (h 14, .inl (cI, 16, .inl held))]) [0, 1, 2, 3, 4, 5, 6, 7, 8, 9, 10, 11, 12, 13, 14] rfl) hK (va_recv (ci := 3) hK hP rfl (q0 := 0) rfl)) rfl rfl hl.1 rfl (lv_room (Nat.le_of_ble_eq_true rfl)) dX3_areMasksRight_20 ⟨Nat.zero_le _, Nat.zero_le _⟩) ?_
      refine rd_calli (r := (bI (kTake (kinds i) (ones i) (am i &&& ones i)))) (va_runV (As := [.int (nI i), .long (am i &&& ones i)]) (rest := []) ⟨hx, hb, hml, hown, hts⟩ (c_X2_takeMask l dC dI cI cL (h 1) (h 6) (h 7) kinds ones kn i (am i &&& ones i) hk (by omega)) (cwV 2 hts (gV mw366 mw367 mw368 mw23 mw369) rfl rfl rfl (by decide +kernel) ⟨Nat.le_of_ble_eq_true rfl, Nat.le_of_ble_eq_true rfl⟩) (rd_preV (hP.sub (ws' := [(h 1, .inr (2, [.ref (h 6), .ref (h 7), .int (nI kn)])), (h 6, .inl (cI, 4, .inl kinds)), (h 7, .inl (cL, 4, .inr (.inl ones)))]) [1, 6, 7] rfl) hK (va_recv (ci := 2) hK hP rfl (q0 := 1) rfl)) rfl rfl hl.1 rfl (lv_room (Nat.le_of_ble_eq_true rfl)) dX3_areMasksRight_23 ⟨Nat.zero_le _, Nat.zero_le _⟩) ?_
      refine lv_if_ne (tgt := 31) hx hb dX3_areMasksRight_26 (by decide) (fun c26 => ?_) (fun c26 => ?_)
      · rw [show allF (fun k => kTake (kinds k) (ones k) (am k &&& ones k)) i (n + 1) = allF (fun k => kTake (kinds k) (ones k) (am k &&& ones k)) (i + 1) n from allF_t (bI_ne c26)]
        refine lv_iinc (v := nI (i + 1)) (lv' := [(1, .int (nI (i + 1))), (0, .ref (h 0))]) hx hb dX3_areMasksRight_31 hl (k := 0) rfl (nI_1 i) (by decide) rfl (fun ls hl => ?_)
        refine lv_goto (tgt := 2) hx hb dX3_areMasksRight_34 (by decide) ?_
        exact ih (i + 1) (by omega) ls (lv_sub hl [0, 1] rfl)
      · refine lv_iconst (v := 0) hx hb dX3_areMasksRight_29 (by decide) ?_
        exact rd_iret hx hb hr hlocks dX3_areMasksRight_30 rfl (by rw [show allF (fun k => kTake (kinds k) (ones k) (am k &&& ones k)) i (n + 1) = false from allF_f (bI_eq c26)]; rfl)
  exact loop kn 0 (by omega) ls (lv_sub hl [0, 1] rfl)

set_option maxHeartbeats 4000000 in
set_option maxRecDepth 100000 in
/-- isAsked -/
theorem c_X3_isAsked (l : Launch) (dC : Nat → ClassId) (dI : Nat → Nat → Nat) (cI cL : ClassId) (h : Nat → Nat) (kinds : Nat → Int32) (ones : Nat → Int64) (kn : Nat) (av am : Nat → Int64) (vals msks : Nat → Int64) (pre pri act : Nat → Int32) (dat : Nat → Int64) (en : Nat) (held : Nat → Int32) (bn : Nat) (wy stt : Int32) (made hashed : Bool) (cap : Int32) (lat : Int64) (q : Nat) (hk : kn ≤ 4) (hq : q < 72) : Met l yX3_isAsked wsX3_isAsked ({ frames := 1, cells := 0, slots := 0, locals := 21 }) (rd_P (dC, dI) vwCl [(cI, .int), (cL, .long)] [(h 0, .inr (3, [.ref (h 1), .ref (h 2), .ref (h 3), .ref (h 4), .ref (h 5), .int (bI made), .int (bI hashed), .int cap, .long lat])), (h 1, .inr (2, [.ref (h 6), .ref (h 7), .int (nI kn)])), (h 2, .inr (1, [.ref (h 8), .ref (h 9), .ref (h 10), .ref (h 11), .ref (h 12), .ref (h 13), .int (nI en)])), (h 3, .inr (0, [.ref (h 14), .int (nI bn), .int wy, .int stt])), (h 4, .inl (cL, 4, .inr (.inl av))), (h 5, .inl (cL, 4, .inr (.inl am))), (h 6, .inl (cI, 4, .inl kinds)), (h 7, .inl (cL, 4, .inr (.inl ones))), (h 8, .inl (cL, 288, .inr (.inl vals))), (h 9, .inl (cL, 288, .inr (.inl msks))), (h 10, .inl (cI, 72, .inl pre)), (h 11, .inl (cI, 72, .inl pri)), (h 12, .inl (cI, 72, .inl act)), (h 13, .inl (cL, 72, .inr (.inl dat))), (h 14, .inl (cI, 16, .inl held))] [.ref (h 0), .int (nI q)]) (rd_Q (some (.int (bI (cAsk ones av am vals msks kn q))))) 0 0 (fun _ => False) := by
  refine Met.ofW (cc := cX3_isAsked) (maxL := 6) (ret := some .boolean) (by decide) rfl ?_
  intro p e s m args below meth c s₁ B hml hv
  obtain ⟨rfl, hP, hK⟩ := hv
  have hx := B.exec
  have hb := B.bytes
  have hr := B.returns
  have hts := fun w h => atoms_spec (ws := wsX3_isAsked) B.pre w (List.mem_cons_of_mem _ h)
  have hown : s.vm.findClass RX3 = some m.cls := findClass_of_methodNamed B.named
  have hlocks := B.notSynchronized
  have hl := lv_entry ([.ref (h 0), .int (nI q)]) (n := 6) (Nat.le_of_ble_eq_true rfl)
  rw [lg_entry_eq]
  generalize (lg_sl ([.ref (h 0), .int (nI q)]) ++ List.replicate (6 - (lg_sl ([.ref (h 0), .int (nI q)])).length) Slot.unset).toArray = ls at hl ⊢
  have hl : lv_has ls 6 [(0, .ref (h 0)), (1, .int (nI q))] := hl
  refine lv_iconst (v := (nI 0)) hx hb dX3_isAsked_0 (by decide) ?_
  refine lv_istore_n (lv' := [(2, .int (nI 0)), (0, .ref (h 0)), (1, .int (nI q))]) hx hb dX3_isAsked_1 rfl hl (by decide) rfl (fun ls hl => ?_)
  have loop : ∀ (n i : Nat), i + n = kn → ∀ ls : Array Slot, lv_has ls 6 [(2, .int (nI i)), (0, .ref (h 0)), (1, .int (nI q))] → W p l e (headSpec wsX3_isAsked ({ frames := 1, cells := 0, slots := 0, locals := 21 })).room s m ([.ref (h 0), .int (nI q)]).toArray below meth c s.heap [] 0 0 (MQ below (rd_Q (some (.int (bI (allF (cAskP ones av am vals msks q) i n))))) ([.ref (h 0), .int (nI q)]).toArray s 0 0 (fun _ => False)) (F0 m 2 ls []) := by
    intro n
    induction n with
    | zero =>
      intro i hi ls hl
      refine lv_iload_n hx hb dX3_isAsked_2 rfl (lv_at hl 0 rfl) ?_
      refine lv_aload_n hx hb dX3_isAsked_3 rfl (lv_at hl 1 rfl) ?_
      refine va_get (D := (dC, dI)) (ci := 3) (v := .ref (h 1)) (C := RX3) (T := TX3) (N := 9) hx hb hts inX3 hown hK hP 0 rfl rfl 0 (by decide) (hts _ mw120) (fun _ h9 => h9) rfl dX3_isAsked_4 ?_
      refine va_get (D := (dC, dI)) (ci := 2) (v := .int (nI kn)) (C := RX2) (T := TX2) (N := 3) hx hb hts inX2 hown hK hP 1 rfl rfl 2 (by decide) (hts _ mw56) (fun _ h9 => h9) rfl dX3_isAsked_7 ?_
      refine n_ige i kn (tgt := 71) (hexec := hx) (hb := hb) dX3_isAsked_10 (by decide) rfl rfl (by omega) (by omega) (fun c10 => ?_) (fun c10 => absurd c10 (by omega))
      refine lv_iconst (v := 1) hx hb dX3_isAsked_71 (by decide) ?_
      exact rd_iret hx hb hr hlocks dX3_isAsked_72 rfl (rfl)
    | succ n ih =>
      intro i hi ls hl
      refine lv_iload_n hx hb dX3_isAsked_2 rfl (lv_at hl 0 rfl) ?_
      refine lv_aload_n hx hb dX3_isAsked_3 rfl (lv_at hl 1 rfl) ?_
      refine va_get (D := (dC, dI)) (ci := 3) (v := .ref (h 1)) (C := RX3) (T := TX3) (N := 9) hx hb hts inX3 hown hK hP 0 rfl rfl 0 (by decide) (hts _ mw120) (fun _ h9 => h9) rfl dX3_isAsked_4 ?_
      refine va_get (D := (dC, dI)) (ci := 2) (v := .int (nI kn)) (C := RX2) (T := TX2) (N := 3) hx hb hts inX2 hown hK hP 1 rfl rfl 2 (by decide) (hts _ mw56) (fun _ h9 => h9) rfl dX3_isAsked_7 ?_
      refine n_ige i kn (tgt := 71) (hexec := hx) (hb := hb) dX3_isAsked_10 (by decide) rfl rfl (by omega) (by omega) (fun c10 => absurd c10 (by omega)) (fun c10 => ?_)
      refine lv_iload_n hx hb dX3_isAsked_13 rfl (lv_at hl 2 rfl) ?_
      refine lv_iload_n hx hb dX3_isAsked_14 rfl (lv_at hl 0 rfl) ?_
      refine rd_calli (r := (nI (q * 4 + i))) (va_runS (As := [.int (nI q), .int (nI i)]) (rest := []) ⟨hx, hb, hml, hown, hts⟩ (c_X1_place l dC dI cI cL q i) (va_cwS 2 hts (gSo mw378 mw379 mw24 mw380) rfl rfl rfl (by decide +kernel) ⟨Nat.le_of_ble_eq_true rfl, Nat.le_of_ble_eq_true rfl⟩) (rd_preS (hP.sub (ws' := []) [] rfl) hK) rfl rfl hl.1 rfl (lv_room (Nat.le_of_ble_eq_true rfl)) dX3_isAsked_15 ⟨Nat.zero_le _, Nat.zero_le _⟩) ?_
      refine lv_istore_n (lv' := [(3, .int (nI (q * 4 + i))), (2, .int (nI i)), (0, .ref (h 0)), (1, .int (nI q))]) hx hb dX3_isAsked_18 rfl hl (by decide) rfl (fun ls hl => ?_)
      refine lv_aload_n hx hb dX3_isAsked_19 rfl (lv_at hl 2 rfl) ?_
      refine lv_iload_n hx hb dX3_isAsked_20 rfl (lv_at hl 1 rfl) ?_
      refine rd_calll (r := (am i &&& ones i)) (va_runV (As := [.int (nI i)]) (rest := []) ⟨hx, hb, hml, hown, hts⟩ (c_X3_askedMask l dC dI cI cL h kinds ones kn av am vals msks pre pri act dat en held bn wy stt made hashed cap lat i (by omega)) (cwV 1 hts (gV mw362 mw364 mw3 mw22 mw365) rfl rfl rfl (by decide +kernel) ⟨Nat.le_of_ble_eq_true rfl, Nat.le_of_ble_eq_true rfl⟩) (rd_preV (hP.sub (ws' := [(h 0, .inr (3, [.ref (h 1), .ref (h 2), .ref (h 3), .ref (h 4), .ref (h 5), .int (bI made), .int (bI hashed), .int cap, .long lat])), (h 1, .inr (2, [.ref (h 6), .ref (h 7), .int (nI kn)])), (h 2, .inr (1, [.ref (h 8), .ref (h 9), .ref (h 10), .ref (h 11), .ref (h 12), .ref (h 13), .int (nI en)])), (h 3, .inr (0, [.ref (h 14), .int (nI bn), .int wy, .int stt])), (h 4, .inl (cL, 4, .inr (.inl av))), (h 5, .inl (cL, 4, .inr (.inl am))), (h 6, .inl (cI, 4, .inl kinds)), (h 7, .inl (cL, 4, .inr (.inl ones))), (h 8, .inl (cL, 288, .inr (.inl vals))), (h 9, .inl (cL, 288, .inr (.inl msks))), (h 10, .inl (cI, 72, .inl pre)), (h 11, .inl (cI, 72, .inl pri)), (h 12, .inl (cI, 72, .inl act)), (h 13, .inl (cL, 72, .inr (.inl dat))), (h 14, .inl (cI, 16, .inl held))]) [0, 1, 2, 3, 4, 5, 6, 7, 8, 9, 10, 11, 12, 13, 14] rfl) hK (va_recv (ci := 3) hK hP rfl (q0 := 0) rfl)) rfl rfl hl.1 rfl (lv_room (Nat.le_of_ble_eq_true rfl)) dX3_isAsked_21 ⟨Nat.zero_le _, Nat.zero_le _⟩) ?_
      refine lv_lstore (lv' := [(4, .long (am i &&& ones i)), (3, .int (nI (q * 4 + i))), (2, .int (nI i)), (0, .ref (h 0)), (1, .int (nI q))]) hx hb dX3_isAsked_24 hl (by decide) rfl (fun ls hl => ?_)
      refine lv_aload_n hx hb dX3_isAsked_26 rfl (lv_at hl 3 rfl) ?_
      refine va_get (D := (dC, dI)) (ci := 3) (v := .ref (h 2)) (C := RX3) (T := TX3) (N := 9) hx hb hts inX3 hown hK hP 0 rfl rfl 1 (by decide) (hts _ mw121) (fun _ h9 => h9) rfl dX3_isAsked_27 ?_
      refine va_get (D := (dC, dI)) (ci := 1) (v := .ref (h 9)) (C := RX1) (T := TX1) (N := 7) hx hb hts inX1 hown hK hP 2 rfl rfl 1 (by decide) (hts _ mw75) (fun _ h9 => h9) rfl dX3_isAsked_30 ?_
      refine lv_iload_n hx hb dX3_isAsked_33 rfl (lv_at hl 1 rfl) ?_
      refine n_lald hx hb hK hP 9 1 rfl rfl (k := q * 4 + i) rfl (by omega) (by omega) dX3_isAsked_34 ?_
      refine lv_lload hx hb dX3_isAsked_35 (lv_at hl 0 rfl) ?_
      refine n_lne (tgt := 63) hx hb dX3_isAsked_37 dX3_isAsked_38 (by decide) (fun c37 => ?_) (fun c37 => ?_)
      · refine lv_iconst (v := 0) hx hb dX3_isAsked_63 (by decide) ?_
        exact rd_iret hx hb hr hlocks dX3_isAsked_64 rfl (by rw [show allF (cAskP ones av am vals msks q) i (n + 1) = false from allF_f (by simp [cAskP, c37])]; rfl)
      · refine lv_aload_n hx hb dX3_isAsked_41 rfl (lv_at hl 3 rfl) ?_
        refine va_get (D := (dC, dI)) (ci := 3) (v := .ref (h 2)) (C := RX3) (T := TX3) (N := 9) hx hb hts inX3 hown hK hP 0 rfl rfl 1 (by decide) (hts _ mw121) (fun _ h9 => h9) rfl dX3_isAsked_42 ?_
        refine va_get (D := (dC, dI)) (ci := 1) (v := .ref (h 8)) (C := RX1) (T := TX1) (N := 7) hx hb hts inX1 hown hK hP 2 rfl rfl 0 (by decide) (hts _ mw73) (fun _ h9 => h9) rfl dX3_isAsked_45 ?_
        refine lv_iload_n hx hb dX3_isAsked_48 rfl (lv_at hl 1 rfl) ?_
        refine n_lald hx hb hK hP 8 1 rfl rfl (k := q * 4 + i) rfl (by omega) (by omega) dX3_isAsked_49 ?_
        refine lv_aload_n hx hb dX3_isAsked_50 rfl (lv_at hl 3 rfl) ?_
        refine va_get (D := (dC, dI)) (ci := 3) (v := .ref (h 4)) (C := RX3) (T := TX3) (N := 9) hx hb hts inX3 hown hK hP 0 rfl rfl 3 (by decide) (hts _ mw123) (fun _ h9 => h9) rfl dX3_isAsked_51 ?_
        refine lv_iload_n hx hb dX3_isAsked_54 rfl (lv_at hl 2 rfl) ?_
        refine n_lald hx hb hK hP 4 1 rfl rfl (k := i) rfl (by omega) (by omega) dX3_isAsked_55 ?_
        refine lv_lload hx hb dX3_isAsked_56 (lv_at hl 0 rfl) ?_
        refine lv_land hx hb dX3_isAsked_58 ?_
        refine n_leq (tgt := 65) hx hb dX3_isAsked_59 dX3_isAsked_60 (by decide) (fun c59 => ?_) (fun c59 => ?_)
        · rw [show allF (cAskP ones av am vals msks q) i (n + 1) = allF (cAskP ones av am vals msks q) (i + 1) n from allF_t (by simp [cAskP, c37, c59])]
          refine lv_iinc (v := nI (i + 1)) (lv' := [(2, .int (nI (i + 1))), (4, .long (am i &&& ones i)), (3, .int (nI (q * 4 + i))), (0, .ref (h 0)), (1, .int (nI q))]) hx hb dX3_isAsked_65 hl (k := 2) rfl (nI_1 i) (by decide) rfl (fun ls hl => ?_)
          refine lv_goto (tgt := 2) hx hb dX3_isAsked_68 (by decide) ?_
          exact ih (i + 1) (by omega) ls (lv_sub hl [0, 3, 4] rfl)
        · refine lv_iconst (v := 0) hx hb dX3_isAsked_63 (by decide) ?_
          exact rd_iret hx hb hr hlocks dX3_isAsked_64 rfl (by rw [show allF (cAskP ones av am vals msks q) i (n + 1) = false from allF_f (by simp [cAskP, c59])]; rfl)
  exact loop kn 0 (by omega) ls (lv_sub hl [0, 1, 2] rfl)

set_option maxHeartbeats 4000000 in
set_option maxRecDepth 100000 in
/-- fitsAsked -/
theorem c_X3_fitsAsked (l : Launch) (dC : Nat → ClassId) (dI : Nat → Nat → Nat) (cI cL : ClassId) (h : Nat → Nat) (kinds : Nat → Int32) (ones : Nat → Int64) (kn : Nat) (av am : Nat → Int64) (vals msks : Nat → Int64) (pre pri act : Nat → Int32) (dat : Nat → Int64) (en : Nat) (held : Nat → Int32) (bn : Nat) (wy stt : Int32) (made hashed : Bool) (cap : Int32) (lat : Int64) (q : Nat) (hk : kn ≤ 4) (hq : q < 72) : Met l yX3_fitsAsked wsX3_fitsAsked ({ frames := 1, cells := 0, slots := 0, locals := 21 }) (rd_P (dC, dI) vwCl [(cI, .int), (cL, .long)] [(h 0, .inr (3, [.ref (h 1), .ref (h 2), .ref (h 3), .ref (h 4), .ref (h 5), .int (bI made), .int (bI hashed), .int cap, .long lat])), (h 1, .inr (2, [.ref (h 6), .ref (h 7), .int (nI kn)])), (h 2, .inr (1, [.ref (h 8), .ref (h 9), .ref (h 10), .ref (h 11), .ref (h 12), .ref (h 13), .int (nI en)])), (h 3, .inr (0, [.ref (h 14), .int (nI bn), .int wy, .int stt])), (h 4, .inl (cL, 4, .inr (.inl av))), (h 5, .inl (cL, 4, .inr (.inl am))), (h 6, .inl (cI, 4, .inl kinds)), (h 7, .inl (cL, 4, .inr (.inl ones))), (h 8, .inl (cL, 288, .inr (.inl vals))), (h 9, .inl (cL, 288, .inr (.inl msks))), (h 10, .inl (cI, 72, .inl pre)), (h 11, .inl (cI, 72, .inl pri)), (h 12, .inl (cI, 72, .inl act)), (h 13, .inl (cL, 72, .inr (.inl dat))), (h 14, .inl (cI, 16, .inl held))] [.ref (h 0), .int (nI q)]) (rd_Q (some (.int (bI (cFit av vals msks kn q))))) 0 0 (fun _ => False) := by
  refine Met.ofW (cc := cX3_fitsAsked) (maxL := 4) (ret := some .boolean) (by decide) rfl ?_
  intro p e s m args below meth c s₁ B hml hv
  obtain ⟨rfl, hP, hK⟩ := hv
  have hx := B.exec
  have hb := B.bytes
  have hr := B.returns
  have hts := fun w h => atoms_spec (ws := wsX3_fitsAsked) B.pre w (List.mem_cons_of_mem _ h)
  have hown : s.vm.findClass RX3 = some m.cls := findClass_of_methodNamed B.named
  have hlocks := B.notSynchronized
  have hl := lv_entry ([.ref (h 0), .int (nI q)]) (n := 4) (Nat.le_of_ble_eq_true rfl)
  rw [lg_entry_eq]
  generalize (lg_sl ([.ref (h 0), .int (nI q)]) ++ List.replicate (4 - (lg_sl ([.ref (h 0), .int (nI q)])).length) Slot.unset).toArray = ls at hl ⊢
  have hl : lv_has ls 4 [(0, .ref (h 0)), (1, .int (nI q))] := hl
  refine lv_iconst (v := (nI 0)) hx hb dX3_fitsAsked_0 (by decide) ?_
  refine lv_istore_n (lv' := [(2, .int (nI 0)), (0, .ref (h 0)), (1, .int (nI q))]) hx hb dX3_fitsAsked_1 rfl hl (by decide) rfl (fun ls hl => ?_)
  have loop : ∀ (n i : Nat), i + n = kn → ∀ ls : Array Slot, lv_has ls 4 [(2, .int (nI i)), (0, .ref (h 0)), (1, .int (nI q))] → W p l e (headSpec wsX3_fitsAsked ({ frames := 1, cells := 0, slots := 0, locals := 21 })).room s m ([.ref (h 0), .int (nI q)]).toArray below meth c s.heap [] 0 0 (MQ below (rd_Q (some (.int (bI (allF (cFitP av vals msks q) i n))))) ([.ref (h 0), .int (nI q)]).toArray s 0 0 (fun _ => False)) (F0 m 2 ls []) := by
    intro n
    induction n with
    | zero =>
      intro i hi ls hl
      refine lv_iload_n hx hb dX3_fitsAsked_2 rfl (lv_at hl 0 rfl) ?_
      refine lv_aload_n hx hb dX3_fitsAsked_3 rfl (lv_at hl 1 rfl) ?_
      refine va_get (D := (dC, dI)) (ci := 3) (v := .ref (h 1)) (C := RX3) (T := TX3) (N := 9) hx hb hts inX3 hown hK hP 0 rfl rfl 0 (by decide) (hts _ mw120) (fun _ h9 => h9) rfl dX3_fitsAsked_4 ?_
      refine va_get (D := (dC, dI)) (ci := 2) (v := .int (nI kn)) (C := RX2) (T := TX2) (N := 3) hx hb hts inX2 hown hK hP 1 rfl rfl 2 (by decide) (hts _ mw56) (fun _ h9 => h9) rfl dX3_fitsAsked_7 ?_
      refine n_ige i kn (tgt := 56) (hexec := hx) (hb := hb) dX3_fitsAsked_10 (by decide) rfl rfl (by omega) (by omega) (fun c10 => ?_) (fun c10 => absurd c10 (by omega))
      refine lv_iconst (v := 1) hx hb dX3_fitsAsked_56 (by decide) ?_
      exact rd_iret hx hb hr hlocks dX3_fitsAsked_57 rfl (rfl)
    | succ n ih =>
      intro i hi ls hl
      refine lv_iload_n hx hb dX3_fitsAsked_2 rfl (lv_at hl 0 rfl) ?_
      refine lv_aload_n hx hb dX3_fitsAsked_3 rfl (lv_at hl 1 rfl) ?_
      refine va_get (D := (dC, dI)) (ci := 3) (v := .ref (h 1)) (C := RX3) (T := TX3) (N := 9) hx hb hts inX3 hown hK hP 0 rfl rfl 0 (by decide) (hts _ mw120) (fun _ h9 => h9) rfl dX3_fitsAsked_4 ?_
      refine va_get (D := (dC, dI)) (ci := 2) (v := .int (nI kn)) (C := RX2) (T := TX2) (N := 3) hx hb hts inX2 hown hK hP 1 rfl rfl 2 (by decide) (hts _ mw56) (fun _ h9 => h9) rfl dX3_fitsAsked_7 ?_
      refine n_ige i kn (tgt := 56) (hexec := hx) (hb := hb) dX3_fitsAsked_10 (by decide) rfl rfl (by omega) (by omega) (fun c10 => absurd c10 (by omega)) (fun c10 => ?_)
      refine lv_iload_n hx hb dX3_fitsAsked_13 rfl (lv_at hl 2 rfl) ?_
      refine lv_iload_n hx hb dX3_fitsAsked_14 rfl (lv_at hl 0 rfl) ?_
      refine rd_calli (r := (nI (q * 4 + i))) (va_runS (As := [.int (nI q), .int (nI i)]) (rest := []) ⟨hx, hb, hml, hown, hts⟩ (c_X1_place l dC dI cI cL q i) (va_cwS 2 hts (gSo mw378 mw379 mw24 mw380) rfl rfl rfl (by decide +kernel) ⟨Nat.le_of_ble_eq_true rfl, Nat.le_of_ble_eq_true rfl⟩) (rd_preS (hP.sub (ws' := []) [] rfl) hK) rfl rfl hl.1 rfl (lv_room (Nat.le_of_ble_eq_true rfl)) dX3_fitsAsked_15 ⟨Nat.zero_le _, Nat.zero_le _⟩) ?_
      refine lv_istore_n (lv' := [(3, .int (nI (q * 4 + i))), (2, .int (nI i)), (0, .ref (h 0)), (1, .int (nI q))]) hx hb dX3_fitsAsked_18 rfl hl (by decide) rfl (fun ls hl => ?_)
      refine lv_aload_n hx hb dX3_fitsAsked_19 rfl (lv_at hl 2 rfl) ?_
      refine va_get (D := (dC, dI)) (ci := 3) (v := .ref (h 4)) (C := RX3) (T := TX3) (N := 9) hx hb hts inX3 hown hK hP 0 rfl rfl 3 (by decide) (hts _ mw123) (fun _ h9 => h9) rfl dX3_fitsAsked_20 ?_
      refine lv_iload_n hx hb dX3_fitsAsked_23 rfl (lv_at hl 1 rfl) ?_
      refine n_lald hx hb hK hP 4 1 rfl rfl (k := i) rfl (by omega) (by omega) dX3_fitsAsked_24 ?_
      refine lv_aload_n hx hb dX3_fitsAsked_25 rfl (lv_at hl 2 rfl) ?_
      refine va_get (D := (dC, dI)) (ci := 3) (v := .ref (h 2)) (C := RX3) (T := TX3) (N := 9) hx hb hts inX3 hown hK hP 0 rfl rfl 1 (by decide) (hts _ mw121) (fun _ h9 => h9) rfl dX3_fitsAsked_26 ?_
      refine va_get (D := (dC, dI)) (ci := 1) (v := .ref (h 9)) (C := RX1) (T := TX1) (N := 7) hx hb hts inX1 hown hK hP 2 rfl rfl 1 (by decide) (hts _ mw75) (fun _ h9 => h9) rfl dX3_fitsAsked_29 ?_
      refine lv_iload_n hx hb dX3_fitsAsked_32 rfl (lv_at hl 0 rfl) ?_
      refine n_lald hx hb hK hP 9 1 rfl rfl (k := q * 4 + i) rfl (by omega) (by omega) dX3_fitsAsked_33 ?_
      refine lv_land hx hb dX3_fitsAsked_34 ?_
      refine lv_aload_n hx hb dX3_fitsAsked_35 rfl (lv_at hl 2 rfl) ?_
      refine va_get (D := (dC, dI)) (ci := 3) (v := .ref (h 2)) (C := RX3) (T := TX3) (N := 9) hx hb hts inX3 hown hK hP 0 rfl rfl 1 (by decide) (hts _ mw121) (fun _ h9 => h9) rfl dX3_fitsAsked_36 ?_
      refine va_get (D := (dC, dI)) (ci := 1) (v := .ref (h 8)) (C := RX1) (T := TX1) (N := 7) hx hb hts inX1 hown hK hP 2 rfl rfl 0 (by decide) (hts _ mw73) (fun _ h9 => h9) rfl dX3_fitsAsked_39 ?_
      refine lv_iload_n hx hb dX3_fitsAsked_42 rfl (lv_at hl 0 rfl) ?_
      refine n_lald hx hb hK hP 8 1 rfl rfl (k := q * 4 + i) rfl (by omega) (by omega) dX3_fitsAsked_43 ?_
      refine n_leq (tgt := 50) hx hb dX3_fitsAsked_44 dX3_fitsAsked_45 (by decide) (fun c44 => ?_) (fun c44 => ?_)
      · rw [show allF (cFitP av vals msks q) i (n + 1) = allF (cFitP av vals msks q) (i + 1) n from allF_t (by simp [cFitP, c44])]
        refine lv_iinc (v := nI (i + 1)) (lv' := [(2, .int (nI (i + 1))), (3, .int (nI (q * 4 + i))), (0, .ref (h 0)), (1, .int (nI q))]) hx hb dX3_fitsAsked_50 hl (k := 1) rfl (nI_1 i) (by decide) rfl (fun ls hl => ?_)
        refine lv_goto (tgt := 2) hx hb dX3_fitsAsked_53 (by decide) ?_
        exact ih (i + 1) (by omega) ls (lv_sub hl [0, 2, 3] rfl)
      · refine lv_iconst (v := 0) hx hb dX3_fitsAsked_48 (by decide) ?_
        exact rd_iret hx hb hr hlocks dX3_fitsAsked_49 rfl (by rw [show allF (cFitP av vals msks q) i (n + 1) = false from allF_f (by simp [cFitP, c44])]; rfl)
  exact loop kn 0 (by omega) ls (lv_sub hl [0, 1, 2] rfl)

set_option maxHeartbeats 4000000 in
set_option maxRecDepth 100000 in
/-- findAsked -/
theorem c_X3_findAsked (l : Launch) (dC : Nat → ClassId) (dI : Nat → Nat → Nat) (cI cL : ClassId) (h : Nat → Nat) (kinds : Nat → Int32) (ones : Nat → Int64) (kn : Nat) (av am : Nat → Int64) (vals msks : Nat → Int64) (pre pri act : Nat → Int32) (dat : Nat → Int64) (en : Nat) (held : Nat → Int32) (bn : Nat) (wy stt : Int32) (made hashed : Bool) (cap : Int32) (lat : Int64) (hk : kn ≤ 4) (he : en ≤ 72) : Met l yX3_findAsked wsX3_findAsked ({ frames := 2, cells := 0, slots := 0, locals := 46 }) (rd_P (dC, dI) vwCl [(cI, .int), (cL, .long)] [(h 0, .inr (3, [.ref (h 1), .ref (h 2), .ref (h 3), .ref (h 4), .ref (h 5), .int (bI made), .int (bI hashed), .int cap, .long lat])), (h 1, .inr (2, [.ref (h 6), .ref (h 7), .int (nI kn)])), (h 2, .inr (1, [.ref (h 8), .ref (h 9), .ref (h 10), .ref (h 11), .ref (h 12), .ref (h 13), .int (nI en)])), (h 3, .inr (0, [.ref (h 14), .int (nI bn), .int wy, .int stt])), (h 4, .inl (cL, 4, .inr (.inl av))), (h 5, .inl (cL, 4, .inr (.inl am))), (h 6, .inl (cI, 4, .inl kinds)), (h 7, .inl (cL, 4, .inr (.inl ones))), (h 8, .inl (cL, 288, .inr (.inl vals))), (h 9, .inl (cL, 288, .inr (.inl msks))), (h 10, .inl (cI, 72, .inl pre)), (h 11, .inl (cI, 72, .inl pri)), (h 12, .inl (cI, 72, .inl act)), (h 13, .inl (cL, 72, .inr (.inl dat))), (h 14, .inl (cI, 16, .inl held))] [.ref (h 0)]) (rd_Q (some (.int (cFind ones av am vals msks kn en)))) 0 0 (fun _ => False) := by
  refine Met.ofW (cc := cX3_findAsked) (maxL := 2) (ret := some .int) (by decide) rfl ?_
  intro p e s m args below meth c s₁ B hml hv
  obtain ⟨rfl, hP, hK⟩ := hv
  have hx := B.exec
  have hb := B.bytes
  have hr := B.returns
  have hts := fun w h => atoms_spec (ws := wsX3_findAsked) B.pre w (List.mem_cons_of_mem _ h)
  have hown : s.vm.findClass RX3 = some m.cls := findClass_of_methodNamed B.named
  have hlocks := B.notSynchronized
  have hl := lv_entry ([.ref (h 0)]) (n := 2) (Nat.le_of_ble_eq_true rfl)
  rw [lg_entry_eq]
  generalize (lg_sl ([.ref (h 0)]) ++ List.replicate (2 - (lg_sl ([.ref (h 0)])).length) Slot.unset).toArray = ls at hl ⊢
  have hl : lv_has ls 2 [(0, .ref (h 0))] := hl
  refine lv_iconst (v := (nI 0)) hx hb dX3_findAsked_0 (by decide) ?_
  refine lv_istore_n (lv' := [(1, .int (nI 0)), (0, .ref (h 0))]) hx hb dX3_findAsked_1 rfl hl (by decide) rfl (fun ls hl => ?_)
  have loop : ∀ (n i : Nat), i + n = en → ∀ ls : Array Slot, lv_has ls 2 [(1, .int (nI i)), (0, .ref (h 0))] → W p l e (headSpec wsX3_findAsked ({ frames := 2, cells := 0, slots := 0, locals := 46 })).room s m ([.ref (h 0)]).toArray below meth c s.heap [] 0 0 (MQ below (rd_Q (some (.int (findF (cAsk ones av am vals msks kn) i n)))) ([.ref (h 0)]).toArray s 0 0 (fun _ => False)) (F0 m 2 ls []) := by
    intro n
    induction n with
    | zero =>
      intro i hi ls hl
      refine lv_iload_n hx hb dX3_findAsked_2 rfl (lv_at hl 0 rfl) ?_
      refine lv_aload_n hx hb dX3_findAsked_3 rfl (lv_at hl 1 rfl) ?_
      refine va_get (D := (dC, dI)) (ci := 3) (v := .ref (h 2)) (C := RX3) (T := TX3) (N := 9) hx hb hts inX3 hown hK hP 0 rfl rfl 1 (by decide) (hts _ mw121) (fun _ h9 => h9) rfl dX3_findAsked_4 ?_
      refine va_get (D := (dC, dI)) (ci := 1) (v := .int (nI en)) (C := RX1) (T := TX1) (N := 7) hx hb hts inX1 hown hK hP 2 rfl rfl 6 (by decide) (hts _ mw84) (fun _ h9 => h9) rfl dX3_findAsked_7 ?_
      refine n_ige i en (tgt := 29) (hexec := hx) (hb := hb) dX3_findAsked_10 (by decide) rfl rfl (by omega) (by omega) (fun c10 => ?_) (fun c10 => absurd c10 (by omega))
      refine lv_iconst (v := (-1)) hx hb dX3_findAsked_29 (by decide) ?_
      exact rd_iret hx hb hr hlocks dX3_findAsked_30 rfl (rfl)
    | succ n ih =>
      intro i hi ls hl
      refine lv_iload_n hx hb dX3_findAsked_2 rfl (lv_at hl 0 rfl) ?_
      refine lv_aload_n hx hb dX3_findAsked_3 rfl (lv_at hl 1 rfl) ?_
      refine va_get (D := (dC, dI)) (ci := 3) (v := .ref (h 2)) (C := RX3) (T := TX3) (N := 9) hx hb hts inX3 hown hK hP 0 rfl rfl 1 (by decide) (hts _ mw121) (fun _ h9 => h9) rfl dX3_findAsked_4 ?_
      refine va_get (D := (dC, dI)) (ci := 1) (v := .int (nI en)) (C := RX1) (T := TX1) (N := 7) hx hb hts inX1 hown hK hP 2 rfl rfl 6 (by decide) (hts _ mw84) (fun _ h9 => h9) rfl dX3_findAsked_7 ?_
      refine n_ige i en (tgt := 29) (hexec := hx) (hb := hb) dX3_findAsked_10 (by decide) rfl rfl (by omega) (by omega) (fun c10 => absurd c10 (by omega)) (fun c10 => ?_)
      refine lv_aload_n hx hb dX3_findAsked_13 rfl (lv_at hl 1 rfl) ?_
      refine lv_iload_n hx hb dX3_findAsked_14 rfl (lv_at hl 0 rfl) ?_
      refine rd_calli (r := (bI (cAsk ones av am vals msks kn i))) (va_runV (As := [.int (nI i)]) (rest := []) ⟨hx, hb, hml, hown, hts⟩ (c_X3_isAsked l dC dI cI cL h kinds ones kn av am vals msks pre pri act dat en held bn wy stt made hashed cap lat i hk (by omega)) (cwV 1 hts (gV mw374 mw376 mw5 mw22 mw377) rfl rfl rfl (by decide +kernel) ⟨Nat.le_of_ble_eq_true rfl, Nat.le_of_ble_eq_true rfl⟩) (rd_preV (hP.sub (ws' := [(h 0, .inr (3, [.ref (h 1), .ref (h 2), .ref (h 3), .ref (h 4), .ref (h 5), .int (bI made), .int (bI hashed), .int cap, .long lat])), (h 1, .inr (2, [.ref (h 6), .ref (h 7), .int (nI kn)])), (h 2, .inr (1, [.ref (h 8), .ref (h 9), .ref (h 10), .ref (h 11), .ref (h 12), .ref (h 13), .int (nI en)])), (h 3, .inr (0, [.ref (h 14), .int (nI bn), .int wy, .int stt])), (h 4, .inl (cL, 4, .inr (.inl av))), (h 5, .inl (cL, 4, .inr (.inl am))), (h 6, .inl (cI, 4, .inl kinds)), (h 7, .inl (cL, 4, .inr (.inl ones))), (h 8, .inl (cL, 288, .inr (.inl vals))), (h 9, .inl (cL, 288, .inr (.inl msks))), (h 10, .inl (cI, 72, .inl pre)), (h 11, .inl (cI, 72, .inl pri)), (h 12, .inl (cI, 72, .inl act)), (h 13, .inl (cL, 72, .inr (.inl dat))), (h 14, .inl (cI, 16, .inl held))]) [0, 1, 2, 3, 4, 5, 6, 7, 8, 9, 10, 11, 12, 13, 14] rfl) hK (va_recv (ci := 3) hK hP rfl (q0 := 0) rfl)) rfl rfl hl.1 rfl (lv_room (Nat.le_of_ble_eq_true rfl)) dX3_findAsked_15 ⟨Nat.zero_le _, Nat.zero_le _⟩) ?_
      refine lv_if_eq (tgt := 23) hx hb dX3_findAsked_18 (by decide) (fun c18 => ?_) (fun c18 => ?_)
      · rw [show findF (cAsk ones av am vals msks kn) i (n + 1) = findF (cAsk ones av am vals msks kn) (i + 1) n from findF_f (bI_eq c18)]
        refine lv_iinc (v := nI (i + 1)) (lv' := [(1, .int (nI (i + 1))), (0, .ref (h 0))]) hx hb dX3_findAsked_23 hl (k := 0) rfl (nI_1 i) (by decide) rfl (fun ls hl => ?_)
        refine lv_goto (tgt := 2) hx hb dX3_findAsked_26 (by decide) ?_
        exact ih (i + 1) (by omega) ls (lv_sub hl [0, 1] rfl)
      · refine lv_iload_n hx hb dX3_findAsked_21 rfl (lv_at hl 0 rfl) ?_
        exact rd_iret hx hb hr hlocks dX3_findAsked_22 rfl (by rw [show findF (cAsk ones av am vals msks kn) i (n + 1) = nI i from findF_t (bI_ne c18)])
  exact loop en 0 (by omega) ls (lv_sub hl [0, 1] rfl)

set_option maxHeartbeats 4000000 in
set_option maxRecDepth 100000 in
/-- bucket -/
theorem c_X3_bucket (l : Launch) (dC : Nat → ClassId) (dI : Nat → Nat → Nat) (cI cL : ClassId) (h : Nat → Nat) (kinds : Nat → Int32) (ones : Nat → Int64) (kn : Nat) (av am : Nat → Int64) (vals msks : Nat → Int64) (pre pri act : Nat → Int32) (dat : Nat → Int64) (en : Nat) (held : Nat → Int32) (bn : Nat) (wy stt : Int32) (made hashed : Bool) (cap : Int32) (lat : Int64) (hk : kn ≤ 4) (hbn : bn ≤ 16) : Met l yX3_bucket wsX3_bucket ({ frames := 1, cells := 0, slots := 0, locals := 22 }) (rd_P (dC, dI) vwCl [(cI, .int), (cL, .long)] [(h 0, .inr (3, [.ref (h 1), .ref (h 2), .ref (h 3), .ref (h 4), .ref (h 5), .int (bI made), .int (bI hashed), .int cap, .long lat])), (h 1, .inr (2, [.ref (h 6), .ref (h 7), .int (nI kn)])), (h 2, .inr (1, [.ref (h 8), .ref (h 9), .ref (h 10), .ref (h 11), .ref (h 12), .ref (h 13), .int (nI en)])), (h 3, .inr (0, [.ref (h 14), .int (nI bn), .int wy, .int stt])), (h 4, .inl (cL, 4, .inr (.inl av))), (h 5, .inl (cL, 4, .inr (.inl am))), (h 6, .inl (cI, 4, .inl kinds)), (h 7, .inl (cL, 4, .inr (.inl ones))), (h 8, .inl (cL, 288, .inr (.inl vals))), (h 9, .inl (cL, 288, .inr (.inl msks))), (h 10, .inl (cI, 72, .inl pre)), (h 11, .inl (cI, 72, .inl pri)), (h 12, .inl (cI, 72, .inl act)), (h 13, .inl (cL, 72, .inr (.inl dat))), (h 14, .inl (cI, 16, .inl held))] [.ref (h 0)]) (rd_Q (some (.int (cBucket ones av kn bn hashed)))) 0 0 (fun _ => False) := by
  refine Met.ofW (cc := cX3_bucket) (maxL := 6) (ret := some .int) (by decide) rfl ?_
  intro p e s m args below meth c s₁ B hml hv
  obtain ⟨rfl, hP, hK⟩ := hv
  have hx := B.exec
  have hb := B.bytes
  have hr := B.returns
  have hts := fun w h => atoms_spec (ws := wsX3_bucket) B.pre w (List.mem_cons_of_mem _ h)
  have hown : s.vm.findClass RX3 = some m.cls := findClass_of_methodNamed B.named
  have hlocks := B.notSynchronized
  have hl := lv_entry ([.ref (h 0)]) (n := 6) (Nat.le_of_ble_eq_true rfl)
  rw [lg_entry_eq]
  generalize (lg_sl ([.ref (h 0)]) ++ List.replicate (6 - (lg_sl ([.ref (h 0)])).length) Slot.unset).toArray = ls at hl ⊢
  have hl : lv_has ls 6 [(0, .ref (h 0))] := hl
  refine lv_aload_n hx hb dX3_bucket_0 rfl (lv_at hl 0 rfl) ?_
  refine va_get (D := (dC, dI)) (ci := 3) (v := .int (bI hashed)) (C := RX3) (T := TX3) (N := 9) hx hb hts inX3 hown hK hP 0 rfl rfl 6 (by decide) (hts _ mw126) (fun _ h9 => h9) rfl dX3_bucket_1 ?_
  refine lv_if_ne (tgt := 9) hx hb dX3_bucket_4 (by decide) (fun c4 => ?_) (fun c4 => ?_)
  · refine lv_lconst (v := 0) hx hb dX3_bucket_9 (by decide) ?_
    refine lv_lstore_n (lv' := [(1, .long 0), (0, .ref (h 0))]) hx hb dX3_bucket_10 rfl hl (by decide) rfl (fun ls hl => ?_)
    refine lv_iconst (v := (nI 0)) hx hb dX3_bucket_11 (by decide) ?_
    refine lv_istore_n (lv' := [(3, .int (nI 0)), (1, .long 0), (0, .ref (h 0))]) hx hb dX3_bucket_12 rfl hl (by decide) rfl (fun ls hl => ?_)
    have loop : ∀ (n i : Nat) (x : Int64), i + n = kn → ∀ ls : Array Slot, lv_has ls 6 [(3, .int (nI i)), (1, .long x), (0, .ref (h 0))] → W p l e (headSpec wsX3_bucket ({ frames := 1, cells := 0, slots := 0, locals := 22 })).room s m ([.ref (h 0)]).toArray below meth c s.heap [] 0 0 (MQ below (rd_Q (some (.int (bIndex bn (hMix (hashF (fun k => av k &&& ones k) x i n)))))) ([.ref (h 0)]).toArray s 0 0 (fun _ => False)) (F0 m 13 ls []) := by
      intro n
      induction n with
      | zero =>
        intro i x hi ls hl
        refine lv_iload_n hx hb dX3_bucket_13 rfl (lv_at hl 0 rfl) ?_
        refine lv_aload_n hx hb dX3_bucket_14 rfl (lv_at hl 2 rfl) ?_
        refine va_get (D := (dC, dI)) (ci := 3) (v := .ref (h 1)) (C := RX3) (T := TX3) (N := 9) hx hb hts inX3 hown hK hP 0 rfl rfl 0 (by decide) (hts _ mw120) (fun _ h9 => h9) rfl dX3_bucket_15 ?_
        refine va_get (D := (dC, dI)) (ci := 2) (v := .int (nI kn)) (C := RX2) (T := TX2) (N := 3) hx hb hts inX2 hown hK hP 1 rfl rfl 2 (by decide) (hts _ mw56) (fun _ h9 => h9) rfl dX3_bucket_18 ?_
        refine n_ige i kn (tgt := 69) (hexec := hx) (hb := hb) dX3_bucket_21 (by decide) rfl rfl (by omega) (by omega) (fun c21 => ?_) (fun c21 => absurd c21 (by omega))
        refine lv_aload_n hx hb dX3_bucket_69 rfl (lv_at hl 2 rfl) ?_
        refine va_get (D := (dC, dI)) (ci := 3) (v := .ref (h 3)) (C := RX3) (T := TX3) (N := 9) hx hb hts inX3 hown hK hP 0 rfl rfl 2 (by decide) (hts _ mw122) (fun _ h9 => h9) rfl dX3_bucket_70 ?_
        refine lv_lload_n hx hb dX3_bucket_73 rfl (lv_at hl 1 rfl) ?_
        refine lv_lload_n hx hb dX3_bucket_74 rfl (lv_at hl 1 rfl) ?_
        refine lv_bipush (v := 20) hx hb dX3_bucket_75 (by decide) ?_
        refine lv_lushr (v := ush x 20) hx hb dX3_bucket_77 rfl ?_
        refine lv_lxor hx hb dX3_bucket_78 ?_
        refine lv_lload_n hx hb dX3_bucket_79 rfl (lv_at hl 1 rfl) ?_
        refine lv_bipush (v := 7) hx hb dX3_bucket_80 (by decide) ?_
        refine lv_lushr (v := ush x 7) hx hb dX3_bucket_82 rfl ?_
        refine lv_lxor hx hb dX3_bucket_83 ?_
        refine rd_calli (r := (bIndex bn (hMix x))) (va_runV (As := [.long ((x ^^^ (ush x 20)) ^^^ (ush x 7))]) (rest := []) ⟨hx, hb, hml, hown, hts⟩ (c_X0_indexOf l dC dI cI cL (h 3) (h 14) held bn wy stt (hMix x) hbn) (cwV 1 hts (gV mw171 mw172 mw173 mw25 mw174) rfl rfl rfl (by decide +kernel) ⟨Nat.le_of_ble_eq_true rfl, Nat.le_of_ble_eq_true rfl⟩) (rd_preV (hP.sub (ws' := [(h 3, .inr (0, [.ref (h 14), .int (nI bn), .int wy, .int stt])), (h 14, .inl (cI, 16, .inl held))]) [3, 14] rfl) hK (va_recv (ci := 0) hK hP rfl (q0 := 3) rfl)) rfl rfl hl.1 rfl (lv_room (Nat.le_of_ble_eq_true rfl)) dX3_bucket_84 ⟨Nat.zero_le _, Nat.zero_le _⟩) ?_
        exact rd_iret hx hb hr hlocks dX3_bucket_87 rfl (rfl)
      | succ n ih =>
        intro i x hi ls hl
        refine lv_iload_n hx hb dX3_bucket_13 rfl (lv_at hl 0 rfl) ?_
        refine lv_aload_n hx hb dX3_bucket_14 rfl (lv_at hl 2 rfl) ?_
        refine va_get (D := (dC, dI)) (ci := 3) (v := .ref (h 1)) (C := RX3) (T := TX3) (N := 9) hx hb hts inX3 hown hK hP 0 rfl rfl 0 (by decide) (hts _ mw120) (fun _ h9 => h9) rfl dX3_bucket_15 ?_
        refine va_get (D := (dC, dI)) (ci := 2) (v := .int (nI kn)) (C := RX2) (T := TX2) (N := 3) hx hb hts inX2 hown hK hP 1 rfl rfl 2 (by decide) (hts _ mw56) (fun _ h9 => h9) rfl dX3_bucket_18 ?_
        refine n_ige i kn (tgt := 69) (hexec := hx) (hb := hb) dX3_bucket_21 (by decide) rfl rfl (by omega) (by omega) (fun c21 => absurd c21 (by omega)) (fun c21 => ?_)
        refine lv_aload_n hx hb dX3_bucket_24 rfl (lv_at hl 2 rfl) ?_
        refine va_get (D := (dC, dI)) (ci := 3) (v := .ref (h 4)) (C := RX3) (T := TX3) (N := 9) hx hb hts inX3 hown hK hP 0 rfl rfl 3 (by decide) (hts _ mw123) (fun _ h9 => h9) rfl dX3_bucket_25 ?_
        refine lv_iload_n hx hb dX3_bucket_28 rfl (lv_at hl 0 rfl) ?_
        refine n_lald hx hb hK hP 4 1 rfl rfl (k := i) rfl (by omega) (by omega) dX3_bucket_29 ?_
        refine lv_aload_n hx hb dX3_bucket_30 rfl (lv_at hl 2 rfl) ?_
        refine va_get (D := (dC, dI)) (ci := 3) (v := .ref (h 1)) (C := RX3) (T := TX3) (N := 9) hx hb hts inX3 hown hK hP 0 rfl rfl 0 (by decide) (hts _ mw120) (fun _ h9 => h9) rfl dX3_bucket_31 ?_
        refine va_get (D := (dC, dI)) (ci := 2) (v := .ref (h 7)) (C := RX2) (T := TX2) (N := 3) hx hb hts inX2 hown hK hP 1 rfl rfl 1 (by decide) (hts _ mw54) (fun _ h9 => h9) rfl dX3_bucket_34 ?_
        refine lv_iload_n hx hb dX3_bucket_37 rfl (lv_at hl 0 rfl) ?_
        refine n_lald hx hb hK hP 7 1 rfl rfl (k := i) rfl (by omega) (by omega) dX3_bucket_38 ?_
        refine lv_land hx hb dX3_bucket_39 ?_
        refine lv_lstore (lv' := [(4, .long ((av i) &&& (ones i))), (3, .int (nI i)), (1, .long x), (0, .ref (h 0))]) hx hb dX3_bucket_40 hl (by decide) rfl (fun ls hl => ?_)
        refine lv_ldc2 (v := 31) hx hb hown (hts _ mw170) dX3_bucket_42 ?_
        refine lv_lload_n hx hb dX3_bucket_45 rfl (lv_at hl 2 rfl) ?_
        refine lv_lmul hx hb dX3_bucket_46 ?_
        refine lv_lload hx hb dX3_bucket_47 (lv_at hl 0 rfl) ?_
        refine lv_lload hx hb dX3_bucket_49 (lv_at hl 0 rfl) ?_
        refine lv_bipush (v := 32) hx hb dX3_bucket_51 (by decide) ?_
        refine lv_lushr (v := ush ((av i) &&& (ones i)) 32) hx hb dX3_bucket_53 rfl ?_
        refine lv_lxor hx hb dX3_bucket_54 ?_
        refine lv_lload hx hb dX3_bucket_55 (lv_at hl 0 rfl) ?_
        refine lv_bipush (v := 17) hx hb dX3_bucket_57 (by decide) ?_
        refine lv_lushr (v := ush ((av i) &&& (ones i)) 17) hx hb dX3_bucket_59 rfl ?_
        refine lv_lxor hx hb dX3_bucket_60 ?_
        refine lv_ladd hx hb dX3_bucket_61 ?_
        refine lv_lstore_n (lv' := [(1, .long (hStep x (av i &&& ones i))), (4, .long ((av i) &&& (ones i))), (3, .int (nI i)), (0, .ref (h 0))]) hx hb dX3_bucket_62 rfl hl (by decide) rfl (fun ls hl => ?_)
        refine lv_iinc (v := nI (i + 1)) (lv' := [(3, .int (nI (i + 1))), (1, .long (hStep x (av i &&& ones i))), (4, .long ((av i) &&& (ones i))), (0, .ref (h 0))]) hx hb dX3_bucket_63 hl (k := 2) rfl (nI_1 i) (by decide) rfl (fun ls hl => ?_)
        refine lv_goto (tgt := 13) hx hb dX3_bucket_66 (by decide) ?_
        exact ih (i + 1) _ (by omega) ls (lv_sub hl [0, 1, 3] rfl)
    rw [show cBucket ones av kn bn hashed = bIndex bn (hMix (hashF (fun k => av k &&& ones k) 0 0 kn)) from by unfold cBucket; rw [bI_ne c4]; rfl]
    exact loop kn 0 0 (by omega) ls (lv_sub hl [0, 1, 2] rfl)
  · refine lv_iconst (v := (-1)) hx hb dX3_bucket_7 (by decide) ?_
    exact rd_iret hx hb hr hlocks dX3_bucket_8 rfl (by unfold cBucket; rw [bI_eq c4]; rfl)

set_option maxHeartbeats 4000000 in
set_option maxRecDepth 100000 in
/-- hasRoom -/
theorem c_X3_hasRoom (l : Launch) (dC : Nat → ClassId) (dI : Nat → Nat → Nat) (cI cL : ClassId) (h : Nat → Nat) (kinds : Nat → Int32) (ones : Nat → Int64) (kn : Nat) (av am : Nat → Int64) (vals msks : Nat → Int64) (pre pri act : Nat → Int32) (dat : Nat → Int64) (en : Nat) (held : Nat → Int32) (bn : Nat) (wy stt : Int32) (made hashed : Bool) (cap : Int32) (lat : Int64) (hk : kn ≤ 4) (hbn : bn ≤ 16) : Met l yX3_hasRoom wsX3_hasRoom ({ frames := 3, cells := 0, slots := 0, locals := 59 }) (rd_P (dC, dI) vwCl [(cI, .int), (cL, .long)] [(h 0, .inr (3, [.ref (h 1), .ref (h 2), .ref (h 3), .ref (h 4), .ref (h 5), .int (bI made), .int (bI hashed), .int cap, .long lat])), (h 1, .inr (2, [.ref (h 6), .ref (h 7), .int (nI kn)])), (h 2, .inr (1, [.ref (h 8), .ref (h 9), .ref (h 10), .ref (h 11), .ref (h 12), .ref (h 13), .int (nI en)])), (h 3, .inr (0, [.ref (h 14), .int (nI bn), .int wy, .int stt])), (h 4, .inl (cL, 4, .inr (.inl av))), (h 5, .inl (cL, 4, .inr (.inl am))), (h 6, .inl (cI, 4, .inl kinds)), (h 7, .inl (cL, 4, .inr (.inl ones))), (h 8, .inl (cL, 288, .inr (.inl vals))), (h 9, .inl (cL, 288, .inr (.inl msks))), (h 10, .inl (cI, 72, .inl pre)), (h 11, .inl (cI, 72, .inl pri)), (h 12, .inl (cI, 72, .inl act)), (h 13, .inl (cL, 72, .inr (.inl dat))), (h 14, .inl (cI, 16, .inl held))] [.ref (h 0)]) (rd_Q (some (.int (bI (cRoom ones av kn en held bn wy stt hashed cap))))) 0 0 (fun _ => False) := by
  refine Met.ofW (cc := cX3_hasRoom) (maxL := 1) (ret := some .boolean) (by decide) rfl ?_
  intro p e s m args below meth c s₁ B hml hv
  obtain ⟨rfl, hP, hK⟩ := hv
  have hx := B.exec
  have hb := B.bytes
  have hr := B.returns
  have hts := fun w h => atoms_spec (ws := wsX3_hasRoom) B.pre w (List.mem_cons_of_mem _ h)
  have hown : s.vm.findClass RX3 = some m.cls := findClass_of_methodNamed B.named
  have hlocks := B.notSynchronized
  have hl := lv_entry ([.ref (h 0)]) (n := 1) (Nat.le_of_ble_eq_true rfl)
  rw [lg_entry_eq]
  generalize (lg_sl ([.ref (h 0)]) ++ List.replicate (1 - (lg_sl ([.ref (h 0)])).length) Slot.unset).toArray = ls at hl ⊢
  have hl : lv_has ls 1 [(0, .ref (h 0))] := hl
  refine lv_aload_n hx hb dX3_hasRoom_0 rfl (lv_at hl 0 rfl) ?_
  refine va_get (D := (dC, dI)) (ci := 3) (v := .ref (h 2)) (C := RX3) (T := TX3) (N := 9) hx hb hts inX3 hown hK hP 0 rfl rfl 1 (by decide) (hts _ mw121) (fun _ h9 => h9) rfl dX3_hasRoom_1 ?_
  refine va_get (D := (dC, dI)) (ci := 1) (v := .int (nI en)) (C := RX1) (T := TX1) (N := 7) hx hb hts inX1 hown hK hP 2 rfl rfl 6 (by decide) (hts _ mw84) (fun _ h9 => h9) rfl dX3_hasRoom_4 ?_
  refine lv_aload_n hx hb dX3_hasRoom_7 rfl (lv_at hl 0 rfl) ?_
  refine va_get (D := (dC, dI)) (ci := 3) (v := .int cap) (C := RX3) (T := TX3) (N := 9) hx hb hts inX3 hown hK hP 0 rfl rfl 7 (by decide) (hts _ mw127) (fun _ h9 => h9) rfl dX3_hasRoom_8 ?_
  refine lv_icmp_ge (tgt := 39) hx hb dX3_hasRoom_11 (by decide) (fun c11 => ?_) (fun c11 => ?_)
  · refine lv_iconst (v := 0) hx hb dX3_hasRoom_39 (by decide) ?_
    exact rd_iret hx hb hr hlocks dX3_hasRoom_40 rfl (by unfold cRoom; rw [decide_eq_false (Int32.not_lt.mpr c11)]; rfl)
  · refine lv_aload_n hx hb dX3_hasRoom_14 rfl (lv_at hl 0 rfl) ?_
    refine va_get (D := (dC, dI)) (ci := 3) (v := .int (bI hashed)) (C := RX3) (T := TX3) (N := 9) hx hb hts inX3 hown hK hP 0 rfl rfl 6 (by decide) (hts _ mw126) (fun _ h9 => h9) rfl dX3_hasRoom_15 ?_
    refine lv_if_eq (tgt := 35) hx hb dX3_hasRoom_18 (by decide) (fun c18 => ?_) (fun c18 => ?_)
    · refine lv_iconst (v := 1) hx hb dX3_hasRoom_35 (by decide) ?_
      refine lv_goto (tgt := 40) hx hb dX3_hasRoom_36 (by decide) ?_
      exact rd_iret hx hb hr hlocks dX3_hasRoom_40 rfl (by unfold cRoom; rw [decide_eq_true (Int32.not_le.mp c11), bI_eq c18]; rfl)
    · refine lv_aload_n hx hb dX3_hasRoom_21 rfl (lv_at hl 0 rfl) ?_
      refine va_get (D := (dC, dI)) (ci := 3) (v := .ref (h 3)) (C := RX3) (T := TX3) (N := 9) hx hb hts inX3 hown hK hP 0 rfl rfl 2 (by decide) (hts _ mw122) (fun _ h9 => h9) rfl dX3_hasRoom_22 ?_
      refine lv_aload_n hx hb dX3_hasRoom_25 rfl (lv_at hl 0 rfl) ?_
      refine rd_calli (r := (cBucket ones av kn bn hashed)) (va_runV (As := []) (rest := [.ref (h 3)]) ⟨hx, hb, hml, hown, hts⟩ (c_X3_bucket l dC dI cI cL h kinds ones kn av am vals msks pre pri act dat en held bn wy stt made hashed cap lat hk hbn) (cwV 0 hts (gV mw385 mw167 mw168 mw22 mw169) rfl rfl rfl (by decide +kernel) ⟨Nat.le_of_ble_eq_true rfl, Nat.le_of_ble_eq_true rfl⟩) (rd_preV (hP.sub (ws' := [(h 0, .inr (3, [.ref (h 1), .ref (h 2), .ref (h 3), .ref (h 4), .ref (h 5), .int (bI made), .int (bI hashed), .int cap, .long lat])), (h 1, .inr (2, [.ref (h 6), .ref (h 7), .int (nI kn)])), (h 2, .inr (1, [.ref (h 8), .ref (h 9), .ref (h 10), .ref (h 11), .ref (h 12), .ref (h 13), .int (nI en)])), (h 3, .inr (0, [.ref (h 14), .int (nI bn), .int wy, .int stt])), (h 4, .inl (cL, 4, .inr (.inl av))), (h 5, .inl (cL, 4, .inr (.inl am))), (h 6, .inl (cI, 4, .inl kinds)), (h 7, .inl (cL, 4, .inr (.inl ones))), (h 8, .inl (cL, 288, .inr (.inl vals))), (h 9, .inl (cL, 288, .inr (.inl msks))), (h 10, .inl (cI, 72, .inl pre)), (h 11, .inl (cI, 72, .inl pri)), (h 12, .inl (cI, 72, .inl act)), (h 13, .inl (cL, 72, .inr (.inl dat))), (h 14, .inl (cI, 16, .inl held))]) [0, 1, 2, 3, 4, 5, 6, 7, 8, 9, 10, 11, 12, 13, 14] rfl) hK (va_recv (ci := 3) hK hP rfl (q0 := 0) rfl)) rfl rfl hl.1 rfl (lv_room (Nat.le_of_ble_eq_true rfl)) dX3_hasRoom_26 ⟨Nat.zero_le _, Nat.zero_le _⟩) ?_
      refine rd_calli (r := (bI (bRoom held bn wy stt (cBucket ones av kn bn hashed)))) (va_runV (As := [.int (cBucket ones av kn bn hashed)]) (rest := []) ⟨hx, hb, hml, hown, hts⟩ (c_X0_haveRoom l dC dI cI cL (h 3) (h 14) held bn wy stt (cBucket ones av kn bn hashed) hbn) (cwV 1 hts (gV mw386 mw387 mw388 mw25 mw389) rfl rfl rfl (by decide +kernel) ⟨Nat.le_of_ble_eq_true rfl, Nat.le_of_ble_eq_true rfl⟩) (rd_preV (hP.sub (ws' := [(h 3, .inr (0, [.ref (h 14), .int (nI bn), .int wy, .int stt])), (h 14, .inl (cI, 16, .inl held))]) [3, 14] rfl) hK (va_recv (ci := 0) hK hP rfl (q0 := 3) rfl)) rfl rfl hl.1 rfl (lv_room (Nat.le_of_ble_eq_true rfl)) dX3_hasRoom_29 ⟨Nat.zero_le _, Nat.zero_le _⟩) ?_
      refine lv_if_eq (tgt := 39) hx hb dX3_hasRoom_32 (by decide) (fun c32 => ?_) (fun c32 => ?_)
      · refine lv_iconst (v := 0) hx hb dX3_hasRoom_39 (by decide) ?_
        exact rd_iret hx hb hr hlocks dX3_hasRoom_40 rfl (by unfold cRoom; rw [bI_eq c32, bI_ne c18, decide_eq_true (Int32.not_le.mp c11)]; rfl)
      · refine lv_iconst (v := 1) hx hb dX3_hasRoom_35 (by decide) ?_
        refine lv_goto (tgt := 40) hx hb dX3_hasRoom_36 (by decide) ?_
        exact rd_iret hx hb hr hlocks dX3_hasRoom_40 rfl (by unfold cRoom; rw [bI_ne c32, decide_eq_true (Int32.not_le.mp c11), Bool.or_true]; rfl)
end
section
/-! wt2 -/
set_option maxHeartbeats 4000000 in
set_option maxRecDepth 100000 in
/-- count -/
theorem c_X3_count (l : Launch) (dC : Nat → ClassId) (dI : Nat → Nat → Nat) (cI cL : ClassId) (h : Nat → Nat) (kinds : Nat → Int32) (ones : Nat → Int64) (kn : Nat) (av am : Nat → Int64) (vals msks : Nat → Int64) (pre pri act : Nat → Int32) (dat : Nat → Int64) (en : Nat) (held : Nat → Int32) (bn : Nat) (wy stt : Int32) (made hashed : Bool) (cap : Int32) (lat : Int64) (what : Int32) (hbn : bn ≤ 16) : Met l yX3_count wsX3_count ({ frames := 2, cells := 0, slots := 0, locals := 38 }) (rd_P (dC, dI) vwCl [(cI, .int), (cL, .long)] [(h 0, .inr (3, [.ref (h 1), .ref (h 2), .ref (h 3), .ref (h 4), .ref (h 5), .int (bI made), .int (bI hashed), .int cap, .long lat])), (h 1, .inr (2, [.ref (h 6), .ref (h 7), .int (nI kn)])), (h 2, .inr (1, [.ref (h 8), .ref (h 9), .ref (h 10), .ref (h 11), .ref (h 12), .ref (h 13), .int (nI en)])), (h 3, .inr (0, [.ref (h 14), .int (nI bn), .int wy, .int stt])), (h 4, .inl (cL, 4, .inr (.inl av))), (h 5, .inl (cL, 4, .inr (.inl am))), (h 6, .inl (cI, 4, .inl kinds)), (h 7, .inl (cL, 4, .inr (.inl ones))), (h 8, .inl (cL, 288, .inr (.inl vals))), (h 9, .inl (cL, 288, .inr (.inl msks))), (h 10, .inl (cI, 72, .inl pre)), (h 11, .inl (cI, 72, .inl pri)), (h 12, .inl (cI, 72, .inl act)), (h 13, .inl (cL, 72, .inr (.inl dat))), (h 14, .inl (cI, 16, .inl held))] [.ref (h 0), .int what]) (rd_Q (some (.int (cCount kn en held bn wy made cap what)))) 0 0 (fun _ => False) := by
  refine Met.ofW (cc := cX3_count) (maxL := 2) (ret := some .int) (by decide) rfl ?_
  intro p e s m args below meth c s₁ B hml hv
  obtain ⟨rfl, hP, hK⟩ := hv
  have hx := B.exec
  have hb := B.bytes
  have hr := B.returns
  have hts := fun w h => atoms_spec (ws := wsX3_count) B.pre w (List.mem_cons_of_mem _ h)
  have hown : s.vm.findClass RX3 = some m.cls := findClass_of_methodNamed B.named
  have hlocks := B.notSynchronized
  have hl := lv_entry ([.ref (h 0), .int what]) (n := 2) (Nat.le_of_ble_eq_true rfl)
  rw [lg_entry_eq]
  generalize (lg_sl ([.ref (h 0), .int what]) ++ List.replicate (2 - (lg_sl ([.ref (h 0), .int what])).length) Slot.unset).toArray = ls at hl ⊢
  have hl : lv_has ls 2 [(0, .ref (h 0)), (1, .int what)] := hl
  refine lv_iload_n hx hb dX3_count_0 rfl (lv_at hl 1 rfl) ?_
  refine lv_iconst (v := 2) hx hb dX3_count_1 (by decide) ?_
  refine lv_icmp_ne (tgt := 13) hx hb dX3_count_2 (by decide) (fun c2 => ?_) (fun c2 => ?_)
  · refine lv_aload_n hx hb dX3_count_13 rfl (lv_at hl 0 rfl) ?_
    refine va_get (D := (dC, dI)) (ci := 3) (v := .int (bI made)) (C := RX3) (T := TX3) (N := 9) hx hb hts inX3 hown hK hP 0 rfl rfl 5 (by decide) (hts _ mw125) (fun _ h9 => h9) rfl dX3_count_14 ?_
    refine lv_if_ne (tgt := 22) hx hb dX3_count_17 (by decide) (fun c17 => ?_) (fun c17 => ?_)
    · refine lv_iload_n hx hb dX3_count_22 rfl (lv_at hl 1 rfl) ?_
      by_cases w0 : what = 0
      · subst w0
        refine lv_tableIn (off := 29) (tgt := 52) hx hb dX3_count_23 (by decide) (by decide) (by decide) (by decide) ?_
        refine lv_aload_n hx hb dX3_count_52 rfl (lv_at hl 0 rfl) ?_
        refine va_get (D := (dC, dI)) (ci := 3) (v := .ref (h 2)) (C := RX3) (T := TX3) (N := 9) hx hb hts inX3 hown hK hP 0 rfl rfl 1 (by decide) (hts _ mw121) (fun _ h9 => h9) rfl dX3_count_53 ?_
        refine va_get (D := (dC, dI)) (ci := 1) (v := .int (nI en)) (C := RX1) (T := TX1) (N := 7) hx hb hts inX1 hown hK hP 2 rfl rfl 6 (by decide) (hts _ mw84) (fun _ h9 => h9) rfl dX3_count_56 ?_
        exact rd_iret hx hb hr hlocks dX3_count_59 rfl (by unfold cCount; rw [if_neg (by decide), bI_ne c17]; rfl)
      · by_cases w1 : what = 1
        · subst w1
          refine lv_tableIn (off := 37) (tgt := 60) hx hb dX3_count_23 (by decide) (by decide) (by decide) (by decide) ?_
          refine lv_aload_n hx hb dX3_count_60 rfl (lv_at hl 0 rfl) ?_
          refine va_get (D := (dC, dI)) (ci := 3) (v := .ref (h 3)) (C := RX3) (T := TX3) (N := 9) hx hb hts inX3 hown hK hP 0 rfl rfl 2 (by decide) (hts _ mw122) (fun _ h9 => h9) rfl dX3_count_61 ?_
          refine rd_calli (r := (bAbove held wy 0 0 bn)) (va_runV (As := []) (rest := []) ⟨hx, hb, hml, hown, hts⟩ (c_X0_above l dC dI cI cL (h 3) (h 14) held bn wy stt hbn) (cwV 0 hts (gV mw179 mw180 mw181 mw25 mw182) rfl rfl rfl (by decide +kernel) ⟨Nat.le_of_ble_eq_true rfl, Nat.le_of_ble_eq_true rfl⟩) (rd_preV (hP.sub (ws' := [(h 3, .inr (0, [.ref (h 14), .int (nI bn), .int wy, .int stt])), (h 14, .inl (cI, 16, .inl held))]) [3, 14] rfl) hK (va_recv (ci := 0) hK hP rfl (q0 := 3) rfl)) rfl rfl hl.1 rfl (lv_room (Nat.le_of_ble_eq_true rfl)) dX3_count_64 ⟨Nat.zero_le _, Nat.zero_le _⟩) ?_
          exact rd_iret hx hb hr hlocks dX3_count_67 rfl (by unfold cCount; rw [if_neg (by decide), bI_ne c17]; rfl)
        · by_cases w3 : what = 3
          · subst w3
            refine lv_tableIn (off := 45) (tgt := 68) hx hb dX3_count_23 (by decide) (by decide) (by decide) (by decide) ?_
            refine lv_aload_n hx hb dX3_count_68 rfl (lv_at hl 0 rfl) ?_
            refine va_get (D := (dC, dI)) (ci := 3) (v := .int cap) (C := RX3) (T := TX3) (N := 9) hx hb hts inX3 hown hK hP 0 rfl rfl 7 (by decide) (hts _ mw127) (fun _ h9 => h9) rfl dX3_count_69 ?_
            exact rd_iret hx hb hr hlocks dX3_count_72 rfl (by unfold cCount; rw [if_neg (by decide), bI_ne c17]; rfl)
          · refine lv_tableOut (tgt := 73) hx hb dX3_count_23 (by have q0 := lv_neT w0 (show (0 : Int32).toInt = 0 by decide); have q1 := lv_neT w1 (show (1 : Int32).toInt = 1 by decide); have q2 := lv_neT c2 (show (2 : Int32).toInt = 2 by decide); have q3 := lv_neT w3 (show (3 : Int32).toInt = 3 by decide); omega) (by decide) ?_
            refine lv_iconst (v := (-1)) hx hb dX3_count_73 (by decide) ?_
            exact rd_iret hx hb hr hlocks dX3_count_74 rfl (by unfold cCount; rw [if_neg c2, if_neg w0, if_neg w1, if_neg w3, if_t (bI_ne c17)])
    · refine lv_iconst (v := (-1)) hx hb dX3_count_20 (by decide) ?_
      exact rd_iret hx hb hr hlocks dX3_count_21 rfl (by unfold cCount; rw [if_neg c2, bI_eq c17]; rfl)
  · refine lv_aload_n hx hb dX3_count_5 rfl (lv_at hl 0 rfl) ?_
    refine va_get (D := (dC, dI)) (ci := 3) (v := .ref (h 1)) (C := RX3) (T := TX3) (N := 9) hx hb hts inX3 hown hK hP 0 rfl rfl 0 (by decide) (hts _ mw120) (fun _ h9 => h9) rfl dX3_count_6 ?_
    refine va_get (D := (dC, dI)) (ci := 2) (v := .int (nI kn)) (C := RX2) (T := TX2) (N := 3) hx hb hts inX2 hown hK hP 1 rfl rfl 2 (by decide) (hts _ mw56) (fun _ h9 => h9) rfl dX3_count_9 ?_
    exact rd_iret hx hb hr hlocks dX3_count_12 rfl (by unfold cCount; rw [if_pos c2])

set_option maxHeartbeats 4000000 in
set_option maxRecDepth 100000 in
/-- addAsked -/
theorem c_X3_addAsked (l : Launch) (dC : Nat → ClassId) (dI : Nat → Nat → Nat) (cI cL : ClassId) (h : Nat → Nat) (kinds : Nat → Int32) (ones : Nat → Int64) (kn : Nat) (av am : Nat → Int64) (vals msks : Nat → Int64) (pre pri act : Nat → Int32) (dat : Nat → Int64) (en : Nat) (held : Nat → Int32) (bn : Nat) (wy stt : Int32) (made hashed : Bool) (cap : Int32) (lat : Int64) (pr ac : Int32) (da : Int64) (hk : kn ≤ 4) (he : en < 72) : Met l yX3_addAsked wsX3_addAsked ({ frames := 1, cells := 0, slots := 0, locals := 21 }) (wr_P (dC, dI) vwCl [(cI, .int), (cL, .long)] [(h 0, .inr (3, [.ref (h 1), .ref (h 2), .ref (h 3), .ref (h 4), .ref (h 5), .int (bI made), .int (bI hashed), .int cap, .long lat])), (h 1, .inr (2, [.ref (h 6), .ref (h 7), .int (nI kn)])), (h 2, .inr (1, [.ref (h 8), .ref (h 9), .ref (h 10), .ref (h 11), .ref (h 12), .ref (h 13), .int (nI en)])), (h 3, .inr (0, [.ref (h 14), .int (nI bn), .int wy, .int stt])), (h 4, .inl (cL, 4, .inr (.inl av))), (h 5, .inl (cL, 4, .inr (.inl am))), (h 6, .inl (cI, 4, .inl kinds)), (h 7, .inl (cL, 4, .inr (.inl ones))), (h 8, .inl (cL, 288, .inr (.inl vals))), (h 9, .inl (cL, 288, .inr (.inl msks))), (h 10, .inl (cI, 72, .inl pre)), (h 11, .inl (cI, 72, .inl pri)), (h 12, .inl (cI, 72, .inl act)), (h 13, .inl (cL, 72, .inr (.inl dat))), (h 14, .inl (cI, 16, .inl held))] [.ref (h 0), .int pr, .int ac, .long da]) (wr_Q (dC, dI) vwCl none [(h 0, .inr (3, [.ref (h 1), .ref (h 2), .ref (h 3), .ref (h 4), .ref (h 5), .int (bI made), .int (bI hashed), .int cap, .long lat])), (h 1, .inr (2, [.ref (h 6), .ref (h 7), .int (nI kn)])), (h 2, .inr (1, [.ref (h 8), .ref (h 9), .ref (h 10), .ref (h 11), .ref (h 12), .ref (h 13), .int (nI en)])), (h 3, .inr (0, [.ref (h 14), .int (nI bn), .int wy, .int stt])), (h 4, .inl (cL, 4, .inr (.inl av))), (h 5, .inl (cL, 4, .inr (.inl am))), (h 6, .inl (cI, 4, .inl kinds)), (h 7, .inl (cL, 4, .inr (.inl ones))), (h 8, .inl (cL, 288, .inr (.inl vals))), (h 9, .inl (cL, 288, .inr (.inl msks))), (h 10, .inl (cI, 72, .inl pre)), (h 11, .inl (cI, 72, .inl pri)), (h 12, .inl (cI, 72, .inl act)), (h 13, .inl (cL, 72, .inr (.inl dat))), (h 14, .inl (cI, 16, .inl held))] [(h 0, .inr (3, [.ref (h 1), .ref (h 2), .ref (h 3), .ref (h 4), .ref (h 5), .int (bI made), .int (bI hashed), .int cap, .long lat])), (h 1, .inr (2, [.ref (h 6), .ref (h 7), .int (nI kn)])), (h 2, .inr (1, [.ref (h 8), .ref (h 9), .ref (h 10), .ref (h 11), .ref (h 12), .ref (h 13), .int (nI (en + 1))])), (h 3, .inr (0, [.ref (h 14), .int (nI bn), .int wy, .int stt])), (h 4, .inl (cL, 4, .inr (.inl av))), (h 5, .inl (cL, 4, .inr (.inl am))), (h 6, .inl (cI, 4, .inl kinds)), (h 7, .inl (cL, 4, .inr (.inl ones))), (h 8, .inl (cL, 288, .inr (.inl (putRow en (fun k => av k &&& (am k &&& ones k)) vals 0 kn)))), (h 9, .inl (cL, 288, .inr (.inl (putRow en (fun k => am k &&& ones k) msks 0 kn)))), (h 10, .inl (cI, 72, .inl (upd pre en (pOnes kinds (fun k => am k &&& ones k) 0 0 kn)))), (h 11, .inl (cI, 72, .inl (upd pri en pr))), (h 12, .inl (cI, 72, .inl (upd act en ac))), (h 13, .inl (cL, 72, .inr (.inl (vp_updL dat en da)))), (h 14, .inl (cI, 16, .inl held))]) 0 0 (wr_I [(h 0, .inr (3, [.ref (h 1), .ref (h 2), .ref (h 3), .ref (h 4), .ref (h 5), .int (bI made), .int (bI hashed), .int cap, .long lat])), (h 1, .inr (2, [.ref (h 6), .ref (h 7), .int (nI kn)])), (h 2, .inr (1, [.ref (h 8), .ref (h 9), .ref (h 10), .ref (h 11), .ref (h 12), .ref (h 13), .int (nI en)])), (h 3, .inr (0, [.ref (h 14), .int (nI bn), .int wy, .int stt])), (h 4, .inl (cL, 4, .inr (.inl av))), (h 5, .inl (cL, 4, .inr (.inl am))), (h 6, .inl (cI, 4, .inl kinds)), (h 7, .inl (cL, 4, .inr (.inl ones))), (h 8, .inl (cL, 288, .inr (.inl vals))), (h 9, .inl (cL, 288, .inr (.inl msks))), (h 10, .inl (cI, 72, .inl pre)), (h 11, .inl (cI, 72, .inl pri)), (h 12, .inl (cI, 72, .inl act)), (h 13, .inl (cL, 72, .inr (.inl dat))), (h 14, .inl (cI, 16, .inl held))]) := by
  refine Met.ofW (cc := cX3_addAsked) (maxL := 11) (ret := none) (by decide) rfl ?_
  intro p e s m args below meth c s₁ B hml hv
  obtain ⟨rfl, hP, hK, hD0⟩ := hv
  have hx := B.exec
  have hb := B.bytes
  have hr := B.returns
  have hts := fun w h => atoms_spec (ws := wsX3_addAsked) B.pre w (List.mem_cons_of_mem _ h)
  have hown : s.vm.findClass RX3 = some m.cls := findClass_of_methodNamed B.named
  have hlocks := B.notSynchronized
  have hD := wr_self hD0
  have hS : va_S (wr_I [(h 0, .inr (3, [.ref (h 1), .ref (h 2), .ref (h 3), .ref (h 4), .ref (h 5), .int (bI made), .int (bI hashed), .int cap, .long lat])), (h 1, .inr (2, [.ref (h 6), .ref (h 7), .int (nI kn)])), (h 2, .inr (1, [.ref (h 8), .ref (h 9), .ref (h 10), .ref (h 11), .ref (h 12), .ref (h 13), .int (nI en)])), (h 3, .inr (0, [.ref (h 14), .int (nI bn), .int wy, .int stt])), (h 4, .inl (cL, 4, .inr (.inl av))), (h 5, .inl (cL, 4, .inr (.inl am))), (h 6, .inl (cI, 4, .inl kinds)), (h 7, .inl (cL, 4, .inr (.inl ones))), (h 8, .inl (cL, 288, .inr (.inl vals))), (h 9, .inl (cL, 288, .inr (.inl msks))), (h 10, .inl (cI, 72, .inl pre)), (h 11, .inl (cI, 72, .inl pri)), (h 12, .inl (cI, 72, .inl act)), (h 13, .inl (cL, 72, .inr (.inl dat))), (h 14, .inl (cI, 16, .inl held))]) s.heap s.heap [] := va_S.rf
  have hl := lv_entry ([.ref (h 0), .int pr, .int ac, .long da]) (n := 11) (Nat.le_of_ble_eq_true rfl)
  rw [lg_entry_eq]
  generalize (lg_sl ([.ref (h 0), .int pr, .int ac, .long da]) ++ List.replicate (11 - (lg_sl ([.ref (h 0), .int pr, .int ac, .long da])).length) Slot.unset).toArray = ls at hl ⊢
  have hl : lv_has ls 11 [(0, .ref (h 0)), (1, .int pr), (2, .int ac), (3, .long da)] := hl
  refine lv_aload_n hx hb dX3_addAsked_0 rfl (lv_at hl 0 rfl) ?_
  refine va_get (D := (dC, dI)) (ci := 3) (v := .ref (h 2)) (C := RX3) (T := TX3) (N := 9) hx hb hts inX3 hown hK hP 0 rfl rfl 1 (by decide) (hts _ mw121) (fun _ h9 => h9) rfl dX3_addAsked_1 ?_
  refine va_get (D := (dC, dI)) (ci := 1) (v := .int (nI en)) (C := RX1) (T := TX1) (N := 7) hx hb hts inX1 hown hK hP 2 rfl rfl 6 (by decide) (hts _ mw84) (fun _ h9 => h9) rfl dX3_addAsked_4 ?_
  refine lv_istore (lv' := [(5, .int (nI en)), (0, .ref (h 0)), (1, .int pr), (2, .int ac), (3, .long da)]) hx hb dX3_addAsked_7 hl (by decide) rfl (fun ls hl => ?_)
  refine lv_iconst (v := 0) hx hb dX3_addAsked_9 (by decide) ?_
  refine lv_istore (lv' := [(6, .int 0), (5, .int (nI en)), (0, .ref (h 0)), (1, .int pr), (2, .int ac), (3, .long da)]) hx hb dX3_addAsked_10 hl (by decide) rfl (fun ls hl => ?_)
  refine lv_iconst (v := (nI 0)) hx hb dX3_addAsked_12 (by decide) ?_
  refine lv_istore (lv' := [(7, .int (nI 0)), (6, .int 0), (5, .int (nI en)), (0, .ref (h 0)), (1, .int pr), (2, .int ac), (3, .long da)]) hx hb dX3_addAsked_13 hl (by decide) rfl (fun ls hl => ?_)
  have loop : ∀ (n : Nat) (i : Nat) (pp : Int32) (vals1 msks1 : Nat → Int64) (H : Heap) (locs : List Loc), i + n = kn → va_P (dC, dI) vwCl [(h 0, .inr (3, [.ref (h 1), .ref (h 2), .ref (h 3), .ref (h 4), .ref (h 5), .int (bI made), .int (bI hashed), .int cap, .long lat])), (h 1, .inr (2, [.ref (h 6), .ref (h 7), .int (nI kn)])), (h 2, .inr (1, [.ref (h 8), .ref (h 9), .ref (h 10), .ref (h 11), .ref (h 12), .ref (h 13), .int (nI en)])), (h 3, .inr (0, [.ref (h 14), .int (nI bn), .int wy, .int stt])), (h 4, .inl (cL, 4, .inr (.inl av))), (h 5, .inl (cL, 4, .inr (.inl am))), (h 6, .inl (cI, 4, .inl kinds)), (h 7, .inl (cL, 4, .inr (.inl ones))), (h 8, .inl (cL, 288, .inr (.inl vals1))), (h 9, .inl (cL, 288, .inr (.inl msks1))), (h 10, .inl (cI, 72, .inl pre)), (h 11, .inl (cI, 72, .inl pri)), (h 12, .inl (cI, 72, .inl act)), (h 13, .inl (cL, 72, .inr (.inl dat))), (h 14, .inl (cI, 16, .inl held))] H → va_D (wr_I [(h 0, .inr (3, [.ref (h 1), .ref (h 2), .ref (h 3), .ref (h 4), .ref (h 5), .int (bI made), .int (bI hashed), .int cap, .long lat])), (h 1, .inr (2, [.ref (h 6), .ref (h 7), .int (nI kn)])), (h 2, .inr (1, [.ref (h 8), .ref (h 9), .ref (h 10), .ref (h 11), .ref (h 12), .ref (h 13), .int (nI en)])), (h 3, .inr (0, [.ref (h 14), .int (nI bn), .int wy, .int stt])), (h 4, .inl (cL, 4, .inr (.inl av))), (h 5, .inl (cL, 4, .inr (.inl am))), (h 6, .inl (cI, 4, .inl kinds)), (h 7, .inl (cL, 4, .inr (.inl ones))), (h 8, .inl (cL, 288, .inr (.inl vals))), (h 9, .inl (cL, 288, .inr (.inl msks))), (h 10, .inl (cI, 72, .inl pre)), (h 11, .inl (cI, 72, .inl pri)), (h 12, .inl (cI, 72, .inl act)), (h 13, .inl (cL, 72, .inr (.inl dat))), (h 14, .inl (cI, 16, .inl held))]) [(h 0, .inr (3, [.ref (h 1), .ref (h 2), .ref (h 3), .ref (h 4), .ref (h 5), .int (bI made), .int (bI hashed), .int cap, .long lat])), (h 1, .inr (2, [.ref (h 6), .ref (h 7), .int (nI kn)])), (h 2, .inr (1, [.ref (h 8), .ref (h 9), .ref (h 10), .ref (h 11), .ref (h 12), .ref (h 13), .int (nI en)])), (h 3, .inr (0, [.ref (h 14), .int (nI bn), .int wy, .int stt])), (h 4, .inl (cL, 4, .inr (.inl av))), (h 5, .inl (cL, 4, .inr (.inl am))), (h 6, .inl (cI, 4, .inl kinds)), (h 7, .inl (cL, 4, .inr (.inl ones))), (h 8, .inl (cL, 288, .inr (.inl vals1))), (h 9, .inl (cL, 288, .inr (.inl msks1))), (h 10, .inl (cI, 72, .inl pre)), (h 11, .inl (cI, 72, .inl pri)), (h 12, .inl (cI, 72, .inl act)), (h 13, .inl (cL, 72, .inr (.inl dat))), (h 14, .inl (cI, 16, .inl held))] → va_S (wr_I [(h 0, .inr (3, [.ref (h 1), .ref (h 2), .ref (h 3), .ref (h 4), .ref (h 5), .int (bI made), .int (bI hashed), .int cap, .long lat])), (h 1, .inr (2, [.ref (h 6), .ref (h 7), .int (nI kn)])), (h 2, .inr (1, [.ref (h 8), .ref (h 9), .ref (h 10), .ref (h 11), .ref (h 12), .ref (h 13), .int (nI en)])), (h 3, .inr (0, [.ref (h 14), .int (nI bn), .int wy, .int stt])), (h 4, .inl (cL, 4, .inr (.inl av))), (h 5, .inl (cL, 4, .inr (.inl am))), (h 6, .inl (cI, 4, .inl kinds)), (h 7, .inl (cL, 4, .inr (.inl ones))), (h 8, .inl (cL, 288, .inr (.inl vals))), (h 9, .inl (cL, 288, .inr (.inl msks))), (h 10, .inl (cI, 72, .inl pre)), (h 11, .inl (cI, 72, .inl pri)), (h 12, .inl (cI, 72, .inl act)), (h 13, .inl (cL, 72, .inr (.inl dat))), (h 14, .inl (cI, 16, .inl held))]) s.heap H locs → ∀ ls : Array Slot, lv_has ls 11 [(7, .int (nI i)), (6, .int pp), (5, .int (nI en)), (0, .ref (h 0)), (1, .int pr), (2, .int ac), (3, .long da)] → W p l e (headSpec wsX3_addAsked ({ frames := 1, cells := 0, slots := 0, locals := 21 })).room s m ([.ref (h 0), .int pr, .int ac, .long da]).toArray below meth c H locs 0 0 (MQ below (wr_Q (dC, dI) vwCl none [(h 0, .inr (3, [.ref (h 1), .ref (h 2), .ref (h 3), .ref (h 4), .ref (h 5), .int (bI made), .int (bI hashed), .int cap, .long lat])), (h 1, .inr (2, [.ref (h 6), .ref (h 7), .int (nI kn)])), (h 2, .inr (1, [.ref (h 8), .ref (h 9), .ref (h 10), .ref (h 11), .ref (h 12), .ref (h 13), .int (nI en)])), (h 3, .inr (0, [.ref (h 14), .int (nI bn), .int wy, .int stt])), (h 4, .inl (cL, 4, .inr (.inl av))), (h 5, .inl (cL, 4, .inr (.inl am))), (h 6, .inl (cI, 4, .inl kinds)), (h 7, .inl (cL, 4, .inr (.inl ones))), (h 8, .inl (cL, 288, .inr (.inl vals))), (h 9, .inl (cL, 288, .inr (.inl msks))), (h 10, .inl (cI, 72, .inl pre)), (h 11, .inl (cI, 72, .inl pri)), (h 12, .inl (cI, 72, .inl act)), (h 13, .inl (cL, 72, .inr (.inl dat))), (h 14, .inl (cI, 16, .inl held))] [(h 0, .inr (3, [.ref (h 1), .ref (h 2), .ref (h 3), .ref (h 4), .ref (h 5), .int (bI made), .int (bI hashed), .int cap, .long lat])), (h 1, .inr (2, [.ref (h 6), .ref (h 7), .int (nI kn)])), (h 2, .inr (1, [.ref (h 8), .ref (h 9), .ref (h 10), .ref (h 11), .ref (h 12), .ref (h 13), .int (nI (en + 1))])), (h 3, .inr (0, [.ref (h 14), .int (nI bn), .int wy, .int stt])), (h 4, .inl (cL, 4, .inr (.inl av))), (h 5, .inl (cL, 4, .inr (.inl am))), (h 6, .inl (cI, 4, .inl kinds)), (h 7, .inl (cL, 4, .inr (.inl ones))), (h 8, .inl (cL, 288, .inr (.inl (putRow en (fun k => av k &&& (am k &&& ones k)) vals1 i n)))), (h 9, .inl (cL, 288, .inr (.inl (putRow en (fun k => am k &&& ones k) msks1 i n)))), (h 10, .inl (cI, 72, .inl (upd pre en (pOnes kinds (fun k => am k &&& ones k) pp i n)))), (h 11, .inl (cI, 72, .inl (upd pri en pr))), (h 12, .inl (cI, 72, .inl (upd act en ac))), (h 13, .inl (cL, 72, .inr (.inl (vp_updL dat en da)))), (h 14, .inl (cI, 16, .inl held))]) ([.ref (h 0), .int pr, .int ac, .long da]).toArray s 0 0 (wr_I [(h 0, .inr (3, [.ref (h 1), .ref (h 2), .ref (h 3), .ref (h 4), .ref (h 5), .int (bI made), .int (bI hashed), .int cap, .long lat])), (h 1, .inr (2, [.ref (h 6), .ref (h 7), .int (nI kn)])), (h 2, .inr (1, [.ref (h 8), .ref (h 9), .ref (h 10), .ref (h 11), .ref (h 12), .ref (h 13), .int (nI en)])), (h 3, .inr (0, [.ref (h 14), .int (nI bn), .int wy, .int stt])), (h 4, .inl (cL, 4, .inr (.inl av))), (h 5, .inl (cL, 4, .inr (.inl am))), (h 6, .inl (cI, 4, .inl kinds)), (h 7, .inl (cL, 4, .inr (.inl ones))), (h 8, .inl (cL, 288, .inr (.inl vals))), (h 9, .inl (cL, 288, .inr (.inl msks))), (h 10, .inl (cI, 72, .inl pre)), (h 11, .inl (cI, 72, .inl pri)), (h 12, .inl (cI, 72, .inl act)), (h 13, .inl (cL, 72, .inr (.inl dat))), (h 14, .inl (cI, 16, .inl held))])) (F0 m 15 ls []) := by
    intro n
    induction n with
    | zero =>
      intro i pp vals1 msks1 H locs hi hP hD hS ls hl
      refine lv_iload hx hb dX3_addAsked_15 (lv_at hl 0 rfl) ?_
      refine lv_aload_n hx hb dX3_addAsked_17 rfl (lv_at hl 3 rfl) ?_
      refine va_get (D := (dC, dI)) (ci := 3) (v := .ref (h 1)) (C := RX3) (T := TX3) (N := 9) hx hb hts inX3 hown hK hP 0 rfl rfl 0 (by decide) (hts _ mw120) (fun _ h9 => h9) rfl dX3_addAsked_18 ?_
      refine va_get (D := (dC, dI)) (ci := 2) (v := .int (nI kn)) (C := RX2) (T := TX2) (N := 3) hx hb hts inX2 hown hK hP 1 rfl rfl 2 (by decide) (hts _ mw56) (fun _ h9 => h9) rfl dX3_addAsked_21 ?_
      refine n_ige i kn (tgt := 103) (hexec := hx) (hb := hb) dX3_addAsked_24 (by decide) rfl rfl (by omega) (by omega) (fun c24 => ?_) (fun c24 => absurd c24 (by omega))
      refine lv_aload_n hx hb dX3_addAsked_103 rfl (lv_at hl 3 rfl) ?_
      refine va_get (D := (dC, dI)) (ci := 3) (v := .ref (h 2)) (C := RX3) (T := TX3) (N := 9) hx hb hts inX3 hown hK hP 0 rfl rfl 1 (by decide) (hts _ mw121) (fun _ h9 => h9) rfl dX3_addAsked_104 ?_
      refine va_get (D := (dC, dI)) (ci := 1) (v := .ref (h 10)) (C := RX1) (T := TX1) (N := 7) hx hb hts inX1 hown hK hP 2 rfl rfl 2 (by decide) (hts _ mw77) (fun _ h9 => h9) rfl dX3_addAsked_107 ?_
      refine lv_iload hx hb dX3_addAsked_110 (lv_at hl 2 rfl) ?_
      refine lv_iload hx hb dX3_addAsked_112 (lv_at hl 1 rfl) ?_
      refine n_iast (ws' := [(h 0, .inr (3, [.ref (h 1), .ref (h 2), .ref (h 3), .ref (h 4), .ref (h 5), .int (bI made), .int (bI hashed), .int cap, .long lat])), (h 1, .inr (2, [.ref (h 6), .ref (h 7), .int (nI kn)])), (h 2, .inr (1, [.ref (h 8), .ref (h 9), .ref (h 10), .ref (h 11), .ref (h 12), .ref (h 13), .int (nI en)])), (h 3, .inr (0, [.ref (h 14), .int (nI bn), .int wy, .int stt])), (h 4, .inl (cL, 4, .inr (.inl av))), (h 5, .inl (cL, 4, .inr (.inl am))), (h 6, .inl (cI, 4, .inl kinds)), (h 7, .inl (cL, 4, .inr (.inl ones))), (h 8, .inl (cL, 288, .inr (.inl vals1))), (h 9, .inl (cL, 288, .inr (.inl msks1))), (h 10, .inl (cI, 72, .inl (upd pre en pp))), (h 11, .inl (cI, 72, .inl pri)), (h 12, .inl (cI, 72, .inl act)), (h 13, .inl (cL, 72, .inr (.inl dat))), (h 14, .inl (cI, 16, .inl held))]) hx hb hK hP hD hS 10 0 rfl rfl (k := en) rfl he (by omega) dX3_addAsked_114 rfl (fun H locs hP hD hS => ?_)
      refine lv_aload_n hx hb dX3_addAsked_115 rfl (lv_at hl 3 rfl) ?_
      refine va_get (D := (dC, dI)) (ci := 3) (v := .ref (h 2)) (C := RX3) (T := TX3) (N := 9) hx hb hts inX3 hown hK hP 0 rfl rfl 1 (by decide) (hts _ mw121) (fun _ h9 => h9) rfl dX3_addAsked_116 ?_
      refine va_get (D := (dC, dI)) (ci := 1) (v := .ref (h 11)) (C := RX1) (T := TX1) (N := 7) hx hb hts inX1 hown hK hP 2 rfl rfl 3 (by decide) (hts _ mw79) (fun _ h9 => h9) rfl dX3_addAsked_119 ?_
      refine lv_iload hx hb dX3_addAsked_122 (lv_at hl 2 rfl) ?_
      refine lv_iload_n hx hb dX3_addAsked_124 rfl (lv_at hl 4 rfl) ?_
      refine n_iast (ws' := [(h 0, .inr (3, [.ref (h 1), .ref (h 2), .ref (h 3), .ref (h 4), .ref (h 5), .int (bI made), .int (bI hashed), .int cap, .long lat])), (h 1, .inr (2, [.ref (h 6), .ref (h 7), .int (nI kn)])), (h 2, .inr (1, [.ref (h 8), .ref (h 9), .ref (h 10), .ref (h 11), .ref (h 12), .ref (h 13), .int (nI en)])), (h 3, .inr (0, [.ref (h 14), .int (nI bn), .int wy, .int stt])), (h 4, .inl (cL, 4, .inr (.inl av))), (h 5, .inl (cL, 4, .inr (.inl am))), (h 6, .inl (cI, 4, .inl kinds)), (h 7, .inl (cL, 4, .inr (.inl ones))), (h 8, .inl (cL, 288, .inr (.inl vals1))), (h 9, .inl (cL, 288, .inr (.inl msks1))), (h 10, .inl (cI, 72, .inl (upd pre en pp))), (h 11, .inl (cI, 72, .inl (upd pri en pr))), (h 12, .inl (cI, 72, .inl act)), (h 13, .inl (cL, 72, .inr (.inl dat))), (h 14, .inl (cI, 16, .inl held))]) hx hb hK hP hD hS 11 0 rfl rfl (k := en) rfl he (by omega) dX3_addAsked_125 rfl (fun H locs hP hD hS => ?_)
      refine lv_aload_n hx hb dX3_addAsked_126 rfl (lv_at hl 3 rfl) ?_
      refine va_get (D := (dC, dI)) (ci := 3) (v := .ref (h 2)) (C := RX3) (T := TX3) (N := 9) hx hb hts inX3 hown hK hP 0 rfl rfl 1 (by decide) (hts _ mw121) (fun _ h9 => h9) rfl dX3_addAsked_127 ?_
      refine va_get (D := (dC, dI)) (ci := 1) (v := .ref (h 12)) (C := RX1) (T := TX1) (N := 7) hx hb hts inX1 hown hK hP 2 rfl rfl 4 (by decide) (hts _ mw81) (fun _ h9 => h9) rfl dX3_addAsked_130 ?_
      refine lv_iload hx hb dX3_addAsked_133 (lv_at hl 2 rfl) ?_
      refine lv_iload_n hx hb dX3_addAsked_135 rfl (lv_at hl 5 rfl) ?_
      refine n_iast (ws' := [(h 0, .inr (3, [.ref (h 1), .ref (h 2), .ref (h 3), .ref (h 4), .ref (h 5), .int (bI made), .int (bI hashed), .int cap, .long lat])), (h 1, .inr (2, [.ref (h 6), .ref (h 7), .int (nI kn)])), (h 2, .inr (1, [.ref (h 8), .ref (h 9), .ref (h 10), .ref (h 11), .ref (h 12), .ref (h 13), .int (nI en)])), (h 3, .inr (0, [.ref (h 14), .int (nI bn), .int wy, .int stt])), (h 4, .inl (cL, 4, .inr (.inl av))), (h 5, .inl (cL, 4, .inr (.inl am))), (h 6, .inl (cI, 4, .inl kinds)), (h 7, .inl (cL, 4, .inr (.inl ones))), (h 8, .inl (cL, 288, .inr (.inl vals1))), (h 9, .inl (cL, 288, .inr (.inl msks1))), (h 10, .inl (cI, 72, .inl (upd pre en pp))), (h 11, .inl (cI, 72, .inl (upd pri en pr))), (h 12, .inl (cI, 72, .inl (upd act en ac))), (h 13, .inl (cL, 72, .inr (.inl dat))), (h 14, .inl (cI, 16, .inl held))]) hx hb hK hP hD hS 12 0 rfl rfl (k := en) rfl he (by omega) dX3_addAsked_136 rfl (fun H locs hP hD hS => ?_)
      refine lv_aload_n hx hb dX3_addAsked_137 rfl (lv_at hl 3 rfl) ?_
      refine va_get (D := (dC, dI)) (ci := 3) (v := .ref (h 2)) (C := RX3) (T := TX3) (N := 9) hx hb hts inX3 hown hK hP 0 rfl rfl 1 (by decide) (hts _ mw121) (fun _ h9 => h9) rfl dX3_addAsked_138 ?_
      refine va_get (D := (dC, dI)) (ci := 1) (v := .ref (h 13)) (C := RX1) (T := TX1) (N := 7) hx hb hts inX1 hown hK hP 2 rfl rfl 5 (by decide) (hts _ mw83) (fun _ h9 => h9) rfl dX3_addAsked_141 ?_
      refine lv_iload hx hb dX3_addAsked_144 (lv_at hl 2 rfl) ?_
      refine lv_lload_n hx hb dX3_addAsked_146 rfl (lv_at hl 6 rfl) ?_
      refine n_last (ws' := [(h 0, .inr (3, [.ref (h 1), .ref (h 2), .ref (h 3), .ref (h 4), .ref (h 5), .int (bI made), .int (bI hashed), .int cap, .long lat])), (h 1, .inr (2, [.ref (h 6), .ref (h 7), .int (nI kn)])), (h 2, .inr (1, [.ref (h 8), .ref (h 9), .ref (h 10), .ref (h 11), .ref (h 12), .ref (h 13), .int (nI en)])), (h 3, .inr (0, [.ref (h 14), .int (nI bn), .int wy, .int stt])), (h 4, .inl (cL, 4, .inr (.inl av))), (h 5, .inl (cL, 4, .inr (.inl am))), (h 6, .inl (cI, 4, .inl kinds)), (h 7, .inl (cL, 4, .inr (.inl ones))), (h 8, .inl (cL, 288, .inr (.inl vals1))), (h 9, .inl (cL, 288, .inr (.inl msks1))), (h 10, .inl (cI, 72, .inl (upd pre en pp))), (h 11, .inl (cI, 72, .inl (upd pri en pr))), (h 12, .inl (cI, 72, .inl (upd act en ac))), (h 13, .inl (cL, 72, .inr (.inl (vp_updL dat en da)))), (h 14, .inl (cI, 16, .inl held))]) hx hb hK hP hD hS 13 1 rfl rfl (k := en) rfl he (by omega) dX3_addAsked_147 rfl (fun H locs hP hD hS => ?_)
      refine lv_aload_n hx hb dX3_addAsked_148 rfl (lv_at hl 3 rfl) ?_
      refine va_get (D := (dC, dI)) (ci := 3) (v := .ref (h 2)) (C := RX3) (T := TX3) (N := 9) hx hb hts inX3 hown hK hP 0 rfl rfl 1 (by decide) (hts _ mw121) (fun _ h9 => h9) rfl dX3_addAsked_149 ?_
      refine lv_iload hx hb dX3_addAsked_152 (lv_at hl 2 rfl) ?_
      refine lv_iconst (v := 1) hx hb dX3_addAsked_154 (by decide) ?_
      refine lv_iadd hx hb dX3_addAsked_155 ?_
      rw [nI_1]
      refine n_put (ws' := [(h 0, .inr (3, [.ref (h 1), .ref (h 2), .ref (h 3), .ref (h 4), .ref (h 5), .int (bI made), .int (bI hashed), .int cap, .long lat])), (h 1, .inr (2, [.ref (h 6), .ref (h 7), .int (nI kn)])), (h 2, .inr (1, [.ref (h 8), .ref (h 9), .ref (h 10), .ref (h 11), .ref (h 12), .ref (h 13), .int (nI (en + 1))])), (h 3, .inr (0, [.ref (h 14), .int (nI bn), .int wy, .int stt])), (h 4, .inl (cL, 4, .inr (.inl av))), (h 5, .inl (cL, 4, .inr (.inl am))), (h 6, .inl (cI, 4, .inl kinds)), (h 7, .inl (cL, 4, .inr (.inl ones))), (h 8, .inl (cL, 288, .inr (.inl vals1))), (h 9, .inl (cL, 288, .inr (.inl msks1))), (h 10, .inl (cI, 72, .inl (upd pre en pp))), (h 11, .inl (cI, 72, .inl (upd pri en pr))), (h 12, .inl (cI, 72, .inl (upd act en ac))), (h 13, .inl (cL, 72, .inr (.inl (vp_updL dat en da)))), (h 14, .inl (cI, 16, .inl held))]) (D := (dC, dI)) (ci := 1) (v := .int (nI (en + 1))) (ty := .int) (C := RX1) (T := TX1) (N := 7) hx hb hts inX1 tyX1 tyX1_ok nmX1 hown hK hP hD hS 2 rfl rfl 6 (by decide) (hts _ mw84) (fun _ h9 => h9) rfl rfl rfl rfl (Nat.le_of_ble_eq_true rfl) dX3_addAsked_156 rfl (fun H locs hP hD hS => ?_)
      exact wr_vret hx hb hr hlocks hP hS dX3_addAsked_159
    | succ n ih =>
      intro i pp vals1 msks1 H locs hi hP hD hS ls hl
      refine lv_iload hx hb dX3_addAsked_15 (lv_at hl 0 rfl) ?_
      refine lv_aload_n hx hb dX3_addAsked_17 rfl (lv_at hl 3 rfl) ?_
      refine va_get (D := (dC, dI)) (ci := 3) (v := .ref (h 1)) (C := RX3) (T := TX3) (N := 9) hx hb hts inX3 hown hK hP 0 rfl rfl 0 (by decide) (hts _ mw120) (fun _ h9 => h9) rfl dX3_addAsked_18 ?_
      refine va_get (D := (dC, dI)) (ci := 2) (v := .int (nI kn)) (C := RX2) (T := TX2) (N := 3) hx hb hts inX2 hown hK hP 1 rfl rfl 2 (by decide) (hts _ mw56) (fun _ h9 => h9) rfl dX3_addAsked_21 ?_
      refine n_ige i kn (tgt := 103) (hexec := hx) (hb := hb) dX3_addAsked_24 (by decide) rfl rfl (by omega) (by omega) (fun c24 => absurd c24 (by omega)) (fun c24 => ?_)
      refine lv_iload hx hb dX3_addAsked_27 (lv_at hl 2 rfl) ?_
      refine lv_iload hx hb dX3_addAsked_29 (lv_at hl 0 rfl) ?_
      refine rd_calli (r := (nI (en * 4 + i))) (va_runS (As := [.int (nI en), .int (nI i)]) (rest := []) ⟨hx, hb, hml, hown, hts⟩ (c_X1_place l dC dI cI cL en i) (va_cwS 2 hts (gSo mw378 mw379 mw24 mw380) rfl rfl rfl (by decide +kernel) ⟨Nat.le_of_ble_eq_true rfl, Nat.le_of_ble_eq_true rfl⟩) (rd_preS (hP.sub (ws' := []) [] rfl) hK) rfl rfl hl.1 rfl (lv_room (Nat.le_of_ble_eq_true rfl)) dX3_addAsked_31 ⟨Nat.zero_le _, Nat.zero_le _⟩) ?_
      refine lv_istore (lv' := [(8, .int (nI (en * 4 + i))), (7, .int (nI i)), (6, .int pp), (5, .int (nI en)), (0, .ref (h 0)), (1, .int pr), (2, .int ac), (3, .long da)]) hx hb dX3_addAsked_34 hl (by decide) rfl (fun ls hl => ?_)
      refine lv_aload_n hx hb dX3_addAsked_36 rfl (lv_at hl 4 rfl) ?_
      refine lv_iload hx hb dX3_addAsked_37 (lv_at hl 1 rfl) ?_
      refine rd_calll (r := (am i &&& ones i)) (va_runV (As := [.int (nI i)]) (rest := []) ⟨hx, hb, hml, hown, hts⟩ (c_X3_askedMask l dC dI cI cL h kinds ones kn av am vals1 msks1 pre pri act dat en held bn wy stt made hashed cap lat i (by omega)) (cwV 1 hts (gV mw362 mw364 mw3 mw22 mw365) rfl rfl rfl (by decide +kernel) ⟨Nat.le_of_ble_eq_true rfl, Nat.le_of_ble_eq_true rfl⟩) (rd_preV (hP.sub (ws' := [(h 0, .inr (3, [.ref (h 1), .ref (h 2), .ref (h 3), .ref (h 4), .ref (h 5), .int (bI made), .int (bI hashed), .int cap, .long lat])), (h 1, .inr (2, [.ref (h 6), .ref (h 7), .int (nI kn)])), (h 2, .inr (1, [.ref (h 8), .ref (h 9), .ref (h 10), .ref (h 11), .ref (h 12), .ref (h 13), .int (nI en)])), (h 3, .inr (0, [.ref (h 14), .int (nI bn), .int wy, .int stt])), (h 4, .inl (cL, 4, .inr (.inl av))), (h 5, .inl (cL, 4, .inr (.inl am))), (h 6, .inl (cI, 4, .inl kinds)), (h 7, .inl (cL, 4, .inr (.inl ones))), (h 8, .inl (cL, 288, .inr (.inl vals1))), (h 9, .inl (cL, 288, .inr (.inl msks1))), (h 10, .inl (cI, 72, .inl pre)), (h 11, .inl (cI, 72, .inl pri)), (h 12, .inl (cI, 72, .inl act)), (h 13, .inl (cL, 72, .inr (.inl dat))), (h 14, .inl (cI, 16, .inl held))]) [0, 1, 2, 3, 4, 5, 6, 7, 8, 9, 10, 11, 12, 13, 14] rfl) hK (va_recv (ci := 3) hK hP rfl (q0 := 0) rfl)) rfl rfl hl.1 rfl (lv_room (Nat.le_of_ble_eq_true rfl)) dX3_addAsked_39 ⟨Nat.zero_le _, Nat.zero_le _⟩) ?_
      refine lv_lstore (lv' := [(9, .long (am i &&& ones i)), (8, .int (nI (en * 4 + i))), (7, .int (nI i)), (6, .int pp), (5, .int (nI en)), (0, .ref (h 0)), (1, .int pr), (2, .int ac), (3, .long da)]) hx hb dX3_addAsked_42 hl (by decide) rfl (fun ls hl => ?_)
      refine lv_aload_n hx hb dX3_addAsked_44 rfl (lv_at hl 5 rfl) ?_
      refine va_get (D := (dC, dI)) (ci := 3) (v := .ref (h 2)) (C := RX3) (T := TX3) (N := 9) hx hb hts inX3 hown hK hP 0 rfl rfl 1 (by decide) (hts _ mw121) (fun _ h9 => h9) rfl dX3_addAsked_45 ?_
      refine va_get (D := (dC, dI)) (ci := 1) (v := .ref (h 9)) (C := RX1) (T := TX1) (N := 7) hx hb hts inX1 hown hK hP 2 rfl rfl 1 (by decide) (hts _ mw75) (fun _ h9 => h9) rfl dX3_addAsked_48 ?_
      refine lv_iload hx hb dX3_addAsked_51 (lv_at hl 1 rfl) ?_
      refine lv_lload hx hb dX3_addAsked_53 (lv_at hl 0 rfl) ?_
      refine n_last (ws' := [(h 0, .inr (3, [.ref (h 1), .ref (h 2), .ref (h 3), .ref (h 4), .ref (h 5), .int (bI made), .int (bI hashed), .int cap, .long lat])), (h 1, .inr (2, [.ref (h 6), .ref (h 7), .int (nI kn)])), (h 2, .inr (1, [.ref (h 8), .ref (h 9), .ref (h 10), .ref (h 11), .ref (h 12), .ref (h 13), .int (nI en)])), (h 3, .inr (0, [.ref (h 14), .int (nI bn), .int wy, .int stt])), (h 4, .inl (cL, 4, .inr (.inl av))), (h 5, .inl (cL, 4, .inr (.inl am))), (h 6, .inl (cI, 4, .inl kinds)), (h 7, .inl (cL, 4, .inr (.inl ones))), (h 8, .inl (cL, 288, .inr (.inl vals1))), (h 9, .inl (cL, 288, .inr (.inl (vp_updL msks1 (en * 4 + i) (am i &&& ones i))))), (h 10, .inl (cI, 72, .inl pre)), (h 11, .inl (cI, 72, .inl pri)), (h 12, .inl (cI, 72, .inl act)), (h 13, .inl (cL, 72, .inr (.inl dat))), (h 14, .inl (cI, 16, .inl held))]) hx hb hK hP hD hS 9 1 rfl rfl (k := en * 4 + i) rfl (by omega) (by omega) dX3_addAsked_55 rfl (fun H locs hP hD hS => ?_)
      refine lv_aload_n hx hb dX3_addAsked_56 rfl (lv_at hl 5 rfl) ?_
      refine va_get (D := (dC, dI)) (ci := 3) (v := .ref (h 2)) (C := RX3) (T := TX3) (N := 9) hx hb hts inX3 hown hK hP 0 rfl rfl 1 (by decide) (hts _ mw121) (fun _ h9 => h9) rfl dX3_addAsked_57 ?_
      refine va_get (D := (dC, dI)) (ci := 1) (v := .ref (h 8)) (C := RX1) (T := TX1) (N := 7) hx hb hts inX1 hown hK hP 2 rfl rfl 0 (by decide) (hts _ mw73) (fun _ h9 => h9) rfl dX3_addAsked_60 ?_
      refine lv_iload hx hb dX3_addAsked_63 (lv_at hl 1 rfl) ?_
      refine lv_aload_n hx hb dX3_addAsked_65 rfl (lv_at hl 5 rfl) ?_
      refine va_get (D := (dC, dI)) (ci := 3) (v := .ref (h 4)) (C := RX3) (T := TX3) (N := 9) hx hb hts inX3 hown hK hP 0 rfl rfl 3 (by decide) (hts _ mw123) (fun _ h9 => h9) rfl dX3_addAsked_66 ?_
      refine lv_iload hx hb dX3_addAsked_69 (lv_at hl 2 rfl) ?_
      refine n_lald hx hb hK hP 4 1 rfl rfl (k := i) rfl (by omega) (by omega) dX3_addAsked_71 ?_
      refine lv_lload hx hb dX3_addAsked_72 (lv_at hl 0 rfl) ?_
      refine lv_land hx hb dX3_addAsked_74 ?_
      refine n_last (ws' := [(h 0, .inr (3, [.ref (h 1), .ref (h 2), .ref (h 3), .ref (h 4), .ref (h 5), .int (bI made), .int (bI hashed), .int cap, .long lat])), (h 1, .inr (2, [.ref (h 6), .ref (h 7), .int (nI kn)])), (h 2, .inr (1, [.ref (h 8), .ref (h 9), .ref (h 10), .ref (h 11), .ref (h 12), .ref (h 13), .int (nI en)])), (h 3, .inr (0, [.ref (h 14), .int (nI bn), .int wy, .int stt])), (h 4, .inl (cL, 4, .inr (.inl av))), (h 5, .inl (cL, 4, .inr (.inl am))), (h 6, .inl (cI, 4, .inl kinds)), (h 7, .inl (cL, 4, .inr (.inl ones))), (h 8, .inl (cL, 288, .inr (.inl (vp_updL vals1 (en * 4 + i) ((av i) &&& (am i &&& ones i)))))), (h 9, .inl (cL, 288, .inr (.inl (vp_updL msks1 (en * 4 + i) (am i &&& ones i))))), (h 10, .inl (cI, 72, .inl pre)), (h 11, .inl (cI, 72, .inl pri)), (h 12, .inl (cI, 72, .inl act)), (h 13, .inl (cL, 72, .inr (.inl dat))), (h 14, .inl (cI, 16, .inl held))]) hx hb hK hP hD hS 8 1 rfl rfl (k := en * 4 + i) rfl (by omega) (by omega) dX3_addAsked_75 rfl (fun H locs hP hD hS => ?_)
      refine lv_aload_n hx hb dX3_addAsked_76 rfl (lv_at hl 5 rfl) ?_
      refine va_get (D := (dC, dI)) (ci := 3) (v := .ref (h 1)) (C := RX3) (T := TX3) (N := 9) hx hb hts inX3 hown hK hP 0 rfl rfl 0 (by decide) (hts _ mw120) (fun _ h9 => h9) rfl dX3_addAsked_77 ?_
      refine va_get (D := (dC, dI)) (ci := 2) (v := .ref (h 6)) (C := RX2) (T := TX2) (N := 3) hx hb hts inX2 hown hK hP 1 rfl rfl 0 (by decide) (hts _ mw52) (fun _ h9 => h9) rfl dX3_addAsked_80 ?_
      refine lv_iload hx hb dX3_addAsked_83 (lv_at hl 2 rfl) ?_
      refine n_iald hx hb hK hP 6 0 rfl rfl (k := i) rfl (by omega) (by omega) dX3_addAsked_85 ?_
      refine lv_iconst (v := 1) hx hb dX3_addAsked_86 (by decide) ?_
      refine lv_icmp_ne (tgt := 97) hx hb dX3_addAsked_87 (by decide) (fun c87 => ?_) (fun c87 => ?_)
      · rw [show pOnes kinds (fun k => am k &&& ones k) pp i (n + 1) = pOnes kinds (fun k => am k &&& ones k) pp (i + 1) n from pOnes_f c87]
        refine lv_iinc (v := nI (i + 1)) (lv' := [(7, .int (nI (i + 1))), (9, .long (am i &&& ones i)), (8, .int (nI (en * 4 + i))), (6, .int pp), (5, .int (nI en)), (0, .ref (h 0)), (1, .int pr), (2, .int ac), (3, .long da)]) hx hb dX3_addAsked_97 hl (k := 2) rfl (nI_1 i) (by decide) rfl (fun ls hl => ?_)
        refine lv_goto (tgt := 15) hx hb dX3_addAsked_100 (by decide) ?_
        exact ih (i + 1) _ _ _ _ _ (by omega) hP hD hS ls (lv_sub hl [0, 3, 4, 5, 6, 7, 8] rfl)
      · rw [show pOnes kinds (fun k => am k &&& ones k) pp i (n + 1) = pOnes kinds (fun k => am k &&& ones k) (bc64 (am i &&& ones i)) (i + 1) n from pOnes_t c87]
        refine lv_lload hx hb dX3_addAsked_90 (lv_at hl 0 rfl) ?_
        refine rd_calli (r := (bc64 (am i &&& ones i))) (va_runS (As := [.long (am i &&& ones i)]) (rest := []) ⟨hx, hb, hml, hown, hts⟩ (c_J13_bitCount l dC dI cI cL (am i &&& ones i)) (va_cwS 1 hts (gSo mw399 mw400 mw36 mw401) rfl rfl rfl (by decide +kernel) ⟨Nat.le_of_ble_eq_true rfl, Nat.le_of_ble_eq_true rfl⟩) (rd_preS (hP.sub (ws' := []) [] rfl) hK) rfl rfl hl.1 rfl (lv_room (Nat.le_of_ble_eq_true rfl)) dX3_addAsked_92 ⟨Nat.zero_le _, Nat.zero_le _⟩) ?_
        refine lv_istore (lv' := [(6, .int (bc64 (am i &&& ones i))), (9, .long (am i &&& ones i)), (8, .int (nI (en * 4 + i))), (7, .int (nI i)), (5, .int (nI en)), (0, .ref (h 0)), (1, .int pr), (2, .int ac), (3, .long da)]) hx hb dX3_addAsked_95 hl (by decide) rfl (fun ls hl => ?_)
        refine lv_iinc (v := nI (i + 1)) (lv' := [(7, .int (nI (i + 1))), (6, .int (bc64 (am i &&& ones i))), (9, .long (am i &&& ones i)), (8, .int (nI (en * 4 + i))), (5, .int (nI en)), (0, .ref (h 0)), (1, .int pr), (2, .int ac), (3, .long da)]) hx hb dX3_addAsked_97 hl (k := 3) rfl (nI_1 i) (by decide) rfl (fun ls hl => ?_)
        refine lv_goto (tgt := 15) hx hb dX3_addAsked_100 (by decide) ?_
        exact ih (i + 1) _ _ _ _ _ (by omega) hP hD hS ls (lv_sub hl [0, 1, 4, 5, 6, 7, 8] rfl)
  exact loop kn 0 0 vals msks _ _ (by omega) hP hD hS ls (lv_sub hl [0, 1, 2, 3, 4, 5, 6] rfl)

set_option maxHeartbeats 4000000 in
set_option maxRecDepth 100000 in
/-- clear -/
theorem c_X3_clear (l : Launch) (dC : Nat → ClassId) (dI : Nat → Nat → Nat) (cI cL : ClassId) (h : Nat → Nat) (kinds : Nat → Int32) (ones : Nat → Int64) (kn : Nat) (av am : Nat → Int64) (vals msks : Nat → Int64) (pre pri act : Nat → Int32) (dat : Nat → Int64) (en : Nat) (held : Nat → Int32) (bn : Nat) (wy stt : Int32) (made hashed : Bool) (cap : Int32) (lat : Int64) : Met l yX3_clear wsX3_clear ({ frames := 2, cells := 0, slots := 0, locals := 46 }) (wr_P (dC, dI) vwCl [(cI, .int), (cL, .long)] [(h 0, .inr (3, [.ref (h 1), .ref (h 2), .ref (h 3), .ref (h 4), .ref (h 5), .int (bI made), .int (bI hashed), .int cap, .long lat])), (h 1, .inr (2, [.ref (h 6), .ref (h 7), .int (nI kn)])), (h 2, .inr (1, [.ref (h 8), .ref (h 9), .ref (h 10), .ref (h 11), .ref (h 12), .ref (h 13), .int (nI en)])), (h 3, .inr (0, [.ref (h 14), .int (nI bn), .int wy, .int stt])), (h 4, .inl (cL, 4, .inr (.inl av))), (h 5, .inl (cL, 4, .inr (.inl am))), (h 6, .inl (cI, 4, .inl kinds)), (h 7, .inl (cL, 4, .inr (.inl ones))), (h 8, .inl (cL, 288, .inr (.inl vals))), (h 9, .inl (cL, 288, .inr (.inl msks))), (h 10, .inl (cI, 72, .inl pre)), (h 11, .inl (cI, 72, .inl pri)), (h 12, .inl (cI, 72, .inl act)), (h 13, .inl (cL, 72, .inr (.inl dat))), (h 14, .inl (cI, 16, .inl held))] [.ref (h 0)]) (wr_Q (dC, dI) vwCl none [(h 0, .inr (3, [.ref (h 1), .ref (h 2), .ref (h 3), .ref (h 4), .ref (h 5), .int (bI made), .int (bI hashed), .int cap, .long lat])), (h 1, .inr (2, [.ref (h 6), .ref (h 7), .int (nI kn)])), (h 2, .inr (1, [.ref (h 8), .ref (h 9), .ref (h 10), .ref (h 11), .ref (h 12), .ref (h 13), .int (nI en)])), (h 3, .inr (0, [.ref (h 14), .int (nI bn), .int wy, .int stt])), (h 4, .inl (cL, 4, .inr (.inl av))), (h 5, .inl (cL, 4, .inr (.inl am))), (h 6, .inl (cI, 4, .inl kinds)), (h 7, .inl (cL, 4, .inr (.inl ones))), (h 8, .inl (cL, 288, .inr (.inl vals))), (h 9, .inl (cL, 288, .inr (.inl msks))), (h 10, .inl (cI, 72, .inl pre)), (h 11, .inl (cI, 72, .inl pri)), (h 12, .inl (cI, 72, .inl act)), (h 13, .inl (cL, 72, .inr (.inl dat))), (h 14, .inl (cI, 16, .inl held))] [(h 0, .inr (3, [.ref (h 1), .ref (h 2), .ref (h 3), .ref (h 4), .ref (h 5), .int (bI false), .int (bI false), .int 0, .long 0])), (h 1, .inr (2, [.ref (h 6), .ref (h 7), .int (nI 0)])), (h 2, .inr (1, [.ref (h 8), .ref (h 9), .ref (h 10), .ref (h 11), .ref (h 12), .ref (h 13), .int (nI 0)])), (h 3, .inr (0, [.ref (h 14), .int (nI 0), .int 0, .int 0])), (h 4, .inl (cL, 4, .inr (.inl (fillL 0 av 0 4)))), (h 5, .inl (cL, 4, .inr (.inl (fillL 0 am 0 4)))), (h 6, .inl (cI, 4, .inl kinds)), (h 7, .inl (cL, 4, .inr (.inl ones))), (h 8, .inl (cL, 288, .inr (.inl vals))), (h 9, .inl (cL, 288, .inr (.inl msks))), (h 10, .inl (cI, 72, .inl pre)), (h 11, .inl (cI, 72, .inl pri)), (h 12, .inl (cI, 72, .inl act)), (h 13, .inl (cL, 72, .inr (.inl dat))), (h 14, .inl (cI, 16, .inl (fillI 0 held 0 16)))]) 0 0 (wr_I [(h 0, .inr (3, [.ref (h 1), .ref (h 2), .ref (h 3), .ref (h 4), .ref (h 5), .int (bI made), .int (bI hashed), .int cap, .long lat])), (h 1, .inr (2, [.ref (h 6), .ref (h 7), .int (nI kn)])), (h 2, .inr (1, [.ref (h 8), .ref (h 9), .ref (h 10), .ref (h 11), .ref (h 12), .ref (h 13), .int (nI en)])), (h 3, .inr (0, [.ref (h 14), .int (nI bn), .int wy, .int stt])), (h 4, .inl (cL, 4, .inr (.inl av))), (h 5, .inl (cL, 4, .inr (.inl am))), (h 6, .inl (cI, 4, .inl kinds)), (h 7, .inl (cL, 4, .inr (.inl ones))), (h 8, .inl (cL, 288, .inr (.inl vals))), (h 9, .inl (cL, 288, .inr (.inl msks))), (h 10, .inl (cI, 72, .inl pre)), (h 11, .inl (cI, 72, .inl pri)), (h 12, .inl (cI, 72, .inl act)), (h 13, .inl (cL, 72, .inr (.inl dat))), (h 14, .inl (cI, 16, .inl held))]) := by
  refine Met.ofW (cc := cX3_clear) (maxL := 1) (ret := none) (by decide) rfl ?_
  intro p e s m args below meth c s₁ B hml hv
  obtain ⟨rfl, hP, hK, hD0⟩ := hv
  have hx := B.exec
  have hb := B.bytes
  have hr := B.returns
  have hts := fun w h => atoms_spec (ws := wsX3_clear) B.pre w (List.mem_cons_of_mem _ h)
  have hown : s.vm.findClass RX3 = some m.cls := findClass_of_methodNamed B.named
  have hlocks := B.notSynchronized
  have hD := wr_self hD0
  have hS : va_S (wr_I [(h 0, .inr (3, [.ref (h 1), .ref (h 2), .ref (h 3), .ref (h 4), .ref (h 5), .int (bI made), .int (bI hashed), .int cap, .long lat])), (h 1, .inr (2, [.ref (h 6), .ref (h 7), .int (nI kn)])), (h 2, .inr (1, [.ref (h 8), .ref (h 9), .ref (h 10), .ref (h 11), .ref (h 12), .ref (h 13), .int (nI en)])), (h 3, .inr (0, [.ref (h 14), .int (nI bn), .int wy, .int stt])), (h 4, .inl (cL, 4, .inr (.inl av))), (h 5, .inl (cL, 4, .inr (.inl am))), (h 6, .inl (cI, 4, .inl kinds)), (h 7, .inl (cL, 4, .inr (.inl ones))), (h 8, .inl (cL, 288, .inr (.inl vals))), (h 9, .inl (cL, 288, .inr (.inl msks))), (h 10, .inl (cI, 72, .inl pre)), (h 11, .inl (cI, 72, .inl pri)), (h 12, .inl (cI, 72, .inl act)), (h 13, .inl (cL, 72, .inr (.inl dat))), (h 14, .inl (cI, 16, .inl held))]) s.heap s.heap [] := va_S.rf
  have hl := lv_entry ([.ref (h 0)]) (n := 1) (Nat.le_of_ble_eq_true rfl)
  rw [lg_entry_eq]
  generalize (lg_sl ([.ref (h 0)]) ++ List.replicate (1 - (lg_sl ([.ref (h 0)])).length) Slot.unset).toArray = ls at hl ⊢
  have hl : lv_has ls 1 [(0, .ref (h 0))] := hl
  refine lv_aload_n hx hb dX3_clear_0 rfl (lv_at hl 0 rfl) ?_
  refine va_get (D := (dC, dI)) (ci := 3) (v := .ref (h 1)) (C := RX3) (T := TX3) (N := 9) hx hb hts inX3 hown hK hP 0 rfl rfl 0 (by decide) (hts _ mw120) (fun _ h9 => h9) rfl dX3_clear_1 ?_
  refine lv_iconst (v := (nI 0)) hx hb dX3_clear_4 (by decide) ?_
  refine n_put (ws' := [(h 0, .inr (3, [.ref (h 1), .ref (h 2), .ref (h 3), .ref (h 4), .ref (h 5), .int (bI made), .int (bI hashed), .int cap, .long lat])), (h 1, .inr (2, [.ref (h 6), .ref (h 7), .int (nI 0)])), (h 2, .inr (1, [.ref (h 8), .ref (h 9), .ref (h 10), .ref (h 11), .ref (h 12), .ref (h 13), .int (nI en)])), (h 3, .inr (0, [.ref (h 14), .int (nI bn), .int wy, .int stt])), (h 4, .inl (cL, 4, .inr (.inl av))), (h 5, .inl (cL, 4, .inr (.inl am))), (h 6, .inl (cI, 4, .inl kinds)), (h 7, .inl (cL, 4, .inr (.inl ones))), (h 8, .inl (cL, 288, .inr (.inl vals))), (h 9, .inl (cL, 288, .inr (.inl msks))), (h 10, .inl (cI, 72, .inl pre)), (h 11, .inl (cI, 72, .inl pri)), (h 12, .inl (cI, 72, .inl act)), (h 13, .inl (cL, 72, .inr (.inl dat))), (h 14, .inl (cI, 16, .inl held))]) (D := (dC, dI)) (ci := 2) (v := .int (nI 0)) (ty := .int) (C := RX2) (T := TX2) (N := 3) hx hb hts inX2 tyX2 tyX2_ok nmX2 hown hK hP hD hS 1 rfl rfl 2 (by decide) (hts _ mw56) (fun _ h9 => h9) rfl rfl rfl rfl (Nat.le_of_ble_eq_true rfl) dX3_clear_5 rfl (fun H locs hP hD hS => ?_)
  refine lv_aload_n hx hb dX3_clear_8 rfl (lv_at hl 0 rfl) ?_
  refine va_get (D := (dC, dI)) (ci := 3) (v := .ref (h 2)) (C := RX3) (T := TX3) (N := 9) hx hb hts inX3 hown hK hP 0 rfl rfl 1 (by decide) (hts _ mw121) (fun _ h9 => h9) rfl dX3_clear_9 ?_
  refine lv_iconst (v := (nI 0)) hx hb dX3_clear_12 (by decide) ?_
  refine n_put (ws' := [(h 0, .inr (3, [.ref (h 1), .ref (h 2), .ref (h 3), .ref (h 4), .ref (h 5), .int (bI made), .int (bI hashed), .int cap, .long lat])), (h 1, .inr (2, [.ref (h 6), .ref (h 7), .int (nI 0)])), (h 2, .inr (1, [.ref (h 8), .ref (h 9), .ref (h 10), .ref (h 11), .ref (h 12), .ref (h 13), .int (nI 0)])), (h 3, .inr (0, [.ref (h 14), .int (nI bn), .int wy, .int stt])), (h 4, .inl (cL, 4, .inr (.inl av))), (h 5, .inl (cL, 4, .inr (.inl am))), (h 6, .inl (cI, 4, .inl kinds)), (h 7, .inl (cL, 4, .inr (.inl ones))), (h 8, .inl (cL, 288, .inr (.inl vals))), (h 9, .inl (cL, 288, .inr (.inl msks))), (h 10, .inl (cI, 72, .inl pre)), (h 11, .inl (cI, 72, .inl pri)), (h 12, .inl (cI, 72, .inl act)), (h 13, .inl (cL, 72, .inr (.inl dat))), (h 14, .inl (cI, 16, .inl held))]) (D := (dC, dI)) (ci := 1) (v := .int (nI 0)) (ty := .int) (C := RX1) (T := TX1) (N := 7) hx hb hts inX1 tyX1 tyX1_ok nmX1 hown hK hP hD hS 2 rfl rfl 6 (by decide) (hts _ mw84) (fun _ h9 => h9) rfl rfl rfl rfl (Nat.le_of_ble_eq_true rfl) dX3_clear_13 rfl (fun H locs hP hD hS => ?_)
  refine lv_aload_n hx hb dX3_clear_16 rfl (lv_at hl 0 rfl) ?_
  refine va_get (D := (dC, dI)) (ci := 3) (v := .ref (h 3)) (C := RX3) (T := TX3) (N := 9) hx hb hts inX3 hown hK hP 0 rfl rfl 2 (by decide) (hts _ mw122) (fun _ h9 => h9) rfl dX3_clear_17 ?_
  refine lv_iconst (v := (nI 0)) hx hb dX3_clear_20 (by decide) ?_
  refine lv_iconst (v := 0) hx hb dX3_clear_21 (by decide) ?_
  refine lv_iconst (v := 0) hx hb dX3_clear_22 (by decide) ?_
  refine wr_call (w := [(h 3, .inr (0, [.ref (h 14), .int (nI bn), .int wy, .int stt])), (h 14, .inl (cI, 16, .inl held))]) (w' := [(h 3, .inr (0, [.ref (h 14), .int (nI 0), .int 0, .int 0])), (h 14, .inl (cI, 16, .inl (fillI 0 held 0 16)))]) (wr := [(h 0, .inr (3, [.ref (h 1), .ref (h 2), .ref (h 3), .ref (h 4), .ref (h 5), .int (bI made), .int (bI hashed), .int cap, .long lat])), (h 1, .inr (2, [.ref (h 6), .ref (h 7), .int (nI 0)])), (h 2, .inr (1, [.ref (h 8), .ref (h 9), .ref (h 10), .ref (h 11), .ref (h 12), .ref (h 13), .int (nI 0)])), (h 4, .inl (cL, 4, .inr (.inl av))), (h 5, .inl (cL, 4, .inr (.inl am))), (h 6, .inl (cI, 4, .inl kinds)), (h 7, .inl (cL, 4, .inr (.inl ones))), (h 8, .inl (cL, 288, .inr (.inl vals))), (h 9, .inl (cL, 288, .inr (.inl msks))), (h 10, .inl (cI, 72, .inl pre)), (h 11, .inl (cI, 72, .inl pri)), (h 12, .inl (cI, 72, .inl act)), (h 13, .inl (cL, 72, .inr (.inl dat)))]) (ws' := [(h 0, .inr (3, [.ref (h 1), .ref (h 2), .ref (h 3), .ref (h 4), .ref (h 5), .int (bI made), .int (bI hashed), .int cap, .long lat])), (h 1, .inr (2, [.ref (h 6), .ref (h 7), .int (nI 0)])), (h 2, .inr (1, [.ref (h 8), .ref (h 9), .ref (h 10), .ref (h 11), .ref (h 12), .ref (h 13), .int (nI 0)])), (h 3, .inr (0, [.ref (h 14), .int (nI 0), .int 0, .int 0])), (h 4, .inl (cL, 4, .inr (.inl av))), (h 5, .inl (cL, 4, .inr (.inl am))), (h 6, .inl (cI, 4, .inl kinds)), (h 7, .inl (cL, 4, .inr (.inl ones))), (h 8, .inl (cL, 288, .inr (.inl vals))), (h 9, .inl (cL, 288, .inr (.inl msks))), (h 10, .inl (cI, 72, .inl pre)), (h 11, .inl (cI, 72, .inl pri)), (h 12, .inl (cI, 72, .inl act)), (h 13, .inl (cL, 72, .inr (.inl dat))), (h 14, .inl (cI, 16, .inl (fillI 0 held 0 16)))]) (va_runV (As := [.int (nI 0), .int 0, .int 0]) (rest := []) ⟨hx, hb, hml, hown, hts⟩ (c_X0_lay l dC dI cI cL (h 3) (h 14) held bn wy stt 0 0 0) (cwV 3 hts (gV mw152 mw153 mw154 mw25 mw155) rfl rfl rfl (by decide +kernel) ⟨Nat.le_of_ble_eq_true rfl, Nat.le_of_ble_eq_true rfl⟩) (wr_preV (hP.sub (ws' := [(h 3, .inr (0, [.ref (h 14), .int (nI bn), .int wy, .int stt])), (h 14, .inl (cI, 16, .inl held))]) [3, 14] rfl) hK (hD.sub (ws' := [(h 3, .inr (0, [.ref (h 14), .int (nI bn), .int wy, .int stt])), (h 14, .inl (cI, 16, .inl held))]) [3, 14] (by decide) rfl) (va_recv (ci := 0) hK hP rfl (q0 := 3) rfl)) rfl rfl hl.1 rfl (lv_room (Nat.le_of_ble_eq_true rfl)) dX3_clear_23 ⟨Nat.zero_le _, Nat.zero_le _⟩) hP hD hS [3, 14] [0, 1, 2, 4, 5, 6, 7, 8, 9, 10, 11, 12, 13] [0, 1, 2, 13, 3, 4, 5, 6, 7, 8, 9, 10, 11, 12, 14] rfl rfl (by decide) rfl rfl (fun H locs hP hD hS => ?_)
  refine lv_aload_n hx hb dX3_clear_26 rfl (lv_at hl 0 rfl) ?_
  refine va_get (D := (dC, dI)) (ci := 3) (v := .ref (h 4)) (C := RX3) (T := TX3) (N := 9) hx hb hts inX3 hown hK hP 0 rfl rfl 3 (by decide) (hts _ mw123) (fun _ h9 => h9) rfl dX3_clear_27 ?_
  refine lv_lconst (v := 0) hx hb dX3_clear_30 (by decide) ?_
  refine wr_call (w := [(h 4, .inl (cL, 4, .inr (.inl av)))]) (w' := [(h 4, .inl (cL, 4, .inr (.inl (fillL 0 av 0 4))))]) (wr := [(h 0, .inr (3, [.ref (h 1), .ref (h 2), .ref (h 3), .ref (h 4), .ref (h 5), .int (bI made), .int (bI hashed), .int cap, .long lat])), (h 1, .inr (2, [.ref (h 6), .ref (h 7), .int (nI 0)])), (h 2, .inr (1, [.ref (h 8), .ref (h 9), .ref (h 10), .ref (h 11), .ref (h 12), .ref (h 13), .int (nI 0)])), (h 3, .inr (0, [.ref (h 14), .int (nI 0), .int 0, .int 0])), (h 5, .inl (cL, 4, .inr (.inl am))), (h 6, .inl (cI, 4, .inl kinds)), (h 7, .inl (cL, 4, .inr (.inl ones))), (h 8, .inl (cL, 288, .inr (.inl vals))), (h 9, .inl (cL, 288, .inr (.inl msks))), (h 10, .inl (cI, 72, .inl pre)), (h 11, .inl (cI, 72, .inl pri)), (h 12, .inl (cI, 72, .inl act)), (h 13, .inl (cL, 72, .inr (.inl dat))), (h 14, .inl (cI, 16, .inl (fillI 0 held 0 16)))]) (ws' := [(h 0, .inr (3, [.ref (h 1), .ref (h 2), .ref (h 3), .ref (h 4), .ref (h 5), .int (bI made), .int (bI hashed), .int cap, .long lat])), (h 1, .inr (2, [.ref (h 6), .ref (h 7), .int (nI 0)])), (h 2, .inr (1, [.ref (h 8), .ref (h 9), .ref (h 10), .ref (h 11), .ref (h 12), .ref (h 13), .int (nI 0)])), (h 3, .inr (0, [.ref (h 14), .int (nI 0), .int 0, .int 0])), (h 4, .inl (cL, 4, .inr (.inl (fillL 0 av 0 4)))), (h 5, .inl (cL, 4, .inr (.inl am))), (h 6, .inl (cI, 4, .inl kinds)), (h 7, .inl (cL, 4, .inr (.inl ones))), (h 8, .inl (cL, 288, .inr (.inl vals))), (h 9, .inl (cL, 288, .inr (.inl msks))), (h 10, .inl (cI, 72, .inl pre)), (h 11, .inl (cI, 72, .inl pri)), (h 12, .inl (cI, 72, .inl act)), (h 13, .inl (cL, 72, .inr (.inl dat))), (h 14, .inl (cI, 16, .inl (fillI 0 held 0 16)))]) (va_runS (As := [.ref (h 4), .long 0]) (rest := []) ⟨hx, hb, hml, hown, hts⟩ (c_J7_fillL l dC dI cI cL (h 4) 4 av 0 (by decide)) (va_cwS 2 hts (gSo mw159 mw160 mw27 mw161) rfl rfl rfl (by decide +kernel) ⟨Nat.le_of_ble_eq_true rfl, Nat.le_of_ble_eq_true rfl⟩) (wr_preS (hP.sub (ws' := [(h 4, .inl (cL, 4, .inr (.inl av)))]) [4] rfl) hK (hD.sub (ws' := [(h 4, .inl (cL, 4, .inr (.inl av)))]) [4] (by decide) rfl)) rfl rfl hl.1 rfl (lv_room (Nat.le_of_ble_eq_true rfl)) dX3_clear_31 ⟨Nat.zero_le _, Nat.zero_le _⟩) hP hD hS [4] [0, 1, 2, 3, 5, 6, 7, 8, 9, 10, 11, 12, 13, 14] [0, 1, 2, 3, 14, 4, 5, 6, 7, 8, 9, 10, 11, 12, 13] rfl rfl (by decide) rfl rfl (fun H locs hP hD hS => ?_)
  refine lv_aload_n hx hb dX3_clear_34 rfl (lv_at hl 0 rfl) ?_
  refine va_get (D := (dC, dI)) (ci := 3) (v := .ref (h 5)) (C := RX3) (T := TX3) (N := 9) hx hb hts inX3 hown hK hP 0 rfl rfl 4 (by decide) (hts _ mw124) (fun _ h9 => h9) rfl dX3_clear_35 ?_
  refine lv_lconst (v := 0) hx hb dX3_clear_38 (by decide) ?_
  refine wr_call (w := [(h 5, .inl (cL, 4, .inr (.inl am)))]) (w' := [(h 5, .inl (cL, 4, .inr (.inl (fillL 0 am 0 4))))]) (wr := [(h 0, .inr (3, [.ref (h 1), .ref (h 2), .ref (h 3), .ref (h 4), .ref (h 5), .int (bI made), .int (bI hashed), .int cap, .long lat])), (h 1, .inr (2, [.ref (h 6), .ref (h 7), .int (nI 0)])), (h 2, .inr (1, [.ref (h 8), .ref (h 9), .ref (h 10), .ref (h 11), .ref (h 12), .ref (h 13), .int (nI 0)])), (h 3, .inr (0, [.ref (h 14), .int (nI 0), .int 0, .int 0])), (h 4, .inl (cL, 4, .inr (.inl (fillL 0 av 0 4)))), (h 6, .inl (cI, 4, .inl kinds)), (h 7, .inl (cL, 4, .inr (.inl ones))), (h 8, .inl (cL, 288, .inr (.inl vals))), (h 9, .inl (cL, 288, .inr (.inl msks))), (h 10, .inl (cI, 72, .inl pre)), (h 11, .inl (cI, 72, .inl pri)), (h 12, .inl (cI, 72, .inl act)), (h 13, .inl (cL, 72, .inr (.inl dat))), (h 14, .inl (cI, 16, .inl (fillI 0 held 0 16)))]) (ws' := [(h 0, .inr (3, [.ref (h 1), .ref (h 2), .ref (h 3), .ref (h 4), .ref (h 5), .int (bI made), .int (bI hashed), .int cap, .long lat])), (h 1, .inr (2, [.ref (h 6), .ref (h 7), .int (nI 0)])), (h 2, .inr (1, [.ref (h 8), .ref (h 9), .ref (h 10), .ref (h 11), .ref (h 12), .ref (h 13), .int (nI 0)])), (h 3, .inr (0, [.ref (h 14), .int (nI 0), .int 0, .int 0])), (h 4, .inl (cL, 4, .inr (.inl (fillL 0 av 0 4)))), (h 5, .inl (cL, 4, .inr (.inl (fillL 0 am 0 4)))), (h 6, .inl (cI, 4, .inl kinds)), (h 7, .inl (cL, 4, .inr (.inl ones))), (h 8, .inl (cL, 288, .inr (.inl vals))), (h 9, .inl (cL, 288, .inr (.inl msks))), (h 10, .inl (cI, 72, .inl pre)), (h 11, .inl (cI, 72, .inl pri)), (h 12, .inl (cI, 72, .inl act)), (h 13, .inl (cL, 72, .inr (.inl dat))), (h 14, .inl (cI, 16, .inl (fillI 0 held 0 16)))]) (va_runS (As := [.ref (h 5), .long 0]) (rest := []) ⟨hx, hb, hml, hown, hts⟩ (c_J7_fillL l dC dI cI cL (h 5) 4 am 0 (by decide)) (va_cwS 2 hts (gSo mw159 mw160 mw27 mw161) rfl rfl rfl (by decide +kernel) ⟨Nat.le_of_ble_eq_true rfl, Nat.le_of_ble_eq_true rfl⟩) (wr_preS (hP.sub (ws' := [(h 5, .inl (cL, 4, .inr (.inl am)))]) [5] rfl) hK (hD.sub (ws' := [(h 5, .inl (cL, 4, .inr (.inl am)))]) [5] (by decide) rfl)) rfl rfl hl.1 rfl (lv_room (Nat.le_of_ble_eq_true rfl)) dX3_clear_39 ⟨Nat.zero_le _, Nat.zero_le _⟩) hP hD hS [5] [0, 1, 2, 3, 4, 6, 7, 8, 9, 10, 11, 12, 13, 14] [0, 1, 2, 3, 4, 14, 5, 6, 7, 8, 9, 10, 11, 12, 13] rfl rfl (by decide) rfl rfl (fun H locs hP hD hS => ?_)
  refine lv_aload_n hx hb dX3_clear_42 rfl (lv_at hl 0 rfl) ?_
  refine lv_iconst (v := (bI false)) hx hb dX3_clear_43 (by decide) ?_
  refine n_put (ws' := [(h 0, .inr (3, [.ref (h 1), .ref (h 2), .ref (h 3), .ref (h 4), .ref (h 5), .int (bI false), .int (bI hashed), .int cap, .long lat])), (h 1, .inr (2, [.ref (h 6), .ref (h 7), .int (nI 0)])), (h 2, .inr (1, [.ref (h 8), .ref (h 9), .ref (h 10), .ref (h 11), .ref (h 12), .ref (h 13), .int (nI 0)])), (h 3, .inr (0, [.ref (h 14), .int (nI 0), .int 0, .int 0])), (h 4, .inl (cL, 4, .inr (.inl (fillL 0 av 0 4)))), (h 5, .inl (cL, 4, .inr (.inl (fillL 0 am 0 4)))), (h 6, .inl (cI, 4, .inl kinds)), (h 7, .inl (cL, 4, .inr (.inl ones))), (h 8, .inl (cL, 288, .inr (.inl vals))), (h 9, .inl (cL, 288, .inr (.inl msks))), (h 10, .inl (cI, 72, .inl pre)), (h 11, .inl (cI, 72, .inl pri)), (h 12, .inl (cI, 72, .inl act)), (h 13, .inl (cL, 72, .inr (.inl dat))), (h 14, .inl (cI, 16, .inl (fillI 0 held 0 16)))]) (D := (dC, dI)) (ci := 3) (v := .int (bI false)) (ty := .boolean) (C := RX3) (T := TX3) (N := 9) hx hb hts inX3 tyX3 tyX3_ok nmX3 hown hK hP hD hS 0 rfl rfl 5 (by decide) (hts _ mw125) (fun _ h9 => h9) rfl rfl (bI_nar _) (bI_fit _) (Nat.le_of_ble_eq_true rfl) dX3_clear_44 rfl (fun H locs hP hD hS => ?_)
  refine lv_aload_n hx hb dX3_clear_47 rfl (lv_at hl 0 rfl) ?_
  refine lv_iconst (v := (bI false)) hx hb dX3_clear_48 (by decide) ?_
  refine n_put (ws' := [(h 0, .inr (3, [.ref (h 1), .ref (h 2), .ref (h 3), .ref (h 4), .ref (h 5), .int (bI false), .int (bI false), .int cap, .long lat])), (h 1, .inr (2, [.ref (h 6), .ref (h 7), .int (nI 0)])), (h 2, .inr (1, [.ref (h 8), .ref (h 9), .ref (h 10), .ref (h 11), .ref (h 12), .ref (h 13), .int (nI 0)])), (h 3, .inr (0, [.ref (h 14), .int (nI 0), .int 0, .int 0])), (h 4, .inl (cL, 4, .inr (.inl (fillL 0 av 0 4)))), (h 5, .inl (cL, 4, .inr (.inl (fillL 0 am 0 4)))), (h 6, .inl (cI, 4, .inl kinds)), (h 7, .inl (cL, 4, .inr (.inl ones))), (h 8, .inl (cL, 288, .inr (.inl vals))), (h 9, .inl (cL, 288, .inr (.inl msks))), (h 10, .inl (cI, 72, .inl pre)), (h 11, .inl (cI, 72, .inl pri)), (h 12, .inl (cI, 72, .inl act)), (h 13, .inl (cL, 72, .inr (.inl dat))), (h 14, .inl (cI, 16, .inl (fillI 0 held 0 16)))]) (D := (dC, dI)) (ci := 3) (v := .int (bI false)) (ty := .boolean) (C := RX3) (T := TX3) (N := 9) hx hb hts inX3 tyX3 tyX3_ok nmX3 hown hK hP hD hS 0 rfl rfl 6 (by decide) (hts _ mw126) (fun _ h9 => h9) rfl rfl (bI_nar _) (bI_fit _) (Nat.le_of_ble_eq_true rfl) dX3_clear_49 rfl (fun H locs hP hD hS => ?_)
  refine lv_aload_n hx hb dX3_clear_52 rfl (lv_at hl 0 rfl) ?_
  refine lv_iconst (v := 0) hx hb dX3_clear_53 (by decide) ?_
  refine n_put (ws' := [(h 0, .inr (3, [.ref (h 1), .ref (h 2), .ref (h 3), .ref (h 4), .ref (h 5), .int (bI false), .int (bI false), .int 0, .long lat])), (h 1, .inr (2, [.ref (h 6), .ref (h 7), .int (nI 0)])), (h 2, .inr (1, [.ref (h 8), .ref (h 9), .ref (h 10), .ref (h 11), .ref (h 12), .ref (h 13), .int (nI 0)])), (h 3, .inr (0, [.ref (h 14), .int (nI 0), .int 0, .int 0])), (h 4, .inl (cL, 4, .inr (.inl (fillL 0 av 0 4)))), (h 5, .inl (cL, 4, .inr (.inl (fillL 0 am 0 4)))), (h 6, .inl (cI, 4, .inl kinds)), (h 7, .inl (cL, 4, .inr (.inl ones))), (h 8, .inl (cL, 288, .inr (.inl vals))), (h 9, .inl (cL, 288, .inr (.inl msks))), (h 10, .inl (cI, 72, .inl pre)), (h 11, .inl (cI, 72, .inl pri)), (h 12, .inl (cI, 72, .inl act)), (h 13, .inl (cL, 72, .inr (.inl dat))), (h 14, .inl (cI, 16, .inl (fillI 0 held 0 16)))]) (D := (dC, dI)) (ci := 3) (v := .int 0) (ty := .int) (C := RX3) (T := TX3) (N := 9) hx hb hts inX3 tyX3 tyX3_ok nmX3 hown hK hP hD hS 0 rfl rfl 7 (by decide) (hts _ mw127) (fun _ h9 => h9) rfl rfl rfl rfl (Nat.le_of_ble_eq_true rfl) dX3_clear_54 rfl (fun H locs hP hD hS => ?_)
  refine lv_aload_n hx hb dX3_clear_57 rfl (lv_at hl 0 rfl) ?_
  refine lv_lconst (v := 0) hx hb dX3_clear_58 (by decide) ?_
  refine n_put (ws' := [(h 0, .inr (3, [.ref (h 1), .ref (h 2), .ref (h 3), .ref (h 4), .ref (h 5), .int (bI false), .int (bI false), .int 0, .long 0])), (h 1, .inr (2, [.ref (h 6), .ref (h 7), .int (nI 0)])), (h 2, .inr (1, [.ref (h 8), .ref (h 9), .ref (h 10), .ref (h 11), .ref (h 12), .ref (h 13), .int (nI 0)])), (h 3, .inr (0, [.ref (h 14), .int (nI 0), .int 0, .int 0])), (h 4, .inl (cL, 4, .inr (.inl (fillL 0 av 0 4)))), (h 5, .inl (cL, 4, .inr (.inl (fillL 0 am 0 4)))), (h 6, .inl (cI, 4, .inl kinds)), (h 7, .inl (cL, 4, .inr (.inl ones))), (h 8, .inl (cL, 288, .inr (.inl vals))), (h 9, .inl (cL, 288, .inr (.inl msks))), (h 10, .inl (cI, 72, .inl pre)), (h 11, .inl (cI, 72, .inl pri)), (h 12, .inl (cI, 72, .inl act)), (h 13, .inl (cL, 72, .inr (.inl dat))), (h 14, .inl (cI, 16, .inl (fillI 0 held 0 16)))]) (D := (dC, dI)) (ci := 3) (v := .long 0) (ty := .long) (C := RX3) (T := TX3) (N := 9) hx hb hts inX3 tyX3 tyX3_ok nmX3 hown hK hP hD hS 0 rfl rfl 8 (by decide) (hts _ mw128) (fun _ h9 => h9) rfl rfl rfl rfl (Nat.le_of_ble_eq_true rfl) dX3_clear_59 rfl (fun H locs hP hD hS => ?_)
  exact wr_vret hx hb hr hlocks hP hS dX3_clear_62
end
section
/-! wt3 -/
set_option maxHeartbeats 4000000 in
set_option maxRecDepth 100000 in
/-- requireTable, a table is made -/
theorem c_X3_requireTable (l : Launch) (dC : Nat → ClassId) (dI : Nat → Nat → Nat) (cI cL : ClassId) (h : Nat → Nat) (kinds : Nat → Int32) (ones : Nat → Int64) (kn : Nat) (av am : Nat → Int64) (vals msks : Nat → Int64) (pre pri act : Nat → Int32) (dat : Nat → Int64) (en : Nat) (held : Nat → Int32) (bn : Nat) (wy stt : Int32) (made hashed : Bool) (cap : Int32) (lat : Int64) (hm : made = true) : Met l yX3_requireTable wsX3_requireTable ({ frames := 0, cells := 0, slots := 0, locals := 0 }) (rd_P (dC, dI) vwCl [(cI, .int), (cL, .long)] [(h 0, .inr (3, [.ref (h 1), .ref (h 2), .ref (h 3), .ref (h 4), .ref (h 5), .int (bI made), .int (bI hashed), .int cap, .long lat])), (h 1, .inr (2, [.ref (h 6), .ref (h 7), .int (nI kn)])), (h 2, .inr (1, [.ref (h 8), .ref (h 9), .ref (h 10), .ref (h 11), .ref (h 12), .ref (h 13), .int (nI en)])), (h 3, .inr (0, [.ref (h 14), .int (nI bn), .int wy, .int stt])), (h 4, .inl (cL, 4, .inr (.inl av))), (h 5, .inl (cL, 4, .inr (.inl am))), (h 6, .inl (cI, 4, .inl kinds)), (h 7, .inl (cL, 4, .inr (.inl ones))), (h 8, .inl (cL, 288, .inr (.inl vals))), (h 9, .inl (cL, 288, .inr (.inl msks))), (h 10, .inl (cI, 72, .inl pre)), (h 11, .inl (cI, 72, .inl pri)), (h 12, .inl (cI, 72, .inl act)), (h 13, .inl (cL, 72, .inr (.inl dat))), (h 14, .inl (cI, 16, .inl held))] [.ref (h 0)]) (rd_Q none) 0 0 (fun _ => False) := by
  refine Met.ofW (cc := cX3_requireTable) (maxL := 1) (ret := none) (by decide) rfl ?_
  intro p e s m args below meth c s₁ B hml hv
  obtain ⟨rfl, hP, hK⟩ := hv
  have hx := B.exec
  have hb := B.bytes
  have hr := B.returns
  have hts := fun w h => atoms_spec (ws := wsX3_requireTable) B.pre w (List.mem_cons_of_mem _ h)
  have hown : s.vm.findClass RX3 = some m.cls := findClass_of_methodNamed B.named
  have hlocks := B.notSynchronized
  have hl := lv_entry ([.ref (h 0)]) (n := 1) (Nat.le_of_ble_eq_true rfl)
  rw [lg_entry_eq]
  generalize (lg_sl ([.ref (h 0)]) ++ List.replicate (1 - (lg_sl ([.ref (h 0)])).length) Slot.unset).toArray = ls at hl ⊢
  have hl : lv_has ls 1 [(0, .ref (h 0))] := hl
  refine lv_aload_n hx hb dX3_requireTable_0 rfl (lv_at hl 0 rfl) ?_
  refine va_get (D := (dC, dI)) (ci := 3) (v := .int (bI made)) (C := RX3) (T := TX3) (N := 9) hx hb hts inX3 hown hK hP 0 rfl rfl 5 (by decide) (hts _ mw125) (fun _ h9 => h9) rfl dX3_requireTable_1 ?_
  refine lv_if_ne (tgt := 17) hx hb dX3_requireTable_4 (by decide) (fun c4 => ?_) (fun c4 => absurd c4 (by rw [hm]; decide))
  exact rd_vret hx hb hr hlocks dX3_requireTable_17

set_option maxHeartbeats 4000000 in
set_option maxRecDepth 100000 in
/-- set -/
theorem c_X3_set (l : Launch) (dC : Nat → ClassId) (dI : Nat → Nat → Nat) (cI cL : ClassId) (h : Nat → Nat) (kinds : Nat → Int32) (ones : Nat → Int64) (kn : Nat) (av am : Nat → Int64) (vals msks : Nat → Int64) (pre pri act : Nat → Int32) (dat : Nat → Int64) (en : Nat) (held : Nat → Int32) (bn : Nat) (wy stt : Int32) (made hashed : Bool) (cap : Int32) (lat : Int64) (k : Nat) (v2 m2 : Int64) (hk : k < 4) : Met l yX3_set wsX3_set ({ frames := 0, cells := 0, slots := 0, locals := 0 }) (wr_P (dC, dI) vwCl [(cI, .int), (cL, .long)] [(h 0, .inr (3, [.ref (h 1), .ref (h 2), .ref (h 3), .ref (h 4), .ref (h 5), .int (bI made), .int (bI hashed), .int cap, .long lat])), (h 1, .inr (2, [.ref (h 6), .ref (h 7), .int (nI kn)])), (h 2, .inr (1, [.ref (h 8), .ref (h 9), .ref (h 10), .ref (h 11), .ref (h 12), .ref (h 13), .int (nI en)])), (h 3, .inr (0, [.ref (h 14), .int (nI bn), .int wy, .int stt])), (h 4, .inl (cL, 4, .inr (.inl av))), (h 5, .inl (cL, 4, .inr (.inl am))), (h 6, .inl (cI, 4, .inl kinds)), (h 7, .inl (cL, 4, .inr (.inl ones))), (h 8, .inl (cL, 288, .inr (.inl vals))), (h 9, .inl (cL, 288, .inr (.inl msks))), (h 10, .inl (cI, 72, .inl pre)), (h 11, .inl (cI, 72, .inl pri)), (h 12, .inl (cI, 72, .inl act)), (h 13, .inl (cL, 72, .inr (.inl dat))), (h 14, .inl (cI, 16, .inl held))] [.ref (h 0), .int (nI k), .long v2, .long m2]) (wr_Q (dC, dI) vwCl none [(h 0, .inr (3, [.ref (h 1), .ref (h 2), .ref (h 3), .ref (h 4), .ref (h 5), .int (bI made), .int (bI hashed), .int cap, .long lat])), (h 1, .inr (2, [.ref (h 6), .ref (h 7), .int (nI kn)])), (h 2, .inr (1, [.ref (h 8), .ref (h 9), .ref (h 10), .ref (h 11), .ref (h 12), .ref (h 13), .int (nI en)])), (h 3, .inr (0, [.ref (h 14), .int (nI bn), .int wy, .int stt])), (h 4, .inl (cL, 4, .inr (.inl av))), (h 5, .inl (cL, 4, .inr (.inl am))), (h 6, .inl (cI, 4, .inl kinds)), (h 7, .inl (cL, 4, .inr (.inl ones))), (h 8, .inl (cL, 288, .inr (.inl vals))), (h 9, .inl (cL, 288, .inr (.inl msks))), (h 10, .inl (cI, 72, .inl pre)), (h 11, .inl (cI, 72, .inl pri)), (h 12, .inl (cI, 72, .inl act)), (h 13, .inl (cL, 72, .inr (.inl dat))), (h 14, .inl (cI, 16, .inl held))] [(h 0, .inr (3, [.ref (h 1), .ref (h 2), .ref (h 3), .ref (h 4), .ref (h 5), .int (bI made), .int (bI hashed), .int cap, .long lat])), (h 1, .inr (2, [.ref (h 6), .ref (h 7), .int (nI kn)])), (h 2, .inr (1, [.ref (h 8), .ref (h 9), .ref (h 10), .ref (h 11), .ref (h 12), .ref (h 13), .int (nI en)])), (h 3, .inr (0, [.ref (h 14), .int (nI bn), .int wy, .int stt])), (h 4, .inl (cL, 4, .inr (.inl (vp_updL av k v2)))), (h 5, .inl (cL, 4, .inr (.inl (vp_updL am k m2)))), (h 6, .inl (cI, 4, .inl kinds)), (h 7, .inl (cL, 4, .inr (.inl ones))), (h 8, .inl (cL, 288, .inr (.inl vals))), (h 9, .inl (cL, 288, .inr (.inl msks))), (h 10, .inl (cI, 72, .inl pre)), (h 11, .inl (cI, 72, .inl pri)), (h 12, .inl (cI, 72, .inl act)), (h 13, .inl (cL, 72, .inr (.inl dat))), (h 14, .inl (cI, 16, .inl held))]) 0 0 (wr_I [(h 0, .inr (3, [.ref (h 1), .ref (h 2), .ref (h 3), .ref (h 4), .ref (h 5), .int (bI made), .int (bI hashed), .int cap, .long lat])), (h 1, .inr (2, [.ref (h 6), .ref (h 7), .int (nI kn)])), (h 2, .inr (1, [.ref (h 8), .ref (h 9), .ref (h 10), .ref (h 11), .ref (h 12), .ref (h 13), .int (nI en)])), (h 3, .inr (0, [.ref (h 14), .int (nI bn), .int wy, .int stt])), (h 4, .inl (cL, 4, .inr (.inl av))), (h 5, .inl (cL, 4, .inr (.inl am))), (h 6, .inl (cI, 4, .inl kinds)), (h 7, .inl (cL, 4, .inr (.inl ones))), (h 8, .inl (cL, 288, .inr (.inl vals))), (h 9, .inl (cL, 288, .inr (.inl msks))), (h 10, .inl (cI, 72, .inl pre)), (h 11, .inl (cI, 72, .inl pri)), (h 12, .inl (cI, 72, .inl act)), (h 13, .inl (cL, 72, .inr (.inl dat))), (h 14, .inl (cI, 16, .inl held))]) := by
  refine Met.ofW (cc := cX3_set) (maxL := 6) (ret := none) (by decide) rfl ?_
  intro p e s m args below meth c s₁ B hml hv
  obtain ⟨rfl, hP, hK, hD0⟩ := hv
  have hx := B.exec
  have hb := B.bytes
  have hr := B.returns
  have hts := fun w h => atoms_spec (ws := wsX3_set) B.pre w (List.mem_cons_of_mem _ h)
  have hown : s.vm.findClass RX3 = some m.cls := findClass_of_methodNamed B.named
  have hlocks := B.notSynchronized
  have hD := wr_self hD0
  have hS : va_S (wr_I [(h 0, .inr (3, [.ref (h 1), .ref (h 2), .ref (h 3), .ref (h 4), .ref (h 5), .int (bI made), .int (bI hashed), .int cap, .long lat])), (h 1, .inr (2, [.ref (h 6), .ref (h 7), .int (nI kn)])), (h 2, .inr (1, [.ref (h 8), .ref (h 9), .ref (h 10), .ref (h 11), .ref (h 12), .ref (h 13), .int (nI en)])), (h 3, .inr (0, [.ref (h 14), .int (nI bn), .int wy, .int stt])), (h 4, .inl (cL, 4, .inr (.inl av))), (h 5, .inl (cL, 4, .inr (.inl am))), (h 6, .inl (cI, 4, .inl kinds)), (h 7, .inl (cL, 4, .inr (.inl ones))), (h 8, .inl (cL, 288, .inr (.inl vals))), (h 9, .inl (cL, 288, .inr (.inl msks))), (h 10, .inl (cI, 72, .inl pre)), (h 11, .inl (cI, 72, .inl pri)), (h 12, .inl (cI, 72, .inl act)), (h 13, .inl (cL, 72, .inr (.inl dat))), (h 14, .inl (cI, 16, .inl held))]) s.heap s.heap [] := va_S.rf
  have hl := lv_entry ([.ref (h 0), .int (nI k), .long v2, .long m2]) (n := 6) (Nat.le_of_ble_eq_true rfl)
  rw [lg_entry_eq]
  generalize (lg_sl ([.ref (h 0), .int (nI k), .long v2, .long m2]) ++ List.replicate (6 - (lg_sl ([.ref (h 0), .int (nI k), .long v2, .long m2])).length) Slot.unset).toArray = ls at hl ⊢
  have hl : lv_has ls 6 [(0, .ref (h 0)), (1, .int (nI k)), (2, .long v2), (4, .long m2)] := hl
  refine lv_iload_n hx hb dX3_set_0 rfl (lv_at hl 1 rfl) ?_
  refine lv_if_lt (tgt := 9) hx hb dX3_set_1 (by decide) (fun c1 => absurd c1 (nI_pos (by omega))) (fun c1 => ?_)
  refine lv_iload_n hx hb dX3_set_4 rfl (lv_at hl 1 rfl) ?_
  refine lv_iconst (v := 4) hx hb dX3_set_5 (by decide) ?_
  refine lv_icmp_lt (tgt := 19) hx hb dX3_set_6 (by decide) (fun c6 => ?_) (fun c6 => absurd ((nI_ltI (by omega) (by decide)).mpr hk : nI k < nI 4) c6)
  refine lv_aload_n hx hb dX3_set_19 rfl (lv_at hl 0 rfl) ?_
  refine va_get (D := (dC, dI)) (ci := 3) (v := .ref (h 4)) (C := RX3) (T := TX3) (N := 9) hx hb hts inX3 hown hK hP 0 rfl rfl 3 (by decide) (hts _ mw123) (fun _ h9 => h9) rfl dX3_set_20 ?_
  refine lv_iload_n hx hb dX3_set_23 rfl (lv_at hl 1 rfl) ?_
  refine lv_lload_n hx hb dX3_set_24 rfl (lv_at hl 2 rfl) ?_
  refine n_last (ws' := [(h 0, .inr (3, [.ref (h 1), .ref (h 2), .ref (h 3), .ref (h 4), .ref (h 5), .int (bI made), .int (bI hashed), .int cap, .long lat])), (h 1, .inr (2, [.ref (h 6), .ref (h 7), .int (nI kn)])), (h 2, .inr (1, [.ref (h 8), .ref (h 9), .ref (h 10), .ref (h 11), .ref (h 12), .ref (h 13), .int (nI en)])), (h 3, .inr (0, [.ref (h 14), .int (nI bn), .int wy, .int stt])), (h 4, .inl (cL, 4, .inr (.inl (vp_updL av k v2)))), (h 5, .inl (cL, 4, .inr (.inl am))), (h 6, .inl (cI, 4, .inl kinds)), (h 7, .inl (cL, 4, .inr (.inl ones))), (h 8, .inl (cL, 288, .inr (.inl vals))), (h 9, .inl (cL, 288, .inr (.inl msks))), (h 10, .inl (cI, 72, .inl pre)), (h 11, .inl (cI, 72, .inl pri)), (h 12, .inl (cI, 72, .inl act)), (h 13, .inl (cL, 72, .inr (.inl dat))), (h 14, .inl (cI, 16, .inl held))]) hx hb hK hP hD hS 4 1 rfl rfl (k := k) rfl hk (by omega) dX3_set_25 rfl (fun H locs hP hD hS => ?_)
  refine lv_aload_n hx hb dX3_set_26 rfl (lv_at hl 0 rfl) ?_
  refine va_get (D := (dC, dI)) (ci := 3) (v := .ref (h 5)) (C := RX3) (T := TX3) (N := 9) hx hb hts inX3 hown hK hP 0 rfl rfl 4 (by decide) (hts _ mw124) (fun _ h9 => h9) rfl dX3_set_27 ?_
  refine lv_iload_n hx hb dX3_set_30 rfl (lv_at hl 1 rfl) ?_
  refine lv_lload hx hb dX3_set_31 (lv_at hl 3 rfl) ?_
  refine n_last (ws' := [(h 0, .inr (3, [.ref (h 1), .ref (h 2), .ref (h 3), .ref (h 4), .ref (h 5), .int (bI made), .int (bI hashed), .int cap, .long lat])), (h 1, .inr (2, [.ref (h 6), .ref (h 7), .int (nI kn)])), (h 2, .inr (1, [.ref (h 8), .ref (h 9), .ref (h 10), .ref (h 11), .ref (h 12), .ref (h 13), .int (nI en)])), (h 3, .inr (0, [.ref (h 14), .int (nI bn), .int wy, .int stt])), (h 4, .inl (cL, 4, .inr (.inl (vp_updL av k v2)))), (h 5, .inl (cL, 4, .inr (.inl (vp_updL am k m2)))), (h 6, .inl (cI, 4, .inl kinds)), (h 7, .inl (cL, 4, .inr (.inl ones))), (h 8, .inl (cL, 288, .inr (.inl vals))), (h 9, .inl (cL, 288, .inr (.inl msks))), (h 10, .inl (cI, 72, .inl pre)), (h 11, .inl (cI, 72, .inl pri)), (h 12, .inl (cI, 72, .inl act)), (h 13, .inl (cL, 72, .inr (.inl dat))), (h 14, .inl (cI, 16, .inl held))]) hx hb hK hP hD hS 5 1 rfl rfl (k := k) rfl hk (by omega) dX3_set_33 rfl (fun H locs hP hD hS => ?_)
  exact wr_vret hx hb hr hlocks hP hS dX3_set_34

set_option maxHeartbeats 4000000 in
set_option maxRecDepth 100000 in
/-- key, when it comes -/
theorem c_X3_key (l : Launch) (dC : Nat → ClassId) (dI : Nat → Nat → Nat) (cI cL : ClassId) (h : Nat → Nat) (kinds : Nat → Int32) (ones : Nat → Int64) (kn : Nat) (av am : Nat → Int64) (vals msks : Nat → Int64) (pre pri act : Nat → Int32) (dat : Nat → Int64) (en : Nat) (held : Nat → Int32) (bn : Nat) (wy stt : Int32) (made hashed : Bool) (cap : Int32) (lat : Int64) (w kind : Int32) (h1 : ¬ w < 1) (h2 : ¬ 64 < w) (h3 : ¬ kind < 0) (h4 : kind ≤ 2) (hm : made = false) (hk : kn < 4) (h5 : kAllow kinds kn kind = true) : Met l yX3_key wsX3_key ({ frames := 3, cells := 0, slots := 0, locals := 63 }) (wr_P (dC, dI) vwCl [(cI, .int), (cL, .long)] [(h 0, .inr (3, [.ref (h 1), .ref (h 2), .ref (h 3), .ref (h 4), .ref (h 5), .int (bI made), .int (bI hashed), .int cap, .long lat])), (h 1, .inr (2, [.ref (h 6), .ref (h 7), .int (nI kn)])), (h 2, .inr (1, [.ref (h 8), .ref (h 9), .ref (h 10), .ref (h 11), .ref (h 12), .ref (h 13), .int (nI en)])), (h 3, .inr (0, [.ref (h 14), .int (nI bn), .int wy, .int stt])), (h 4, .inl (cL, 4, .inr (.inl av))), (h 5, .inl (cL, 4, .inr (.inl am))), (h 6, .inl (cI, 4, .inl kinds)), (h 7, .inl (cL, 4, .inr (.inl ones))), (h 8, .inl (cL, 288, .inr (.inl vals))), (h 9, .inl (cL, 288, .inr (.inl msks))), (h 10, .inl (cI, 72, .inl pre)), (h 11, .inl (cI, 72, .inl pri)), (h 12, .inl (cI, 72, .inl act)), (h 13, .inl (cL, 72, .inr (.inl dat))), (h 14, .inl (cI, 16, .inl held))] [.ref (h 0), .int w, .int kind]) (wr_Q (dC, dI) vwCl (some (.int (nI kn))) [(h 0, .inr (3, [.ref (h 1), .ref (h 2), .ref (h 3), .ref (h 4), .ref (h 5), .int (bI made), .int (bI hashed), .int cap, .long lat])), (h 1, .inr (2, [.ref (h 6), .ref (h 7), .int (nI kn)])), (h 2, .inr (1, [.ref (h 8), .ref (h 9), .ref (h 10), .ref (h 11), .ref (h 12), .ref (h 13), .int (nI en)])), (h 3, .inr (0, [.ref (h 14), .int (nI bn), .int wy, .int stt])), (h 4, .inl (cL, 4, .inr (.inl av))), (h 5, .inl (cL, 4, .inr (.inl am))), (h 6, .inl (cI, 4, .inl kinds)), (h 7, .inl (cL, 4, .inr (.inl ones))), (h 8, .inl (cL, 288, .inr (.inl vals))), (h 9, .inl (cL, 288, .inr (.inl msks))), (h 10, .inl (cI, 72, .inl pre)), (h 11, .inl (cI, 72, .inl pri)), (h 12, .inl (cI, 72, .inl act)), (h 13, .inl (cL, 72, .inr (.inl dat))), (h 14, .inl (cI, 16, .inl held))] [(h 0, .inr (3, [.ref (h 1), .ref (h 2), .ref (h 3), .ref (h 4), .ref (h 5), .int (bI made), .int (bI hashed), .int cap, .long lat])), (h 1, .inr (2, [.ref (h 6), .ref (h 7), .int (nI (kn + 1))])), (h 2, .inr (1, [.ref (h 8), .ref (h 9), .ref (h 10), .ref (h 11), .ref (h 12), .ref (h 13), .int (nI en)])), (h 3, .inr (0, [.ref (h 14), .int (nI bn), .int wy, .int stt])), (h 4, .inl (cL, 4, .inr (.inl av))), (h 5, .inl (cL, 4, .inr (.inl am))), (h 6, .inl (cI, 4, .inl (upd kinds kn kind))), (h 7, .inl (cL, 4, .inr (.inl (vp_updL ones kn (ush (-1) (64 - w)))))), (h 8, .inl (cL, 288, .inr (.inl vals))), (h 9, .inl (cL, 288, .inr (.inl msks))), (h 10, .inl (cI, 72, .inl pre)), (h 11, .inl (cI, 72, .inl pri)), (h 12, .inl (cI, 72, .inl act)), (h 13, .inl (cL, 72, .inr (.inl dat))), (h 14, .inl (cI, 16, .inl held))]) 0 0 (wr_I [(h 0, .inr (3, [.ref (h 1), .ref (h 2), .ref (h 3), .ref (h 4), .ref (h 5), .int (bI made), .int (bI hashed), .int cap, .long lat])), (h 1, .inr (2, [.ref (h 6), .ref (h 7), .int (nI kn)])), (h 2, .inr (1, [.ref (h 8), .ref (h 9), .ref (h 10), .ref (h 11), .ref (h 12), .ref (h 13), .int (nI en)])), (h 3, .inr (0, [.ref (h 14), .int (nI bn), .int wy, .int stt])), (h 4, .inl (cL, 4, .inr (.inl av))), (h 5, .inl (cL, 4, .inr (.inl am))), (h 6, .inl (cI, 4, .inl kinds)), (h 7, .inl (cL, 4, .inr (.inl ones))), (h 8, .inl (cL, 288, .inr (.inl vals))), (h 9, .inl (cL, 288, .inr (.inl msks))), (h 10, .inl (cI, 72, .inl pre)), (h 11, .inl (cI, 72, .inl pri)), (h 12, .inl (cI, 72, .inl act)), (h 13, .inl (cL, 72, .inr (.inl dat))), (h 14, .inl (cI, 16, .inl held))]) := by
  refine Met.ofW (cc := cX3_key) (maxL := 3) (ret := some .int) (by decide) rfl ?_
  intro p e s m args below meth c s₁ B hml hv
  obtain ⟨rfl, hP, hK, hD0⟩ := hv
  have hx := B.exec
  have hb := B.bytes
  have hr := B.returns
  have hts := fun w h => atoms_spec (ws := wsX3_key) B.pre w (List.mem_cons_of_mem _ h)
  have hown : s.vm.findClass RX3 = some m.cls := findClass_of_methodNamed B.named
  have hlocks := B.notSynchronized
  have hD := wr_self hD0
  have hS : va_S (wr_I [(h 0, .inr (3, [.ref (h 1), .ref (h 2), .ref (h 3), .ref (h 4), .ref (h 5), .int (bI made), .int (bI hashed), .int cap, .long lat])), (h 1, .inr (2, [.ref (h 6), .ref (h 7), .int (nI kn)])), (h 2, .inr (1, [.ref (h 8), .ref (h 9), .ref (h 10), .ref (h 11), .ref (h 12), .ref (h 13), .int (nI en)])), (h 3, .inr (0, [.ref (h 14), .int (nI bn), .int wy, .int stt])), (h 4, .inl (cL, 4, .inr (.inl av))), (h 5, .inl (cL, 4, .inr (.inl am))), (h 6, .inl (cI, 4, .inl kinds)), (h 7, .inl (cL, 4, .inr (.inl ones))), (h 8, .inl (cL, 288, .inr (.inl vals))), (h 9, .inl (cL, 288, .inr (.inl msks))), (h 10, .inl (cI, 72, .inl pre)), (h 11, .inl (cI, 72, .inl pri)), (h 12, .inl (cI, 72, .inl act)), (h 13, .inl (cL, 72, .inr (.inl dat))), (h 14, .inl (cI, 16, .inl held))]) s.heap s.heap [] := va_S.rf
  have hl := lv_entry ([.ref (h 0), .int w, .int kind]) (n := 3) (Nat.le_of_ble_eq_true rfl)
  rw [lg_entry_eq]
  generalize (lg_sl ([.ref (h 0), .int w, .int kind]) ++ List.replicate (3 - (lg_sl ([.ref (h 0), .int w, .int kind])).length) Slot.unset).toArray = ls at hl ⊢
  have hl : lv_has ls 3 [(0, .ref (h 0)), (1, .int w), (2, .int kind)] := hl
  refine lv_iload_n hx hb dX3_key_0 rfl (lv_at hl 1 rfl) ?_
  refine lv_iconst (v := 1) hx hb dX3_key_1 (by decide) ?_
  refine lv_icmp_lt (tgt := 20) hx hb dX3_key_2 (by decide) (fun c2 => absurd c2 h1) (fun c2 => ?_)
  refine lv_iload_n hx hb dX3_key_5 rfl (lv_at hl 1 rfl) ?_
  refine lv_bipush (v := 64) hx hb dX3_key_6 (by decide) ?_
  refine lv_icmp_gt (tgt := 20) hx hb dX3_key_8 (by decide) (fun c8 => absurd c8 h2) (fun c8 => ?_)
  refine lv_iload_n hx hb dX3_key_11 rfl (lv_at hl 2 rfl) ?_
  refine lv_if_lt (tgt := 20) hx hb dX3_key_12 (by decide) (fun c12 => absurd c12 h3) (fun c12 => ?_)
  refine lv_iload_n hx hb dX3_key_15 rfl (lv_at hl 2 rfl) ?_
  refine lv_iconst (v := 2) hx hb dX3_key_16 (by decide) ?_
  refine lv_icmp_le (tgt := 30) hx hb dX3_key_17 (by decide) (fun c17 => ?_) (fun c17 => absurd h4 c17)
  refine lv_aload_n hx hb dX3_key_30 rfl (lv_at hl 0 rfl) ?_
  refine va_get (D := (dC, dI)) (ci := 3) (v := .int (bI made)) (C := RX3) (T := TX3) (N := 9) hx hb hts inX3 hown hK hP 0 rfl rfl 5 (by decide) (hts _ mw125) (fun _ h9 => h9) rfl dX3_key_31 ?_
  refine lv_if_ne (tgt := 48) hx hb dX3_key_34 (by decide) (fun c34 => absurd (by rw [hm]; rfl) c34) (fun c34 => ?_)
  refine lv_aload_n hx hb dX3_key_37 rfl (lv_at hl 0 rfl) ?_
  refine va_get (D := (dC, dI)) (ci := 3) (v := .ref (h 1)) (C := RX3) (T := TX3) (N := 9) hx hb hts inX3 hown hK hP 0 rfl rfl 0 (by decide) (hts _ mw120) (fun _ h9 => h9) rfl dX3_key_38 ?_
  refine va_get (D := (dC, dI)) (ci := 2) (v := .int (nI kn)) (C := RX2) (T := TX2) (N := 3) hx hb hts inX2 hown hK hP 1 rfl rfl 2 (by decide) (hts _ mw56) (fun _ h9 => h9) rfl dX3_key_41 ?_
  refine lv_iconst (v := 4) hx hb dX3_key_44 (by decide) ?_
  refine lv_icmp_lt (tgt := 58) hx hb dX3_key_45 (by decide) (fun c45 => ?_) (fun c45 => absurd ((nI_ltI (by omega) (by decide)).mpr hk : nI kn < nI 4) c45)
  refine lv_aload_n hx hb dX3_key_58 rfl (lv_at hl 0 rfl) ?_
  refine va_get (D := (dC, dI)) (ci := 3) (v := .ref (h 1)) (C := RX3) (T := TX3) (N := 9) hx hb hts inX3 hown hK hP 0 rfl rfl 0 (by decide) (hts _ mw120) (fun _ h9 => h9) rfl dX3_key_59 ?_
  refine lv_iload_n hx hb dX3_key_62 rfl (lv_at hl 2 rfl) ?_
  refine rd_calli (r := (bI (kAllow kinds kn kind))) (va_runV (As := [.int kind]) (rest := []) ⟨hx, hb, hml, hown, hts⟩ (c_X2_allow l dC dI cI cL (h 1) (h 6) (h 7) kinds ones kn kind (by omega)) (cwV 1 hts (gV mw279 mw280 mw281 mw23 mw282) rfl rfl rfl (by decide +kernel) ⟨Nat.le_of_ble_eq_true rfl, Nat.le_of_ble_eq_true rfl⟩) (rd_preV (hP.sub (ws' := [(h 1, .inr (2, [.ref (h 6), .ref (h 7), .int (nI kn)])), (h 6, .inl (cI, 4, .inl kinds)), (h 7, .inl (cL, 4, .inr (.inl ones)))]) [1, 6, 7] rfl) hK (va_recv (ci := 2) hK hP rfl (q0 := 1) rfl)) rfl rfl hl.1 rfl (lv_room (Nat.le_of_ble_eq_true rfl)) dX3_key_63 ⟨Nat.zero_le _, Nat.zero_le _⟩) ?_
  refine lv_if_ne (tgt := 79) hx hb dX3_key_66 (by decide) (fun c66 => ?_) (fun c66 => absurd c66 (by rw [h5]; decide))
  refine lv_aload_n hx hb dX3_key_79 rfl (lv_at hl 0 rfl) ?_
  refine va_get (D := (dC, dI)) (ci := 3) (v := .ref (h 1)) (C := RX3) (T := TX3) (N := 9) hx hb hts inX3 hown hK hP 0 rfl rfl 0 (by decide) (hts _ mw120) (fun _ h9 => h9) rfl dX3_key_80 ?_
  refine lv_iload_n hx hb dX3_key_83 rfl (lv_at hl 1 rfl) ?_
  refine lv_iload_n hx hb dX3_key_84 rfl (lv_at hl 2 rfl) ?_
  refine wr_call (w := [(h 1, .inr (2, [.ref (h 6), .ref (h 7), .int (nI kn)])), (h 6, .inl (cI, 4, .inl kinds)), (h 7, .inl (cL, 4, .inr (.inl ones)))]) (w' := [(h 1, .inr (2, [.ref (h 6), .ref (h 7), .int (nI (kn + 1))])), (h 6, .inl (cI, 4, .inl (upd kinds kn kind))), (h 7, .inl (cL, 4, .inr (.inl (vp_updL ones kn (ush (-1) (64 - w))))))]) (wr := [(h 0, .inr (3, [.ref (h 1), .ref (h 2), .ref (h 3), .ref (h 4), .ref (h 5), .int (bI made), .int (bI hashed), .int cap, .long lat])), (h 2, .inr (1, [.ref (h 8), .ref (h 9), .ref (h 10), .ref (h 11), .ref (h 12), .ref (h 13), .int (nI en)])), (h 3, .inr (0, [.ref (h 14), .int (nI bn), .int wy, .int stt])), (h 4, .inl (cL, 4, .inr (.inl av))), (h 5, .inl (cL, 4, .inr (.inl am))), (h 8, .inl (cL, 288, .inr (.inl vals))), (h 9, .inl (cL, 288, .inr (.inl msks))), (h 10, .inl (cI, 72, .inl pre)), (h 11, .inl (cI, 72, .inl pri)), (h 12, .inl (cI, 72, .inl act)), (h 13, .inl (cL, 72, .inr (.inl dat))), (h 14, .inl (cI, 16, .inl held))]) (ws' := [(h 0, .inr (3, [.ref (h 1), .ref (h 2), .ref (h 3), .ref (h 4), .ref (h 5), .int (bI made), .int (bI hashed), .int cap, .long lat])), (h 1, .inr (2, [.ref (h 6), .ref (h 7), .int (nI (kn + 1))])), (h 2, .inr (1, [.ref (h 8), .ref (h 9), .ref (h 10), .ref (h 11), .ref (h 12), .ref (h 13), .int (nI en)])), (h 3, .inr (0, [.ref (h 14), .int (nI bn), .int wy, .int stt])), (h 4, .inl (cL, 4, .inr (.inl av))), (h 5, .inl (cL, 4, .inr (.inl am))), (h 6, .inl (cI, 4, .inl (upd kinds kn kind))), (h 7, .inl (cL, 4, .inr (.inl (vp_updL ones kn (ush (-1) (64 - w)))))), (h 8, .inl (cL, 288, .inr (.inl vals))), (h 9, .inl (cL, 288, .inr (.inl msks))), (h 10, .inl (cI, 72, .inl pre)), (h 11, .inl (cI, 72, .inl pri)), (h 12, .inl (cI, 72, .inl act)), (h 13, .inl (cL, 72, .inr (.inl dat))), (h 14, .inl (cI, 16, .inl held))]) (va_runV (As := [.int w, .int kind]) (rest := []) ⟨hx, hb, hml, hown, hts⟩ (c_X2_add l dC dI cI cL (h 1) (h 6) (h 7) kinds ones kn w kind hk) (cwV 2 hts (gV mw292 mw293 mw294 mw23 mw295) rfl rfl rfl (by decide +kernel) ⟨Nat.le_of_ble_eq_true rfl, Nat.le_of_ble_eq_true rfl⟩) (wr_preV (hP.sub (ws' := [(h 1, .inr (2, [.ref (h 6), .ref (h 7), .int (nI kn)])), (h 6, .inl (cI, 4, .inl kinds)), (h 7, .inl (cL, 4, .inr (.inl ones)))]) [1, 6, 7] rfl) hK (hD.sub (ws' := [(h 1, .inr (2, [.ref (h 6), .ref (h 7), .int (nI kn)])), (h 6, .inl (cI, 4, .inl kinds)), (h 7, .inl (cL, 4, .inr (.inl ones)))]) [1, 6, 7] (by decide) rfl) (va_recv (ci := 2) hK hP rfl (q0 := 1) rfl)) rfl rfl hl.1 rfl (lv_room (Nat.le_of_ble_eq_true rfl)) dX3_key_85 ⟨Nat.zero_le _, Nat.zero_le _⟩) hP hD hS [1, 6, 7] [0, 2, 3, 4, 5, 8, 9, 10, 11, 12, 13, 14] [0, 12, 1, 2, 3, 4, 13, 14, 5, 6, 7, 8, 9, 10, 11] rfl rfl (by decide) rfl rfl (fun H locs hP hD hS => ?_)
  exact wr_iret hx hb hr hlocks hP hS dX3_key_88 rfl (rfl)

set_option maxHeartbeats 4000000 in
set_option maxRecDepth 100000 in
/-- make of a hashed table -/
theorem c_X3_make_h (l : Launch) (dC : Nat → ClassId) (dI : Nat → Nat → Nat) (cI cL : ClassId) (h : Nat → Nat) (kinds : Nat → Int32) (ones : Nat → Int64) (kn : Nat) (av am : Nat → Int64) (vals msks : Nat → Int64) (pre pri act : Nat → Int32) (dat : Nat → Int64) (en : Nat) (held : Nat → Int32) (bn : Nat) (wy stt : Int32) (made hashed : Bool) (cap : Int32) (lat : Int64) (n2 : Nat) (w t : Int32) (hm : made = false) (h0 : 0 < kn) (hk : kn ≤ 4) (he : kExact kinds kn = true) (hs : hShape (nI n2) w t = true) : Met l yX3_make wsX3_make ({ frames := 2, cells := 0, slots := 0, locals := 46 }) (wr_P (dC, dI) vwCl [(cI, .int), (cL, .long)] [(h 0, .inr (3, [.ref (h 1), .ref (h 2), .ref (h 3), .ref (h 4), .ref (h 5), .int (bI made), .int (bI hashed), .int cap, .long lat])), (h 1, .inr (2, [.ref (h 6), .ref (h 7), .int (nI kn)])), (h 2, .inr (1, [.ref (h 8), .ref (h 9), .ref (h 10), .ref (h 11), .ref (h 12), .ref (h 13), .int (nI en)])), (h 3, .inr (0, [.ref (h 14), .int (nI bn), .int wy, .int stt])), (h 4, .inl (cL, 4, .inr (.inl av))), (h 5, .inl (cL, 4, .inr (.inl am))), (h 6, .inl (cI, 4, .inl kinds)), (h 7, .inl (cL, 4, .inr (.inl ones))), (h 8, .inl (cL, 288, .inr (.inl vals))), (h 9, .inl (cL, 288, .inr (.inl msks))), (h 10, .inl (cI, 72, .inl pre)), (h 11, .inl (cI, 72, .inl pri)), (h 12, .inl (cI, 72, .inl act)), (h 13, .inl (cL, 72, .inr (.inl dat))), (h 14, .inl (cI, 16, .inl held))] [.ref (h 0), .int (nI n2), .int w, .int t]) (wr_Q (dC, dI) vwCl none [(h 0, .inr (3, [.ref (h 1), .ref (h 2), .ref (h 3), .ref (h 4), .ref (h 5), .int (bI made), .int (bI hashed), .int cap, .long lat])), (h 1, .inr (2, [.ref (h 6), .ref (h 7), .int (nI kn)])), (h 2, .inr (1, [.ref (h 8), .ref (h 9), .ref (h 10), .ref (h 11), .ref (h 12), .ref (h 13), .int (nI en)])), (h 3, .inr (0, [.ref (h 14), .int (nI bn), .int wy, .int stt])), (h 4, .inl (cL, 4, .inr (.inl av))), (h 5, .inl (cL, 4, .inr (.inl am))), (h 6, .inl (cI, 4, .inl kinds)), (h 7, .inl (cL, 4, .inr (.inl ones))), (h 8, .inl (cL, 288, .inr (.inl vals))), (h 9, .inl (cL, 288, .inr (.inl msks))), (h 10, .inl (cI, 72, .inl pre)), (h 11, .inl (cI, 72, .inl pri)), (h 12, .inl (cI, 72, .inl act)), (h 13, .inl (cL, 72, .inr (.inl dat))), (h 14, .inl (cI, 16, .inl held))] [(h 0, .inr (3, [.ref (h 1), .ref (h 2), .ref (h 3), .ref (h 4), .ref (h 5), .int (bI true), .int (bI (kExact kinds kn)), .int (nI n2 * w + t), .long lat])), (h 1, .inr (2, [.ref (h 6), .ref (h 7), .int (nI kn)])), (h 2, .inr (1, [.ref (h 8), .ref (h 9), .ref (h 10), .ref (h 11), .ref (h 12), .ref (h 13), .int (nI en)])), (h 3, .inr (0, [.ref (h 14), .int (nI n2), .int w, .int t])), (h 4, .inl (cL, 4, .inr (.inl av))), (h 5, .inl (cL, 4, .inr (.inl am))), (h 6, .inl (cI, 4, .inl kinds)), (h 7, .inl (cL, 4, .inr (.inl ones))), (h 8, .inl (cL, 288, .inr (.inl vals))), (h 9, .inl (cL, 288, .inr (.inl msks))), (h 10, .inl (cI, 72, .inl pre)), (h 11, .inl (cI, 72, .inl pri)), (h 12, .inl (cI, 72, .inl act)), (h 13, .inl (cL, 72, .inr (.inl dat))), (h 14, .inl (cI, 16, .inl (fillI 0 held 0 16)))]) 0 0 (wr_I [(h 0, .inr (3, [.ref (h 1), .ref (h 2), .ref (h 3), .ref (h 4), .ref (h 5), .int (bI made), .int (bI hashed), .int cap, .long lat])), (h 1, .inr (2, [.ref (h 6), .ref (h 7), .int (nI kn)])), (h 2, .inr (1, [.ref (h 8), .ref (h 9), .ref (h 10), .ref (h 11), .ref (h 12), .ref (h 13), .int (nI en)])), (h 3, .inr (0, [.ref (h 14), .int (nI bn), .int wy, .int stt])), (h 4, .inl (cL, 4, .inr (.inl av))), (h 5, .inl (cL, 4, .inr (.inl am))), (h 6, .inl (cI, 4, .inl kinds)), (h 7, .inl (cL, 4, .inr (.inl ones))), (h 8, .inl (cL, 288, .inr (.inl vals))), (h 9, .inl (cL, 288, .inr (.inl msks))), (h 10, .inl (cI, 72, .inl pre)), (h 11, .inl (cI, 72, .inl pri)), (h 12, .inl (cI, 72, .inl act)), (h 13, .inl (cL, 72, .inr (.inl dat))), (h 14, .inl (cI, 16, .inl held))]) := by
  refine Met.ofW (cc := cX3_make) (maxL := 5) (ret := none) (by decide) rfl ?_
  intro p e s m args below meth c s₁ B hml hv
  obtain ⟨rfl, hP, hK, hD0⟩ := hv
  have hx := B.exec
  have hb := B.bytes
  have hr := B.returns
  have hts := fun w h => atoms_spec (ws := wsX3_make) B.pre w (List.mem_cons_of_mem _ h)
  have hown : s.vm.findClass RX3 = some m.cls := findClass_of_methodNamed B.named
  have hlocks := B.notSynchronized
  have hD := wr_self hD0
  have hS : va_S (wr_I [(h 0, .inr (3, [.ref (h 1), .ref (h 2), .ref (h 3), .ref (h 4), .ref (h 5), .int (bI made), .int (bI hashed), .int cap, .long lat])), (h 1, .inr (2, [.ref (h 6), .ref (h 7), .int (nI kn)])), (h 2, .inr (1, [.ref (h 8), .ref (h 9), .ref (h 10), .ref (h 11), .ref (h 12), .ref (h 13), .int (nI en)])), (h 3, .inr (0, [.ref (h 14), .int (nI bn), .int wy, .int stt])), (h 4, .inl (cL, 4, .inr (.inl av))), (h 5, .inl (cL, 4, .inr (.inl am))), (h 6, .inl (cI, 4, .inl kinds)), (h 7, .inl (cL, 4, .inr (.inl ones))), (h 8, .inl (cL, 288, .inr (.inl vals))), (h 9, .inl (cL, 288, .inr (.inl msks))), (h 10, .inl (cI, 72, .inl pre)), (h 11, .inl (cI, 72, .inl pri)), (h 12, .inl (cI, 72, .inl act)), (h 13, .inl (cL, 72, .inr (.inl dat))), (h 14, .inl (cI, 16, .inl held))]) s.heap s.heap [] := va_S.rf
  have hl := lv_entry ([.ref (h 0), .int (nI n2), .int w, .int t]) (n := 5) (Nat.le_of_ble_eq_true rfl)
  rw [lg_entry_eq]
  generalize (lg_sl ([.ref (h 0), .int (nI n2), .int w, .int t]) ++ List.replicate (5 - (lg_sl ([.ref (h 0), .int (nI n2), .int w, .int t])).length) Slot.unset).toArray = ls at hl ⊢
  have hl : lv_has ls 5 [(0, .ref (h 0)), (1, .int (nI n2)), (2, .int w), (3, .int t)] := hl
  refine lv_aload_n hx hb dX3_make_0 rfl (lv_at hl 0 rfl) ?_
  refine va_get (D := (dC, dI)) (ci := 3) (v := .int (bI made)) (C := RX3) (T := TX3) (N := 9) hx hb hts inX3 hown hK hP 0 rfl rfl 5 (by decide) (hts _ mw125) (fun _ h9 => h9) rfl dX3_make_1 ?_
  refine lv_if_ne (tgt := 17) hx hb dX3_make_4 (by decide) (fun c4 => absurd (by rw [hm]; rfl) c4) (fun c4 => ?_)
  refine lv_aload_n hx hb dX3_make_7 rfl (lv_at hl 0 rfl) ?_
  refine va_get (D := (dC, dI)) (ci := 3) (v := .ref (h 1)) (C := RX3) (T := TX3) (N := 9) hx hb hts inX3 hown hK hP 0 rfl rfl 0 (by decide) (hts _ mw120) (fun _ h9 => h9) rfl dX3_make_8 ?_
  refine va_get (D := (dC, dI)) (ci := 2) (v := .int (nI kn)) (C := RX2) (T := TX2) (N := 3) hx hb hts inX2 hown hK hP 1 rfl rfl 2 (by decide) (hts _ mw56) (fun _ h9 => h9) rfl dX3_make_11 ?_
  refine lv_if_ne (tgt := 27) hx hb dX3_make_14 (by decide) (fun c14 => ?_) (fun c14 => absurd c14 (nI_ne0 h0 (by omega)))
  refine lv_aload_n hx hb dX3_make_27 rfl (lv_at hl 0 rfl) ?_
  refine va_get (D := (dC, dI)) (ci := 3) (v := .ref (h 1)) (C := RX3) (T := TX3) (N := 9) hx hb hts inX3 hown hK hP 0 rfl rfl 0 (by decide) (hts _ mw120) (fun _ h9 => h9) rfl dX3_make_28 ?_
  refine rd_calli (r := (bI (kExact kinds kn))) (va_runV (As := []) (rest := []) ⟨hx, hb, hml, hown, hts⟩ (c_X2_areExact l dC dI cI cL (h 1) (h 6) (h 7) kinds ones kn (by omega)) (cwV 0 hts (gV mw305 mw284 mw285 mw23 mw286) rfl rfl rfl (by decide +kernel) ⟨Nat.le_of_ble_eq_true rfl, Nat.le_of_ble_eq_true rfl⟩) (rd_preV (hP.sub (ws' := [(h 1, .inr (2, [.ref (h 6), .ref (h 7), .int (nI kn)])), (h 6, .inl (cI, 4, .inl kinds)), (h 7, .inl (cL, 4, .inr (.inl ones)))]) [1, 6, 7] rfl) hK (va_recv (ci := 2) hK hP rfl (q0 := 1) rfl)) rfl rfl hl.1 rfl (lv_room (Nat.le_of_ble_eq_true rfl)) dX3_make_31 ⟨Nat.zero_le _, Nat.zero_le _⟩) ?_
  refine lv_istore (lv' := [(4, .int (bI (kExact kinds kn))), (0, .ref (h 0)), (1, .int (nI n2)), (2, .int w), (3, .int t)]) hx hb dX3_make_34 hl (by decide) rfl (fun ls hl => ?_)
  refine lv_iload hx hb dX3_make_36 (lv_at hl 0 rfl) ?_
  refine lv_if_eq (tgt := 53) hx hb dX3_make_38 (by decide) (fun c38 => absurd c38 (by rw [he]; decide)) (fun c38 => ?_)
  refine lv_iload_n hx hb dX3_make_41 rfl (lv_at hl 2 rfl) ?_
  refine lv_iload_n hx hb dX3_make_42 rfl (lv_at hl 3 rfl) ?_
  refine lv_iload_n hx hb dX3_make_43 rfl (lv_at hl 4 rfl) ?_
  refine rd_calli (r := (bI (hShape (nI n2) w t))) (va_runS (As := [.int (nI n2), .int w, .int t]) (rest := []) ⟨hx, hb, hml, hown, hts⟩ (c_X3_isHashedShape l dC dI cI cL (nI n2) w t) (cwS 3 hts (gS mw306 mw307 mw22 mw308) rfl rfl rfl (by decide +kernel) ⟨Nat.le_of_ble_eq_true rfl, Nat.le_of_ble_eq_true rfl⟩) (rd_preS (hP.sub (ws' := []) [] rfl) hK) rfl rfl hl.1 rfl (lv_room (Nat.le_of_ble_eq_true rfl)) dX3_make_44 ⟨Nat.zero_le _, Nat.zero_le _⟩) ?_
  refine lv_if_ne (tgt := 70) hx hb dX3_make_47 (by decide) (fun c47 => ?_) (fun c47 => absurd c47 (by rw [hs]; decide))
  refine lv_iload hx hb dX3_make_70 (lv_at hl 0 rfl) ?_
  refine lv_if_eq (tgt := 85) hx hb dX3_make_72 (by decide) (fun c72 => absurd c72 (by rw [he]; decide)) (fun c72 => ?_)
  refine lv_aload_n hx hb dX3_make_75 rfl (lv_at hl 1 rfl) ?_
  refine va_get (D := (dC, dI)) (ci := 3) (v := .ref (h 3)) (C := RX3) (T := TX3) (N := 9) hx hb hts inX3 hown hK hP 0 rfl rfl 2 (by decide) (hts _ mw122) (fun _ h9 => h9) rfl dX3_make_76 ?_
  refine lv_iload_n hx hb dX3_make_79 rfl (lv_at hl 2 rfl) ?_
  refine lv_iload_n hx hb dX3_make_80 rfl (lv_at hl 3 rfl) ?_
  refine lv_iload_n hx hb dX3_make_81 rfl (lv_at hl 4 rfl) ?_
  refine wr_call (w := [(h 3, .inr (0, [.ref (h 14), .int (nI bn), .int wy, .int stt])), (h 14, .inl (cI, 16, .inl held))]) (w' := [(h 3, .inr (0, [.ref (h 14), .int (nI n2), .int w, .int t])), (h 14, .inl (cI, 16, .inl (fillI 0 held 0 16)))]) (wr := [(h 0, .inr (3, [.ref (h 1), .ref (h 2), .ref (h 3), .ref (h 4), .ref (h 5), .int (bI made), .int (bI hashed), .int cap, .long lat])), (h 1, .inr (2, [.ref (h 6), .ref (h 7), .int (nI kn)])), (h 2, .inr (1, [.ref (h 8), .ref (h 9), .ref (h 10), .ref (h 11), .ref (h 12), .ref (h 13), .int (nI en)])), (h 4, .inl (cL, 4, .inr (.inl av))), (h 5, .inl (cL, 4, .inr (.inl am))), (h 6, .inl (cI, 4, .inl kinds)), (h 7, .inl (cL, 4, .inr (.inl ones))), (h 8, .inl (cL, 288, .inr (.inl vals))), (h 9, .inl (cL, 288, .inr (.inl msks))), (h 10, .inl (cI, 72, .inl pre)), (h 11, .inl (cI, 72, .inl pri)), (h 12, .inl (cI, 72, .inl act)), (h 13, .inl (cL, 72, .inr (.inl dat)))]) (ws' := [(h 0, .inr (3, [.ref (h 1), .ref (h 2), .ref (h 3), .ref (h 4), .ref (h 5), .int (bI made), .int (bI hashed), .int cap, .long lat])), (h 1, .inr (2, [.ref (h 6), .ref (h 7), .int (nI kn)])), (h 2, .inr (1, [.ref (h 8), .ref (h 9), .ref (h 10), .ref (h 11), .ref (h 12), .ref (h 13), .int (nI en)])), (h 3, .inr (0, [.ref (h 14), .int (nI n2), .int w, .int t])), (h 4, .inl (cL, 4, .inr (.inl av))), (h 5, .inl (cL, 4, .inr (.inl am))), (h 6, .inl (cI, 4, .inl kinds)), (h 7, .inl (cL, 4, .inr (.inl ones))), (h 8, .inl (cL, 288, .inr (.inl vals))), (h 9, .inl (cL, 288, .inr (.inl msks))), (h 10, .inl (cI, 72, .inl pre)), (h 11, .inl (cI, 72, .inl pri)), (h 12, .inl (cI, 72, .inl act)), (h 13, .inl (cL, 72, .inr (.inl dat))), (h 14, .inl (cI, 16, .inl (fillI 0 held 0 16)))]) (va_runV (As := [.int (nI n2), .int w, .int t]) (rest := []) ⟨hx, hb, hml, hown, hts⟩ (c_X0_lay l dC dI cI cL (h 3) (h 14) held bn wy stt n2 w t) (cwV 3 hts (gV mw152 mw153 mw154 mw25 mw155) rfl rfl rfl (by decide +kernel) ⟨Nat.le_of_ble_eq_true rfl, Nat.le_of_ble_eq_true rfl⟩) (wr_preV (hP.sub (ws' := [(h 3, .inr (0, [.ref (h 14), .int (nI bn), .int wy, .int stt])), (h 14, .inl (cI, 16, .inl held))]) [3, 14] rfl) hK (hD.sub (ws' := [(h 3, .inr (0, [.ref (h 14), .int (nI bn), .int wy, .int stt])), (h 14, .inl (cI, 16, .inl held))]) [3, 14] (by decide) rfl) (va_recv (ci := 0) hK hP rfl (q0 := 3) rfl)) rfl rfl hl.1 rfl (lv_room (Nat.le_of_ble_eq_true rfl)) dX3_make_82 ⟨Nat.zero_le _, Nat.zero_le _⟩) hP hD hS [3, 14] [0, 1, 2, 4, 5, 6, 7, 8, 9, 10, 11, 12, 13] [0, 1, 2, 13, 3, 4, 5, 6, 7, 8, 9, 10, 11, 12, 14] rfl rfl (by decide) rfl rfl (fun H locs hP hD hS => ?_)
  refine lv_aload_n hx hb dX3_make_85 rfl (lv_at hl 1 rfl) ?_
  refine lv_iload hx hb dX3_make_86 (lv_at hl 0 rfl) ?_
  refine lv_if_eq (tgt := 99) hx hb dX3_make_88 (by decide) (fun c88 => absurd c88 (by rw [he]; decide)) (fun c88 => ?_)
  refine lv_iload_n hx hb dX3_make_91 rfl (lv_at hl 2 rfl) ?_
  refine lv_iload_n hx hb dX3_make_92 rfl (lv_at hl 3 rfl) ?_
  refine lv_imul hx hb dX3_make_93 ?_
  refine lv_iload_n hx hb dX3_make_94 rfl (lv_at hl 4 rfl) ?_
  refine lv_iadd hx hb dX3_make_95 ?_
  refine lv_goto (tgt := 100) hx hb dX3_make_96 (by decide) ?_
  refine n_put (ws' := [(h 0, .inr (3, [.ref (h 1), .ref (h 2), .ref (h 3), .ref (h 4), .ref (h 5), .int (bI made), .int (bI hashed), .int (((nI n2) * w) + t), .long lat])), (h 1, .inr (2, [.ref (h 6), .ref (h 7), .int (nI kn)])), (h 2, .inr (1, [.ref (h 8), .ref (h 9), .ref (h 10), .ref (h 11), .ref (h 12), .ref (h 13), .int (nI en)])), (h 3, .inr (0, [.ref (h 14), .int (nI n2), .int w, .int t])), (h 4, .inl (cL, 4, .inr (.inl av))), (h 5, .inl (cL, 4, .inr (.inl am))), (h 6, .inl (cI, 4, .inl kinds)), (h 7, .inl (cL, 4, .inr (.inl ones))), (h 8, .inl (cL, 288, .inr (.inl vals))), (h 9, .inl (cL, 288, .inr (.inl msks))), (h 10, .inl (cI, 72, .inl pre)), (h 11, .inl (cI, 72, .inl pri)), (h 12, .inl (cI, 72, .inl act)), (h 13, .inl (cL, 72, .inr (.inl dat))), (h 14, .inl (cI, 16, .inl (fillI 0 held 0 16)))]) (D := (dC, dI)) (ci := 3) (v := .int (((nI n2) * w) + t)) (ty := .int) (C := RX3) (T := TX3) (N := 9) hx hb hts inX3 tyX3 tyX3_ok nmX3 hown hK hP hD hS 0 rfl rfl 7 (by decide) (hts _ mw127) (fun _ h9 => h9) rfl rfl rfl rfl (Nat.le_of_ble_eq_true rfl) dX3_make_100 rfl (fun H locs hP hD hS => ?_)
  refine lv_aload_n hx hb dX3_make_103 rfl (lv_at hl 1 rfl) ?_
  refine lv_iload hx hb dX3_make_104 (lv_at hl 0 rfl) ?_
  refine n_put (ws' := [(h 0, .inr (3, [.ref (h 1), .ref (h 2), .ref (h 3), .ref (h 4), .ref (h 5), .int (bI made), .int (bI (kExact kinds kn)), .int (((nI n2) * w) + t), .long lat])), (h 1, .inr (2, [.ref (h 6), .ref (h 7), .int (nI kn)])), (h 2, .inr (1, [.ref (h 8), .ref (h 9), .ref (h 10), .ref (h 11), .ref (h 12), .ref (h 13), .int (nI en)])), (h 3, .inr (0, [.ref (h 14), .int (nI n2), .int w, .int t])), (h 4, .inl (cL, 4, .inr (.inl av))), (h 5, .inl (cL, 4, .inr (.inl am))), (h 6, .inl (cI, 4, .inl kinds)), (h 7, .inl (cL, 4, .inr (.inl ones))), (h 8, .inl (cL, 288, .inr (.inl vals))), (h 9, .inl (cL, 288, .inr (.inl msks))), (h 10, .inl (cI, 72, .inl pre)), (h 11, .inl (cI, 72, .inl pri)), (h 12, .inl (cI, 72, .inl act)), (h 13, .inl (cL, 72, .inr (.inl dat))), (h 14, .inl (cI, 16, .inl (fillI 0 held 0 16)))]) (D := (dC, dI)) (ci := 3) (v := .int (bI (kExact kinds kn))) (ty := .boolean) (C := RX3) (T := TX3) (N := 9) hx hb hts inX3 tyX3 tyX3_ok nmX3 hown hK hP hD hS 0 rfl rfl 6 (by decide) (hts _ mw126) (fun _ h9 => h9) rfl rfl (bI_nar _) (bI_fit _) (Nat.le_of_ble_eq_true rfl) dX3_make_106 rfl (fun H locs hP hD hS => ?_)
  refine lv_aload_n hx hb dX3_make_109 rfl (lv_at hl 1 rfl) ?_
  refine lv_iconst (v := (bI true)) hx hb dX3_make_110 (by decide) ?_
  refine n_put (ws' := [(h 0, .inr (3, [.ref (h 1), .ref (h 2), .ref (h 3), .ref (h 4), .ref (h 5), .int (bI true), .int (bI (kExact kinds kn)), .int (((nI n2) * w) + t), .long lat])), (h 1, .inr (2, [.ref (h 6), .ref (h 7), .int (nI kn)])), (h 2, .inr (1, [.ref (h 8), .ref (h 9), .ref (h 10), .ref (h 11), .ref (h 12), .ref (h 13), .int (nI en)])), (h 3, .inr (0, [.ref (h 14), .int (nI n2), .int w, .int t])), (h 4, .inl (cL, 4, .inr (.inl av))), (h 5, .inl (cL, 4, .inr (.inl am))), (h 6, .inl (cI, 4, .inl kinds)), (h 7, .inl (cL, 4, .inr (.inl ones))), (h 8, .inl (cL, 288, .inr (.inl vals))), (h 9, .inl (cL, 288, .inr (.inl msks))), (h 10, .inl (cI, 72, .inl pre)), (h 11, .inl (cI, 72, .inl pri)), (h 12, .inl (cI, 72, .inl act)), (h 13, .inl (cL, 72, .inr (.inl dat))), (h 14, .inl (cI, 16, .inl (fillI 0 held 0 16)))]) (D := (dC, dI)) (ci := 3) (v := .int (bI true)) (ty := .boolean) (C := RX3) (T := TX3) (N := 9) hx hb hts inX3 tyX3 tyX3_ok nmX3 hown hK hP hD hS 0 rfl rfl 5 (by decide) (hts _ mw125) (fun _ h9 => h9) rfl rfl (bI_nar _) (bI_fit _) (Nat.le_of_ble_eq_true rfl) dX3_make_111 rfl (fun H locs hP hD hS => ?_)
  exact wr_vret hx hb hr hlocks hP hS dX3_make_114

set_option maxHeartbeats 4000000 in
set_option maxRecDepth 100000 in
/-- make of another table -/
theorem c_X3_make_l (l : Launch) (dC : Nat → ClassId) (dI : Nat → Nat → Nat) (cI cL : ClassId) (h : Nat → Nat) (kinds : Nat → Int32) (ones : Nat → Int64) (kn : Nat) (av am : Nat → Int64) (vals msks : Nat → Int64) (pre pri act : Nat → Int32) (dat : Nat → Int64) (en : Nat) (held : Nat → Int32) (bn : Nat) (wy stt : Int32) (made hashed : Bool) (cap : Int32) (lat : Int64) (n w t : Int32) (hm : made = false) (h0 : 0 < kn) (hk : kn ≤ 4) (he : kExact kinds kn = false) (hs : lShape n = true) : Met l yX3_make wsX3_make ({ frames := 2, cells := 0, slots := 0, locals := 46 }) (wr_P (dC, dI) vwCl [(cI, .int), (cL, .long)] [(h 0, .inr (3, [.ref (h 1), .ref (h 2), .ref (h 3), .ref (h 4), .ref (h 5), .int (bI made), .int (bI hashed), .int cap, .long lat])), (h 1, .inr (2, [.ref (h 6), .ref (h 7), .int (nI kn)])), (h 2, .inr (1, [.ref (h 8), .ref (h 9), .ref (h 10), .ref (h 11), .ref (h 12), .ref (h 13), .int (nI en)])), (h 3, .inr (0, [.ref (h 14), .int (nI bn), .int wy, .int stt])), (h 4, .inl (cL, 4, .inr (.inl av))), (h 5, .inl (cL, 4, .inr (.inl am))), (h 6, .inl (cI, 4, .inl kinds)), (h 7, .inl (cL, 4, .inr (.inl ones))), (h 8, .inl (cL, 288, .inr (.inl vals))), (h 9, .inl (cL, 288, .inr (.inl msks))), (h 10, .inl (cI, 72, .inl pre)), (h 11, .inl (cI, 72, .inl pri)), (h 12, .inl (cI, 72, .inl act)), (h 13, .inl (cL, 72, .inr (.inl dat))), (h 14, .inl (cI, 16, .inl held))] [.ref (h 0), .int n, .int w, .int t]) (wr_Q (dC, dI) vwCl none [(h 0, .inr (3, [.ref (h 1), .ref (h 2), .ref (h 3), .ref (h 4), .ref (h 5), .int (bI made), .int (bI hashed), .int cap, .long lat])), (h 1, .inr (2, [.ref (h 6), .ref (h 7), .int (nI kn)])), (h 2, .inr (1, [.ref (h 8), .ref (h 9), .ref (h 10), .ref (h 11), .ref (h 12), .ref (h 13), .int (nI en)])), (h 3, .inr (0, [.ref (h 14), .int (nI bn), .int wy, .int stt])), (h 4, .inl (cL, 4, .inr (.inl av))), (h 5, .inl (cL, 4, .inr (.inl am))), (h 6, .inl (cI, 4, .inl kinds)), (h 7, .inl (cL, 4, .inr (.inl ones))), (h 8, .inl (cL, 288, .inr (.inl vals))), (h 9, .inl (cL, 288, .inr (.inl msks))), (h 10, .inl (cI, 72, .inl pre)), (h 11, .inl (cI, 72, .inl pri)), (h 12, .inl (cI, 72, .inl act)), (h 13, .inl (cL, 72, .inr (.inl dat))), (h 14, .inl (cI, 16, .inl held))] [(h 0, .inr (3, [.ref (h 1), .ref (h 2), .ref (h 3), .ref (h 4), .ref (h 5), .int (bI true), .int (bI (kExact kinds kn)), .int n, .long lat])), (h 1, .inr (2, [.ref (h 6), .ref (h 7), .int (nI kn)])), (h 2, .inr (1, [.ref (h 8), .ref (h 9), .ref (h 10), .ref (h 11), .ref (h 12), .ref (h 13), .int (nI en)])), (h 3, .inr (0, [.ref (h 14), .int (nI bn), .int wy, .int stt])), (h 4, .inl (cL, 4, .inr (.inl av))), (h 5, .inl (cL, 4, .inr (.inl am))), (h 6, .inl (cI, 4, .inl kinds)), (h 7, .inl (cL, 4, .inr (.inl ones))), (h 8, .inl (cL, 288, .inr (.inl vals))), (h 9, .inl (cL, 288, .inr (.inl msks))), (h 10, .inl (cI, 72, .inl pre)), (h 11, .inl (cI, 72, .inl pri)), (h 12, .inl (cI, 72, .inl act)), (h 13, .inl (cL, 72, .inr (.inl dat))), (h 14, .inl (cI, 16, .inl held))]) 0 0 (wr_I [(h 0, .inr (3, [.ref (h 1), .ref (h 2), .ref (h 3), .ref (h 4), .ref (h 5), .int (bI made), .int (bI hashed), .int cap, .long lat])), (h 1, .inr (2, [.ref (h 6), .ref (h 7), .int (nI kn)])), (h 2, .inr (1, [.ref (h 8), .ref (h 9), .ref (h 10), .ref (h 11), .ref (h 12), .ref (h 13), .int (nI en)])), (h 3, .inr (0, [.ref (h 14), .int (nI bn), .int wy, .int stt])), (h 4, .inl (cL, 4, .inr (.inl av))), (h 5, .inl (cL, 4, .inr (.inl am))), (h 6, .inl (cI, 4, .inl kinds)), (h 7, .inl (cL, 4, .inr (.inl ones))), (h 8, .inl (cL, 288, .inr (.inl vals))), (h 9, .inl (cL, 288, .inr (.inl msks))), (h 10, .inl (cI, 72, .inl pre)), (h 11, .inl (cI, 72, .inl pri)), (h 12, .inl (cI, 72, .inl act)), (h 13, .inl (cL, 72, .inr (.inl dat))), (h 14, .inl (cI, 16, .inl held))]) := by
  refine Met.ofW (cc := cX3_make) (maxL := 5) (ret := none) (by decide) rfl ?_
  intro p e s m args below meth c s₁ B hml hv
  obtain ⟨rfl, hP, hK, hD0⟩ := hv
  have hx := B.exec
  have hb := B.bytes
  have hr := B.returns
  have hts := fun w h => atoms_spec (ws := wsX3_make) B.pre w (List.mem_cons_of_mem _ h)
  have hown : s.vm.findClass RX3 = some m.cls := findClass_of_methodNamed B.named
  have hlocks := B.notSynchronized
  have hD := wr_self hD0
  have hS : va_S (wr_I [(h 0, .inr (3, [.ref (h 1), .ref (h 2), .ref (h 3), .ref (h 4), .ref (h 5), .int (bI made), .int (bI hashed), .int cap, .long lat])), (h 1, .inr (2, [.ref (h 6), .ref (h 7), .int (nI kn)])), (h 2, .inr (1, [.ref (h 8), .ref (h 9), .ref (h 10), .ref (h 11), .ref (h 12), .ref (h 13), .int (nI en)])), (h 3, .inr (0, [.ref (h 14), .int (nI bn), .int wy, .int stt])), (h 4, .inl (cL, 4, .inr (.inl av))), (h 5, .inl (cL, 4, .inr (.inl am))), (h 6, .inl (cI, 4, .inl kinds)), (h 7, .inl (cL, 4, .inr (.inl ones))), (h 8, .inl (cL, 288, .inr (.inl vals))), (h 9, .inl (cL, 288, .inr (.inl msks))), (h 10, .inl (cI, 72, .inl pre)), (h 11, .inl (cI, 72, .inl pri)), (h 12, .inl (cI, 72, .inl act)), (h 13, .inl (cL, 72, .inr (.inl dat))), (h 14, .inl (cI, 16, .inl held))]) s.heap s.heap [] := va_S.rf
  have hl := lv_entry ([.ref (h 0), .int n, .int w, .int t]) (n := 5) (Nat.le_of_ble_eq_true rfl)
  rw [lg_entry_eq]
  generalize (lg_sl ([.ref (h 0), .int n, .int w, .int t]) ++ List.replicate (5 - (lg_sl ([.ref (h 0), .int n, .int w, .int t])).length) Slot.unset).toArray = ls at hl ⊢
  have hl : lv_has ls 5 [(0, .ref (h 0)), (1, .int n), (2, .int w), (3, .int t)] := hl
  refine lv_aload_n hx hb dX3_make_0 rfl (lv_at hl 0 rfl) ?_
  refine va_get (D := (dC, dI)) (ci := 3) (v := .int (bI made)) (C := RX3) (T := TX3) (N := 9) hx hb hts inX3 hown hK hP 0 rfl rfl 5 (by decide) (hts _ mw125) (fun _ h9 => h9) rfl dX3_make_1 ?_
  refine lv_if_ne (tgt := 17) hx hb dX3_make_4 (by decide) (fun c4 => absurd (by rw [hm]; rfl) c4) (fun c4 => ?_)
  refine lv_aload_n hx hb dX3_make_7 rfl (lv_at hl 0 rfl) ?_
  refine va_get (D := (dC, dI)) (ci := 3) (v := .ref (h 1)) (C := RX3) (T := TX3) (N := 9) hx hb hts inX3 hown hK hP 0 rfl rfl 0 (by decide) (hts _ mw120) (fun _ h9 => h9) rfl dX3_make_8 ?_
  refine va_get (D := (dC, dI)) (ci := 2) (v := .int (nI kn)) (C := RX2) (T := TX2) (N := 3) hx hb hts inX2 hown hK hP 1 rfl rfl 2 (by decide) (hts _ mw56) (fun _ h9 => h9) rfl dX3_make_11 ?_
  refine lv_if_ne (tgt := 27) hx hb dX3_make_14 (by decide) (fun c14 => ?_) (fun c14 => absurd c14 (nI_ne0 h0 (by omega)))
  refine lv_aload_n hx hb dX3_make_27 rfl (lv_at hl 0 rfl) ?_
  refine va_get (D := (dC, dI)) (ci := 3) (v := .ref (h 1)) (C := RX3) (T := TX3) (N := 9) hx hb hts inX3 hown hK hP 0 rfl rfl 0 (by decide) (hts _ mw120) (fun _ h9 => h9) rfl dX3_make_28 ?_
  refine rd_calli (r := (bI (kExact kinds kn))) (va_runV (As := []) (rest := []) ⟨hx, hb, hml, hown, hts⟩ (c_X2_areExact l dC dI cI cL (h 1) (h 6) (h 7) kinds ones kn (by omega)) (cwV 0 hts (gV mw305 mw284 mw285 mw23 mw286) rfl rfl rfl (by decide +kernel) ⟨Nat.le_of_ble_eq_true rfl, Nat.le_of_ble_eq_true rfl⟩) (rd_preV (hP.sub (ws' := [(h 1, .inr (2, [.ref (h 6), .ref (h 7), .int (nI kn)])), (h 6, .inl (cI, 4, .inl kinds)), (h 7, .inl (cL, 4, .inr (.inl ones)))]) [1, 6, 7] rfl) hK (va_recv (ci := 2) hK hP rfl (q0 := 1) rfl)) rfl rfl hl.1 rfl (lv_room (Nat.le_of_ble_eq_true rfl)) dX3_make_31 ⟨Nat.zero_le _, Nat.zero_le _⟩) ?_
  refine lv_istore (lv' := [(4, .int (bI (kExact kinds kn))), (0, .ref (h 0)), (1, .int n), (2, .int w), (3, .int t)]) hx hb dX3_make_34 hl (by decide) rfl (fun ls hl => ?_)
  refine lv_iload hx hb dX3_make_36 (lv_at hl 0 rfl) ?_
  refine lv_if_eq (tgt := 53) hx hb dX3_make_38 (by decide) (fun c38 => ?_) (fun c38 => absurd (by rw [he]; rfl) c38)
  refine lv_iload_n hx hb dX3_make_53 rfl (lv_at hl 2 rfl) ?_
  refine rd_calli (r := (bI (lShape n))) (va_runS (As := [.int n]) (rest := []) ⟨hx, hb, hml, hown, hts⟩ (c_X3_isListedShape l dC dI cI cL n) (cwS 1 hts (gS mw315 mw316 mw22 mw317) rfl rfl rfl (by decide +kernel) ⟨Nat.le_of_ble_eq_true rfl, Nat.le_of_ble_eq_true rfl⟩) (rd_preS (hP.sub (ws' := []) [] rfl) hK) rfl rfl hl.1 rfl (lv_room (Nat.le_of_ble_eq_true rfl)) dX3_make_54 ⟨Nat.zero_le _, Nat.zero_le _⟩) ?_
  refine lv_if_ne (tgt := 70) hx hb dX3_make_57 (by decide) (fun c57 => ?_) (fun c57 => absurd c57 (by rw [hs]; decide))
  refine lv_iload hx hb dX3_make_70 (lv_at hl 0 rfl) ?_
  refine lv_if_eq (tgt := 85) hx hb dX3_make_72 (by decide) (fun c72 => ?_) (fun c72 => absurd (by rw [he]; rfl) c72)
  refine lv_aload_n hx hb dX3_make_85 rfl (lv_at hl 1 rfl) ?_
  refine lv_iload hx hb dX3_make_86 (lv_at hl 0 rfl) ?_
  refine lv_if_eq (tgt := 99) hx hb dX3_make_88 (by decide) (fun c88 => ?_) (fun c88 => absurd (by rw [he]; rfl) c88)
  refine lv_iload_n hx hb dX3_make_99 rfl (lv_at hl 2 rfl) ?_
  refine n_put (ws' := [(h 0, .inr (3, [.ref (h 1), .ref (h 2), .ref (h 3), .ref (h 4), .ref (h 5), .int (bI made), .int (bI hashed), .int n, .long lat])), (h 1, .inr (2, [.ref (h 6), .ref (h 7), .int (nI kn)])), (h 2, .inr (1, [.ref (h 8), .ref (h 9), .ref (h 10), .ref (h 11), .ref (h 12), .ref (h 13), .int (nI en)])), (h 3, .inr (0, [.ref (h 14), .int (nI bn), .int wy, .int stt])), (h 4, .inl (cL, 4, .inr (.inl av))), (h 5, .inl (cL, 4, .inr (.inl am))), (h 6, .inl (cI, 4, .inl kinds)), (h 7, .inl (cL, 4, .inr (.inl ones))), (h 8, .inl (cL, 288, .inr (.inl vals))), (h 9, .inl (cL, 288, .inr (.inl msks))), (h 10, .inl (cI, 72, .inl pre)), (h 11, .inl (cI, 72, .inl pri)), (h 12, .inl (cI, 72, .inl act)), (h 13, .inl (cL, 72, .inr (.inl dat))), (h 14, .inl (cI, 16, .inl held))]) (D := (dC, dI)) (ci := 3) (v := .int n) (ty := .int) (C := RX3) (T := TX3) (N := 9) hx hb hts inX3 tyX3 tyX3_ok nmX3 hown hK hP hD hS 0 rfl rfl 7 (by decide) (hts _ mw127) (fun _ h9 => h9) rfl rfl rfl rfl (Nat.le_of_ble_eq_true rfl) dX3_make_100 rfl (fun H locs hP hD hS => ?_)
  refine lv_aload_n hx hb dX3_make_103 rfl (lv_at hl 1 rfl) ?_
  refine lv_iload hx hb dX3_make_104 (lv_at hl 0 rfl) ?_
  refine n_put (ws' := [(h 0, .inr (3, [.ref (h 1), .ref (h 2), .ref (h 3), .ref (h 4), .ref (h 5), .int (bI made), .int (bI (kExact kinds kn)), .int n, .long lat])), (h 1, .inr (2, [.ref (h 6), .ref (h 7), .int (nI kn)])), (h 2, .inr (1, [.ref (h 8), .ref (h 9), .ref (h 10), .ref (h 11), .ref (h 12), .ref (h 13), .int (nI en)])), (h 3, .inr (0, [.ref (h 14), .int (nI bn), .int wy, .int stt])), (h 4, .inl (cL, 4, .inr (.inl av))), (h 5, .inl (cL, 4, .inr (.inl am))), (h 6, .inl (cI, 4, .inl kinds)), (h 7, .inl (cL, 4, .inr (.inl ones))), (h 8, .inl (cL, 288, .inr (.inl vals))), (h 9, .inl (cL, 288, .inr (.inl msks))), (h 10, .inl (cI, 72, .inl pre)), (h 11, .inl (cI, 72, .inl pri)), (h 12, .inl (cI, 72, .inl act)), (h 13, .inl (cL, 72, .inr (.inl dat))), (h 14, .inl (cI, 16, .inl held))]) (D := (dC, dI)) (ci := 3) (v := .int (bI (kExact kinds kn))) (ty := .boolean) (C := RX3) (T := TX3) (N := 9) hx hb hts inX3 tyX3 tyX3_ok nmX3 hown hK hP hD hS 0 rfl rfl 6 (by decide) (hts _ mw126) (fun _ h9 => h9) rfl rfl (bI_nar _) (bI_fit _) (Nat.le_of_ble_eq_true rfl) dX3_make_106 rfl (fun H locs hP hD hS => ?_)
  refine lv_aload_n hx hb dX3_make_109 rfl (lv_at hl 1 rfl) ?_
  refine lv_iconst (v := (bI true)) hx hb dX3_make_110 (by decide) ?_
  refine n_put (ws' := [(h 0, .inr (3, [.ref (h 1), .ref (h 2), .ref (h 3), .ref (h 4), .ref (h 5), .int (bI true), .int (bI (kExact kinds kn)), .int n, .long lat])), (h 1, .inr (2, [.ref (h 6), .ref (h 7), .int (nI kn)])), (h 2, .inr (1, [.ref (h 8), .ref (h 9), .ref (h 10), .ref (h 11), .ref (h 12), .ref (h 13), .int (nI en)])), (h 3, .inr (0, [.ref (h 14), .int (nI bn), .int wy, .int stt])), (h 4, .inl (cL, 4, .inr (.inl av))), (h 5, .inl (cL, 4, .inr (.inl am))), (h 6, .inl (cI, 4, .inl kinds)), (h 7, .inl (cL, 4, .inr (.inl ones))), (h 8, .inl (cL, 288, .inr (.inl vals))), (h 9, .inl (cL, 288, .inr (.inl msks))), (h 10, .inl (cI, 72, .inl pre)), (h 11, .inl (cI, 72, .inl pri)), (h 12, .inl (cI, 72, .inl act)), (h 13, .inl (cL, 72, .inr (.inl dat))), (h 14, .inl (cI, 16, .inl held))]) (D := (dC, dI)) (ci := 3) (v := .int (bI true)) (ty := .boolean) (C := RX3) (T := TX3) (N := 9) hx hb hts inX3 tyX3 tyX3_ok nmX3 hown hK hP hD hS 0 rfl rfl 5 (by decide) (hts _ mw125) (fun _ h9 => h9) rfl rfl (bI_nar _) (bI_fit _) (Nat.le_of_ble_eq_true rfl) dX3_make_111 rfl (fun H locs hP hD hS => ?_)
  exact wr_vret hx hb hr hlocks hP hS dX3_make_114

set_option maxHeartbeats 4000000 in
set_option maxRecDepth 100000 in
/-- insert, when nothing comes -/
theorem c_X3_insert_n (l : Launch) (dC : Nat → ClassId) (dI : Nat → Nat → Nat) (cI cL : ClassId) (h : Nat → Nat) (kinds : Nat → Int32) (ones : Nat → Int64) (kn : Nat) (av am : Nat → Int64) (vals msks : Nat → Int64) (pre pri act : Nat → Int32) (dat : Nat → Int64) (en : Nat) (held : Nat → Int32) (bn : Nat) (wy stt : Int32) (made hashed : Bool) (cap : Int32) (lat : Int64) (pr ac : Int32) (da : Int64) (hm : made = true) (hk : kn ≤ 4) (he : en ≤ 72) (hbn : bn ≤ 16) (hno : cIns kinds ones av am vals msks kn en held bn wy stt hashed cap ac = false) : Met l yX3_insert wsX3_insert ({ frames := 4, cells := 0, slots := 0, locals := 79 }) (rd_P (dC, dI) vwCl [(cI, .int), (cL, .long)] [(h 0, .inr (3, [.ref (h 1), .ref (h 2), .ref (h 3), .ref (h 4), .ref (h 5), .int (bI made), .int (bI hashed), .int cap, .long lat])), (h 1, .inr (2, [.ref (h 6), .ref (h 7), .int (nI kn)])), (h 2, .inr (1, [.ref (h 8), .ref (h 9), .ref (h 10), .ref (h 11), .ref (h 12), .ref (h 13), .int (nI en)])), (h 3, .inr (0, [.ref (h 14), .int (nI bn), .int wy, .int stt])), (h 4, .inl (cL, 4, .inr (.inl av))), (h 5, .inl (cL, 4, .inr (.inl am))), (h 6, .inl (cI, 4, .inl kinds)), (h 7, .inl (cL, 4, .inr (.inl ones))), (h 8, .inl (cL, 288, .inr (.inl vals))), (h 9, .inl (cL, 288, .inr (.inl msks))), (h 10, .inl (cI, 72, .inl pre)), (h 11, .inl (cI, 72, .inl pri)), (h 12, .inl (cI, 72, .inl act)), (h 13, .inl (cL, 72, .inr (.inl dat))), (h 14, .inl (cI, 16, .inl held))] [.ref (h 0), .int pr, .int ac, .long da]) (rd_Q (some (.int 0))) 0 0 (fun _ => False) := by
  refine Met.ofW (cc := cX3_insert) (maxL := 5) (ret := some .boolean) (by decide) rfl ?_
  intro p e s m args below meth c s₁ B hml hv
  obtain ⟨rfl, hP, hK⟩ := hv
  have hx := B.exec
  have hb := B.bytes
  have hr := B.returns
  have hts := fun w h => atoms_spec (ws := wsX3_insert) B.pre w (List.mem_cons_of_mem _ h)
  have hown : s.vm.findClass RX3 = some m.cls := findClass_of_methodNamed B.named
  have hlocks := B.notSynchronized
  have hl := lv_entry ([.ref (h 0), .int pr, .int ac, .long da]) (n := 5) (Nat.le_of_ble_eq_true rfl)
  rw [lg_entry_eq]
  generalize (lg_sl ([.ref (h 0), .int pr, .int ac, .long da]) ++ List.replicate (5 - (lg_sl ([.ref (h 0), .int pr, .int ac, .long da])).length) Slot.unset).toArray = ls at hl ⊢
  have hl : lv_has ls 5 [(0, .ref (h 0)), (1, .int pr), (2, .int ac), (3, .long da)] := hl
  refine lv_aload_n hx hb dX3_insert_0 rfl (lv_at hl 0 rfl) ?_
  refine rd_callv (va_runV (As := []) (rest := []) ⟨hx, hb, hml, hown, hts⟩ (c_X3_requireTable l dC dI cI cL h kinds ones kn av am vals msks pre pri act dat en held bn wy stt made hashed cap lat hm) (cwV 0 hts (gV mw350 mw352 mw1 mw22 mw353) rfl rfl rfl (by decide +kernel) ⟨Nat.le_of_ble_eq_true rfl, Nat.le_of_ble_eq_true rfl⟩) (rd_preV (hP.sub (ws' := [(h 0, .inr (3, [.ref (h 1), .ref (h 2), .ref (h 3), .ref (h 4), .ref (h 5), .int (bI made), .int (bI hashed), .int cap, .long lat])), (h 1, .inr (2, [.ref (h 6), .ref (h 7), .int (nI kn)])), (h 2, .inr (1, [.ref (h 8), .ref (h 9), .ref (h 10), .ref (h 11), .ref (h 12), .ref (h 13), .int (nI en)])), (h 3, .inr (0, [.ref (h 14), .int (nI bn), .int wy, .int stt])), (h 4, .inl (cL, 4, .inr (.inl av))), (h 5, .inl (cL, 4, .inr (.inl am))), (h 6, .inl (cI, 4, .inl kinds)), (h 7, .inl (cL, 4, .inr (.inl ones))), (h 8, .inl (cL, 288, .inr (.inl vals))), (h 9, .inl (cL, 288, .inr (.inl msks))), (h 10, .inl (cI, 72, .inl pre)), (h 11, .inl (cI, 72, .inl pri)), (h 12, .inl (cI, 72, .inl act)), (h 13, .inl (cL, 72, .inr (.inl dat))), (h 14, .inl (cI, 16, .inl held))]) [0, 1, 2, 3, 4, 5, 6, 7, 8, 9, 10, 11, 12, 13, 14] rfl) hK (va_recv (ci := 3) hK hP rfl (q0 := 0) rfl)) rfl rfl hl.1 rfl (lv_room (Nat.le_of_ble_eq_true rfl)) dX3_insert_1 ⟨Nat.zero_le _, Nat.zero_le _⟩) ?_
  refine lv_iload_n hx hb dX3_insert_4 rfl (lv_at hl 2 rfl) ?_
  refine rd_calli (r := (bI (cAct ac))) (va_runS (As := [.int ac]) (rest := []) ⟨hx, hb, hml, hown, hts⟩ (c_X3_isAction l dC dI cI cL ac) (cwS 1 hts (gS mw355 mw356 mw22 mw357) rfl rfl rfl (by decide +kernel) ⟨Nat.le_of_ble_eq_true rfl, Nat.le_of_ble_eq_true rfl⟩) (rd_preS (hP.sub (ws' := []) [] rfl) hK) rfl rfl hl.1 rfl (lv_room (Nat.le_of_ble_eq_true rfl)) dX3_insert_5 ⟨Nat.zero_le _, Nat.zero_le _⟩) ?_
  refine lv_if_eq (tgt := 33) hx hb dX3_insert_8 (by decide) (fun c8 => ?_) (fun c8 => ?_)
  · refine lv_iconst (v := 0) hx hb dX3_insert_33 (by decide) ?_
    exact rd_iret hx hb hr hlocks dX3_insert_34 rfl (rfl)
  · refine lv_aload_n hx hb dX3_insert_11 rfl (lv_at hl 0 rfl) ?_
    refine rd_calli (r := (bI (cTakeAll kinds ones am kn))) (va_runV (As := []) (rest := []) ⟨hx, hb, hml, hown, hts⟩ (c_X3_areMasksRight l dC dI cI cL h kinds ones kn av am vals msks pre pri act dat en held bn wy stt made hashed cap lat hk) (cwV 0 hts (gV mw358 mw360 mw2 mw22 mw361) rfl rfl rfl (by decide +kernel) ⟨Nat.le_of_ble_eq_true rfl, Nat.le_of_ble_eq_true rfl⟩) (rd_preV (hP.sub (ws' := [(h 0, .inr (3, [.ref (h 1), .ref (h 2), .ref (h 3), .ref (h 4), .ref (h 5), .int (bI made), .int (bI hashed), .int cap, .long lat])), (h 1, .inr (2, [.ref (h 6), .ref (h 7), .int (nI kn)])), (h 2, .inr (1, [.ref (h 8), .ref (h 9), .ref (h 10), .ref (h 11), .ref (h 12), .ref (h 13), .int (nI en)])), (h 3, .inr (0, [.ref (h 14), .int (nI bn), .int wy, .int stt])), (h 4, .inl (cL, 4, .inr (.inl av))), (h 5, .inl (cL, 4, .inr (.inl am))), (h 6, .inl (cI, 4, .inl kinds)), (h 7, .inl (cL, 4, .inr (.inl ones))), (h 8, .inl (cL, 288, .inr (.inl vals))), (h 9, .inl (cL, 288, .inr (.inl msks))), (h 10, .inl (cI, 72, .inl pre)), (h 11, .inl (cI, 72, .inl pri)), (h 12, .inl (cI, 72, .inl act)), (h 13, .inl (cL, 72, .inr (.inl dat))), (h 14, .inl (cI, 16, .inl held))]) [0, 1, 2, 3, 4, 5, 6, 7, 8, 9, 10, 11, 12, 13, 14] rfl) hK (va_recv (ci := 3) hK hP rfl (q0 := 0) rfl)) rfl rfl hl.1 rfl (lv_room (Nat.le_of_ble_eq_true rfl)) dX3_insert_12 ⟨Nat.zero_le _, Nat.zero_le _⟩) ?_
    refine lv_if_eq (tgt := 33) hx hb dX3_insert_15 (by decide) (fun c15 => ?_) (fun c15 => ?_)
    · refine lv_iconst (v := 0) hx hb dX3_insert_33 (by decide) ?_
      exact rd_iret hx hb hr hlocks dX3_insert_34 rfl (rfl)
    · refine lv_aload_n hx hb dX3_insert_18 rfl (lv_at hl 0 rfl) ?_
      refine rd_calli (r := (cFind ones av am vals msks kn en)) (va_runV (As := []) (rest := []) ⟨hx, hb, hml, hown, hts⟩ (c_X3_findAsked l dC dI cI cL h kinds ones kn av am vals msks pre pri act dat en held bn wy stt made hashed cap lat hk he) (cwV 0 hts (gV mw370 mw372 mw4 mw22 mw373) rfl rfl rfl (by decide +kernel) ⟨Nat.le_of_ble_eq_true rfl, Nat.le_of_ble_eq_true rfl⟩) (rd_preV (hP.sub (ws' := [(h 0, .inr (3, [.ref (h 1), .ref (h 2), .ref (h 3), .ref (h 4), .ref (h 5), .int (bI made), .int (bI hashed), .int cap, .long lat])), (h 1, .inr (2, [.ref (h 6), .ref (h 7), .int (nI kn)])), (h 2, .inr (1, [.ref (h 8), .ref (h 9), .ref (h 10), .ref (h 11), .ref (h 12), .ref (h 13), .int (nI en)])), (h 3, .inr (0, [.ref (h 14), .int (nI bn), .int wy, .int stt])), (h 4, .inl (cL, 4, .inr (.inl av))), (h 5, .inl (cL, 4, .inr (.inl am))), (h 6, .inl (cI, 4, .inl kinds)), (h 7, .inl (cL, 4, .inr (.inl ones))), (h 8, .inl (cL, 288, .inr (.inl vals))), (h 9, .inl (cL, 288, .inr (.inl msks))), (h 10, .inl (cI, 72, .inl pre)), (h 11, .inl (cI, 72, .inl pri)), (h 12, .inl (cI, 72, .inl act)), (h 13, .inl (cL, 72, .inr (.inl dat))), (h 14, .inl (cI, 16, .inl held))]) [0, 1, 2, 3, 4, 5, 6, 7, 8, 9, 10, 11, 12, 13, 14] rfl) hK (va_recv (ci := 3) hK hP rfl (q0 := 0) rfl)) rfl rfl hl.1 rfl (lv_room (Nat.le_of_ble_eq_true rfl)) dX3_insert_19 ⟨Nat.zero_le _, Nat.zero_le _⟩) ?_
      refine lv_iconst (v := (-1)) hx hb dX3_insert_22 (by decide) ?_
      refine lv_icmp_ne (tgt := 33) hx hb dX3_insert_23 (by decide) (fun c23 => ?_) (fun c23 => ?_)
      · refine lv_iconst (v := 0) hx hb dX3_insert_33 (by decide) ?_
        exact rd_iret hx hb hr hlocks dX3_insert_34 rfl (rfl)
      · refine lv_aload_n hx hb dX3_insert_26 rfl (lv_at hl 0 rfl) ?_
        refine rd_calli (r := (bI (cRoom ones av kn en held bn wy stt hashed cap))) (va_runV (As := []) (rest := []) ⟨hx, hb, hml, hown, hts⟩ (c_X3_hasRoom l dC dI cI cL h kinds ones kn av am vals msks pre pri act dat en held bn wy stt made hashed cap lat hk hbn) (cwV 0 hts (gV mw381 mw383 mw6 mw22 mw384) rfl rfl rfl (by decide +kernel) ⟨Nat.le_of_ble_eq_true rfl, Nat.le_of_ble_eq_true rfl⟩) (rd_preV (hP.sub (ws' := [(h 0, .inr (3, [.ref (h 1), .ref (h 2), .ref (h 3), .ref (h 4), .ref (h 5), .int (bI made), .int (bI hashed), .int cap, .long lat])), (h 1, .inr (2, [.ref (h 6), .ref (h 7), .int (nI kn)])), (h 2, .inr (1, [.ref (h 8), .ref (h 9), .ref (h 10), .ref (h 11), .ref (h 12), .ref (h 13), .int (nI en)])), (h 3, .inr (0, [.ref (h 14), .int (nI bn), .int wy, .int stt])), (h 4, .inl (cL, 4, .inr (.inl av))), (h 5, .inl (cL, 4, .inr (.inl am))), (h 6, .inl (cI, 4, .inl kinds)), (h 7, .inl (cL, 4, .inr (.inl ones))), (h 8, .inl (cL, 288, .inr (.inl vals))), (h 9, .inl (cL, 288, .inr (.inl msks))), (h 10, .inl (cI, 72, .inl pre)), (h 11, .inl (cI, 72, .inl pri)), (h 12, .inl (cI, 72, .inl act)), (h 13, .inl (cL, 72, .inr (.inl dat))), (h 14, .inl (cI, 16, .inl held))]) [0, 1, 2, 3, 4, 5, 6, 7, 8, 9, 10, 11, 12, 13, 14] rfl) hK (va_recv (ci := 3) hK hP rfl (q0 := 0) rfl)) rfl rfl hl.1 rfl (lv_room (Nat.le_of_ble_eq_true rfl)) dX3_insert_27 ⟨Nat.zero_le _, Nat.zero_le _⟩) ?_
        refine lv_if_ne (tgt := 35) hx hb dX3_insert_30 (by decide) (fun c30 => ?_) (fun c30 => ?_)
        · exact absurd hno (by unfold cIns; rw [bI_ne c8, bI_ne c15, decide_eq_true c23, bI_ne c30]; decide)
        · refine lv_iconst (v := 0) hx hb dX3_insert_33 (by decide) ?_
          exact rd_iret hx hb hr hlocks dX3_insert_34 rfl (rfl)

set_option maxHeartbeats 4000000 in
set_option maxRecDepth 100000 in
/-- insert, when an entry comes -/
theorem c_X3_insert_y (l : Launch) (dC : Nat → ClassId) (dI : Nat → Nat → Nat) (cI cL : ClassId) (h : Nat → Nat) (kinds : Nat → Int32) (ones : Nat → Int64) (kn : Nat) (av am : Nat → Int64) (vals msks : Nat → Int64) (pre pri act : Nat → Int32) (dat : Nat → Int64) (en : Nat) (held : Nat → Int32) (bn : Nat) (wy stt : Int32) (made hashed : Bool) (cap : Int32) (lat : Int64) (pr ac : Int32) (da : Int64) (hm : made = true) (hk : kn ≤ 4) (he : en ≤ 72) (he9 : en < 72) (hbn : bn ≤ 16) (ha : cAct ac = true) (ht : cTakeAll kinds ones am kn = true) (hf : cFind ones av am vals msks kn en = -1) (hr9 : cRoom ones av kn en held bn wy stt hashed cap = true) : Met l yX3_insert wsX3_insert ({ frames := 4, cells := 0, slots := 0, locals := 79 }) (wr_P (dC, dI) vwCl [(cI, .int), (cL, .long)] [(h 0, .inr (3, [.ref (h 1), .ref (h 2), .ref (h 3), .ref (h 4), .ref (h 5), .int (bI made), .int (bI hashed), .int cap, .long lat])), (h 1, .inr (2, [.ref (h 6), .ref (h 7), .int (nI kn)])), (h 2, .inr (1, [.ref (h 8), .ref (h 9), .ref (h 10), .ref (h 11), .ref (h 12), .ref (h 13), .int (nI en)])), (h 3, .inr (0, [.ref (h 14), .int (nI bn), .int wy, .int stt])), (h 4, .inl (cL, 4, .inr (.inl av))), (h 5, .inl (cL, 4, .inr (.inl am))), (h 6, .inl (cI, 4, .inl kinds)), (h 7, .inl (cL, 4, .inr (.inl ones))), (h 8, .inl (cL, 288, .inr (.inl vals))), (h 9, .inl (cL, 288, .inr (.inl msks))), (h 10, .inl (cI, 72, .inl pre)), (h 11, .inl (cI, 72, .inl pri)), (h 12, .inl (cI, 72, .inl act)), (h 13, .inl (cL, 72, .inr (.inl dat))), (h 14, .inl (cI, 16, .inl held))] [.ref (h 0), .int pr, .int ac, .long da]) (wr_Q (dC, dI) vwCl (some (.int 1)) [(h 0, .inr (3, [.ref (h 1), .ref (h 2), .ref (h 3), .ref (h 4), .ref (h 5), .int (bI made), .int (bI hashed), .int cap, .long lat])), (h 1, .inr (2, [.ref (h 6), .ref (h 7), .int (nI kn)])), (h 2, .inr (1, [.ref (h 8), .ref (h 9), .ref (h 10), .ref (h 11), .ref (h 12), .ref (h 13), .int (nI en)])), (h 3, .inr (0, [.ref (h 14), .int (nI bn), .int wy, .int stt])), (h 4, .inl (cL, 4, .inr (.inl av))), (h 5, .inl (cL, 4, .inr (.inl am))), (h 6, .inl (cI, 4, .inl kinds)), (h 7, .inl (cL, 4, .inr (.inl ones))), (h 8, .inl (cL, 288, .inr (.inl vals))), (h 9, .inl (cL, 288, .inr (.inl msks))), (h 10, .inl (cI, 72, .inl pre)), (h 11, .inl (cI, 72, .inl pri)), (h 12, .inl (cI, 72, .inl act)), (h 13, .inl (cL, 72, .inr (.inl dat))), (h 14, .inl (cI, 16, .inl held))] [(h 0, .inr (3, [.ref (h 1), .ref (h 2), .ref (h 3), .ref (h 4), .ref (h 5), .int (bI made), .int (bI hashed), .int cap, .long lat])), (h 1, .inr (2, [.ref (h 6), .ref (h 7), .int (nI kn)])), (h 2, .inr (1, [.ref (h 8), .ref (h 9), .ref (h 10), .ref (h 11), .ref (h 12), .ref (h 13), .int (nI (en + 1))])), (h 3, .inr (0, [.ref (h 14), .int (nI bn), .int wy, .int stt])), (h 4, .inl (cL, 4, .inr (.inl av))), (h 5, .inl (cL, 4, .inr (.inl am))), (h 6, .inl (cI, 4, .inl kinds)), (h 7, .inl (cL, 4, .inr (.inl ones))), (h 8, .inl (cL, 288, .inr (.inl (putRow en (fun k => av k &&& (am k &&& ones k)) vals 0 kn)))), (h 9, .inl (cL, 288, .inr (.inl (putRow en (fun k => am k &&& ones k) msks 0 kn)))), (h 10, .inl (cI, 72, .inl (upd pre en (pOnes kinds (fun k => am k &&& ones k) 0 0 kn)))), (h 11, .inl (cI, 72, .inl (upd pri en pr))), (h 12, .inl (cI, 72, .inl (upd act en ac))), (h 13, .inl (cL, 72, .inr (.inl (vp_updL dat en da)))), (h 14, .inl (cI, 16, .inl (fillB held bn (cBucket ones av kn bn hashed) 1)))]) 0 0 (wr_I [(h 0, .inr (3, [.ref (h 1), .ref (h 2), .ref (h 3), .ref (h 4), .ref (h 5), .int (bI made), .int (bI hashed), .int cap, .long lat])), (h 1, .inr (2, [.ref (h 6), .ref (h 7), .int (nI kn)])), (h 2, .inr (1, [.ref (h 8), .ref (h 9), .ref (h 10), .ref (h 11), .ref (h 12), .ref (h 13), .int (nI en)])), (h 3, .inr (0, [.ref (h 14), .int (nI bn), .int wy, .int stt])), (h 4, .inl (cL, 4, .inr (.inl av))), (h 5, .inl (cL, 4, .inr (.inl am))), (h 6, .inl (cI, 4, .inl kinds)), (h 7, .inl (cL, 4, .inr (.inl ones))), (h 8, .inl (cL, 288, .inr (.inl vals))), (h 9, .inl (cL, 288, .inr (.inl msks))), (h 10, .inl (cI, 72, .inl pre)), (h 11, .inl (cI, 72, .inl pri)), (h 12, .inl (cI, 72, .inl act)), (h 13, .inl (cL, 72, .inr (.inl dat))), (h 14, .inl (cI, 16, .inl held))]) := by
  refine Met.ofW (cc := cX3_insert) (maxL := 5) (ret := some .boolean) (by decide) rfl ?_
  intro p e s m args below meth c s₁ B hml hv
  obtain ⟨rfl, hP, hK, hD0⟩ := hv
  have hx := B.exec
  have hb := B.bytes
  have hr := B.returns
  have hts := fun w h => atoms_spec (ws := wsX3_insert) B.pre w (List.mem_cons_of_mem _ h)
  have hown : s.vm.findClass RX3 = some m.cls := findClass_of_methodNamed B.named
  have hlocks := B.notSynchronized
  have hD := wr_self hD0
  have hS : va_S (wr_I [(h 0, .inr (3, [.ref (h 1), .ref (h 2), .ref (h 3), .ref (h 4), .ref (h 5), .int (bI made), .int (bI hashed), .int cap, .long lat])), (h 1, .inr (2, [.ref (h 6), .ref (h 7), .int (nI kn)])), (h 2, .inr (1, [.ref (h 8), .ref (h 9), .ref (h 10), .ref (h 11), .ref (h 12), .ref (h 13), .int (nI en)])), (h 3, .inr (0, [.ref (h 14), .int (nI bn), .int wy, .int stt])), (h 4, .inl (cL, 4, .inr (.inl av))), (h 5, .inl (cL, 4, .inr (.inl am))), (h 6, .inl (cI, 4, .inl kinds)), (h 7, .inl (cL, 4, .inr (.inl ones))), (h 8, .inl (cL, 288, .inr (.inl vals))), (h 9, .inl (cL, 288, .inr (.inl msks))), (h 10, .inl (cI, 72, .inl pre)), (h 11, .inl (cI, 72, .inl pri)), (h 12, .inl (cI, 72, .inl act)), (h 13, .inl (cL, 72, .inr (.inl dat))), (h 14, .inl (cI, 16, .inl held))]) s.heap s.heap [] := va_S.rf
  have hl := lv_entry ([.ref (h 0), .int pr, .int ac, .long da]) (n := 5) (Nat.le_of_ble_eq_true rfl)
  rw [lg_entry_eq]
  generalize (lg_sl ([.ref (h 0), .int pr, .int ac, .long da]) ++ List.replicate (5 - (lg_sl ([.ref (h 0), .int pr, .int ac, .long da])).length) Slot.unset).toArray = ls at hl ⊢
  have hl : lv_has ls 5 [(0, .ref (h 0)), (1, .int pr), (2, .int ac), (3, .long da)] := hl
  refine lv_aload_n hx hb dX3_insert_0 rfl (lv_at hl 0 rfl) ?_
  refine rd_callv (va_runV (As := []) (rest := []) ⟨hx, hb, hml, hown, hts⟩ (c_X3_requireTable l dC dI cI cL h kinds ones kn av am vals msks pre pri act dat en held bn wy stt made hashed cap lat hm) (cwV 0 hts (gV mw350 mw352 mw1 mw22 mw353) rfl rfl rfl (by decide +kernel) ⟨Nat.le_of_ble_eq_true rfl, Nat.le_of_ble_eq_true rfl⟩) (rd_preV (hP.sub (ws' := [(h 0, .inr (3, [.ref (h 1), .ref (h 2), .ref (h 3), .ref (h 4), .ref (h 5), .int (bI made), .int (bI hashed), .int cap, .long lat])), (h 1, .inr (2, [.ref (h 6), .ref (h 7), .int (nI kn)])), (h 2, .inr (1, [.ref (h 8), .ref (h 9), .ref (h 10), .ref (h 11), .ref (h 12), .ref (h 13), .int (nI en)])), (h 3, .inr (0, [.ref (h 14), .int (nI bn), .int wy, .int stt])), (h 4, .inl (cL, 4, .inr (.inl av))), (h 5, .inl (cL, 4, .inr (.inl am))), (h 6, .inl (cI, 4, .inl kinds)), (h 7, .inl (cL, 4, .inr (.inl ones))), (h 8, .inl (cL, 288, .inr (.inl vals))), (h 9, .inl (cL, 288, .inr (.inl msks))), (h 10, .inl (cI, 72, .inl pre)), (h 11, .inl (cI, 72, .inl pri)), (h 12, .inl (cI, 72, .inl act)), (h 13, .inl (cL, 72, .inr (.inl dat))), (h 14, .inl (cI, 16, .inl held))]) [0, 1, 2, 3, 4, 5, 6, 7, 8, 9, 10, 11, 12, 13, 14] rfl) hK (va_recv (ci := 3) hK hP rfl (q0 := 0) rfl)) rfl rfl hl.1 rfl (lv_room (Nat.le_of_ble_eq_true rfl)) dX3_insert_1 ⟨Nat.zero_le _, Nat.zero_le _⟩) ?_
  refine lv_iload_n hx hb dX3_insert_4 rfl (lv_at hl 2 rfl) ?_
  refine rd_calli (r := (bI (cAct ac))) (va_runS (As := [.int ac]) (rest := []) ⟨hx, hb, hml, hown, hts⟩ (c_X3_isAction l dC dI cI cL ac) (cwS 1 hts (gS mw355 mw356 mw22 mw357) rfl rfl rfl (by decide +kernel) ⟨Nat.le_of_ble_eq_true rfl, Nat.le_of_ble_eq_true rfl⟩) (rd_preS (hP.sub (ws' := []) [] rfl) hK) rfl rfl hl.1 rfl (lv_room (Nat.le_of_ble_eq_true rfl)) dX3_insert_5 ⟨Nat.zero_le _, Nat.zero_le _⟩) ?_
  refine lv_if_eq (tgt := 33) hx hb dX3_insert_8 (by decide) (fun c8 => absurd c8 (by rw [ha]; decide)) (fun c8 => ?_)
  refine lv_aload_n hx hb dX3_insert_11 rfl (lv_at hl 0 rfl) ?_
  refine rd_calli (r := (bI (cTakeAll kinds ones am kn))) (va_runV (As := []) (rest := []) ⟨hx, hb, hml, hown, hts⟩ (c_X3_areMasksRight l dC dI cI cL h kinds ones kn av am vals msks pre pri act dat en held bn wy stt made hashed cap lat hk) (cwV 0 hts (gV mw358 mw360 mw2 mw22 mw361) rfl rfl rfl (by decide +kernel) ⟨Nat.le_of_ble_eq_true rfl, Nat.le_of_ble_eq_true rfl⟩) (rd_preV (hP.sub (ws' := [(h 0, .inr (3, [.ref (h 1), .ref (h 2), .ref (h 3), .ref (h 4), .ref (h 5), .int (bI made), .int (bI hashed), .int cap, .long lat])), (h 1, .inr (2, [.ref (h 6), .ref (h 7), .int (nI kn)])), (h 2, .inr (1, [.ref (h 8), .ref (h 9), .ref (h 10), .ref (h 11), .ref (h 12), .ref (h 13), .int (nI en)])), (h 3, .inr (0, [.ref (h 14), .int (nI bn), .int wy, .int stt])), (h 4, .inl (cL, 4, .inr (.inl av))), (h 5, .inl (cL, 4, .inr (.inl am))), (h 6, .inl (cI, 4, .inl kinds)), (h 7, .inl (cL, 4, .inr (.inl ones))), (h 8, .inl (cL, 288, .inr (.inl vals))), (h 9, .inl (cL, 288, .inr (.inl msks))), (h 10, .inl (cI, 72, .inl pre)), (h 11, .inl (cI, 72, .inl pri)), (h 12, .inl (cI, 72, .inl act)), (h 13, .inl (cL, 72, .inr (.inl dat))), (h 14, .inl (cI, 16, .inl held))]) [0, 1, 2, 3, 4, 5, 6, 7, 8, 9, 10, 11, 12, 13, 14] rfl) hK (va_recv (ci := 3) hK hP rfl (q0 := 0) rfl)) rfl rfl hl.1 rfl (lv_room (Nat.le_of_ble_eq_true rfl)) dX3_insert_12 ⟨Nat.zero_le _, Nat.zero_le _⟩) ?_
  refine lv_if_eq (tgt := 33) hx hb dX3_insert_15 (by decide) (fun c15 => absurd c15 (by rw [ht]; decide)) (fun c15 => ?_)
  refine lv_aload_n hx hb dX3_insert_18 rfl (lv_at hl 0 rfl) ?_
  refine rd_calli (r := (cFind ones av am vals msks kn en)) (va_runV (As := []) (rest := []) ⟨hx, hb, hml, hown, hts⟩ (c_X3_findAsked l dC dI cI cL h kinds ones kn av am vals msks pre pri act dat en held bn wy stt made hashed cap lat hk he) (cwV 0 hts (gV mw370 mw372 mw4 mw22 mw373) rfl rfl rfl (by decide +kernel) ⟨Nat.le_of_ble_eq_true rfl, Nat.le_of_ble_eq_true rfl⟩) (rd_preV (hP.sub (ws' := [(h 0, .inr (3, [.ref (h 1), .ref (h 2), .ref (h 3), .ref (h 4), .ref (h 5), .int (bI made), .int (bI hashed), .int cap, .long lat])), (h 1, .inr (2, [.ref (h 6), .ref (h 7), .int (nI kn)])), (h 2, .inr (1, [.ref (h 8), .ref (h 9), .ref (h 10), .ref (h 11), .ref (h 12), .ref (h 13), .int (nI en)])), (h 3, .inr (0, [.ref (h 14), .int (nI bn), .int wy, .int stt])), (h 4, .inl (cL, 4, .inr (.inl av))), (h 5, .inl (cL, 4, .inr (.inl am))), (h 6, .inl (cI, 4, .inl kinds)), (h 7, .inl (cL, 4, .inr (.inl ones))), (h 8, .inl (cL, 288, .inr (.inl vals))), (h 9, .inl (cL, 288, .inr (.inl msks))), (h 10, .inl (cI, 72, .inl pre)), (h 11, .inl (cI, 72, .inl pri)), (h 12, .inl (cI, 72, .inl act)), (h 13, .inl (cL, 72, .inr (.inl dat))), (h 14, .inl (cI, 16, .inl held))]) [0, 1, 2, 3, 4, 5, 6, 7, 8, 9, 10, 11, 12, 13, 14] rfl) hK (va_recv (ci := 3) hK hP rfl (q0 := 0) rfl)) rfl rfl hl.1 rfl (lv_room (Nat.le_of_ble_eq_true rfl)) dX3_insert_19 ⟨Nat.zero_le _, Nat.zero_le _⟩) ?_
  refine lv_iconst (v := (-1)) hx hb dX3_insert_22 (by decide) ?_
  refine lv_icmp_ne (tgt := 33) hx hb dX3_insert_23 (by decide) (fun c23 => absurd hf c23) (fun c23 => ?_)
  refine lv_aload_n hx hb dX3_insert_26 rfl (lv_at hl 0 rfl) ?_
  refine rd_calli (r := (bI (cRoom ones av kn en held bn wy stt hashed cap))) (va_runV (As := []) (rest := []) ⟨hx, hb, hml, hown, hts⟩ (c_X3_hasRoom l dC dI cI cL h kinds ones kn av am vals msks pre pri act dat en held bn wy stt made hashed cap lat hk hbn) (cwV 0 hts (gV mw381 mw383 mw6 mw22 mw384) rfl rfl rfl (by decide +kernel) ⟨Nat.le_of_ble_eq_true rfl, Nat.le_of_ble_eq_true rfl⟩) (rd_preV (hP.sub (ws' := [(h 0, .inr (3, [.ref (h 1), .ref (h 2), .ref (h 3), .ref (h 4), .ref (h 5), .int (bI made), .int (bI hashed), .int cap, .long lat])), (h 1, .inr (2, [.ref (h 6), .ref (h 7), .int (nI kn)])), (h 2, .inr (1, [.ref (h 8), .ref (h 9), .ref (h 10), .ref (h 11), .ref (h 12), .ref (h 13), .int (nI en)])), (h 3, .inr (0, [.ref (h 14), .int (nI bn), .int wy, .int stt])), (h 4, .inl (cL, 4, .inr (.inl av))), (h 5, .inl (cL, 4, .inr (.inl am))), (h 6, .inl (cI, 4, .inl kinds)), (h 7, .inl (cL, 4, .inr (.inl ones))), (h 8, .inl (cL, 288, .inr (.inl vals))), (h 9, .inl (cL, 288, .inr (.inl msks))), (h 10, .inl (cI, 72, .inl pre)), (h 11, .inl (cI, 72, .inl pri)), (h 12, .inl (cI, 72, .inl act)), (h 13, .inl (cL, 72, .inr (.inl dat))), (h 14, .inl (cI, 16, .inl held))]) [0, 1, 2, 3, 4, 5, 6, 7, 8, 9, 10, 11, 12, 13, 14] rfl) hK (va_recv (ci := 3) hK hP rfl (q0 := 0) rfl)) rfl rfl hl.1 rfl (lv_room (Nat.le_of_ble_eq_true rfl)) dX3_insert_27 ⟨Nat.zero_le _, Nat.zero_le _⟩) ?_
  refine lv_if_ne (tgt := 35) hx hb dX3_insert_30 (by decide) (fun c30 => ?_) (fun c30 => absurd c30 (by rw [hr9]; decide))
  refine lv_aload_n hx hb dX3_insert_35 rfl (lv_at hl 0 rfl) ?_
  refine lv_iload_n hx hb dX3_insert_36 rfl (lv_at hl 1 rfl) ?_
  refine lv_iload_n hx hb dX3_insert_37 rfl (lv_at hl 2 rfl) ?_
  refine lv_lload_n hx hb dX3_insert_38 rfl (lv_at hl 3 rfl) ?_
  refine wr_call (w := [(h 0, .inr (3, [.ref (h 1), .ref (h 2), .ref (h 3), .ref (h 4), .ref (h 5), .int (bI made), .int (bI hashed), .int cap, .long lat])), (h 1, .inr (2, [.ref (h 6), .ref (h 7), .int (nI kn)])), (h 2, .inr (1, [.ref (h 8), .ref (h 9), .ref (h 10), .ref (h 11), .ref (h 12), .ref (h 13), .int (nI en)])), (h 3, .inr (0, [.ref (h 14), .int (nI bn), .int wy, .int stt])), (h 4, .inl (cL, 4, .inr (.inl av))), (h 5, .inl (cL, 4, .inr (.inl am))), (h 6, .inl (cI, 4, .inl kinds)), (h 7, .inl (cL, 4, .inr (.inl ones))), (h 8, .inl (cL, 288, .inr (.inl vals))), (h 9, .inl (cL, 288, .inr (.inl msks))), (h 10, .inl (cI, 72, .inl pre)), (h 11, .inl (cI, 72, .inl pri)), (h 12, .inl (cI, 72, .inl act)), (h 13, .inl (cL, 72, .inr (.inl dat))), (h 14, .inl (cI, 16, .inl held))]) (w' := [(h 0, .inr (3, [.ref (h 1), .ref (h 2), .ref (h 3), .ref (h 4), .ref (h 5), .int (bI made), .int (bI hashed), .int cap, .long lat])), (h 1, .inr (2, [.ref (h 6), .ref (h 7), .int (nI kn)])), (h 2, .inr (1, [.ref (h 8), .ref (h 9), .ref (h 10), .ref (h 11), .ref (h 12), .ref (h 13), .int (nI (en + 1))])), (h 3, .inr (0, [.ref (h 14), .int (nI bn), .int wy, .int stt])), (h 4, .inl (cL, 4, .inr (.inl av))), (h 5, .inl (cL, 4, .inr (.inl am))), (h 6, .inl (cI, 4, .inl kinds)), (h 7, .inl (cL, 4, .inr (.inl ones))), (h 8, .inl (cL, 288, .inr (.inl (putRow en (fun k => av k &&& (am k &&& ones k)) vals 0 kn)))), (h 9, .inl (cL, 288, .inr (.inl (putRow en (fun k => am k &&& ones k) msks 0 kn)))), (h 10, .inl (cI, 72, .inl (upd pre en (pOnes kinds (fun k => am k &&& ones k) 0 0 kn)))), (h 11, .inl (cI, 72, .inl (upd pri en pr))), (h 12, .inl (cI, 72, .inl (upd act en ac))), (h 13, .inl (cL, 72, .inr (.inl (vp_updL dat en da)))), (h 14, .inl (cI, 16, .inl held))]) (wr := []) (ws' := [(h 0, .inr (3, [.ref (h 1), .ref (h 2), .ref (h 3), .ref (h 4), .ref (h 5), .int (bI made), .int (bI hashed), .int cap, .long lat])), (h 1, .inr (2, [.ref (h 6), .ref (h 7), .int (nI kn)])), (h 2, .inr (1, [.ref (h 8), .ref (h 9), .ref (h 10), .ref (h 11), .ref (h 12), .ref (h 13), .int (nI (en + 1))])), (h 3, .inr (0, [.ref (h 14), .int (nI bn), .int wy, .int stt])), (h 4, .inl (cL, 4, .inr (.inl av))), (h 5, .inl (cL, 4, .inr (.inl am))), (h 6, .inl (cI, 4, .inl kinds)), (h 7, .inl (cL, 4, .inr (.inl ones))), (h 8, .inl (cL, 288, .inr (.inl (putRow en (fun k => av k &&& (am k &&& ones k)) vals 0 kn)))), (h 9, .inl (cL, 288, .inr (.inl (putRow en (fun k => am k &&& ones k) msks 0 kn)))), (h 10, .inl (cI, 72, .inl (upd pre en (pOnes kinds (fun k => am k &&& ones k) 0 0 kn)))), (h 11, .inl (cI, 72, .inl (upd pri en pr))), (h 12, .inl (cI, 72, .inl (upd act en ac))), (h 13, .inl (cL, 72, .inr (.inl (vp_updL dat en da)))), (h 14, .inl (cI, 16, .inl held))]) (va_runV (As := [.int pr, .int ac, .long da]) (rest := []) ⟨hx, hb, hml, hown, hts⟩ (c_X3_addAsked l dC dI cI cL h kinds ones kn av am vals msks pre pri act dat en held bn wy stt made hashed cap lat pr ac da hk he9) (cwV 3 hts (gV mw395 mw397 mw7 mw22 mw398) rfl rfl rfl (by decide +kernel) ⟨Nat.le_of_ble_eq_true rfl, Nat.le_of_ble_eq_true rfl⟩) (wr_preV (hP.sub (ws' := [(h 0, .inr (3, [.ref (h 1), .ref (h 2), .ref (h 3), .ref (h 4), .ref (h 5), .int (bI made), .int (bI hashed), .int cap, .long lat])), (h 1, .inr (2, [.ref (h 6), .ref (h 7), .int (nI kn)])), (h 2, .inr (1, [.ref (h 8), .ref (h 9), .ref (h 10), .ref (h 11), .ref (h 12), .ref (h 13), .int (nI en)])), (h 3, .inr (0, [.ref (h 14), .int (nI bn), .int wy, .int stt])), (h 4, .inl (cL, 4, .inr (.inl av))), (h 5, .inl (cL, 4, .inr (.inl am))), (h 6, .inl (cI, 4, .inl kinds)), (h 7, .inl (cL, 4, .inr (.inl ones))), (h 8, .inl (cL, 288, .inr (.inl vals))), (h 9, .inl (cL, 288, .inr (.inl msks))), (h 10, .inl (cI, 72, .inl pre)), (h 11, .inl (cI, 72, .inl pri)), (h 12, .inl (cI, 72, .inl act)), (h 13, .inl (cL, 72, .inr (.inl dat))), (h 14, .inl (cI, 16, .inl held))]) [0, 1, 2, 3, 4, 5, 6, 7, 8, 9, 10, 11, 12, 13, 14] rfl) hK (hD.sub (ws' := [(h 0, .inr (3, [.ref (h 1), .ref (h 2), .ref (h 3), .ref (h 4), .ref (h 5), .int (bI made), .int (bI hashed), .int cap, .long lat])), (h 1, .inr (2, [.ref (h 6), .ref (h 7), .int (nI kn)])), (h 2, .inr (1, [.ref (h 8), .ref (h 9), .ref (h 10), .ref (h 11), .ref (h 12), .ref (h 13), .int (nI en)])), (h 3, .inr (0, [.ref (h 14), .int (nI bn), .int wy, .int stt])), (h 4, .inl (cL, 4, .inr (.inl av))), (h 5, .inl (cL, 4, .inr (.inl am))), (h 6, .inl (cI, 4, .inl kinds)), (h 7, .inl (cL, 4, .inr (.inl ones))), (h 8, .inl (cL, 288, .inr (.inl vals))), (h 9, .inl (cL, 288, .inr (.inl msks))), (h 10, .inl (cI, 72, .inl pre)), (h 11, .inl (cI, 72, .inl pri)), (h 12, .inl (cI, 72, .inl act)), (h 13, .inl (cL, 72, .inr (.inl dat))), (h 14, .inl (cI, 16, .inl held))]) [0, 1, 2, 3, 4, 5, 6, 7, 8, 9, 10, 11, 12, 13, 14] (by decide) rfl) (va_recv (ci := 3) hK hP rfl (q0 := 0) rfl)) rfl rfl hl.1 rfl (lv_room (Nat.le_of_ble_eq_true rfl)) dX3_insert_39 ⟨Nat.zero_le _, Nat.zero_le _⟩) hP hD hS [0, 1, 2, 3, 4, 5, 6, 7, 8, 9, 10, 11, 12, 13, 14] [] [0, 1, 2, 3, 4, 5, 6, 7, 8, 9, 10, 11, 12, 13, 14] rfl rfl (by decide) rfl rfl (fun H locs hP hD hS => ?_)
  refine lv_aload_n hx hb dX3_insert_42 rfl (lv_at hl 0 rfl) ?_
  refine va_get (D := (dC, dI)) (ci := 3) (v := .ref (h 3)) (C := RX3) (T := TX3) (N := 9) hx hb hts inX3 hown hK hP 0 rfl rfl 2 (by decide) (hts _ mw122) (fun _ h9 => h9) rfl dX3_insert_43 ?_
  refine lv_aload_n hx hb dX3_insert_46 rfl (lv_at hl 0 rfl) ?_
  refine rd_calli (r := (cBucket ones av kn bn hashed)) (va_runV (As := []) (rest := [.ref (h 3)]) ⟨hx, hb, hml, hown, hts⟩ (c_X3_bucket l dC dI cI cL h kinds ones kn av am (putRow en (fun k => av k &&& (am k &&& ones k)) vals 0 kn) (putRow en (fun k => am k &&& ones k) msks 0 kn) (upd pre en (pOnes kinds (fun k => am k &&& ones k) 0 0 kn)) (upd pri en pr) (upd act en ac) (vp_updL dat en da) (en + 1) held bn wy stt made hashed cap lat hk hbn) (cwV 0 hts (gV mw385 mw167 mw168 mw22 mw169) rfl rfl rfl (by decide +kernel) ⟨Nat.le_of_ble_eq_true rfl, Nat.le_of_ble_eq_true rfl⟩) (rd_preV (hP.sub (ws' := [(h 0, .inr (3, [.ref (h 1), .ref (h 2), .ref (h 3), .ref (h 4), .ref (h 5), .int (bI made), .int (bI hashed), .int cap, .long lat])), (h 1, .inr (2, [.ref (h 6), .ref (h 7), .int (nI kn)])), (h 2, .inr (1, [.ref (h 8), .ref (h 9), .ref (h 10), .ref (h 11), .ref (h 12), .ref (h 13), .int (nI (en + 1))])), (h 3, .inr (0, [.ref (h 14), .int (nI bn), .int wy, .int stt])), (h 4, .inl (cL, 4, .inr (.inl av))), (h 5, .inl (cL, 4, .inr (.inl am))), (h 6, .inl (cI, 4, .inl kinds)), (h 7, .inl (cL, 4, .inr (.inl ones))), (h 8, .inl (cL, 288, .inr (.inl (putRow en (fun k => av k &&& (am k &&& ones k)) vals 0 kn)))), (h 9, .inl (cL, 288, .inr (.inl (putRow en (fun k => am k &&& ones k) msks 0 kn)))), (h 10, .inl (cI, 72, .inl (upd pre en (pOnes kinds (fun k => am k &&& ones k) 0 0 kn)))), (h 11, .inl (cI, 72, .inl (upd pri en pr))), (h 12, .inl (cI, 72, .inl (upd act en ac))), (h 13, .inl (cL, 72, .inr (.inl (vp_updL dat en da)))), (h 14, .inl (cI, 16, .inl held))]) [0, 1, 2, 3, 4, 5, 6, 7, 8, 9, 10, 11, 12, 13, 14] rfl) hK (va_recv (ci := 3) hK hP rfl (q0 := 0) rfl)) rfl rfl hl.1 rfl (lv_room (Nat.le_of_ble_eq_true rfl)) dX3_insert_47 ⟨Nat.zero_le _, Nat.zero_le _⟩) ?_
  refine wr_call (w := [(h 3, .inr (0, [.ref (h 14), .int (nI bn), .int wy, .int stt])), (h 14, .inl (cI, 16, .inl held))]) (w' := [(h 3, .inr (0, [.ref (h 14), .int (nI bn), .int wy, .int stt])), (h 14, .inl (cI, 16, .inl (fillB held bn (cBucket ones av kn bn hashed) 1)))]) (wr := [(h 0, .inr (3, [.ref (h 1), .ref (h 2), .ref (h 3), .ref (h 4), .ref (h 5), .int (bI made), .int (bI hashed), .int cap, .long lat])), (h 1, .inr (2, [.ref (h 6), .ref (h 7), .int (nI kn)])), (h 2, .inr (1, [.ref (h 8), .ref (h 9), .ref (h 10), .ref (h 11), .ref (h 12), .ref (h 13), .int (nI (en + 1))])), (h 4, .inl (cL, 4, .inr (.inl av))), (h 5, .inl (cL, 4, .inr (.inl am))), (h 6, .inl (cI, 4, .inl kinds)), (h 7, .inl (cL, 4, .inr (.inl ones))), (h 8, .inl (cL, 288, .inr (.inl (putRow en (fun k => av k &&& (am k &&& ones k)) vals 0 kn)))), (h 9, .inl (cL, 288, .inr (.inl (putRow en (fun k => am k &&& ones k) msks 0 kn)))), (h 10, .inl (cI, 72, .inl (upd pre en (pOnes kinds (fun k => am k &&& ones k) 0 0 kn)))), (h 11, .inl (cI, 72, .inl (upd pri en pr))), (h 12, .inl (cI, 72, .inl (upd act en ac))), (h 13, .inl (cL, 72, .inr (.inl (vp_updL dat en da))))]) (ws' := [(h 0, .inr (3, [.ref (h 1), .ref (h 2), .ref (h 3), .ref (h 4), .ref (h 5), .int (bI made), .int (bI hashed), .int cap, .long lat])), (h 1, .inr (2, [.ref (h 6), .ref (h 7), .int (nI kn)])), (h 2, .inr (1, [.ref (h 8), .ref (h 9), .ref (h 10), .ref (h 11), .ref (h 12), .ref (h 13), .int (nI (en + 1))])), (h 3, .inr (0, [.ref (h 14), .int (nI bn), .int wy, .int stt])), (h 4, .inl (cL, 4, .inr (.inl av))), (h 5, .inl (cL, 4, .inr (.inl am))), (h 6, .inl (cI, 4, .inl kinds)), (h 7, .inl (cL, 4, .inr (.inl ones))), (h 8, .inl (cL, 288, .inr (.inl (putRow en (fun k => av k &&& (am k &&& ones k)) vals 0 kn)))), (h 9, .inl (cL, 288, .inr (.inl (putRow en (fun k => am k &&& ones k) msks 0 kn)))), (h 10, .inl (cI, 72, .inl (upd pre en (pOnes kinds (fun k => am k &&& ones k) 0 0 kn)))), (h 11, .inl (cI, 72, .inl (upd pri en pr))), (h 12, .inl (cI, 72, .inl (upd act en ac))), (h 13, .inl (cL, 72, .inr (.inl (vp_updL dat en da)))), (h 14, .inl (cI, 16, .inl (fillB held bn (cBucket ones av kn bn hashed) 1)))]) (va_runV (As := [.int (cBucket ones av kn bn hashed)]) (rest := []) ⟨hx, hb, hml, hown, hts⟩ (c_X0_fill l dC dI cI cL (h 3) (h 14) held bn wy stt (cBucket ones av kn bn hashed) hbn) (cwV 1 hts (gV mw405 mw406 mw407 mw25 mw408) rfl rfl rfl (by decide +kernel) ⟨Nat.le_of_ble_eq_true rfl, Nat.le_of_ble_eq_true rfl⟩) (wr_preV (hP.sub (ws' := [(h 3, .inr (0, [.ref (h 14), .int (nI bn), .int wy, .int stt])), (h 14, .inl (cI, 16, .inl held))]) [3, 14] rfl) hK (hD.sub (ws' := [(h 3, .inr (0, [.ref (h 14), .int (nI bn), .int wy, .int stt])), (h 14, .inl (cI, 16, .inl held))]) [3, 14] (by decide) rfl) (va_recv (ci := 0) hK hP rfl (q0 := 3) rfl)) rfl rfl hl.1 rfl (lv_room (Nat.le_of_ble_eq_true rfl)) dX3_insert_50 ⟨Nat.zero_le _, Nat.zero_le _⟩) hP hD hS [3, 14] [0, 1, 2, 4, 5, 6, 7, 8, 9, 10, 11, 12, 13] [0, 1, 2, 13, 3, 4, 5, 6, 7, 8, 9, 10, 11, 12, 14] rfl rfl (by decide) rfl rfl (fun H locs hP hD hS => ?_)
  refine lv_iconst (v := 1) hx hb dX3_insert_53 (by decide) ?_
  exact wr_iret hx hb hr hlocks hP hS dX3_insert_54 rfl (rfl)

set_option maxHeartbeats 4000000 in
set_option maxRecDepth 100000 in
/-- change, when there is none -/
theorem c_X3_change_n (l : Launch) (dC : Nat → ClassId) (dI : Nat → Nat → Nat) (cI cL : ClassId) (h : Nat → Nat) (kinds : Nat → Int32) (ones : Nat → Int64) (kn : Nat) (av am : Nat → Int64) (vals msks : Nat → Int64) (pre pri act : Nat → Int32) (dat : Nat → Int64) (en : Nat) (held : Nat → Int32) (bn : Nat) (wy stt : Int32) (made hashed : Bool) (cap : Int32) (lat : Int64) (ac : Int32) (da : Int64) (hm : made = true) (hk : kn ≤ 4) (he : en ≤ 72) (hno : cFind ones av am vals msks kn en = -1 ∨ cAct ac = false) : Met l yX3_change wsX3_change ({ frames := 3, cells := 0, slots := 0, locals := 67 }) (rd_P (dC, dI) vwCl [(cI, .int), (cL, .long)] [(h 0, .inr (3, [.ref (h 1), .ref (h 2), .ref (h 3), .ref (h 4), .ref (h 5), .int (bI made), .int (bI hashed), .int cap, .long lat])), (h 1, .inr (2, [.ref (h 6), .ref (h 7), .int (nI kn)])), (h 2, .inr (1, [.ref (h 8), .ref (h 9), .ref (h 10), .ref (h 11), .ref (h 12), .ref (h 13), .int (nI en)])), (h 3, .inr (0, [.ref (h 14), .int (nI bn), .int wy, .int stt])), (h 4, .inl (cL, 4, .inr (.inl av))), (h 5, .inl (cL, 4, .inr (.inl am))), (h 6, .inl (cI, 4, .inl kinds)), (h 7, .inl (cL, 4, .inr (.inl ones))), (h 8, .inl (cL, 288, .inr (.inl vals))), (h 9, .inl (cL, 288, .inr (.inl msks))), (h 10, .inl (cI, 72, .inl pre)), (h 11, .inl (cI, 72, .inl pri)), (h 12, .inl (cI, 72, .inl act)), (h 13, .inl (cL, 72, .inr (.inl dat))), (h 14, .inl (cI, 16, .inl held))] [.ref (h 0), .int ac, .long da]) (rd_Q (some (.int 0))) 0 0 (fun _ => False) := by
  refine Met.ofW (cc := cX3_change) (maxL := 5) (ret := some .boolean) (by decide) rfl ?_
  intro p e s m args below meth c s₁ B hml hv
  obtain ⟨rfl, hP, hK⟩ := hv
  have hx := B.exec
  have hb := B.bytes
  have hr := B.returns
  have hts := fun w h => atoms_spec (ws := wsX3_change) B.pre w (List.mem_cons_of_mem _ h)
  have hown : s.vm.findClass RX3 = some m.cls := findClass_of_methodNamed B.named
  have hlocks := B.notSynchronized
  have hl := lv_entry ([.ref (h 0), .int ac, .long da]) (n := 5) (Nat.le_of_ble_eq_true rfl)
  rw [lg_entry_eq]
  generalize (lg_sl ([.ref (h 0), .int ac, .long da]) ++ List.replicate (5 - (lg_sl ([.ref (h 0), .int ac, .long da])).length) Slot.unset).toArray = ls at hl ⊢
  have hl : lv_has ls 5 [(0, .ref (h 0)), (1, .int ac), (2, .long da)] := hl
  refine lv_aload_n hx hb dX3_change_0 rfl (lv_at hl 0 rfl) ?_
  refine rd_callv (va_runV (As := []) (rest := []) ⟨hx, hb, hml, hown, hts⟩ (c_X3_requireTable l dC dI cI cL h kinds ones kn av am vals msks pre pri act dat en held bn wy stt made hashed cap lat hm) (cwV 0 hts (gV mw350 mw352 mw1 mw22 mw353) rfl rfl rfl (by decide +kernel) ⟨Nat.le_of_ble_eq_true rfl, Nat.le_of_ble_eq_true rfl⟩) (rd_preV (hP.sub (ws' := [(h 0, .inr (3, [.ref (h 1), .ref (h 2), .ref (h 3), .ref (h 4), .ref (h 5), .int (bI made), .int (bI hashed), .int cap, .long lat])), (h 1, .inr (2, [.ref (h 6), .ref (h 7), .int (nI kn)])), (h 2, .inr (1, [.ref (h 8), .ref (h 9), .ref (h 10), .ref (h 11), .ref (h 12), .ref (h 13), .int (nI en)])), (h 3, .inr (0, [.ref (h 14), .int (nI bn), .int wy, .int stt])), (h 4, .inl (cL, 4, .inr (.inl av))), (h 5, .inl (cL, 4, .inr (.inl am))), (h 6, .inl (cI, 4, .inl kinds)), (h 7, .inl (cL, 4, .inr (.inl ones))), (h 8, .inl (cL, 288, .inr (.inl vals))), (h 9, .inl (cL, 288, .inr (.inl msks))), (h 10, .inl (cI, 72, .inl pre)), (h 11, .inl (cI, 72, .inl pri)), (h 12, .inl (cI, 72, .inl act)), (h 13, .inl (cL, 72, .inr (.inl dat))), (h 14, .inl (cI, 16, .inl held))]) [0, 1, 2, 3, 4, 5, 6, 7, 8, 9, 10, 11, 12, 13, 14] rfl) hK (va_recv (ci := 3) hK hP rfl (q0 := 0) rfl)) rfl rfl hl.1 rfl (lv_room (Nat.le_of_ble_eq_true rfl)) dX3_change_1 ⟨Nat.zero_le _, Nat.zero_le _⟩) ?_
  refine lv_aload_n hx hb dX3_change_4 rfl (lv_at hl 0 rfl) ?_
  refine rd_calli (r := (cFind ones av am vals msks kn en)) (va_runV (As := []) (rest := []) ⟨hx, hb, hml, hown, hts⟩ (c_X3_findAsked l dC dI cI cL h kinds ones kn av am vals msks pre pri act dat en held bn wy stt made hashed cap lat hk he) (cwV 0 hts (gV mw370 mw372 mw4 mw22 mw373) rfl rfl rfl (by decide +kernel) ⟨Nat.le_of_ble_eq_true rfl, Nat.le_of_ble_eq_true rfl⟩) (rd_preV (hP.sub (ws' := [(h 0, .inr (3, [.ref (h 1), .ref (h 2), .ref (h 3), .ref (h 4), .ref (h 5), .int (bI made), .int (bI hashed), .int cap, .long lat])), (h 1, .inr (2, [.ref (h 6), .ref (h 7), .int (nI kn)])), (h 2, .inr (1, [.ref (h 8), .ref (h 9), .ref (h 10), .ref (h 11), .ref (h 12), .ref (h 13), .int (nI en)])), (h 3, .inr (0, [.ref (h 14), .int (nI bn), .int wy, .int stt])), (h 4, .inl (cL, 4, .inr (.inl av))), (h 5, .inl (cL, 4, .inr (.inl am))), (h 6, .inl (cI, 4, .inl kinds)), (h 7, .inl (cL, 4, .inr (.inl ones))), (h 8, .inl (cL, 288, .inr (.inl vals))), (h 9, .inl (cL, 288, .inr (.inl msks))), (h 10, .inl (cI, 72, .inl pre)), (h 11, .inl (cI, 72, .inl pri)), (h 12, .inl (cI, 72, .inl act)), (h 13, .inl (cL, 72, .inr (.inl dat))), (h 14, .inl (cI, 16, .inl held))]) [0, 1, 2, 3, 4, 5, 6, 7, 8, 9, 10, 11, 12, 13, 14] rfl) hK (va_recv (ci := 3) hK hP rfl (q0 := 0) rfl)) rfl rfl hl.1 rfl (lv_room (Nat.le_of_ble_eq_true rfl)) dX3_change_5 ⟨Nat.zero_le _, Nat.zero_le _⟩) ?_
  refine lv_istore (lv' := [(4, .int (cFind ones av am vals msks kn en)), (0, .ref (h 0)), (1, .int ac), (2, .long da)]) hx hb dX3_change_8 hl (by decide) rfl (fun ls hl => ?_)
  refine lv_iload hx hb dX3_change_10 (lv_at hl 0 rfl) ?_
  refine lv_iconst (v := (-1)) hx hb dX3_change_12 (by decide) ?_
  refine lv_icmp_eq (tgt := 23) hx hb dX3_change_13 (by decide) (fun c13 => ?_) (fun c13 => ?_)
  · refine lv_iconst (v := 0) hx hb dX3_change_23 (by decide) ?_
    exact rd_iret hx hb hr hlocks dX3_change_24 rfl (rfl)
  · refine lv_iload_n hx hb dX3_change_16 rfl (lv_at hl 2 rfl) ?_
    refine rd_calli (r := (bI (cAct ac))) (va_runS (As := [.int ac]) (rest := []) ⟨hx, hb, hml, hown, hts⟩ (c_X3_isAction l dC dI cI cL ac) (cwS 1 hts (gS mw355 mw356 mw22 mw357) rfl rfl rfl (by decide +kernel) ⟨Nat.le_of_ble_eq_true rfl, Nat.le_of_ble_eq_true rfl⟩) (rd_preS (hP.sub (ws' := []) [] rfl) hK) rfl rfl hl.1 rfl (lv_room (Nat.le_of_ble_eq_true rfl)) dX3_change_17 ⟨Nat.zero_le _, Nat.zero_le _⟩) ?_
    refine lv_if_ne (tgt := 25) hx hb dX3_change_20 (by decide) (fun c20 => ?_) (fun c20 => ?_)
    · exact absurd hno (fun z => z.elim c13 (fun z => absurd (bI_ne c20) (by rw [z]; decide)))
    · refine lv_iconst (v := 0) hx hb dX3_change_23 (by decide) ?_
      exact rd_iret hx hb hr hlocks dX3_change_24 rfl (rfl)

set_option maxHeartbeats 4000000 in
set_option maxRecDepth 100000 in
/-- change -/
theorem c_X3_change_y (l : Launch) (dC : Nat → ClassId) (dI : Nat → Nat → Nat) (cI cL : ClassId) (h : Nat → Nat) (kinds : Nat → Int32) (ones : Nat → Int64) (kn : Nat) (av am : Nat → Int64) (vals msks : Nat → Int64) (pre pri act : Nat → Int32) (dat : Nat → Int64) (en : Nat) (held : Nat → Int32) (bn : Nat) (wy stt : Int32) (made hashed : Bool) (cap : Int32) (lat : Int64) (ac : Int32) (da : Int64) (q : Nat) (hm : made = true) (hk : kn ≤ 4) (he : en ≤ 72) (hq : q < 72) (hf : cFind ones av am vals msks kn en = nI q) (ha : cAct ac = true) : Met l yX3_change wsX3_change ({ frames := 3, cells := 0, slots := 0, locals := 67 }) (wr_P (dC, dI) vwCl [(cI, .int), (cL, .long)] [(h 0, .inr (3, [.ref (h 1), .ref (h 2), .ref (h 3), .ref (h 4), .ref (h 5), .int (bI made), .int (bI hashed), .int cap, .long lat])), (h 1, .inr (2, [.ref (h 6), .ref (h 7), .int (nI kn)])), (h 2, .inr (1, [.ref (h 8), .ref (h 9), .ref (h 10), .ref (h 11), .ref (h 12), .ref (h 13), .int (nI en)])), (h 3, .inr (0, [.ref (h 14), .int (nI bn), .int wy, .int stt])), (h 4, .inl (cL, 4, .inr (.inl av))), (h 5, .inl (cL, 4, .inr (.inl am))), (h 6, .inl (cI, 4, .inl kinds)), (h 7, .inl (cL, 4, .inr (.inl ones))), (h 8, .inl (cL, 288, .inr (.inl vals))), (h 9, .inl (cL, 288, .inr (.inl msks))), (h 10, .inl (cI, 72, .inl pre)), (h 11, .inl (cI, 72, .inl pri)), (h 12, .inl (cI, 72, .inl act)), (h 13, .inl (cL, 72, .inr (.inl dat))), (h 14, .inl (cI, 16, .inl held))] [.ref (h 0), .int ac, .long da]) (wr_Q (dC, dI) vwCl (some (.int 1)) [(h 0, .inr (3, [.ref (h 1), .ref (h 2), .ref (h 3), .ref (h 4), .ref (h 5), .int (bI made), .int (bI hashed), .int cap, .long lat])), (h 1, .inr (2, [.ref (h 6), .ref (h 7), .int (nI kn)])), (h 2, .inr (1, [.ref (h 8), .ref (h 9), .ref (h 10), .ref (h 11), .ref (h 12), .ref (h 13), .int (nI en)])), (h 3, .inr (0, [.ref (h 14), .int (nI bn), .int wy, .int stt])), (h 4, .inl (cL, 4, .inr (.inl av))), (h 5, .inl (cL, 4, .inr (.inl am))), (h 6, .inl (cI, 4, .inl kinds)), (h 7, .inl (cL, 4, .inr (.inl ones))), (h 8, .inl (cL, 288, .inr (.inl vals))), (h 9, .inl (cL, 288, .inr (.inl msks))), (h 10, .inl (cI, 72, .inl pre)), (h 11, .inl (cI, 72, .inl pri)), (h 12, .inl (cI, 72, .inl act)), (h 13, .inl (cL, 72, .inr (.inl dat))), (h 14, .inl (cI, 16, .inl held))] [(h 0, .inr (3, [.ref (h 1), .ref (h 2), .ref (h 3), .ref (h 4), .ref (h 5), .int (bI made), .int (bI hashed), .int cap, .long lat])), (h 1, .inr (2, [.ref (h 6), .ref (h 7), .int (nI kn)])), (h 2, .inr (1, [.ref (h 8), .ref (h 9), .ref (h 10), .ref (h 11), .ref (h 12), .ref (h 13), .int (nI en)])), (h 3, .inr (0, [.ref (h 14), .int (nI bn), .int wy, .int stt])), (h 4, .inl (cL, 4, .inr (.inl av))), (h 5, .inl (cL, 4, .inr (.inl am))), (h 6, .inl (cI, 4, .inl kinds)), (h 7, .inl (cL, 4, .inr (.inl ones))), (h 8, .inl (cL, 288, .inr (.inl vals))), (h 9, .inl (cL, 288, .inr (.inl msks))), (h 10, .inl (cI, 72, .inl pre)), (h 11, .inl (cI, 72, .inl pri)), (h 12, .inl (cI, 72, .inl (upd act q ac))), (h 13, .inl (cL, 72, .inr (.inl (vp_updL dat q da)))), (h 14, .inl (cI, 16, .inl held))]) 0 0 (wr_I [(h 0, .inr (3, [.ref (h 1), .ref (h 2), .ref (h 3), .ref (h 4), .ref (h 5), .int (bI made), .int (bI hashed), .int cap, .long lat])), (h 1, .inr (2, [.ref (h 6), .ref (h 7), .int (nI kn)])), (h 2, .inr (1, [.ref (h 8), .ref (h 9), .ref (h 10), .ref (h 11), .ref (h 12), .ref (h 13), .int (nI en)])), (h 3, .inr (0, [.ref (h 14), .int (nI bn), .int wy, .int stt])), (h 4, .inl (cL, 4, .inr (.inl av))), (h 5, .inl (cL, 4, .inr (.inl am))), (h 6, .inl (cI, 4, .inl kinds)), (h 7, .inl (cL, 4, .inr (.inl ones))), (h 8, .inl (cL, 288, .inr (.inl vals))), (h 9, .inl (cL, 288, .inr (.inl msks))), (h 10, .inl (cI, 72, .inl pre)), (h 11, .inl (cI, 72, .inl pri)), (h 12, .inl (cI, 72, .inl act)), (h 13, .inl (cL, 72, .inr (.inl dat))), (h 14, .inl (cI, 16, .inl held))]) := by
  refine Met.ofW (cc := cX3_change) (maxL := 5) (ret := some .boolean) (by decide) rfl ?_
  intro p e s m args below meth c s₁ B hml hv
  obtain ⟨rfl, hP, hK, hD0⟩ := hv
  have hx := B.exec
  have hb := B.bytes
  have hr := B.returns
  have hts := fun w h => atoms_spec (ws := wsX3_change) B.pre w (List.mem_cons_of_mem _ h)
  have hown : s.vm.findClass RX3 = some m.cls := findClass_of_methodNamed B.named
  have hlocks := B.notSynchronized
  have hD := wr_self hD0
  have hS : va_S (wr_I [(h 0, .inr (3, [.ref (h 1), .ref (h 2), .ref (h 3), .ref (h 4), .ref (h 5), .int (bI made), .int (bI hashed), .int cap, .long lat])), (h 1, .inr (2, [.ref (h 6), .ref (h 7), .int (nI kn)])), (h 2, .inr (1, [.ref (h 8), .ref (h 9), .ref (h 10), .ref (h 11), .ref (h 12), .ref (h 13), .int (nI en)])), (h 3, .inr (0, [.ref (h 14), .int (nI bn), .int wy, .int stt])), (h 4, .inl (cL, 4, .inr (.inl av))), (h 5, .inl (cL, 4, .inr (.inl am))), (h 6, .inl (cI, 4, .inl kinds)), (h 7, .inl (cL, 4, .inr (.inl ones))), (h 8, .inl (cL, 288, .inr (.inl vals))), (h 9, .inl (cL, 288, .inr (.inl msks))), (h 10, .inl (cI, 72, .inl pre)), (h 11, .inl (cI, 72, .inl pri)), (h 12, .inl (cI, 72, .inl act)), (h 13, .inl (cL, 72, .inr (.inl dat))), (h 14, .inl (cI, 16, .inl held))]) s.heap s.heap [] := va_S.rf
  have hl := lv_entry ([.ref (h 0), .int ac, .long da]) (n := 5) (Nat.le_of_ble_eq_true rfl)
  rw [lg_entry_eq]
  generalize (lg_sl ([.ref (h 0), .int ac, .long da]) ++ List.replicate (5 - (lg_sl ([.ref (h 0), .int ac, .long da])).length) Slot.unset).toArray = ls at hl ⊢
  have hl : lv_has ls 5 [(0, .ref (h 0)), (1, .int ac), (2, .long da)] := hl
  refine lv_aload_n hx hb dX3_change_0 rfl (lv_at hl 0 rfl) ?_
  refine rd_callv (va_runV (As := []) (rest := []) ⟨hx, hb, hml, hown, hts⟩ (c_X3_requireTable l dC dI cI cL h kinds ones kn av am vals msks pre pri act dat en held bn wy stt made hashed cap lat hm) (cwV 0 hts (gV mw350 mw352 mw1 mw22 mw353) rfl rfl rfl (by decide +kernel) ⟨Nat.le_of_ble_eq_true rfl, Nat.le_of_ble_eq_true rfl⟩) (rd_preV (hP.sub (ws' := [(h 0, .inr (3, [.ref (h 1), .ref (h 2), .ref (h 3), .ref (h 4), .ref (h 5), .int (bI made), .int (bI hashed), .int cap, .long lat])), (h 1, .inr (2, [.ref (h 6), .ref (h 7), .int (nI kn)])), (h 2, .inr (1, [.ref (h 8), .ref (h 9), .ref (h 10), .ref (h 11), .ref (h 12), .ref (h 13), .int (nI en)])), (h 3, .inr (0, [.ref (h 14), .int (nI bn), .int wy, .int stt])), (h 4, .inl (cL, 4, .inr (.inl av))), (h 5, .inl (cL, 4, .inr (.inl am))), (h 6, .inl (cI, 4, .inl kinds)), (h 7, .inl (cL, 4, .inr (.inl ones))), (h 8, .inl (cL, 288, .inr (.inl vals))), (h 9, .inl (cL, 288, .inr (.inl msks))), (h 10, .inl (cI, 72, .inl pre)), (h 11, .inl (cI, 72, .inl pri)), (h 12, .inl (cI, 72, .inl act)), (h 13, .inl (cL, 72, .inr (.inl dat))), (h 14, .inl (cI, 16, .inl held))]) [0, 1, 2, 3, 4, 5, 6, 7, 8, 9, 10, 11, 12, 13, 14] rfl) hK (va_recv (ci := 3) hK hP rfl (q0 := 0) rfl)) rfl rfl hl.1 rfl (lv_room (Nat.le_of_ble_eq_true rfl)) dX3_change_1 ⟨Nat.zero_le _, Nat.zero_le _⟩) ?_
  refine lv_aload_n hx hb dX3_change_4 rfl (lv_at hl 0 rfl) ?_
  refine rd_calli (r := (cFind ones av am vals msks kn en)) (va_runV (As := []) (rest := []) ⟨hx, hb, hml, hown, hts⟩ (c_X3_findAsked l dC dI cI cL h kinds ones kn av am vals msks pre pri act dat en held bn wy stt made hashed cap lat hk he) (cwV 0 hts (gV mw370 mw372 mw4 mw22 mw373) rfl rfl rfl (by decide +kernel) ⟨Nat.le_of_ble_eq_true rfl, Nat.le_of_ble_eq_true rfl⟩) (rd_preV (hP.sub (ws' := [(h 0, .inr (3, [.ref (h 1), .ref (h 2), .ref (h 3), .ref (h 4), .ref (h 5), .int (bI made), .int (bI hashed), .int cap, .long lat])), (h 1, .inr (2, [.ref (h 6), .ref (h 7), .int (nI kn)])), (h 2, .inr (1, [.ref (h 8), .ref (h 9), .ref (h 10), .ref (h 11), .ref (h 12), .ref (h 13), .int (nI en)])), (h 3, .inr (0, [.ref (h 14), .int (nI bn), .int wy, .int stt])), (h 4, .inl (cL, 4, .inr (.inl av))), (h 5, .inl (cL, 4, .inr (.inl am))), (h 6, .inl (cI, 4, .inl kinds)), (h 7, .inl (cL, 4, .inr (.inl ones))), (h 8, .inl (cL, 288, .inr (.inl vals))), (h 9, .inl (cL, 288, .inr (.inl msks))), (h 10, .inl (cI, 72, .inl pre)), (h 11, .inl (cI, 72, .inl pri)), (h 12, .inl (cI, 72, .inl act)), (h 13, .inl (cL, 72, .inr (.inl dat))), (h 14, .inl (cI, 16, .inl held))]) [0, 1, 2, 3, 4, 5, 6, 7, 8, 9, 10, 11, 12, 13, 14] rfl) hK (va_recv (ci := 3) hK hP rfl (q0 := 0) rfl)) rfl rfl hl.1 rfl (lv_room (Nat.le_of_ble_eq_true rfl)) dX3_change_5 ⟨Nat.zero_le _, Nat.zero_le _⟩) ?_
  refine lv_istore (lv' := [(4, .int (cFind ones av am vals msks kn en)), (0, .ref (h 0)), (1, .int ac), (2, .long da)]) hx hb dX3_change_8 hl (by decide) rfl (fun ls hl => ?_)
  refine lv_iload hx hb dX3_change_10 (lv_at hl 0 rfl) ?_
  refine lv_iconst (v := (-1)) hx hb dX3_change_12 (by decide) ?_
  refine lv_icmp_eq (tgt := 23) hx hb dX3_change_13 (by decide) (fun c13 => absurd (hf.symm.trans c13) (n_ne9 hq)) (fun c13 => ?_)
  refine lv_iload_n hx hb dX3_change_16 rfl (lv_at hl 2 rfl) ?_
  refine rd_calli (r := (bI (cAct ac))) (va_runS (As := [.int ac]) (rest := []) ⟨hx, hb, hml, hown, hts⟩ (c_X3_isAction l dC dI cI cL ac) (cwS 1 hts (gS mw355 mw356 mw22 mw357) rfl rfl rfl (by decide +kernel) ⟨Nat.le_of_ble_eq_true rfl, Nat.le_of_ble_eq_true rfl⟩) (rd_preS (hP.sub (ws' := []) [] rfl) hK) rfl rfl hl.1 rfl (lv_room (Nat.le_of_ble_eq_true rfl)) dX3_change_17 ⟨Nat.zero_le _, Nat.zero_le _⟩) ?_
  refine lv_if_ne (tgt := 25) hx hb dX3_change_20 (by decide) (fun c20 => ?_) (fun c20 => absurd c20 (by rw [ha]; decide))
  refine lv_aload_n hx hb dX3_change_25 rfl (lv_at hl 1 rfl) ?_
  refine va_get (D := (dC, dI)) (ci := 3) (v := .ref (h 2)) (C := RX3) (T := TX3) (N := 9) hx hb hts inX3 hown hK hP 0 rfl rfl 1 (by decide) (hts _ mw121) (fun _ h9 => h9) rfl dX3_change_26 ?_
  refine va_get (D := (dC, dI)) (ci := 1) (v := .ref (h 12)) (C := RX1) (T := TX1) (N := 7) hx hb hts inX1 hown hK hP 2 rfl rfl 4 (by decide) (hts _ mw81) (fun _ h9 => h9) rfl dX3_change_29 ?_
  refine lv_iload hx hb dX3_change_32 (lv_at hl 0 rfl) ?_
  refine lv_iload_n hx hb dX3_change_34 rfl (lv_at hl 2 rfl) ?_
  refine n_iast (ws' := [(h 0, .inr (3, [.ref (h 1), .ref (h 2), .ref (h 3), .ref (h 4), .ref (h 5), .int (bI made), .int (bI hashed), .int cap, .long lat])), (h 1, .inr (2, [.ref (h 6), .ref (h 7), .int (nI kn)])), (h 2, .inr (1, [.ref (h 8), .ref (h 9), .ref (h 10), .ref (h 11), .ref (h 12), .ref (h 13), .int (nI en)])), (h 3, .inr (0, [.ref (h 14), .int (nI bn), .int wy, .int stt])), (h 4, .inl (cL, 4, .inr (.inl av))), (h 5, .inl (cL, 4, .inr (.inl am))), (h 6, .inl (cI, 4, .inl kinds)), (h 7, .inl (cL, 4, .inr (.inl ones))), (h 8, .inl (cL, 288, .inr (.inl vals))), (h 9, .inl (cL, 288, .inr (.inl msks))), (h 10, .inl (cI, 72, .inl pre)), (h 11, .inl (cI, 72, .inl pri)), (h 12, .inl (cI, 72, .inl (upd act q ac))), (h 13, .inl (cL, 72, .inr (.inl dat))), (h 14, .inl (cI, 16, .inl held))]) hx hb hK hP hD hS 12 0 rfl rfl (k := q) hf hq (by omega) dX3_change_35 rfl (fun H locs hP hD hS => ?_)
  refine lv_aload_n hx hb dX3_change_36 rfl (lv_at hl 1 rfl) ?_
  refine va_get (D := (dC, dI)) (ci := 3) (v := .ref (h 2)) (C := RX3) (T := TX3) (N := 9) hx hb hts inX3 hown hK hP 0 rfl rfl 1 (by decide) (hts _ mw121) (fun _ h9 => h9) rfl dX3_change_37 ?_
  refine va_get (D := (dC, dI)) (ci := 1) (v := .ref (h 13)) (C := RX1) (T := TX1) (N := 7) hx hb hts inX1 hown hK hP 2 rfl rfl 5 (by decide) (hts _ mw83) (fun _ h9 => h9) rfl dX3_change_40 ?_
  refine lv_iload hx hb dX3_change_43 (lv_at hl 0 rfl) ?_
  refine lv_lload_n hx hb dX3_change_45 rfl (lv_at hl 3 rfl) ?_
  refine n_last (ws' := [(h 0, .inr (3, [.ref (h 1), .ref (h 2), .ref (h 3), .ref (h 4), .ref (h 5), .int (bI made), .int (bI hashed), .int cap, .long lat])), (h 1, .inr (2, [.ref (h 6), .ref (h 7), .int (nI kn)])), (h 2, .inr (1, [.ref (h 8), .ref (h 9), .ref (h 10), .ref (h 11), .ref (h 12), .ref (h 13), .int (nI en)])), (h 3, .inr (0, [.ref (h 14), .int (nI bn), .int wy, .int stt])), (h 4, .inl (cL, 4, .inr (.inl av))), (h 5, .inl (cL, 4, .inr (.inl am))), (h 6, .inl (cI, 4, .inl kinds)), (h 7, .inl (cL, 4, .inr (.inl ones))), (h 8, .inl (cL, 288, .inr (.inl vals))), (h 9, .inl (cL, 288, .inr (.inl msks))), (h 10, .inl (cI, 72, .inl pre)), (h 11, .inl (cI, 72, .inl pri)), (h 12, .inl (cI, 72, .inl (upd act q ac))), (h 13, .inl (cL, 72, .inr (.inl (vp_updL dat q da)))), (h 14, .inl (cI, 16, .inl held))]) hx hb hK hP hD hS 13 1 rfl rfl (k := q) hf hq (by omega) dX3_change_46 rfl (fun H locs hP hD hS => ?_)
  refine lv_iconst (v := 1) hx hb dX3_change_47 (by decide) ?_
  exact wr_iret hx hb hr hlocks hP hS dX3_change_48 rfl (rfl)

set_option maxHeartbeats 4000000 in
set_option maxRecDepth 100000 in
/-- remove, when there is none -/
theorem c_X3_remove_n (l : Launch) (dC : Nat → ClassId) (dI : Nat → Nat → Nat) (cI cL : ClassId) (h : Nat → Nat) (kinds : Nat → Int32) (ones : Nat → Int64) (kn : Nat) (av am : Nat → Int64) (vals msks : Nat → Int64) (pre pri act : Nat → Int32) (dat : Nat → Int64) (en : Nat) (held : Nat → Int32) (bn : Nat) (wy stt : Int32) (made hashed : Bool) (cap : Int32) (lat : Int64) (hm : made = true) (hk : kn ≤ 4) (he : en ≤ 72) (hno : cFind ones av am vals msks kn en = -1) : Met l yX3_remove wsX3_remove ({ frames := 3, cells := 0, slots := 0, locals := 67 }) (rd_P (dC, dI) vwCl [(cI, .int), (cL, .long)] [(h 0, .inr (3, [.ref (h 1), .ref (h 2), .ref (h 3), .ref (h 4), .ref (h 5), .int (bI made), .int (bI hashed), .int cap, .long lat])), (h 1, .inr (2, [.ref (h 6), .ref (h 7), .int (nI kn)])), (h 2, .inr (1, [.ref (h 8), .ref (h 9), .ref (h 10), .ref (h 11), .ref (h 12), .ref (h 13), .int (nI en)])), (h 3, .inr (0, [.ref (h 14), .int (nI bn), .int wy, .int stt])), (h 4, .inl (cL, 4, .inr (.inl av))), (h 5, .inl (cL, 4, .inr (.inl am))), (h 6, .inl (cI, 4, .inl kinds)), (h 7, .inl (cL, 4, .inr (.inl ones))), (h 8, .inl (cL, 288, .inr (.inl vals))), (h 9, .inl (cL, 288, .inr (.inl msks))), (h 10, .inl (cI, 72, .inl pre)), (h 11, .inl (cI, 72, .inl pri)), (h 12, .inl (cI, 72, .inl act)), (h 13, .inl (cL, 72, .inr (.inl dat))), (h 14, .inl (cI, 16, .inl held))] [.ref (h 0)]) (rd_Q (some (.int 0))) 0 0 (fun _ => False) := by
  refine Met.ofW (cc := cX3_remove) (maxL := 2) (ret := some .boolean) (by decide) rfl ?_
  intro p e s m args below meth c s₁ B hml hv
  obtain ⟨rfl, hP, hK⟩ := hv
  have hx := B.exec
  have hb := B.bytes
  have hr := B.returns
  have hts := fun w h => atoms_spec (ws := wsX3_remove) B.pre w (List.mem_cons_of_mem _ h)
  have hown : s.vm.findClass RX3 = some m.cls := findClass_of_methodNamed B.named
  have hlocks := B.notSynchronized
  have hl := lv_entry ([.ref (h 0)]) (n := 2) (Nat.le_of_ble_eq_true rfl)
  rw [lg_entry_eq]
  generalize (lg_sl ([.ref (h 0)]) ++ List.replicate (2 - (lg_sl ([.ref (h 0)])).length) Slot.unset).toArray = ls at hl ⊢
  have hl : lv_has ls 2 [(0, .ref (h 0))] := hl
  refine lv_aload_n hx hb dX3_remove_0 rfl (lv_at hl 0 rfl) ?_
  refine rd_callv (va_runV (As := []) (rest := []) ⟨hx, hb, hml, hown, hts⟩ (c_X3_requireTable l dC dI cI cL h kinds ones kn av am vals msks pre pri act dat en held bn wy stt made hashed cap lat hm) (cwV 0 hts (gV mw350 mw352 mw1 mw22 mw353) rfl rfl rfl (by decide +kernel) ⟨Nat.le_of_ble_eq_true rfl, Nat.le_of_ble_eq_true rfl⟩) (rd_preV (hP.sub (ws' := [(h 0, .inr (3, [.ref (h 1), .ref (h 2), .ref (h 3), .ref (h 4), .ref (h 5), .int (bI made), .int (bI hashed), .int cap, .long lat])), (h 1, .inr (2, [.ref (h 6), .ref (h 7), .int (nI kn)])), (h 2, .inr (1, [.ref (h 8), .ref (h 9), .ref (h 10), .ref (h 11), .ref (h 12), .ref (h 13), .int (nI en)])), (h 3, .inr (0, [.ref (h 14), .int (nI bn), .int wy, .int stt])), (h 4, .inl (cL, 4, .inr (.inl av))), (h 5, .inl (cL, 4, .inr (.inl am))), (h 6, .inl (cI, 4, .inl kinds)), (h 7, .inl (cL, 4, .inr (.inl ones))), (h 8, .inl (cL, 288, .inr (.inl vals))), (h 9, .inl (cL, 288, .inr (.inl msks))), (h 10, .inl (cI, 72, .inl pre)), (h 11, .inl (cI, 72, .inl pri)), (h 12, .inl (cI, 72, .inl act)), (h 13, .inl (cL, 72, .inr (.inl dat))), (h 14, .inl (cI, 16, .inl held))]) [0, 1, 2, 3, 4, 5, 6, 7, 8, 9, 10, 11, 12, 13, 14] rfl) hK (va_recv (ci := 3) hK hP rfl (q0 := 0) rfl)) rfl rfl hl.1 rfl (lv_room (Nat.le_of_ble_eq_true rfl)) dX3_remove_1 ⟨Nat.zero_le _, Nat.zero_le _⟩) ?_
  refine lv_aload_n hx hb dX3_remove_4 rfl (lv_at hl 0 rfl) ?_
  refine rd_calli (r := (cFind ones av am vals msks kn en)) (va_runV (As := []) (rest := []) ⟨hx, hb, hml, hown, hts⟩ (c_X3_findAsked l dC dI cI cL h kinds ones kn av am vals msks pre pri act dat en held bn wy stt made hashed cap lat hk he) (cwV 0 hts (gV mw370 mw372 mw4 mw22 mw373) rfl rfl rfl (by decide +kernel) ⟨Nat.le_of_ble_eq_true rfl, Nat.le_of_ble_eq_true rfl⟩) (rd_preV (hP.sub (ws' := [(h 0, .inr (3, [.ref (h 1), .ref (h 2), .ref (h 3), .ref (h 4), .ref (h 5), .int (bI made), .int (bI hashed), .int cap, .long lat])), (h 1, .inr (2, [.ref (h 6), .ref (h 7), .int (nI kn)])), (h 2, .inr (1, [.ref (h 8), .ref (h 9), .ref (h 10), .ref (h 11), .ref (h 12), .ref (h 13), .int (nI en)])), (h 3, .inr (0, [.ref (h 14), .int (nI bn), .int wy, .int stt])), (h 4, .inl (cL, 4, .inr (.inl av))), (h 5, .inl (cL, 4, .inr (.inl am))), (h 6, .inl (cI, 4, .inl kinds)), (h 7, .inl (cL, 4, .inr (.inl ones))), (h 8, .inl (cL, 288, .inr (.inl vals))), (h 9, .inl (cL, 288, .inr (.inl msks))), (h 10, .inl (cI, 72, .inl pre)), (h 11, .inl (cI, 72, .inl pri)), (h 12, .inl (cI, 72, .inl act)), (h 13, .inl (cL, 72, .inr (.inl dat))), (h 14, .inl (cI, 16, .inl held))]) [0, 1, 2, 3, 4, 5, 6, 7, 8, 9, 10, 11, 12, 13, 14] rfl) hK (va_recv (ci := 3) hK hP rfl (q0 := 0) rfl)) rfl rfl hl.1 rfl (lv_room (Nat.le_of_ble_eq_true rfl)) dX3_remove_5 ⟨Nat.zero_le _, Nat.zero_le _⟩) ?_
  refine lv_istore_n (lv' := [(1, .int (cFind ones av am vals msks kn en)), (0, .ref (h 0))]) hx hb dX3_remove_8 rfl hl (by decide) rfl (fun ls hl => ?_)
  refine lv_iload_n hx hb dX3_remove_9 rfl (lv_at hl 0 rfl) ?_
  refine lv_iconst (v := (-1)) hx hb dX3_remove_10 (by decide) ?_
  refine lv_icmp_ne (tgt := 16) hx hb dX3_remove_11 (by decide) (fun c11 => absurd hno c11) (fun c11 => ?_)
  refine lv_iconst (v := 0) hx hb dX3_remove_14 (by decide) ?_
  exact rd_iret hx hb hr hlocks dX3_remove_15 rfl (rfl)

set_option maxHeartbeats 4000000 in
set_option maxRecDepth 100000 in
/-- remove -/
theorem c_X3_remove_y (l : Launch) (dC : Nat → ClassId) (dI : Nat → Nat → Nat) (cI cL : ClassId) (h : Nat → Nat) (kinds : Nat → Int32) (ones : Nat → Int64) (kn : Nat) (av am : Nat → Int64) (vals msks : Nat → Int64) (pre pri act : Nat → Int32) (dat : Nat → Int64) (en : Nat) (held : Nat → Int32) (bn : Nat) (wy stt : Int32) (made hashed : Bool) (cap : Int32) (lat : Int64) (q : Nat) (hm : made = true) (hk : kn ≤ 4) (he : en ≤ 72) (hbn : bn ≤ 16) (hq : q < en) (hf : cFind ones av am vals msks kn en = nI q) : Met l yX3_remove wsX3_remove ({ frames := 3, cells := 0, slots := 0, locals := 67 }) (wr_P (dC, dI) vwCl [(cI, .int), (cL, .long)] [(h 0, .inr (3, [.ref (h 1), .ref (h 2), .ref (h 3), .ref (h 4), .ref (h 5), .int (bI made), .int (bI hashed), .int cap, .long lat])), (h 1, .inr (2, [.ref (h 6), .ref (h 7), .int (nI kn)])), (h 2, .inr (1, [.ref (h 8), .ref (h 9), .ref (h 10), .ref (h 11), .ref (h 12), .ref (h 13), .int (nI en)])), (h 3, .inr (0, [.ref (h 14), .int (nI bn), .int wy, .int stt])), (h 4, .inl (cL, 4, .inr (.inl av))), (h 5, .inl (cL, 4, .inr (.inl am))), (h 6, .inl (cI, 4, .inl kinds)), (h 7, .inl (cL, 4, .inr (.inl ones))), (h 8, .inl (cL, 288, .inr (.inl vals))), (h 9, .inl (cL, 288, .inr (.inl msks))), (h 10, .inl (cI, 72, .inl pre)), (h 11, .inl (cI, 72, .inl pri)), (h 12, .inl (cI, 72, .inl act)), (h 13, .inl (cL, 72, .inr (.inl dat))), (h 14, .inl (cI, 16, .inl held))] [.ref (h 0)]) (wr_Q (dC, dI) vwCl (some (.int 1)) [(h 0, .inr (3, [.ref (h 1), .ref (h 2), .ref (h 3), .ref (h 4), .ref (h 5), .int (bI made), .int (bI hashed), .int cap, .long lat])), (h 1, .inr (2, [.ref (h 6), .ref (h 7), .int (nI kn)])), (h 2, .inr (1, [.ref (h 8), .ref (h 9), .ref (h 10), .ref (h 11), .ref (h 12), .ref (h 13), .int (nI en)])), (h 3, .inr (0, [.ref (h 14), .int (nI bn), .int wy, .int stt])), (h 4, .inl (cL, 4, .inr (.inl av))), (h 5, .inl (cL, 4, .inr (.inl am))), (h 6, .inl (cI, 4, .inl kinds)), (h 7, .inl (cL, 4, .inr (.inl ones))), (h 8, .inl (cL, 288, .inr (.inl vals))), (h 9, .inl (cL, 288, .inr (.inl msks))), (h 10, .inl (cI, 72, .inl pre)), (h 11, .inl (cI, 72, .inl pri)), (h 12, .inl (cI, 72, .inl act)), (h 13, .inl (cL, 72, .inr (.inl dat))), (h 14, .inl (cI, 16, .inl held))] [(h 0, .inr (3, [.ref (h 1), .ref (h 2), .ref (h 3), .ref (h 4), .ref (h 5), .int (bI made), .int (bI hashed), .int cap, .long lat])), (h 1, .inr (2, [.ref (h 6), .ref (h 7), .int (nI kn)])), (h 2, .inr (1, [.ref (h 8), .ref (h 9), .ref (h 10), .ref (h 11), .ref (h 12), .ref (h 13), .int (nI (en - 1))])), (h 3, .inr (0, [.ref (h 14), .int (nI bn), .int wy, .int stt])), (h 4, .inl (cL, 4, .inr (.inl av))), (h 5, .inl (cL, 4, .inr (.inl am))), (h 6, .inl (cI, 4, .inl kinds)), (h 7, .inl (cL, 4, .inr (.inl ones))), (h 8, .inl (cL, 288, .inr (.inl (dropR vals q (en - 1 - q))))), (h 9, .inl (cL, 288, .inr (.inl (dropR msks q (en - 1 - q))))), (h 10, .inl (cI, 72, .inl (dropI pre q (en - 1 - q)))), (h 11, .inl (cI, 72, .inl (dropI pri q (en - 1 - q)))), (h 12, .inl (cI, 72, .inl (dropI act q (en - 1 - q)))), (h 13, .inl (cL, 72, .inr (.inl (dropL dat q (en - 1 - q))))), (h 14, .inl (cI, 16, .inl (fillB held bn (cBucket ones av kn bn hashed) (-1))))]) 0 0 (wr_I [(h 0, .inr (3, [.ref (h 1), .ref (h 2), .ref (h 3), .ref (h 4), .ref (h 5), .int (bI made), .int (bI hashed), .int cap, .long lat])), (h 1, .inr (2, [.ref (h 6), .ref (h 7), .int (nI kn)])), (h 2, .inr (1, [.ref (h 8), .ref (h 9), .ref (h 10), .ref (h 11), .ref (h 12), .ref (h 13), .int (nI en)])), (h 3, .inr (0, [.ref (h 14), .int (nI bn), .int wy, .int stt])), (h 4, .inl (cL, 4, .inr (.inl av))), (h 5, .inl (cL, 4, .inr (.inl am))), (h 6, .inl (cI, 4, .inl kinds)), (h 7, .inl (cL, 4, .inr (.inl ones))), (h 8, .inl (cL, 288, .inr (.inl vals))), (h 9, .inl (cL, 288, .inr (.inl msks))), (h 10, .inl (cI, 72, .inl pre)), (h 11, .inl (cI, 72, .inl pri)), (h 12, .inl (cI, 72, .inl act)), (h 13, .inl (cL, 72, .inr (.inl dat))), (h 14, .inl (cI, 16, .inl held))]) := by
  refine Met.ofW (cc := cX3_remove) (maxL := 2) (ret := some .boolean) (by decide) rfl ?_
  intro p e s m args below meth c s₁ B hml hv
  obtain ⟨rfl, hP, hK, hD0⟩ := hv
  have hx := B.exec
  have hb := B.bytes
  have hr := B.returns
  have hts := fun w h => atoms_spec (ws := wsX3_remove) B.pre w (List.mem_cons_of_mem _ h)
  have hown : s.vm.findClass RX3 = some m.cls := findClass_of_methodNamed B.named
  have hlocks := B.notSynchronized
  have hD := wr_self hD0
  have hS : va_S (wr_I [(h 0, .inr (3, [.ref (h 1), .ref (h 2), .ref (h 3), .ref (h 4), .ref (h 5), .int (bI made), .int (bI hashed), .int cap, .long lat])), (h 1, .inr (2, [.ref (h 6), .ref (h 7), .int (nI kn)])), (h 2, .inr (1, [.ref (h 8), .ref (h 9), .ref (h 10), .ref (h 11), .ref (h 12), .ref (h 13), .int (nI en)])), (h 3, .inr (0, [.ref (h 14), .int (nI bn), .int wy, .int stt])), (h 4, .inl (cL, 4, .inr (.inl av))), (h 5, .inl (cL, 4, .inr (.inl am))), (h 6, .inl (cI, 4, .inl kinds)), (h 7, .inl (cL, 4, .inr (.inl ones))), (h 8, .inl (cL, 288, .inr (.inl vals))), (h 9, .inl (cL, 288, .inr (.inl msks))), (h 10, .inl (cI, 72, .inl pre)), (h 11, .inl (cI, 72, .inl pri)), (h 12, .inl (cI, 72, .inl act)), (h 13, .inl (cL, 72, .inr (.inl dat))), (h 14, .inl (cI, 16, .inl held))]) s.heap s.heap [] := va_S.rf
  have hl := lv_entry ([.ref (h 0)]) (n := 2) (Nat.le_of_ble_eq_true rfl)
  rw [lg_entry_eq]
  generalize (lg_sl ([.ref (h 0)]) ++ List.replicate (2 - (lg_sl ([.ref (h 0)])).length) Slot.unset).toArray = ls at hl ⊢
  have hl : lv_has ls 2 [(0, .ref (h 0))] := hl
  refine lv_aload_n hx hb dX3_remove_0 rfl (lv_at hl 0 rfl) ?_
  refine rd_callv (va_runV (As := []) (rest := []) ⟨hx, hb, hml, hown, hts⟩ (c_X3_requireTable l dC dI cI cL h kinds ones kn av am vals msks pre pri act dat en held bn wy stt made hashed cap lat hm) (cwV 0 hts (gV mw350 mw352 mw1 mw22 mw353) rfl rfl rfl (by decide +kernel) ⟨Nat.le_of_ble_eq_true rfl, Nat.le_of_ble_eq_true rfl⟩) (rd_preV (hP.sub (ws' := [(h 0, .inr (3, [.ref (h 1), .ref (h 2), .ref (h 3), .ref (h 4), .ref (h 5), .int (bI made), .int (bI hashed), .int cap, .long lat])), (h 1, .inr (2, [.ref (h 6), .ref (h 7), .int (nI kn)])), (h 2, .inr (1, [.ref (h 8), .ref (h 9), .ref (h 10), .ref (h 11), .ref (h 12), .ref (h 13), .int (nI en)])), (h 3, .inr (0, [.ref (h 14), .int (nI bn), .int wy, .int stt])), (h 4, .inl (cL, 4, .inr (.inl av))), (h 5, .inl (cL, 4, .inr (.inl am))), (h 6, .inl (cI, 4, .inl kinds)), (h 7, .inl (cL, 4, .inr (.inl ones))), (h 8, .inl (cL, 288, .inr (.inl vals))), (h 9, .inl (cL, 288, .inr (.inl msks))), (h 10, .inl (cI, 72, .inl pre)), (h 11, .inl (cI, 72, .inl pri)), (h 12, .inl (cI, 72, .inl act)), (h 13, .inl (cL, 72, .inr (.inl dat))), (h 14, .inl (cI, 16, .inl held))]) [0, 1, 2, 3, 4, 5, 6, 7, 8, 9, 10, 11, 12, 13, 14] rfl) hK (va_recv (ci := 3) hK hP rfl (q0 := 0) rfl)) rfl rfl hl.1 rfl (lv_room (Nat.le_of_ble_eq_true rfl)) dX3_remove_1 ⟨Nat.zero_le _, Nat.zero_le _⟩) ?_
  refine lv_aload_n hx hb dX3_remove_4 rfl (lv_at hl 0 rfl) ?_
  refine rd_calli (r := (cFind ones av am vals msks kn en)) (va_runV (As := []) (rest := []) ⟨hx, hb, hml, hown, hts⟩ (c_X3_findAsked l dC dI cI cL h kinds ones kn av am vals msks pre pri act dat en held bn wy stt made hashed cap lat hk he) (cwV 0 hts (gV mw370 mw372 mw4 mw22 mw373) rfl rfl rfl (by decide +kernel) ⟨Nat.le_of_ble_eq_true rfl, Nat.le_of_ble_eq_true rfl⟩) (rd_preV (hP.sub (ws' := [(h 0, .inr (3, [.ref (h 1), .ref (h 2), .ref (h 3), .ref (h 4), .ref (h 5), .int (bI made), .int (bI hashed), .int cap, .long lat])), (h 1, .inr (2, [.ref (h 6), .ref (h 7), .int (nI kn)])), (h 2, .inr (1, [.ref (h 8), .ref (h 9), .ref (h 10), .ref (h 11), .ref (h 12), .ref (h 13), .int (nI en)])), (h 3, .inr (0, [.ref (h 14), .int (nI bn), .int wy, .int stt])), (h 4, .inl (cL, 4, .inr (.inl av))), (h 5, .inl (cL, 4, .inr (.inl am))), (h 6, .inl (cI, 4, .inl kinds)), (h 7, .inl (cL, 4, .inr (.inl ones))), (h 8, .inl (cL, 288, .inr (.inl vals))), (h 9, .inl (cL, 288, .inr (.inl msks))), (h 10, .inl (cI, 72, .inl pre)), (h 11, .inl (cI, 72, .inl pri)), (h 12, .inl (cI, 72, .inl act)), (h 13, .inl (cL, 72, .inr (.inl dat))), (h 14, .inl (cI, 16, .inl held))]) [0, 1, 2, 3, 4, 5, 6, 7, 8, 9, 10, 11, 12, 13, 14] rfl) hK (va_recv (ci := 3) hK hP rfl (q0 := 0) rfl)) rfl rfl hl.1 rfl (lv_room (Nat.le_of_ble_eq_true rfl)) dX3_remove_5 ⟨Nat.zero_le _, Nat.zero_le _⟩) ?_
  rw [hf]
  refine lv_istore_n (lv' := [(1, .int (nI q)), (0, .ref (h 0))]) hx hb dX3_remove_8 rfl hl (by decide) rfl (fun ls hl => ?_)
  refine lv_iload_n hx hb dX3_remove_9 rfl (lv_at hl 0 rfl) ?_
  refine lv_iconst (v := (-1)) hx hb dX3_remove_10 (by decide) ?_
  refine lv_icmp_ne (tgt := 16) hx hb dX3_remove_11 (by decide) (fun c11 => ?_) (fun c11 => absurd c11 (n_ne9 (by omega)))
  refine lv_aload_n hx hb dX3_remove_16 rfl (lv_at hl 1 rfl) ?_
  refine va_get (D := (dC, dI)) (ci := 3) (v := .ref (h 2)) (C := RX3) (T := TX3) (N := 9) hx hb hts inX3 hown hK hP 0 rfl rfl 1 (by decide) (hts _ mw121) (fun _ h9 => h9) rfl dX3_remove_17 ?_
  refine lv_iload_n hx hb dX3_remove_20 rfl (lv_at hl 0 rfl) ?_
  refine wr_call (w := [(h 2, .inr (1, [.ref (h 8), .ref (h 9), .ref (h 10), .ref (h 11), .ref (h 12), .ref (h 13), .int (nI en)])), (h 8, .inl (cL, 288, .inr (.inl vals))), (h 9, .inl (cL, 288, .inr (.inl msks))), (h 10, .inl (cI, 72, .inl pre)), (h 11, .inl (cI, 72, .inl pri)), (h 12, .inl (cI, 72, .inl act)), (h 13, .inl (cL, 72, .inr (.inl dat)))]) (w' := [(h 2, .inr (1, [.ref (h 8), .ref (h 9), .ref (h 10), .ref (h 11), .ref (h 12), .ref (h 13), .int (nI (en - 1))])), (h 8, .inl (cL, 288, .inr (.inl (dropR vals q (en - 1 - q))))), (h 9, .inl (cL, 288, .inr (.inl (dropR msks q (en - 1 - q))))), (h 10, .inl (cI, 72, .inl (dropI pre q (en - 1 - q)))), (h 11, .inl (cI, 72, .inl (dropI pri q (en - 1 - q)))), (h 12, .inl (cI, 72, .inl (dropI act q (en - 1 - q)))), (h 13, .inl (cL, 72, .inr (.inl (dropL dat q (en - 1 - q)))))]) (wr := [(h 0, .inr (3, [.ref (h 1), .ref (h 2), .ref (h 3), .ref (h 4), .ref (h 5), .int (bI made), .int (bI hashed), .int cap, .long lat])), (h 1, .inr (2, [.ref (h 6), .ref (h 7), .int (nI kn)])), (h 3, .inr (0, [.ref (h 14), .int (nI bn), .int wy, .int stt])), (h 4, .inl (cL, 4, .inr (.inl av))), (h 5, .inl (cL, 4, .inr (.inl am))), (h 6, .inl (cI, 4, .inl kinds)), (h 7, .inl (cL, 4, .inr (.inl ones))), (h 14, .inl (cI, 16, .inl held))]) (ws' := [(h 0, .inr (3, [.ref (h 1), .ref (h 2), .ref (h 3), .ref (h 4), .ref (h 5), .int (bI made), .int (bI hashed), .int cap, .long lat])), (h 1, .inr (2, [.ref (h 6), .ref (h 7), .int (nI kn)])), (h 2, .inr (1, [.ref (h 8), .ref (h 9), .ref (h 10), .ref (h 11), .ref (h 12), .ref (h 13), .int (nI (en - 1))])), (h 3, .inr (0, [.ref (h 14), .int (nI bn), .int wy, .int stt])), (h 4, .inl (cL, 4, .inr (.inl av))), (h 5, .inl (cL, 4, .inr (.inl am))), (h 6, .inl (cI, 4, .inl kinds)), (h 7, .inl (cL, 4, .inr (.inl ones))), (h 8, .inl (cL, 288, .inr (.inl (dropR vals q (en - 1 - q))))), (h 9, .inl (cL, 288, .inr (.inl (dropR msks q (en - 1 - q))))), (h 10, .inl (cI, 72, .inl (dropI pre q (en - 1 - q)))), (h 11, .inl (cI, 72, .inl (dropI pri q (en - 1 - q)))), (h 12, .inl (cI, 72, .inl (dropI act q (en - 1 - q)))), (h 13, .inl (cL, 72, .inr (.inl (dropL dat q (en - 1 - q))))), (h 14, .inl (cI, 16, .inl held))]) (va_runV (As := [.int (nI q)]) (rest := []) ⟨hx, hb, hml, hown, hts⟩ (c_X1_drop l dC dI cI cL (h 2) (h 8) (h 9) (h 10) (h 11) (h 12) (h 13) vals msks pre pri act dat en q he hq) (cwV 1 hts (gV mw423 mw424 mw425 mw24 mw426) rfl rfl rfl (by decide +kernel) ⟨Nat.le_of_ble_eq_true rfl, Nat.le_of_ble_eq_true rfl⟩) (wr_preV (hP.sub (ws' := [(h 2, .inr (1, [.ref (h 8), .ref (h 9), .ref (h 10), .ref (h 11), .ref (h 12), .ref (h 13), .int (nI en)])), (h 8, .inl (cL, 288, .inr (.inl vals))), (h 9, .inl (cL, 288, .inr (.inl msks))), (h 10, .inl (cI, 72, .inl pre)), (h 11, .inl (cI, 72, .inl pri)), (h 12, .inl (cI, 72, .inl act)), (h 13, .inl (cL, 72, .inr (.inl dat)))]) [2, 8, 9, 10, 11, 12, 13] rfl) hK (hD.sub (ws' := [(h 2, .inr (1, [.ref (h 8), .ref (h 9), .ref (h 10), .ref (h 11), .ref (h 12), .ref (h 13), .int (nI en)])), (h 8, .inl (cL, 288, .inr (.inl vals))), (h 9, .inl (cL, 288, .inr (.inl msks))), (h 10, .inl (cI, 72, .inl pre)), (h 11, .inl (cI, 72, .inl pri)), (h 12, .inl (cI, 72, .inl act)), (h 13, .inl (cL, 72, .inr (.inl dat)))]) [2, 8, 9, 10, 11, 12, 13] (by decide) rfl) (va_recv (ci := 1) hK hP rfl (q0 := 2) rfl)) rfl rfl hl.1 rfl (lv_room (Nat.le_of_ble_eq_true rfl)) dX3_remove_21 ⟨Nat.zero_le _, Nat.zero_le _⟩) hP hD hS [2, 8, 9, 10, 11, 12, 13] [0, 1, 3, 4, 5, 6, 7, 14] [0, 1, 8, 2, 3, 4, 5, 6, 9, 10, 11, 12, 13, 14, 7] rfl rfl (by decide) rfl rfl (fun H locs hP hD hS => ?_)
  refine lv_aload_n hx hb dX3_remove_24 rfl (lv_at hl 1 rfl) ?_
  refine va_get (D := (dC, dI)) (ci := 3) (v := .ref (h 3)) (C := RX3) (T := TX3) (N := 9) hx hb hts inX3 hown hK hP 0 rfl rfl 2 (by decide) (hts _ mw122) (fun _ h9 => h9) rfl dX3_remove_25 ?_
  refine lv_aload_n hx hb dX3_remove_28 rfl (lv_at hl 1 rfl) ?_
  refine rd_calli (r := (cBucket ones av kn bn hashed)) (va_runV (As := []) (rest := [.ref (h 3)]) ⟨hx, hb, hml, hown, hts⟩ (c_X3_bucket l dC dI cI cL h kinds ones kn av am (dropR vals q (en - 1 - q)) (dropR msks q (en - 1 - q)) (dropI pre q (en - 1 - q)) (dropI pri q (en - 1 - q)) (dropI act q (en - 1 - q)) (dropL dat q (en - 1 - q)) (en - 1) held bn wy stt made hashed cap lat hk hbn) (cwV 0 hts (gV mw385 mw167 mw168 mw22 mw169) rfl rfl rfl (by decide +kernel) ⟨Nat.le_of_ble_eq_true rfl, Nat.le_of_ble_eq_true rfl⟩) (rd_preV (hP.sub (ws' := [(h 0, .inr (3, [.ref (h 1), .ref (h 2), .ref (h 3), .ref (h 4), .ref (h 5), .int (bI made), .int (bI hashed), .int cap, .long lat])), (h 1, .inr (2, [.ref (h 6), .ref (h 7), .int (nI kn)])), (h 2, .inr (1, [.ref (h 8), .ref (h 9), .ref (h 10), .ref (h 11), .ref (h 12), .ref (h 13), .int (nI (en - 1))])), (h 3, .inr (0, [.ref (h 14), .int (nI bn), .int wy, .int stt])), (h 4, .inl (cL, 4, .inr (.inl av))), (h 5, .inl (cL, 4, .inr (.inl am))), (h 6, .inl (cI, 4, .inl kinds)), (h 7, .inl (cL, 4, .inr (.inl ones))), (h 8, .inl (cL, 288, .inr (.inl (dropR vals q (en - 1 - q))))), (h 9, .inl (cL, 288, .inr (.inl (dropR msks q (en - 1 - q))))), (h 10, .inl (cI, 72, .inl (dropI pre q (en - 1 - q)))), (h 11, .inl (cI, 72, .inl (dropI pri q (en - 1 - q)))), (h 12, .inl (cI, 72, .inl (dropI act q (en - 1 - q)))), (h 13, .inl (cL, 72, .inr (.inl (dropL dat q (en - 1 - q))))), (h 14, .inl (cI, 16, .inl held))]) [0, 1, 2, 3, 4, 5, 6, 7, 8, 9, 10, 11, 12, 13, 14] rfl) hK (va_recv (ci := 3) hK hP rfl (q0 := 0) rfl)) rfl rfl hl.1 rfl (lv_room (Nat.le_of_ble_eq_true rfl)) dX3_remove_29 ⟨Nat.zero_le _, Nat.zero_le _⟩) ?_
  refine wr_call (w := [(h 3, .inr (0, [.ref (h 14), .int (nI bn), .int wy, .int stt])), (h 14, .inl (cI, 16, .inl held))]) (w' := [(h 3, .inr (0, [.ref (h 14), .int (nI bn), .int wy, .int stt])), (h 14, .inl (cI, 16, .inl (fillB held bn (cBucket ones av kn bn hashed) (-1))))]) (wr := [(h 0, .inr (3, [.ref (h 1), .ref (h 2), .ref (h 3), .ref (h 4), .ref (h 5), .int (bI made), .int (bI hashed), .int cap, .long lat])), (h 1, .inr (2, [.ref (h 6), .ref (h 7), .int (nI kn)])), (h 2, .inr (1, [.ref (h 8), .ref (h 9), .ref (h 10), .ref (h 11), .ref (h 12), .ref (h 13), .int (nI (en - 1))])), (h 4, .inl (cL, 4, .inr (.inl av))), (h 5, .inl (cL, 4, .inr (.inl am))), (h 6, .inl (cI, 4, .inl kinds)), (h 7, .inl (cL, 4, .inr (.inl ones))), (h 8, .inl (cL, 288, .inr (.inl (dropR vals q (en - 1 - q))))), (h 9, .inl (cL, 288, .inr (.inl (dropR msks q (en - 1 - q))))), (h 10, .inl (cI, 72, .inl (dropI pre q (en - 1 - q)))), (h 11, .inl (cI, 72, .inl (dropI pri q (en - 1 - q)))), (h 12, .inl (cI, 72, .inl (dropI act q (en - 1 - q)))), (h 13, .inl (cL, 72, .inr (.inl (dropL dat q (en - 1 - q)))))]) (ws' := [(h 0, .inr (3, [.ref (h 1), .ref (h 2), .ref (h 3), .ref (h 4), .ref (h 5), .int (bI made), .int (bI hashed), .int cap, .long lat])), (h 1, .inr (2, [.ref (h 6), .ref (h 7), .int (nI kn)])), (h 2, .inr (1, [.ref (h 8), .ref (h 9), .ref (h 10), .ref (h 11), .ref (h 12), .ref (h 13), .int (nI (en - 1))])), (h 3, .inr (0, [.ref (h 14), .int (nI bn), .int wy, .int stt])), (h 4, .inl (cL, 4, .inr (.inl av))), (h 5, .inl (cL, 4, .inr (.inl am))), (h 6, .inl (cI, 4, .inl kinds)), (h 7, .inl (cL, 4, .inr (.inl ones))), (h 8, .inl (cL, 288, .inr (.inl (dropR vals q (en - 1 - q))))), (h 9, .inl (cL, 288, .inr (.inl (dropR msks q (en - 1 - q))))), (h 10, .inl (cI, 72, .inl (dropI pre q (en - 1 - q)))), (h 11, .inl (cI, 72, .inl (dropI pri q (en - 1 - q)))), (h 12, .inl (cI, 72, .inl (dropI act q (en - 1 - q)))), (h 13, .inl (cL, 72, .inr (.inl (dropL dat q (en - 1 - q))))), (h 14, .inl (cI, 16, .inl (fillB held bn (cBucket ones av kn bn hashed) (-1))))]) (va_runV (As := [.int (cBucket ones av kn bn hashed)]) (rest := []) ⟨hx, hb, hml, hown, hts⟩ (c_X0_empty l dC dI cI cL (h 3) (h 14) held bn wy stt (cBucket ones av kn bn hashed) hbn) (cwV 1 hts (gV mw432 mw433 mw434 mw25 mw435) rfl rfl rfl (by decide +kernel) ⟨Nat.le_of_ble_eq_true rfl, Nat.le_of_ble_eq_true rfl⟩) (wr_preV (hP.sub (ws' := [(h 3, .inr (0, [.ref (h 14), .int (nI bn), .int wy, .int stt])), (h 14, .inl (cI, 16, .inl held))]) [3, 14] rfl) hK (hD.sub (ws' := [(h 3, .inr (0, [.ref (h 14), .int (nI bn), .int wy, .int stt])), (h 14, .inl (cI, 16, .inl held))]) [3, 14] (by decide) rfl) (va_recv (ci := 0) hK hP rfl (q0 := 3) rfl)) rfl rfl hl.1 rfl (lv_room (Nat.le_of_ble_eq_true rfl)) dX3_remove_32 ⟨Nat.zero_le _, Nat.zero_le _⟩) hP hD hS [3, 14] [0, 1, 2, 4, 5, 6, 7, 8, 9, 10, 11, 12, 13] [0, 1, 2, 13, 3, 4, 5, 6, 7, 8, 9, 10, 11, 12, 14] rfl rfl (by decide) rfl rfl (fun H locs hP hD hS => ?_)
  refine lv_iconst (v := 1) hx hb dX3_remove_35 (by decide) ?_
  exact wr_iret hx hb hr hlocks hP hS dX3_remove_36 rfl (rfl)

set_option maxHeartbeats 4000000 in
set_option maxRecDepth 100000 in
/-- match -/
theorem c_X3_match (l : Launch) (dC : Nat → ClassId) (dI : Nat → Nat → Nat) (cI cL : ClassId) (h : Nat → Nat) (kinds : Nat → Int32) (ones : Nat → Int64) (kn : Nat) (av am : Nat → Int64) (vals msks : Nat → Int64) (pre pri act : Nat → Int32) (dat : Nat → Int64) (en : Nat) (held : Nat → Int32) (bn : Nat) (wy stt : Int32) (made hashed : Bool) (cap : Int32) (lat : Int64) (hm : made = true) (hk : kn ≤ 4) (he : en ≤ 72) : Met l yX3_match wsX3_match ({ frames := 2, cells := 0, slots := 0, locals := 44 }) (wr_P (dC, dI) vwCl [(cI, .int), (cL, .long)] [(h 0, .inr (3, [.ref (h 1), .ref (h 2), .ref (h 3), .ref (h 4), .ref (h 5), .int (bI made), .int (bI hashed), .int cap, .long lat])), (h 1, .inr (2, [.ref (h 6), .ref (h 7), .int (nI kn)])), (h 2, .inr (1, [.ref (h 8), .ref (h 9), .ref (h 10), .ref (h 11), .ref (h 12), .ref (h 13), .int (nI en)])), (h 3, .inr (0, [.ref (h 14), .int (nI bn), .int wy, .int stt])), (h 4, .inl (cL, 4, .inr (.inl av))), (h 5, .inl (cL, 4, .inr (.inl am))), (h 6, .inl (cI, 4, .inl kinds)), (h 7, .inl (cL, 4, .inr (.inl ones))), (h 8, .inl (cL, 288, .inr (.inl vals))), (h 9, .inl (cL, 288, .inr (.inl msks))), (h 10, .inl (cI, 72, .inl pre)), (h 11, .inl (cI, 72, .inl pri)), (h 12, .inl (cI, 72, .inl act)), (h 13, .inl (cL, 72, .inr (.inl dat))), (h 14, .inl (cI, 16, .inl held))] [.ref (h 0)]) (wr_Q (dC, dI) vwCl (some (.int (mAct act (cBest av vals msks kn pre pri none 0 en)))) [(h 0, .inr (3, [.ref (h 1), .ref (h 2), .ref (h 3), .ref (h 4), .ref (h 5), .int (bI made), .int (bI hashed), .int cap, .long lat])), (h 1, .inr (2, [.ref (h 6), .ref (h 7), .int (nI kn)])), (h 2, .inr (1, [.ref (h 8), .ref (h 9), .ref (h 10), .ref (h 11), .ref (h 12), .ref (h 13), .int (nI en)])), (h 3, .inr (0, [.ref (h 14), .int (nI bn), .int wy, .int stt])), (h 4, .inl (cL, 4, .inr (.inl av))), (h 5, .inl (cL, 4, .inr (.inl am))), (h 6, .inl (cI, 4, .inl kinds)), (h 7, .inl (cL, 4, .inr (.inl ones))), (h 8, .inl (cL, 288, .inr (.inl vals))), (h 9, .inl (cL, 288, .inr (.inl msks))), (h 10, .inl (cI, 72, .inl pre)), (h 11, .inl (cI, 72, .inl pri)), (h 12, .inl (cI, 72, .inl act)), (h 13, .inl (cL, 72, .inr (.inl dat))), (h 14, .inl (cI, 16, .inl held))] [(h 0, .inr (3, [.ref (h 1), .ref (h 2), .ref (h 3), .ref (h 4), .ref (h 5), .int (bI made), .int (bI hashed), .int cap, .long (mDat dat (cBest av vals msks kn pre pri none 0 en))])), (h 1, .inr (2, [.ref (h 6), .ref (h 7), .int (nI kn)])), (h 2, .inr (1, [.ref (h 8), .ref (h 9), .ref (h 10), .ref (h 11), .ref (h 12), .ref (h 13), .int (nI en)])), (h 3, .inr (0, [.ref (h 14), .int (nI bn), .int wy, .int stt])), (h 4, .inl (cL, 4, .inr (.inl av))), (h 5, .inl (cL, 4, .inr (.inl am))), (h 6, .inl (cI, 4, .inl kinds)), (h 7, .inl (cL, 4, .inr (.inl ones))), (h 8, .inl (cL, 288, .inr (.inl vals))), (h 9, .inl (cL, 288, .inr (.inl msks))), (h 10, .inl (cI, 72, .inl pre)), (h 11, .inl (cI, 72, .inl pri)), (h 12, .inl (cI, 72, .inl act)), (h 13, .inl (cL, 72, .inr (.inl dat))), (h 14, .inl (cI, 16, .inl held))]) 0 0 (wr_I [(h 0, .inr (3, [.ref (h 1), .ref (h 2), .ref (h 3), .ref (h 4), .ref (h 5), .int (bI made), .int (bI hashed), .int cap, .long lat])), (h 1, .inr (2, [.ref (h 6), .ref (h 7), .int (nI kn)])), (h 2, .inr (1, [.ref (h 8), .ref (h 9), .ref (h 10), .ref (h 11), .ref (h 12), .ref (h 13), .int (nI en)])), (h 3, .inr (0, [.ref (h 14), .int (nI bn), .int wy, .int stt])), (h 4, .inl (cL, 4, .inr (.inl av))), (h 5, .inl (cL, 4, .inr (.inl am))), (h 6, .inl (cI, 4, .inl kinds)), (h 7, .inl (cL, 4, .inr (.inl ones))), (h 8, .inl (cL, 288, .inr (.inl vals))), (h 9, .inl (cL, 288, .inr (.inl msks))), (h 10, .inl (cI, 72, .inl pre)), (h 11, .inl (cI, 72, .inl pri)), (h 12, .inl (cI, 72, .inl act)), (h 13, .inl (cL, 72, .inr (.inl dat))), (h 14, .inl (cI, 16, .inl held))]) := by
  refine Met.ofW (cc := cX3_match) (maxL := 3) (ret := some .int) (by decide) rfl ?_
  intro p e s m args below meth c s₁ B hml hv
  obtain ⟨rfl, hP, hK, hD0⟩ := hv
  have hx := B.exec
  have hb := B.bytes
  have hr := B.returns
  have hts := fun w h => atoms_spec (ws := wsX3_match) B.pre w (List.mem_cons_of_mem _ h)
  have hown : s.vm.findClass RX3 = some m.cls := findClass_of_methodNamed B.named
  have hlocks := B.notSynchronized
  have hD := wr_self hD0
  have hS : va_S (wr_I [(h 0, .inr (3, [.ref (h 1), .ref (h 2), .ref (h 3), .ref (h 4), .ref (h 5), .int (bI made), .int (bI hashed), .int cap, .long lat])), (h 1, .inr (2, [.ref (h 6), .ref (h 7), .int (nI kn)])), (h 2, .inr (1, [.ref (h 8), .ref (h 9), .ref (h 10), .ref (h 11), .ref (h 12), .ref (h 13), .int (nI en)])), (h 3, .inr (0, [.ref (h 14), .int (nI bn), .int wy, .int stt])), (h 4, .inl (cL, 4, .inr (.inl av))), (h 5, .inl (cL, 4, .inr (.inl am))), (h 6, .inl (cI, 4, .inl kinds)), (h 7, .inl (cL, 4, .inr (.inl ones))), (h 8, .inl (cL, 288, .inr (.inl vals))), (h 9, .inl (cL, 288, .inr (.inl msks))), (h 10, .inl (cI, 72, .inl pre)), (h 11, .inl (cI, 72, .inl pri)), (h 12, .inl (cI, 72, .inl act)), (h 13, .inl (cL, 72, .inr (.inl dat))), (h 14, .inl (cI, 16, .inl held))]) s.heap s.heap [] := va_S.rf
  have hl := lv_entry ([.ref (h 0)]) (n := 3) (Nat.le_of_ble_eq_true rfl)
  rw [lg_entry_eq]
  generalize (lg_sl ([.ref (h 0)]) ++ List.replicate (3 - (lg_sl ([.ref (h 0)])).length) Slot.unset).toArray = ls at hl ⊢
  have hl : lv_has ls 3 [(0, .ref (h 0))] := hl
  refine lv_aload_n hx hb dX3_match_0 rfl (lv_at hl 0 rfl) ?_
  refine rd_callv (va_runV (As := []) (rest := []) ⟨hx, hb, hml, hown, hts⟩ (c_X3_requireTable l dC dI cI cL h kinds ones kn av am vals msks pre pri act dat en held bn wy stt made hashed cap lat hm) (cwV 0 hts (gV mw350 mw352 mw1 mw22 mw353) rfl rfl rfl (by decide +kernel) ⟨Nat.le_of_ble_eq_true rfl, Nat.le_of_ble_eq_true rfl⟩) (rd_preV (hP.sub (ws' := [(h 0, .inr (3, [.ref (h 1), .ref (h 2), .ref (h 3), .ref (h 4), .ref (h 5), .int (bI made), .int (bI hashed), .int cap, .long lat])), (h 1, .inr (2, [.ref (h 6), .ref (h 7), .int (nI kn)])), (h 2, .inr (1, [.ref (h 8), .ref (h 9), .ref (h 10), .ref (h 11), .ref (h 12), .ref (h 13), .int (nI en)])), (h 3, .inr (0, [.ref (h 14), .int (nI bn), .int wy, .int stt])), (h 4, .inl (cL, 4, .inr (.inl av))), (h 5, .inl (cL, 4, .inr (.inl am))), (h 6, .inl (cI, 4, .inl kinds)), (h 7, .inl (cL, 4, .inr (.inl ones))), (h 8, .inl (cL, 288, .inr (.inl vals))), (h 9, .inl (cL, 288, .inr (.inl msks))), (h 10, .inl (cI, 72, .inl pre)), (h 11, .inl (cI, 72, .inl pri)), (h 12, .inl (cI, 72, .inl act)), (h 13, .inl (cL, 72, .inr (.inl dat))), (h 14, .inl (cI, 16, .inl held))]) [0, 1, 2, 3, 4, 5, 6, 7, 8, 9, 10, 11, 12, 13, 14] rfl) hK (va_recv (ci := 3) hK hP rfl (q0 := 0) rfl)) rfl rfl hl.1 rfl (lv_room (Nat.le_of_ble_eq_true rfl)) dX3_match_1 ⟨Nat.zero_le _, Nat.zero_le _⟩) ?_
  refine lv_iconst (v := (oI none)) hx hb dX3_match_4 (by decide) ?_
  refine lv_istore_n (lv' := [(1, .int (oI none)), (0, .ref (h 0))]) hx hb dX3_match_5 rfl hl (by decide) rfl (fun ls hl => ?_)
  refine lv_iconst (v := (nI 0)) hx hb dX3_match_6 (by decide) ?_
  refine lv_istore_n (lv' := [(2, .int (nI 0)), (1, .int (oI none)), (0, .ref (h 0))]) hx hb dX3_match_7 rfl hl (by decide) rfl (fun ls hl => ?_)
  have loop : ∀ (n i : Nat) (b : Option Nat), i + n = en → (∀ j, b = some j → j < en) → ∀ ls : Array Slot, lv_has ls 3 [(2, .int (nI i)), (1, .int (oI b)), (0, .ref (h 0))] → W p l e (headSpec wsX3_match ({ frames := 2, cells := 0, slots := 0, locals := 44 })).room s m ([.ref (h 0)]).toArray below meth c s.heap [] 0 0 (MQ below (wr_Q (dC, dI) vwCl (some (.int (mAct act (cBest av vals msks kn pre pri b i n)))) [(h 0, .inr (3, [.ref (h 1), .ref (h 2), .ref (h 3), .ref (h 4), .ref (h 5), .int (bI made), .int (bI hashed), .int cap, .long lat])), (h 1, .inr (2, [.ref (h 6), .ref (h 7), .int (nI kn)])), (h 2, .inr (1, [.ref (h 8), .ref (h 9), .ref (h 10), .ref (h 11), .ref (h 12), .ref (h 13), .int (nI en)])), (h 3, .inr (0, [.ref (h 14), .int (nI bn), .int wy, .int stt])), (h 4, .inl (cL, 4, .inr (.inl av))), (h 5, .inl (cL, 4, .inr (.inl am))), (h 6, .inl (cI, 4, .inl kinds)), (h 7, .inl (cL, 4, .inr (.inl ones))), (h 8, .inl (cL, 288, .inr (.inl vals))), (h 9, .inl (cL, 288, .inr (.inl msks))), (h 10, .inl (cI, 72, .inl pre)), (h 11, .inl (cI, 72, .inl pri)), (h 12, .inl (cI, 72, .inl act)), (h 13, .inl (cL, 72, .inr (.inl dat))), (h 14, .inl (cI, 16, .inl held))] [(h 0, .inr (3, [.ref (h 1), .ref (h 2), .ref (h 3), .ref (h 4), .ref (h 5), .int (bI made), .int (bI hashed), .int cap, .long (mDat dat (cBest av vals msks kn pre pri b i n))])), (h 1, .inr (2, [.ref (h 6), .ref (h 7), .int (nI kn)])), (h 2, .inr (1, [.ref (h 8), .ref (h 9), .ref (h 10), .ref (h 11), .ref (h 12), .ref (h 13), .int (nI en)])), (h 3, .inr (0, [.ref (h 14), .int (nI bn), .int wy, .int stt])), (h 4, .inl (cL, 4, .inr (.inl av))), (h 5, .inl (cL, 4, .inr (.inl am))), (h 6, .inl (cI, 4, .inl kinds)), (h 7, .inl (cL, 4, .inr (.inl ones))), (h 8, .inl (cL, 288, .inr (.inl vals))), (h 9, .inl (cL, 288, .inr (.inl msks))), (h 10, .inl (cI, 72, .inl pre)), (h 11, .inl (cI, 72, .inl pri)), (h 12, .inl (cI, 72, .inl act)), (h 13, .inl (cL, 72, .inr (.inl dat))), (h 14, .inl (cI, 16, .inl held))]) ([.ref (h 0)]).toArray s 0 0 (wr_I [(h 0, .inr (3, [.ref (h 1), .ref (h 2), .ref (h 3), .ref (h 4), .ref (h 5), .int (bI made), .int (bI hashed), .int cap, .long lat])), (h 1, .inr (2, [.ref (h 6), .ref (h 7), .int (nI kn)])), (h 2, .inr (1, [.ref (h 8), .ref (h 9), .ref (h 10), .ref (h 11), .ref (h 12), .ref (h 13), .int (nI en)])), (h 3, .inr (0, [.ref (h 14), .int (nI bn), .int wy, .int stt])), (h 4, .inl (cL, 4, .inr (.inl av))), (h 5, .inl (cL, 4, .inr (.inl am))), (h 6, .inl (cI, 4, .inl kinds)), (h 7, .inl (cL, 4, .inr (.inl ones))), (h 8, .inl (cL, 288, .inr (.inl vals))), (h 9, .inl (cL, 288, .inr (.inl msks))), (h 10, .inl (cI, 72, .inl pre)), (h 11, .inl (cI, 72, .inl pri)), (h 12, .inl (cI, 72, .inl act)), (h 13, .inl (cL, 72, .inr (.inl dat))), (h 14, .inl (cI, 16, .inl held))])) (F0 m 8 ls []) := by
    intro n
    induction n with
    | zero =>
      intro i b hi hj ls hl
      cases b with
      | none =>
        refine lv_iload_n hx hb dX3_match_8 rfl (lv_at hl 0 rfl) ?_
        refine lv_aload_n hx hb dX3_match_9 rfl (lv_at hl 2 rfl) ?_
        refine va_get (D := (dC, dI)) (ci := 3) (v := .ref (h 2)) (C := RX3) (T := TX3) (N := 9) hx hb hts inX3 hown hK hP 0 rfl rfl 1 (by decide) (hts _ mw121) (fun _ h9 => h9) rfl dX3_match_10 ?_
        refine va_get (D := (dC, dI)) (ci := 1) (v := .int (nI en)) (C := RX1) (T := TX1) (N := 7) hx hb hts inX1 hown hK hP 2 rfl rfl 6 (by decide) (hts _ mw84) (fun _ h9 => h9) rfl dX3_match_13 ?_
        refine n_ige i en (tgt := 52) (hexec := hx) (hb := hb) dX3_match_16 (by decide) rfl rfl (by omega) (by omega) (fun c16 => ?_) (fun c16 => absurd c16 (by omega))
        refine lv_aload_n hx hb dX3_match_52 rfl (lv_at hl 2 rfl) ?_
        refine lv_iload_n hx hb dX3_match_53 rfl (lv_at hl 1 rfl) ?_
        refine lv_iconst (v := (-1)) hx hb dX3_match_54 (by decide) ?_
        refine lv_icmp_ne (tgt := 62) hx hb dX3_match_55 (by decide) (fun c55 => absurd rfl c55) (fun c55 => ?_)
        refine lv_lconst (v := 0) hx hb dX3_match_58 (by decide) ?_
        refine lv_goto (tgt := 71) hx hb dX3_match_59 (by decide) ?_
        refine n_put (ws' := [(h 0, .inr (3, [.ref (h 1), .ref (h 2), .ref (h 3), .ref (h 4), .ref (h 5), .int (bI made), .int (bI hashed), .int cap, .long 0])), (h 1, .inr (2, [.ref (h 6), .ref (h 7), .int (nI kn)])), (h 2, .inr (1, [.ref (h 8), .ref (h 9), .ref (h 10), .ref (h 11), .ref (h 12), .ref (h 13), .int (nI en)])), (h 3, .inr (0, [.ref (h 14), .int (nI bn), .int wy, .int stt])), (h 4, .inl (cL, 4, .inr (.inl av))), (h 5, .inl (cL, 4, .inr (.inl am))), (h 6, .inl (cI, 4, .inl kinds)), (h 7, .inl (cL, 4, .inr (.inl ones))), (h 8, .inl (cL, 288, .inr (.inl vals))), (h 9, .inl (cL, 288, .inr (.inl msks))), (h 10, .inl (cI, 72, .inl pre)), (h 11, .inl (cI, 72, .inl pri)), (h 12, .inl (cI, 72, .inl act)), (h 13, .inl (cL, 72, .inr (.inl dat))), (h 14, .inl (cI, 16, .inl held))]) (D := (dC, dI)) (ci := 3) (v := .long 0) (ty := .long) (C := RX3) (T := TX3) (N := 9) hx hb hts inX3 tyX3 tyX3_ok nmX3 hown hK hP hD hS 0 rfl rfl 8 (by decide) (hts _ mw128) (fun _ h9 => h9) rfl rfl rfl rfl (Nat.le_of_ble_eq_true rfl) dX3_match_71 rfl (fun H locs hP hD hS => ?_)
        refine lv_iload_n hx hb dX3_match_74 rfl (lv_at hl 1 rfl) ?_
        refine lv_iconst (v := (-1)) hx hb dX3_match_75 (by decide) ?_
        refine lv_icmp_ne (tgt := 83) hx hb dX3_match_76 (by decide) (fun c76 => absurd rfl c76) (fun c76 => ?_)
        refine lv_iconst (v := (-1)) hx hb dX3_match_79 (by decide) ?_
        refine lv_goto (tgt := 92) hx hb dX3_match_80 (by decide) ?_
        exact wr_iret hx hb hr hlocks hP hS dX3_match_92 rfl (rfl)
      | some j =>
        have hj := hj j rfl
        have hl : lv_has ls 3 [(2, .int (nI i)), (1, .int (nI j)), (0, .ref (h 0))] := hl
        refine lv_iload_n hx hb dX3_match_8 rfl (lv_at hl 0 rfl) ?_
        refine lv_aload_n hx hb dX3_match_9 rfl (lv_at hl 2 rfl) ?_
        refine va_get (D := (dC, dI)) (ci := 3) (v := .ref (h 2)) (C := RX3) (T := TX3) (N := 9) hx hb hts inX3 hown hK hP 0 rfl rfl 1 (by decide) (hts _ mw121) (fun _ h9 => h9) rfl dX3_match_10 ?_
        refine va_get (D := (dC, dI)) (ci := 1) (v := .int (nI en)) (C := RX1) (T := TX1) (N := 7) hx hb hts inX1 hown hK hP 2 rfl rfl 6 (by decide) (hts _ mw84) (fun _ h9 => h9) rfl dX3_match_13 ?_
        refine n_ige i en (tgt := 52) (hexec := hx) (hb := hb) dX3_match_16 (by decide) rfl rfl (by omega) (by omega) (fun c16 => ?_) (fun c16 => absurd c16 (by omega))
        refine lv_aload_n hx hb dX3_match_52 rfl (lv_at hl 2 rfl) ?_
        refine lv_iload_n hx hb dX3_match_53 rfl (lv_at hl 1 rfl) ?_
        refine lv_iconst (v := (-1)) hx hb dX3_match_54 (by decide) ?_
        refine lv_icmp_ne (tgt := 62) hx hb dX3_match_55 (by decide) (fun c55 => ?_) (fun c55 => absurd c55 (n_ne9 (by omega)))
        refine lv_aload_n hx hb dX3_match_62 rfl (lv_at hl 2 rfl) ?_
        refine va_get (D := (dC, dI)) (ci := 3) (v := .ref (h 2)) (C := RX3) (T := TX3) (N := 9) hx hb hts inX3 hown hK hP 0 rfl rfl 1 (by decide) (hts _ mw121) (fun _ h9 => h9) rfl dX3_match_63 ?_
        refine va_get (D := (dC, dI)) (ci := 1) (v := .ref (h 13)) (C := RX1) (T := TX1) (N := 7) hx hb hts inX1 hown hK hP 2 rfl rfl 5 (by decide) (hts _ mw83) (fun _ h9 => h9) rfl dX3_match_66 ?_
        refine lv_iload_n hx hb dX3_match_69 rfl (lv_at hl 1 rfl) ?_
        refine n_lald hx hb hK hP 13 1 rfl rfl (k := j) rfl (by omega) (by omega) dX3_match_70 ?_
        refine n_put (ws' := [(h 0, .inr (3, [.ref (h 1), .ref (h 2), .ref (h 3), .ref (h 4), .ref (h 5), .int (bI made), .int (bI hashed), .int cap, .long (dat j)])), (h 1, .inr (2, [.ref (h 6), .ref (h 7), .int (nI kn)])), (h 2, .inr (1, [.ref (h 8), .ref (h 9), .ref (h 10), .ref (h 11), .ref (h 12), .ref (h 13), .int (nI en)])), (h 3, .inr (0, [.ref (h 14), .int (nI bn), .int wy, .int stt])), (h 4, .inl (cL, 4, .inr (.inl av))), (h 5, .inl (cL, 4, .inr (.inl am))), (h 6, .inl (cI, 4, .inl kinds)), (h 7, .inl (cL, 4, .inr (.inl ones))), (h 8, .inl (cL, 288, .inr (.inl vals))), (h 9, .inl (cL, 288, .inr (.inl msks))), (h 10, .inl (cI, 72, .inl pre)), (h 11, .inl (cI, 72, .inl pri)), (h 12, .inl (cI, 72, .inl act)), (h 13, .inl (cL, 72, .inr (.inl dat))), (h 14, .inl (cI, 16, .inl held))]) (D := (dC, dI)) (ci := 3) (v := .long (dat j)) (ty := .long) (C := RX3) (T := TX3) (N := 9) hx hb hts inX3 tyX3 tyX3_ok nmX3 hown hK hP hD hS 0 rfl rfl 8 (by decide) (hts _ mw128) (fun _ h9 => h9) rfl rfl rfl rfl (Nat.le_of_ble_eq_true rfl) dX3_match_71 rfl (fun H locs hP hD hS => ?_)
        refine lv_iload_n hx hb dX3_match_74 rfl (lv_at hl 1 rfl) ?_
        refine lv_iconst (v := (-1)) hx hb dX3_match_75 (by decide) ?_
        refine lv_icmp_ne (tgt := 83) hx hb dX3_match_76 (by decide) (fun c76 => ?_) (fun c76 => absurd c76 (n_ne9 (by omega)))
        refine lv_aload_n hx hb dX3_match_83 rfl (lv_at hl 2 rfl) ?_
        refine va_get (D := (dC, dI)) (ci := 3) (v := .ref (h 2)) (C := RX3) (T := TX3) (N := 9) hx hb hts inX3 hown hK hP 0 rfl rfl 1 (by decide) (hts _ mw121) (fun _ h9 => h9) rfl dX3_match_84 ?_
        refine va_get (D := (dC, dI)) (ci := 1) (v := .ref (h 12)) (C := RX1) (T := TX1) (N := 7) hx hb hts inX1 hown hK hP 2 rfl rfl 4 (by decide) (hts _ mw81) (fun _ h9 => h9) rfl dX3_match_87 ?_
        refine lv_iload_n hx hb dX3_match_90 rfl (lv_at hl 1 rfl) ?_
        refine n_iald hx hb hK hP 12 0 rfl rfl (k := j) rfl (by omega) (by omega) dX3_match_91 ?_
        exact wr_iret hx hb hr hlocks hP hS dX3_match_92 rfl (rfl)
    | succ n ih =>
      intro i b hi hj ls hl
      cases b with
      | none =>
        refine lv_iload_n hx hb dX3_match_8 rfl (lv_at hl 0 rfl) ?_
        refine lv_aload_n hx hb dX3_match_9 rfl (lv_at hl 2 rfl) ?_
        refine va_get (D := (dC, dI)) (ci := 3) (v := .ref (h 2)) (C := RX3) (T := TX3) (N := 9) hx hb hts inX3 hown hK hP 0 rfl rfl 1 (by decide) (hts _ mw121) (fun _ h9 => h9) rfl dX3_match_10 ?_
        refine va_get (D := (dC, dI)) (ci := 1) (v := .int (nI en)) (C := RX1) (T := TX1) (N := 7) hx hb hts inX1 hown hK hP 2 rfl rfl 6 (by decide) (hts _ mw84) (fun _ h9 => h9) rfl dX3_match_13 ?_
        refine n_ige i en (tgt := 52) (hexec := hx) (hb := hb) dX3_match_16 (by decide) rfl rfl (by omega) (by omega) (fun c16 => absurd c16 (by omega)) (fun c16 => ?_)
        refine lv_aload_n hx hb dX3_match_19 rfl (lv_at hl 2 rfl) ?_
        refine lv_iload_n hx hb dX3_match_20 rfl (lv_at hl 0 rfl) ?_
        refine rd_calli (r := (bI (cFit av vals msks kn i))) (va_runV (As := [.int (nI i)]) (rest := []) ⟨hx, hb, hml, hown, hts⟩ (c_X3_fitsAsked l dC dI cI cL h kinds ones kn av am vals msks pre pri act dat en held bn wy stt made hashed cap lat i hk (by omega)) (cwV 1 hts (gV mw443 mw445 mw9 mw22 mw446) rfl rfl rfl (by decide +kernel) ⟨Nat.le_of_ble_eq_true rfl, Nat.le_of_ble_eq_true rfl⟩) (rd_preV (hP.sub (ws' := [(h 0, .inr (3, [.ref (h 1), .ref (h 2), .ref (h 3), .ref (h 4), .ref (h 5), .int (bI made), .int (bI hashed), .int cap, .long lat])), (h 1, .inr (2, [.ref (h 6), .ref (h 7), .int (nI kn)])), (h 2, .inr (1, [.ref (h 8), .ref (h 9), .ref (h 10), .ref (h 11), .ref (h 12), .ref (h 13), .int (nI en)])), (h 3, .inr (0, [.ref (h 14), .int (nI bn), .int wy, .int stt])), (h 4, .inl (cL, 4, .inr (.inl av))), (h 5, .inl (cL, 4, .inr (.inl am))), (h 6, .inl (cI, 4, .inl kinds)), (h 7, .inl (cL, 4, .inr (.inl ones))), (h 8, .inl (cL, 288, .inr (.inl vals))), (h 9, .inl (cL, 288, .inr (.inl msks))), (h 10, .inl (cI, 72, .inl pre)), (h 11, .inl (cI, 72, .inl pri)), (h 12, .inl (cI, 72, .inl act)), (h 13, .inl (cL, 72, .inr (.inl dat))), (h 14, .inl (cI, 16, .inl held))]) [0, 1, 2, 3, 4, 5, 6, 7, 8, 9, 10, 11, 12, 13, 14] rfl) hK (va_recv (ci := 3) hK hP rfl (q0 := 0) rfl)) rfl rfl hl.1 rfl (lv_room (Nat.le_of_ble_eq_true rfl)) dX3_match_21 ⟨Nat.zero_le _, Nat.zero_le _⟩) ?_
        refine lv_if_eq (tgt := 46) hx hb dX3_match_24 (by decide) (fun c24 => ?_) (fun c24 => ?_)
        · rw [show cBest av vals msks kn pre pri none i (n + 1) = cBest av vals msks kn pre pri none (i + 1) n from cBest_n (bI_eq c24)]
          refine lv_iinc (v := nI (i + 1)) (lv' := [(2, .int (nI (i + 1))), (1, .int (oI none)), (0, .ref (h 0))]) hx hb dX3_match_46 hl (k := 0) rfl (nI_1 i) (by decide) rfl (fun ls hl => ?_)
          refine lv_goto (tgt := 8) hx hb dX3_match_49 (by decide) ?_
          exact ih (i + 1) none (by omega) (fun k hk9 => nomatch hk9) ls (lv_sub hl [0, 1, 2] rfl)
        · rw [show cBest av vals msks kn pre pri none i (n + 1) = cBest av vals msks kn pre pri (some i) (i + 1) n from cBest_0 (bI_ne c24)]
          refine lv_iload_n hx hb dX3_match_27 rfl (lv_at hl 1 rfl) ?_
          refine lv_iconst (v := (-1)) hx hb dX3_match_28 (by decide) ?_
          refine lv_icmp_eq (tgt := 44) hx hb dX3_match_29 (by decide) (fun c29 => ?_) (fun c29 => absurd rfl c29)
          refine lv_iload_n hx hb dX3_match_44 rfl (lv_at hl 0 rfl) ?_
          refine lv_istore_n (lv' := [(1, .int (nI i)), (2, .int (nI i)), (0, .ref (h 0))]) hx hb dX3_match_45 rfl hl (by decide) rfl (fun ls hl => ?_)
          refine lv_iinc (v := nI (i + 1)) (lv' := [(2, .int (nI (i + 1))), (1, .int (nI i)), (0, .ref (h 0))]) hx hb dX3_match_46 hl (k := 1) rfl (nI_1 i) (by decide) rfl (fun ls hl => ?_)
          refine lv_goto (tgt := 8) hx hb dX3_match_49 (by decide) ?_
          exact ih (i + 1) (some i) (by omega) (fun k hk9 => by cases hk9; omega) ls (lv_sub hl [0, 1, 2] rfl)
      | some j =>
        have hj := hj j rfl
        have hl : lv_has ls 3 [(2, .int (nI i)), (1, .int (nI j)), (0, .ref (h 0))] := hl
        refine lv_iload_n hx hb dX3_match_8 rfl (lv_at hl 0 rfl) ?_
        refine lv_aload_n hx hb dX3_match_9 rfl (lv_at hl 2 rfl) ?_
        refine va_get (D := (dC, dI)) (ci := 3) (v := .ref (h 2)) (C := RX3) (T := TX3) (N := 9) hx hb hts inX3 hown hK hP 0 rfl rfl 1 (by decide) (hts _ mw121) (fun _ h9 => h9) rfl dX3_match_10 ?_
        refine va_get (D := (dC, dI)) (ci := 1) (v := .int (nI en)) (C := RX1) (T := TX1) (N := 7) hx hb hts inX1 hown hK hP 2 rfl rfl 6 (by decide) (hts _ mw84) (fun _ h9 => h9) rfl dX3_match_13 ?_
        refine n_ige i en (tgt := 52) (hexec := hx) (hb := hb) dX3_match_16 (by decide) rfl rfl (by omega) (by omega) (fun c16 => absurd c16 (by omega)) (fun c16 => ?_)
        refine lv_aload_n hx hb dX3_match_19 rfl (lv_at hl 2 rfl) ?_
        refine lv_iload_n hx hb dX3_match_20 rfl (lv_at hl 0 rfl) ?_
        refine rd_calli (r := (bI (cFit av vals msks kn i))) (va_runV (As := [.int (nI i)]) (rest := []) ⟨hx, hb, hml, hown, hts⟩ (c_X3_fitsAsked l dC dI cI cL h kinds ones kn av am vals msks pre pri act dat en held bn wy stt made hashed cap lat i hk (by omega)) (cwV 1 hts (gV mw443 mw445 mw9 mw22 mw446) rfl rfl rfl (by decide +kernel) ⟨Nat.le_of_ble_eq_true rfl, Nat.le_of_ble_eq_true rfl⟩) (rd_preV (hP.sub (ws' := [(h 0, .inr (3, [.ref (h 1), .ref (h 2), .ref (h 3), .ref (h 4), .ref (h 5), .int (bI made), .int (bI hashed), .int cap, .long lat])), (h 1, .inr (2, [.ref (h 6), .ref (h 7), .int (nI kn)])), (h 2, .inr (1, [.ref (h 8), .ref (h 9), .ref (h 10), .ref (h 11), .ref (h 12), .ref (h 13), .int (nI en)])), (h 3, .inr (0, [.ref (h 14), .int (nI bn), .int wy, .int stt])), (h 4, .inl (cL, 4, .inr (.inl av))), (h 5, .inl (cL, 4, .inr (.inl am))), (h 6, .inl (cI, 4, .inl kinds)), (h 7, .inl (cL, 4, .inr (.inl ones))), (h 8, .inl (cL, 288, .inr (.inl vals))), (h 9, .inl (cL, 288, .inr (.inl msks))), (h 10, .inl (cI, 72, .inl pre)), (h 11, .inl (cI, 72, .inl pri)), (h 12, .inl (cI, 72, .inl act)), (h 13, .inl (cL, 72, .inr (.inl dat))), (h 14, .inl (cI, 16, .inl held))]) [0, 1, 2, 3, 4, 5, 6, 7, 8, 9, 10, 11, 12, 13, 14] rfl) hK (va_recv (ci := 3) hK hP rfl (q0 := 0) rfl)) rfl rfl hl.1 rfl (lv_room (Nat.le_of_ble_eq_true rfl)) dX3_match_21 ⟨Nat.zero_le _, Nat.zero_le _⟩) ?_
        refine lv_if_eq (tgt := 46) hx hb dX3_match_24 (by decide) (fun c24 => ?_) (fun c24 => ?_)
        · rw [show cBest av vals msks kn pre pri (some j) i (n + 1) = cBest av vals msks kn pre pri (some j) (i + 1) n from cBest_n (bI_eq c24)]
          refine lv_iinc (v := nI (i + 1)) (lv' := [(2, .int (nI (i + 1))), (1, .int (nI j)), (0, .ref (h 0))]) hx hb dX3_match_46 hl (k := 0) rfl (nI_1 i) (by decide) rfl (fun ls hl => ?_)
          refine lv_goto (tgt := 8) hx hb dX3_match_49 (by decide) ?_
          exact ih (i + 1) (some j) (by omega) (fun k hk9 => by cases hk9; omega) ls (lv_sub hl [0, 1, 2] rfl)
        · refine lv_iload_n hx hb dX3_match_27 rfl (lv_at hl 1 rfl) ?_
          refine lv_iconst (v := (-1)) hx hb dX3_match_28 (by decide) ?_
          refine lv_icmp_eq (tgt := 44) hx hb dX3_match_29 (by decide) (fun c29 => absurd c29 (n_ne9 (by omega))) (fun c29 => ?_)
          refine lv_aload_n hx hb dX3_match_32 rfl (lv_at hl 2 rfl) ?_
          refine va_get (D := (dC, dI)) (ci := 3) (v := .ref (h 2)) (C := RX3) (T := TX3) (N := 9) hx hb hts inX3 hown hK hP 0 rfl rfl 1 (by decide) (hts _ mw121) (fun _ h9 => h9) rfl dX3_match_33 ?_
          refine lv_iload_n hx hb dX3_match_36 rfl (lv_at hl 0 rfl) ?_
          refine lv_iload_n hx hb dX3_match_37 rfl (lv_at hl 1 rfl) ?_
          refine rd_calli (r := (bI (eMore pre pri i j))) (va_runV (As := [.int (nI i), .int (nI j)]) (rest := []) ⟨hx, hb, hml, hown, hts⟩ (c_X1_isWorthMore l dC dI cI cL (h 2) (h 8) (h 9) (h 10) (h 11) (h 12) (h 13) vals msks pre pri act dat en i j (by omega) (by omega)) (cwV 2 hts (gV mw447 mw448 mw449 mw24 mw450) rfl rfl rfl (by decide +kernel) ⟨Nat.le_of_ble_eq_true rfl, Nat.le_of_ble_eq_true rfl⟩) (rd_preV (hP.sub (ws' := [(h 2, .inr (1, [.ref (h 8), .ref (h 9), .ref (h 10), .ref (h 11), .ref (h 12), .ref (h 13), .int (nI en)])), (h 8, .inl (cL, 288, .inr (.inl vals))), (h 9, .inl (cL, 288, .inr (.inl msks))), (h 10, .inl (cI, 72, .inl pre)), (h 11, .inl (cI, 72, .inl pri)), (h 12, .inl (cI, 72, .inl act)), (h 13, .inl (cL, 72, .inr (.inl dat)))]) [2, 8, 9, 10, 11, 12, 13] rfl) hK (va_recv (ci := 1) hK hP rfl (q0 := 2) rfl)) rfl rfl hl.1 rfl (lv_room (Nat.le_of_ble_eq_true rfl)) dX3_match_38 ⟨Nat.zero_le _, Nat.zero_le _⟩) ?_
          refine lv_if_eq (tgt := 46) hx hb dX3_match_41 (by decide) (fun c41 => ?_) (fun c41 => ?_)
          · rw [show cBest av vals msks kn pre pri (some j) i (n + 1) = cBest av vals msks kn pre pri (some j) (i + 1) n from cBest_k (bI_eq c41)]
            refine lv_iinc (v := nI (i + 1)) (lv' := [(2, .int (nI (i + 1))), (1, .int (nI j)), (0, .ref (h 0))]) hx hb dX3_match_46 hl (k := 0) rfl (nI_1 i) (by decide) rfl (fun ls hl => ?_)
            refine lv_goto (tgt := 8) hx hb dX3_match_49 (by decide) ?_
            exact ih (i + 1) (some j) (by omega) (fun k hk9 => by cases hk9; omega) ls (lv_sub hl [0, 1, 2] rfl)
          · rw [show cBest av vals msks kn pre pri (some j) i (n + 1) = cBest av vals msks kn pre pri (some i) (i + 1) n from cBest_y (bI_ne c24) (bI_ne c41)]
            refine lv_iload_n hx hb dX3_match_44 rfl (lv_at hl 0 rfl) ?_
            refine lv_istore_n (lv' := [(1, .int (nI i)), (2, .int (nI i)), (0, .ref (h 0))]) hx hb dX3_match_45 rfl hl (by decide) rfl (fun ls hl => ?_)
            refine lv_iinc (v := nI (i + 1)) (lv' := [(2, .int (nI (i + 1))), (1, .int (nI i)), (0, .ref (h 0))]) hx hb dX3_match_46 hl (k := 1) rfl (nI_1 i) (by decide) rfl (fun ls hl => ?_)
            refine lv_goto (tgt := 8) hx hb dX3_match_49 (by decide) ?_
            exact ih (i + 1) (some i) (by omega) (fun k hk9 => by cases hk9; omega) ls (lv_sub hl [0, 1, 2] rfl)
  exact loop en 0 none (by omega) (fun k hk9 => nomatch hk9) ls (lv_sub hl [0, 1, 2] rfl)
end
section
/-! what a throw asks of the start, and the three throws of the class -/
def tX (U : State) : Prop := va_Nw (.castable "java/lang/IllegalArgumentException" "java/lang/IllegalArgumentException") U ∧ va_Nw (.castable "java/lang/IllegalStateException" "java/lang/IllegalStateException") U ∧ va_Nw (.castable "java/lang/IndexOutOfBoundsException" "java/lang/IndexOutOfBoundsException") U ∧ va_Nw (.declares ⟨"java/lang/RuntimeException", "<init>", "(Ljava/lang/String;)V"⟩) U ∧ va_Nw (.declares ⟨"java/lang/Exception", "<init>", "(Ljava/lang/String;)V"⟩) U ∧ va_Nw (.declares ⟨"java/lang/Throwable", "<init>", "(Ljava/lang/String;)V"⟩) U ∧ (∃ sa, vk_R RX3 68 "no such width or kind" sa U) ∧ (∃ sa, vk_R RX3 75 "the table is made or has four keys" sa U) ∧ (∃ sa, vk_R RX3 82 "the kind may not be with those that are there" sa U) ∧ (∃ sa, vk_R RX3 88 "the table is made or has no key" sa U) ∧ (∃ sa, vk_R RX3 101 "no such table" sa U) ∧ (∃ sa, vk_R RX3 105 "no such key" sa U) ∧ (∃ sa, vk_R RX3 166 "no table is made" sa U) ∧ vx_Zq Bundle.tN "UNASSIGNED_STACK" Bundle.steD (fun _ => False) U U.heap ∧ vx_Zq Bundle.tN "SUPPRESSED_SENTINEL" Bundle.listD (fun _ => False) U U.heap
theorem tX.blind {U : State} {g : JFrame} {mk : MethodId} {a : Array Value} (h : tX U) : tX (U.calling g mk a) := by
  obtain ⟨c0, c1, c2, c3, c4, c5, ⟨a68, s68⟩, ⟨a75, s75⟩, ⟨a82, s82⟩, ⟨a88, s88⟩, ⟨a101, s101⟩, ⟨a105, s105⟩, ⟨a166, s166⟩, z1, z2⟩ := h
  exact ⟨va_Nw.same (u := U) rfl rfl c0, va_Nw.same (u := U) rfl rfl c1, va_Nw.same (u := U) rfl rfl c2, va_Nw.same (u := U) rfl rfl c3, va_Nw.same (u := U) rfl rfl c4, va_Nw.same (u := U) rfl rfl c5, ⟨a68, vk_R.same (u := U) rfl s68⟩, ⟨a75, vk_R.same (u := U) rfl s75⟩, ⟨a82, vk_R.same (u := U) rfl s82⟩, ⟨a88, vk_R.same (u := U) rfl s88⟩, ⟨a101, vk_R.same (u := U) rfl s101⟩, ⟨a105, vk_R.same (u := U) rfl s105⟩, ⟨a166, vk_R.same (u := U) rfl s166⟩, z1.moved (Vm.Alike.refl U.vm), z2.moved (Vm.Alike.refl U.vm)⟩
theorem tX.go {s U : State} (h : tX s) (hh : U.heap = s.heap) (hW : s.WarmedH U.vm) : tX U := by
  obtain ⟨c0, c1, c2, c3, c4, c5, ⟨a68, s68⟩, ⟨a75, s75⟩, ⟨a82, s82⟩, ⟨a88, s88⟩, ⟨a101, s101⟩, ⟨a105, s105⟩, ⟨a166, s166⟩, z1, z2⟩ := h
  exact ⟨va_Nw.warmC hW c0, va_Nw.warmC hW c1, va_Nw.warmC hW c2, va_Nw.warmD hW c3, va_Nw.warmD hW c4, va_Nw.warmD hW c5, ⟨a68, s68.warm hW⟩, ⟨a75, s75.warm hW⟩, ⟨a82, s82.warm hW⟩, ⟨a88, s88.warm hW⟩, ⟨a101, s101.warm hW⟩, ⟨a105, s105.warm hW⟩, ⟨a166, s166.warm hW⟩, by rw [hh]; exact z1.moved hW.alike, by rw [hh]; exact z2.moved hW.alike⟩
theorem tX.s68 {U : State} (h : tX U) : ∃ sa, vk_R RX3 68 "no such width or kind" sa U := h.2.2.2.2.2.2.1
theorem tX.s75 {U : State} (h : tX U) : ∃ sa, vk_R RX3 75 "the table is made or has four keys" sa U := h.2.2.2.2.2.2.2.1
theorem tX.s82 {U : State} (h : tX U) : ∃ sa, vk_R RX3 82 "the kind may not be with those that are there" sa U := h.2.2.2.2.2.2.2.2.1
theorem tX.s88 {U : State} (h : tX U) : ∃ sa, vk_R RX3 88 "the table is made or has no key" sa U := h.2.2.2.2.2.2.2.2.2.1
theorem tX.s101 {U : State} (h : tX U) : ∃ sa, vk_R RX3 101 "no such table" sa U := h.2.2.2.2.2.2.2.2.2.2.1
theorem tX.s105 {U : State} (h : tX U) : ∃ sa, vk_R RX3 105 "no such key" sa U := h.2.2.2.2.2.2.2.2.2.2.2.1
theorem tX.s166 {U : State} (h : tX U) : ∃ sa, vk_R RX3 166 "no table is made" sa U := h.2.2.2.2.2.2.2.2.2.2.2.2.1
def xP (D : va_G) (cl : List vw_C) (tys : List (ClassId × FieldType)) (w : va_W) (av : List Value) : Array Value → State → Prop := va_Pc av (fun U => va_P D cl w U.heap ∧ va_K D cl tys U ∧ tX U)
def xT (E0 : String) : String → State → State → Prop := fun E st t => E = E0 ∧ va_F (fun _ => False) st t
abbrev xQ : Array Value → State → Outcome → State → Prop := fun _ _ _ _ => False
section XB
variable {p : Program} {l : Launch} {e : Env} {R : Room} {s : State} {m : MethodId} {args : Array Value} {below : List Frame} {meth : Method} {c : Code} {H : Heap} {locs : List Loc} {cells slots : Nat} {Q : State → Prop}
variable {cc : ByteArray} {pc : Nat} {ls : Array Slot} {rest st0 : List Value} {D : va_G} {cl : List vw_C} {tys : List (ClassId × FieldType)}
theorem xP_blind {w : va_W} {av : List Value} : FrameBlind (xP D cl tys w av) := fun a U g mk q => ⟨q.1, q.2.1, va_K.moved (u := U) (U := U.calling g mk a) (Vm.Alike.refl U.vm) q.2.2.1, q.2.2.2.blind⟩
theorem xP_preV {w : va_W} {As : List Value} {C : String} {b : Addr} (hX : ∀ U : State, U.heap = H → s.WarmedH U.vm → tX U) (hP : va_P D cl w H) (hK : va_K D cl tys s) (hr : ∃ cell : Cell, H[b]? = some cell ∧ cell.vm.isStatics = false ∧ s.vm.findClass C = some cell.cls) : PreV s H C b (xP D cl tys w (.ref b :: As)) As :=
  ⟨xP_blind, hr, fun U hU hW => ⟨rfl, by rw [hU]; exact hP, va_K.moved hW.alike hK, hX U hU hW⟩⟩
/-- a call that always throws E0 -/
theorem x_call {E0 : String} {a : Array Value} (hr : vx_Run p l e R s m args below meth c H locs cells slots 1 6 (F0 m pc ls st0) rest (xQ a) (xT E0) (fun _ => False))
    (kx : ∀ (ce : Cell) (q9 : Addr) (H1 : Heap), H.size ≤ H1.size → (∀ q : Nat, q < H.size → H1[q]? = H[q]?) → H1[q9]? = some ce → ce.vm = .none → s.vm.findClass E0 = some ce.cls → vx_W p l e R s m args below meth c H1 locs (cells + 1) (slots + 6) Q (F0 m pc ls rest) q9) : W p l e R s m args below meth c H locs cells slots Q (F0 m pc ls st0) := by
  intro T hT X
  rcases hr T hT X with ⟨v, st₀, t, T', L, h0, X', hL, e1, e2, hq, st⟩ | ⟨q, st₀, t, T', L, E, ce, h0, X', hL, e1, e2, ⟨rfl, hz, hk⟩, hce, hcv, hcl, st⟩
  · exact absurd hq (fun z => z)
  · rw [h0] at hz hk
    obtain ⟨t2, a1, b1⟩ := kx ce q T'.heap (by rw [e1]; exact hz) (fun q h => by rw [e1]; exact hk q h (fun z => z)) (by rw [e1]; exact hce) hcv hcl T' rfl (Stand.forget X' (fun q h => (hL q h).elim))
    exact ⟨t2, st.trans a1, b1⟩
end XB
theorem hat_IAE : ∀ w ∈ (vx_atS RX3 70 "java/lang/IllegalArgumentException" ["java/lang/RuntimeException", "java/lang/Exception"]).filter goodWord, w ∈ wAll := fun w h => List.mem_filter.mpr ⟨(by decide +kernel : ∀ w ∈ (vx_atS RX3 70 "java/lang/IllegalArgumentException" ["java/lang/RuntimeException", "java/lang/Exception"]).filter goodWord, w ∈ lw_tbl) w h, (List.mem_filter.mp h).2⟩
set_option maxRecDepth 100000 in
theorem x_thr_IAE {p : Program} {l : Launch} {e : Env} {R : Room} {s : State} {m : MethodId} {args : Array Value} {below : List Frame} {meth : Method} {c : Code} {cc : ByteArray} {pc : Nat} {ls : Array Slot} {rest : List Value}
    (hx : p.tables.exec = Jvm.exec) (hb : c.code = cc) (hl9 : l.stackTraces = false) (hown : s.vm.findClass RX3 = some m.cls) (hts : ∀ w ∈ wAll, w.before args s = true) (hX : tX s) {is : Nat} {text : String} (hstr : ∃ sa, vk_R RX3 is text sa s) (hsize : ls.size = c.maxLocals)
    (d0 : decode cc pc = .ok (.new 66, 3)) (d3 : decode cc (pc + 3) = .ok (.dup, 1)) (d4 : decode cc (pc + 4) = .ok (.ldc is, 2)) (d6 : decode cc (pc + 6) = .ok (.invokespecial 70, 3)) (d9 : decode cc (pc + 9) = .ok (.athrow, 1))
    (hout : ∀ x ∈ c.exceptionTable.toList, False) (hRf : 5 < R.frames) (hRl : (rest.map fun v => v.category).sum + 82 ≤ R.locals) (hRc : 1 ≤ R.cells) (hRs : 6 ≤ R.slots) (hlocks : meth.locks = false) :
    W p l e R s m args below meth c s.heap [] 0 0 (vx_MQ below xQ (xT "java/lang/IllegalArgumentException") args s 1 6 (fun _ => False)) (F0 m pc ls rest) := by
  obtain ⟨sa, hstr⟩ := hstr
  have hXX := hX
  obtain ⟨c0, c1, c2, c3, c4, c5, -, -, -, -, -, -, -, z1, z2⟩ := hXX
  exact vx_throwS (own := RX3) (cls := "java/lang/IllegalArgumentException") (names := ["java/lang/RuntimeException", "java/lang/Exception"]) (A := fun _ => False) hx hb hl9 hown (by decide +kernel) (by decide +kernel) (hts _ mw195) (hts _ mw31) hstr
    (vx_hat (L := vx_atS RX3 70 "java/lang/IllegalArgumentException" ["java/lang/RuntimeException", "java/lang/Exception"]) (B := [.castable "java/lang/IllegalArgumentException" "java/lang/IllegalArgumentException", .declares ⟨"java/lang/RuntimeException", "<init>", "(Ljava/lang/String;)V"⟩, .declares ⟨"java/lang/Exception", "<init>", "(Ljava/lang/String;)V"⟩, .declares ⟨"java/lang/Throwable", "<init>", "(Ljava/lang/String;)V"⟩]) (fun w hw => hts w (hat_IAE w hw)) (by decide +kernel) (vx_c (va_Nw.use rfl c0) (vx_c (va_Nw.use rfl c3) (vx_c (va_Nw.use rfl c4) (vx_c (va_Nw.use rfl c5) (vx_n)))))) (by decide +kernel) z1 z2 va_S.rf hsize d0 d3 d4 d6 d9 (fun x hx9 => (hout x hx9).elim) hRf hRl hRc hRs hlocks
    (fun t ha hsz hk => ⟨rfl, hsz, fun q h _ => hk q h⟩) (fun _ h => nomatch h) (Nat.le_refl _) (Nat.le_refl _)
theorem hat_ISE : ∀ w ∈ (vx_atS RX3 77 "java/lang/IllegalStateException" ["java/lang/RuntimeException", "java/lang/Exception"]).filter goodWord, w ∈ wAll := fun w h => List.mem_filter.mpr ⟨(by decide +kernel : ∀ w ∈ (vx_atS RX3 77 "java/lang/IllegalStateException" ["java/lang/RuntimeException", "java/lang/Exception"]).filter goodWord, w ∈ lw_tbl) w h, (List.mem_filter.mp h).2⟩
set_option maxRecDepth 100000 in
theorem x_thr_ISE {p : Program} {l : Launch} {e : Env} {R : Room} {s : State} {m : MethodId} {args : Array Value} {below : List Frame} {meth : Method} {c : Code} {cc : ByteArray} {pc : Nat} {ls : Array Slot} {rest : List Value}
    (hx : p.tables.exec = Jvm.exec) (hb : c.code = cc) (hl9 : l.stackTraces = false) (hown : s.vm.findClass RX3 = some m.cls) (hts : ∀ w ∈ wAll, w.before args s = true) (hX : tX s) {is : Nat} {text : String} (hstr : ∃ sa, vk_R RX3 is text sa s) (hsize : ls.size = c.maxLocals)
    (d0 : decode cc pc = .ok (.new 73, 3)) (d3 : decode cc (pc + 3) = .ok (.dup, 1)) (d4 : decode cc (pc + 4) = .ok (.ldc is, 2)) (d6 : decode cc (pc + 6) = .ok (.invokespecial 77, 3)) (d9 : decode cc (pc + 9) = .ok (.athrow, 1))
    (hout : ∀ x ∈ c.exceptionTable.toList, False) (hRf : 5 < R.frames) (hRl : (rest.map fun v => v.category).sum + 82 ≤ R.locals) (hRc : 1 ≤ R.cells) (hRs : 6 ≤ R.slots) (hlocks : meth.locks = false) :
    W p l e R s m args below meth c s.heap [] 0 0 (vx_MQ below xQ (xT "java/lang/IllegalStateException") args s 1 6 (fun _ => False)) (F0 m pc ls rest) := by
  obtain ⟨sa, hstr⟩ := hstr
  have hXX := hX
  obtain ⟨c0, c1, c2, c3, c4, c5, -, -, -, -, -, -, -, z1, z2⟩ := hXX
  exact vx_throwS (own := RX3) (cls := "java/lang/IllegalStateException") (names := ["java/lang/RuntimeException", "java/lang/Exception"]) (A := fun _ => False) hx hb hl9 hown (by decide +kernel) (by decide +kernel) (hts _ mw263) (hts _ mw32) hstr
    (vx_hat (L := vx_atS RX3 77 "java/lang/IllegalStateException" ["java/lang/RuntimeException", "java/lang/Exception"]) (B := [.castable "java/lang/IllegalStateException" "java/lang/IllegalStateException", .declares ⟨"java/lang/RuntimeException", "<init>", "(Ljava/lang/String;)V"⟩, .declares ⟨"java/lang/Exception", "<init>", "(Ljava/lang/String;)V"⟩, .declares ⟨"java/lang/Throwable", "<init>", "(Ljava/lang/String;)V"⟩]) (fun w hw => hts w (hat_ISE w hw)) (by decide +kernel) (vx_c (va_Nw.use rfl c1) (vx_c (va_Nw.use rfl c3) (vx_c (va_Nw.use rfl c4) (vx_c (va_Nw.use rfl c5) (vx_n)))))) (by decide +kernel) z1 z2 va_S.rf hsize d0 d3 d4 d6 d9 (fun x hx9 => (hout x hx9).elim) hRf hRl hRc hRs hlocks
    (fun t ha hsz hk => ⟨rfl, hsz, fun q h _ => hk q h⟩) (fun _ h => nomatch h) (Nat.le_refl _) (Nat.le_refl _)
theorem hat_IOB : ∀ w ∈ (vx_atS RX3 107 "java/lang/IndexOutOfBoundsException" ["java/lang/RuntimeException", "java/lang/Exception"]).filter goodWord, w ∈ wAll := fun w h => List.mem_filter.mpr ⟨(by decide +kernel : ∀ w ∈ (vx_atS RX3 107 "java/lang/IndexOutOfBoundsException" ["java/lang/RuntimeException", "java/lang/Exception"]).filter goodWord, w ∈ lw_tbl) w h, (List.mem_filter.mp h).2⟩
set_option maxRecDepth 100000 in
theorem x_thr_IOB {p : Program} {l : Launch} {e : Env} {R : Room} {s : State} {m : MethodId} {args : Array Value} {below : List Frame} {meth : Method} {c : Code} {cc : ByteArray} {pc : Nat} {ls : Array Slot} {rest : List Value}
    (hx : p.tables.exec = Jvm.exec) (hb : c.code = cc) (hl9 : l.stackTraces = false) (hown : s.vm.findClass RX3 = some m.cls) (hts : ∀ w ∈ wAll, w.before args s = true) (hX : tX s) {is : Nat} {text : String} (hstr : ∃ sa, vk_R RX3 is text sa s) (hsize : ls.size = c.maxLocals)
    (d0 : decode cc pc = .ok (.new 103, 3)) (d3 : decode cc (pc + 3) = .ok (.dup, 1)) (d4 : decode cc (pc + 4) = .ok (.ldc is, 2)) (d6 : decode cc (pc + 6) = .ok (.invokespecial 107, 3)) (d9 : decode cc (pc + 9) = .ok (.athrow, 1))
    (hout : ∀ x ∈ c.exceptionTable.toList, False) (hRf : 5 < R.frames) (hRl : (rest.map fun v => v.category).sum + 82 ≤ R.locals) (hRc : 1 ≤ R.cells) (hRs : 6 ≤ R.slots) (hlocks : meth.locks = false) :
    W p l e R s m args below meth c s.heap [] 0 0 (vx_MQ below xQ (xT "java/lang/IndexOutOfBoundsException") args s 1 6 (fun _ => False)) (F0 m pc ls rest) := by
  obtain ⟨sa, hstr⟩ := hstr
  have hXX := hX
  obtain ⟨c0, c1, c2, c3, c4, c5, -, -, -, -, -, -, -, z1, z2⟩ := hXX
  exact vx_throwS (own := RX3) (cls := "java/lang/IndexOutOfBoundsException") (names := ["java/lang/RuntimeException", "java/lang/Exception"]) (A := fun _ => False) hx hb hl9 hown (by decide +kernel) (by decide +kernel) (hts _ mw327) (hts _ mw34) hstr
    (vx_hat (L := vx_atS RX3 107 "java/lang/IndexOutOfBoundsException" ["java/lang/RuntimeException", "java/lang/Exception"]) (B := [.castable "java/lang/IndexOutOfBoundsException" "java/lang/IndexOutOfBoundsException", .declares ⟨"java/lang/RuntimeException", "<init>", "(Ljava/lang/String;)V"⟩, .declares ⟨"java/lang/Exception", "<init>", "(Ljava/lang/String;)V"⟩, .declares ⟨"java/lang/Throwable", "<init>", "(Ljava/lang/String;)V"⟩]) (fun w hw => hts w (hat_IOB w hw)) (by decide +kernel) (vx_c (va_Nw.use rfl c2) (vx_c (va_Nw.use rfl c3) (vx_c (va_Nw.use rfl c4) (vx_c (va_Nw.use rfl c5) (vx_n)))))) (by decide +kernel) z1 z2 va_S.rf hsize d0 d3 d4 d6 d9 (fun x hx9 => (hout x hx9).elim) hRf hRl hRc hRs hlocks
    (fun t ha hsz hk => ⟨rfl, hsz, fun q h _ => hk q h⟩) (fun _ h => nomatch h) (Nat.le_refl _) (Nat.le_refl _)
end
section
/-! throws -/
set_option maxHeartbeats 4000000 in
set_option maxRecDepth 100000 in
/-- no table is made -/
theorem x_X3_requireTable (l : Launch) (hl9 : l.stackTraces = false) (dC : Nat → ClassId) (dI : Nat → Nat → Nat) (cI cL : ClassId) (h : Nat → Nat) (kinds : Nat → Int32) (ones : Nat → Int64) (kn : Nat) (av am : Nat → Int64) (vals msks : Nat → Int64) (pre pri act : Nat → Int32) (dat : Nat → Int64) (en : Nat) (held : Nat → Int32) (bn : Nat) (wy stt : Int32) (made hashed : Bool) (cap : Int32) (lat : Int64) (hm : made = false) : vx_Met l yX3_requireTable wsX3_requireTable ({ frames := 6, cells := 1, slots := 6, locals := 82 }) (xP (dC, dI) vwCl [(cI, .int), (cL, .long)] [(h 0, .inr (3, [.ref (h 1), .ref (h 2), .ref (h 3), .ref (h 4), .ref (h 5), .int (bI made), .int (bI hashed), .int cap, .long lat])), (h 1, .inr (2, [.ref (h 6), .ref (h 7), .int (nI kn)])), (h 2, .inr (1, [.ref (h 8), .ref (h 9), .ref (h 10), .ref (h 11), .ref (h 12), .ref (h 13), .int (nI en)])), (h 3, .inr (0, [.ref (h 14), .int (nI bn), .int wy, .int stt])), (h 4, .inl (cL, 4, .inr (.inl av))), (h 5, .inl (cL, 4, .inr (.inl am))), (h 6, .inl (cI, 4, .inl kinds)), (h 7, .inl (cL, 4, .inr (.inl ones))), (h 8, .inl (cL, 288, .inr (.inl vals))), (h 9, .inl (cL, 288, .inr (.inl msks))), (h 10, .inl (cI, 72, .inl pre)), (h 11, .inl (cI, 72, .inl pri)), (h 12, .inl (cI, 72, .inl act)), (h 13, .inl (cL, 72, .inr (.inl dat))), (h 14, .inl (cI, 16, .inl held))] [.ref (h 0)]) xQ (xT "java/lang/IllegalStateException") 1 6 (fun _ => False) := by
  refine vx_ofW (cc := cX3_requireTable) (maxL := 1) (ret := none) (by decide) rfl ?_
  intro p e s m args below meth c s₁ B hml hTb hv
  obtain ⟨rfl, hP, hK, hX⟩ := hv
  have hx := B.exec
  have hb := B.bytes
  have hr := B.returns
  have hts := fun w h => atoms_spec (ws := wsX3_requireTable) B.pre w (List.mem_cons_of_mem _ h)
  have hown : s.vm.findClass RX3 = some m.cls := findClass_of_methodNamed B.named
  have hlocks := B.notSynchronized
  have hl := lv_entry ([.ref (h 0)]) (n := 1) (Nat.le_of_ble_eq_true rfl)
  rw [lg_entry_eq]
  generalize (lg_sl ([.ref (h 0)]) ++ List.replicate (1 - (lg_sl ([.ref (h 0)])).length) Slot.unset).toArray = ls at hl ⊢
  have hl : lv_has ls 1 [(0, .ref (h 0))] := hl
  refine lv_aload_n hx hb dX3_requireTable_0 rfl (lv_at hl 0 rfl) ?_
  refine va_get (D := (dC, dI)) (ci := 3) (v := .int (bI made)) (C := RX3) (T := TX3) (N := 9) hx hb hts inX3 hown hK hP 0 rfl rfl 5 (by decide) (hts _ mw125) (fun _ h9 => h9) rfl dX3_requireTable_1 ?_
  refine lv_if_ne (tgt := 17) hx hb dX3_requireTable_4 (by decide) (fun c4 => absurd (by rw [hm]; rfl) c4) (fun c4 => ?_)
  exact x_thr_ISE hx hb hl9 hown hts hX hX.s166 (hl.1.trans hml.symm) dX3_requireTable_7 dX3_requireTable_10 dX3_requireTable_11 dX3_requireTable_13 dX3_requireTable_16 hTb (Nat.le_of_ble_eq_true rfl) (Nat.le_of_ble_eq_true rfl) (Nat.le_refl _) (Nat.le_refl _) hlocks

set_option maxHeartbeats 4000000 in
set_option maxRecDepth 100000 in
/-- key: no such width or kind -/
theorem x_X3_key_1 (l : Launch) (hl9 : l.stackTraces = false) (dC : Nat → ClassId) (dI : Nat → Nat → Nat) (cI cL : ClassId) (h : Nat → Nat) (kinds : Nat → Int32) (ones : Nat → Int64) (kn : Nat) (av am : Nat → Int64) (vals msks : Nat → Int64) (pre pri act : Nat → Int32) (dat : Nat → Int64) (en : Nat) (held : Nat → Int32) (bn : Nat) (wy stt : Int32) (made hashed : Bool) (cap : Int32) (lat : Int64) (w kind : Int32) (h1 : w < 1 ∨ 64 < w ∨ kind < 0 ∨ 2 < kind) : vx_Met l yX3_key wsX3_key ({ frames := 7, cells := 1, slots := 6, locals := 110 }) (xP (dC, dI) vwCl [(cI, .int), (cL, .long)] [(h 0, .inr (3, [.ref (h 1), .ref (h 2), .ref (h 3), .ref (h 4), .ref (h 5), .int (bI made), .int (bI hashed), .int cap, .long lat])), (h 1, .inr (2, [.ref (h 6), .ref (h 7), .int (nI kn)])), (h 2, .inr (1, [.ref (h 8), .ref (h 9), .ref (h 10), .ref (h 11), .ref (h 12), .ref (h 13), .int (nI en)])), (h 3, .inr (0, [.ref (h 14), .int (nI bn), .int wy, .int stt])), (h 4, .inl (cL, 4, .inr (.inl av))), (h 5, .inl (cL, 4, .inr (.inl am))), (h 6, .inl (cI, 4, .inl kinds)), (h 7, .inl (cL, 4, .inr (.inl ones))), (h 8, .inl (cL, 288, .inr (.inl vals))), (h 9, .inl (cL, 288, .inr (.inl msks))), (h 10, .inl (cI, 72, .inl pre)), (h 11, .inl (cI, 72, .inl pri)), (h 12, .inl (cI, 72, .inl act)), (h 13, .inl (cL, 72, .inr (.inl dat))), (h 14, .inl (cI, 16, .inl held))] [.ref (h 0), .int w, .int kind]) xQ (xT "java/lang/IllegalArgumentException") 1 6 (fun _ => False) := by
  refine vx_ofW (cc := cX3_key) (maxL := 3) (ret := some .int) (by decide) rfl ?_
  intro p e s m args below meth c s₁ B hml hTb hv
  obtain ⟨rfl, hP, hK, hX⟩ := hv
  have hx := B.exec
  have hb := B.bytes
  have hr := B.returns
  have hts := fun w h => atoms_spec (ws := wsX3_key) B.pre w (List.mem_cons_of_mem _ h)
  have hown : s.vm.findClass RX3 = some m.cls := findClass_of_methodNamed B.named
  have hlocks := B.notSynchronized
  have hl := lv_entry ([.ref (h 0), .int w, .int kind]) (n := 3) (Nat.le_of_ble_eq_true rfl)
  rw [lg_entry_eq]
  generalize (lg_sl ([.ref (h 0), .int w, .int kind]) ++ List.replicate (3 - (lg_sl ([.ref (h 0), .int w, .int kind])).length) Slot.unset).toArray = ls at hl ⊢
  have hl : lv_has ls 3 [(0, .ref (h 0)), (1, .int w), (2, .int kind)] := hl
  refine lv_iload_n hx hb dX3_key_0 rfl (lv_at hl 1 rfl) ?_
  refine lv_iconst (v := 1) hx hb dX3_key_1 (by decide) ?_
  refine lv_icmp_lt (tgt := 20) hx hb dX3_key_2 (by decide) (fun c2 => ?_) (fun c2 => ?_)
  · exact x_thr_IAE hx hb hl9 hown hts hX hX.s68 (hl.1.trans hml.symm) dX3_key_20 dX3_key_23 dX3_key_24 dX3_key_26 dX3_key_29 hTb (Nat.le_of_ble_eq_true rfl) (Nat.le_of_ble_eq_true rfl) (Nat.le_refl _) (Nat.le_refl _) hlocks
  · refine lv_iload_n hx hb dX3_key_5 rfl (lv_at hl 1 rfl) ?_
    refine lv_bipush (v := 64) hx hb dX3_key_6 (by decide) ?_
    refine lv_icmp_gt (tgt := 20) hx hb dX3_key_8 (by decide) (fun c8 => ?_) (fun c8 => ?_)
    · exact x_thr_IAE hx hb hl9 hown hts hX hX.s68 (hl.1.trans hml.symm) dX3_key_20 dX3_key_23 dX3_key_24 dX3_key_26 dX3_key_29 hTb (Nat.le_of_ble_eq_true rfl) (Nat.le_of_ble_eq_true rfl) (Nat.le_refl _) (Nat.le_refl _) hlocks
    · refine lv_iload_n hx hb dX3_key_11 rfl (lv_at hl 2 rfl) ?_
      refine lv_if_lt (tgt := 20) hx hb dX3_key_12 (by decide) (fun c12 => ?_) (fun c12 => ?_)
      · exact x_thr_IAE hx hb hl9 hown hts hX hX.s68 (hl.1.trans hml.symm) dX3_key_20 dX3_key_23 dX3_key_24 dX3_key_26 dX3_key_29 hTb (Nat.le_of_ble_eq_true rfl) (Nat.le_of_ble_eq_true rfl) (Nat.le_refl _) (Nat.le_refl _) hlocks
      · refine lv_iload_n hx hb dX3_key_15 rfl (lv_at hl 2 rfl) ?_
        refine lv_iconst (v := 2) hx hb dX3_key_16 (by decide) ?_
        refine lv_icmp_le (tgt := 30) hx hb dX3_key_17 (by decide) (fun c17 => ?_) (fun c17 => ?_)
        · exact absurd h1 (fun z => z.elim c2 (fun z => z.elim c8 (fun z => z.elim c12 (fun z => absurd c17 (Int32.not_le.mpr z)))))
        · exact x_thr_IAE hx hb hl9 hown hts hX hX.s68 (hl.1.trans hml.symm) dX3_key_20 dX3_key_23 dX3_key_24 dX3_key_26 dX3_key_29 hTb (Nat.le_of_ble_eq_true rfl) (Nat.le_of_ble_eq_true rfl) (Nat.le_refl _) (Nat.le_refl _) hlocks

set_option maxHeartbeats 4000000 in
set_option maxRecDepth 100000 in
/-- key: made, or four keys -/
theorem x_X3_key_2 (l : Launch) (hl9 : l.stackTraces = false) (dC : Nat → ClassId) (dI : Nat → Nat → Nat) (cI cL : ClassId) (h : Nat → Nat) (kinds : Nat → Int32) (ones : Nat → Int64) (kn : Nat) (av am : Nat → Int64) (vals msks : Nat → Int64) (pre pri act : Nat → Int32) (dat : Nat → Int64) (en : Nat) (held : Nat → Int32) (bn : Nat) (wy stt : Int32) (made hashed : Bool) (cap : Int32) (lat : Int64) (w kind : Int32) (h1 : ¬ w < 1) (h2 : ¬ 64 < w) (h3 : ¬ kind < 0) (h4 : kind ≤ 2) (h5 : made = true ∨ nI 4 ≤ nI kn) : vx_Met l yX3_key wsX3_key ({ frames := 7, cells := 1, slots := 6, locals := 110 }) (xP (dC, dI) vwCl [(cI, .int), (cL, .long)] [(h 0, .inr (3, [.ref (h 1), .ref (h 2), .ref (h 3), .ref (h 4), .ref (h 5), .int (bI made), .int (bI hashed), .int cap, .long lat])), (h 1, .inr (2, [.ref (h 6), .ref (h 7), .int (nI kn)])), (h 2, .inr (1, [.ref (h 8), .ref (h 9), .ref (h 10), .ref (h 11), .ref (h 12), .ref (h 13), .int (nI en)])), (h 3, .inr (0, [.ref (h 14), .int (nI bn), .int wy, .int stt])), (h 4, .inl (cL, 4, .inr (.inl av))), (h 5, .inl (cL, 4, .inr (.inl am))), (h 6, .inl (cI, 4, .inl kinds)), (h 7, .inl (cL, 4, .inr (.inl ones))), (h 8, .inl (cL, 288, .inr (.inl vals))), (h 9, .inl (cL, 288, .inr (.inl msks))), (h 10, .inl (cI, 72, .inl pre)), (h 11, .inl (cI, 72, .inl pri)), (h 12, .inl (cI, 72, .inl act)), (h 13, .inl (cL, 72, .inr (.inl dat))), (h 14, .inl (cI, 16, .inl held))] [.ref (h 0), .int w, .int kind]) xQ (xT "java/lang/IllegalStateException") 1 6 (fun _ => False) := by
  refine vx_ofW (cc := cX3_key) (maxL := 3) (ret := some .int) (by decide) rfl ?_
  intro p e s m args below meth c s₁ B hml hTb hv
  obtain ⟨rfl, hP, hK, hX⟩ := hv
  have hx := B.exec
  have hb := B.bytes
  have hr := B.returns
  have hts := fun w h => atoms_spec (ws := wsX3_key) B.pre w (List.mem_cons_of_mem _ h)
  have hown : s.vm.findClass RX3 = some m.cls := findClass_of_methodNamed B.named
  have hlocks := B.notSynchronized
  have hl := lv_entry ([.ref (h 0), .int w, .int kind]) (n := 3) (Nat.le_of_ble_eq_true rfl)
  rw [lg_entry_eq]
  generalize (lg_sl ([.ref (h 0), .int w, .int kind]) ++ List.replicate (3 - (lg_sl ([.ref (h 0), .int w, .int kind])).length) Slot.unset).toArray = ls at hl ⊢
  have hl : lv_has ls 3 [(0, .ref (h 0)), (1, .int w), (2, .int kind)] := hl
  refine lv_iload_n hx hb dX3_key_0 rfl (lv_at hl 1 rfl) ?_
  refine lv_iconst (v := 1) hx hb dX3_key_1 (by decide) ?_
  refine lv_icmp_lt (tgt := 20) hx hb dX3_key_2 (by decide) (fun c2 => absurd c2 h1) (fun c2 => ?_)
  refine lv_iload_n hx hb dX3_key_5 rfl (lv_at hl 1 rfl) ?_
  refine lv_bipush (v := 64) hx hb dX3_key_6 (by decide) ?_
  refine lv_icmp_gt (tgt := 20) hx hb dX3_key_8 (by decide) (fun c8 => absurd c8 h2) (fun c8 => ?_)
  refine lv_iload_n hx hb dX3_key_11 rfl (lv_at hl 2 rfl) ?_
  refine lv_if_lt (tgt := 20) hx hb dX3_key_12 (by decide) (fun c12 => absurd c12 h3) (fun c12 => ?_)
  refine lv_iload_n hx hb dX3_key_15 rfl (lv_at hl 2 rfl) ?_
  refine lv_iconst (v := 2) hx hb dX3_key_16 (by decide) ?_
  refine lv_icmp_le (tgt := 30) hx hb dX3_key_17 (by decide) (fun c17 => ?_) (fun c17 => absurd h4 c17)
  refine lv_aload_n hx hb dX3_key_30 rfl (lv_at hl 0 rfl) ?_
  refine va_get (D := (dC, dI)) (ci := 3) (v := .int (bI made)) (C := RX3) (T := TX3) (N := 9) hx hb hts inX3 hown hK hP 0 rfl rfl 5 (by decide) (hts _ mw125) (fun _ h9 => h9) rfl dX3_key_31 ?_
  refine lv_if_ne (tgt := 48) hx hb dX3_key_34 (by decide) (fun c34 => ?_) (fun c34 => ?_)
  · exact x_thr_ISE hx hb hl9 hown hts hX hX.s75 (hl.1.trans hml.symm) dX3_key_48 dX3_key_51 dX3_key_52 dX3_key_54 dX3_key_57 hTb (Nat.le_of_ble_eq_true rfl) (Nat.le_of_ble_eq_true rfl) (Nat.le_refl _) (Nat.le_refl _) hlocks
  · refine lv_aload_n hx hb dX3_key_37 rfl (lv_at hl 0 rfl) ?_
    refine va_get (D := (dC, dI)) (ci := 3) (v := .ref (h 1)) (C := RX3) (T := TX3) (N := 9) hx hb hts inX3 hown hK hP 0 rfl rfl 0 (by decide) (hts _ mw120) (fun _ h9 => h9) rfl dX3_key_38 ?_
    refine va_get (D := (dC, dI)) (ci := 2) (v := .int (nI kn)) (C := RX2) (T := TX2) (N := 3) hx hb hts inX2 hown hK hP 1 rfl rfl 2 (by decide) (hts _ mw56) (fun _ h9 => h9) rfl dX3_key_41 ?_
    refine lv_iconst (v := 4) hx hb dX3_key_44 (by decide) ?_
    refine lv_icmp_lt (tgt := 58) hx hb dX3_key_45 (by decide) (fun c45 => ?_) (fun c45 => ?_)
    · exact absurd h5 (fun z => z.elim (fun z => absurd c34 (by rw [z]; decide)) (fun z => absurd c45 (Int32.not_lt.mpr z)))
    · exact x_thr_ISE hx hb hl9 hown hts hX hX.s75 (hl.1.trans hml.symm) dX3_key_48 dX3_key_51 dX3_key_52 dX3_key_54 dX3_key_57 hTb (Nat.le_of_ble_eq_true rfl) (Nat.le_of_ble_eq_true rfl) (Nat.le_refl _) (Nat.le_refl _) hlocks

set_option maxHeartbeats 4000000 in
set_option maxRecDepth 100000 in
/-- key: a kind that may not be -/
theorem x_X3_key_3 (l : Launch) (hl9 : l.stackTraces = false) (dC : Nat → ClassId) (dI : Nat → Nat → Nat) (cI cL : ClassId) (h : Nat → Nat) (kinds : Nat → Int32) (ones : Nat → Int64) (kn : Nat) (av am : Nat → Int64) (vals msks : Nat → Int64) (pre pri act : Nat → Int32) (dat : Nat → Int64) (en : Nat) (held : Nat → Int32) (bn : Nat) (wy stt : Int32) (made hashed : Bool) (cap : Int32) (lat : Int64) (w kind : Int32) (h1 : ¬ w < 1) (h2 : ¬ 64 < w) (h3 : ¬ kind < 0) (h4 : kind ≤ 2) (hm : made = false) (hk : kn < 4) (h5 : kAllow kinds kn kind = false) : vx_Met l yX3_key wsX3_key ({ frames := 7, cells := 1, slots := 6, locals := 110 }) (xP (dC, dI) vwCl [(cI, .int), (cL, .long)] [(h 0, .inr (3, [.ref (h 1), .ref (h 2), .ref (h 3), .ref (h 4), .ref (h 5), .int (bI made), .int (bI hashed), .int cap, .long lat])), (h 1, .inr (2, [.ref (h 6), .ref (h 7), .int (nI kn)])), (h 2, .inr (1, [.ref (h 8), .ref (h 9), .ref (h 10), .ref (h 11), .ref (h 12), .ref (h 13), .int (nI en)])), (h 3, .inr (0, [.ref (h 14), .int (nI bn), .int wy, .int stt])), (h 4, .inl (cL, 4, .inr (.inl av))), (h 5, .inl (cL, 4, .inr (.inl am))), (h 6, .inl (cI, 4, .inl kinds)), (h 7, .inl (cL, 4, .inr (.inl ones))), (h 8, .inl (cL, 288, .inr (.inl vals))), (h 9, .inl (cL, 288, .inr (.inl msks))), (h 10, .inl (cI, 72, .inl pre)), (h 11, .inl (cI, 72, .inl pri)), (h 12, .inl (cI, 72, .inl act)), (h 13, .inl (cL, 72, .inr (.inl dat))), (h 14, .inl (cI, 16, .inl held))] [.ref (h 0), .int w, .int kind]) xQ (xT "java/lang/IllegalArgumentException") 1 6 (fun _ => False) := by
  refine vx_ofW (cc := cX3_key) (maxL := 3) (ret := some .int) (by decide) rfl ?_
  intro p e s m args below meth c s₁ B hml hTb hv
  obtain ⟨rfl, hP, hK, hX⟩ := hv
  have hx := B.exec
  have hb := B.bytes
  have hr := B.returns
  have hts := fun w h => atoms_spec (ws := wsX3_key) B.pre w (List.mem_cons_of_mem _ h)
  have hown : s.vm.findClass RX3 = some m.cls := findClass_of_methodNamed B.named
  have hlocks := B.notSynchronized
  have hl := lv_entry ([.ref (h 0), .int w, .int kind]) (n := 3) (Nat.le_of_ble_eq_true rfl)
  rw [lg_entry_eq]
  generalize (lg_sl ([.ref (h 0), .int w, .int kind]) ++ List.replicate (3 - (lg_sl ([.ref (h 0), .int w, .int kind])).length) Slot.unset).toArray = ls at hl ⊢
  have hl : lv_has ls 3 [(0, .ref (h 0)), (1, .int w), (2, .int kind)] := hl
  refine lv_iload_n hx hb dX3_key_0 rfl (lv_at hl 1 rfl) ?_
  refine lv_iconst (v := 1) hx hb dX3_key_1 (by decide) ?_
  refine lv_icmp_lt (tgt := 20) hx hb dX3_key_2 (by decide) (fun c2 => absurd c2 h1) (fun c2 => ?_)
  refine lv_iload_n hx hb dX3_key_5 rfl (lv_at hl 1 rfl) ?_
  refine lv_bipush (v := 64) hx hb dX3_key_6 (by decide) ?_
  refine lv_icmp_gt (tgt := 20) hx hb dX3_key_8 (by decide) (fun c8 => absurd c8 h2) (fun c8 => ?_)
  refine lv_iload_n hx hb dX3_key_11 rfl (lv_at hl 2 rfl) ?_
  refine lv_if_lt (tgt := 20) hx hb dX3_key_12 (by decide) (fun c12 => absurd c12 h3) (fun c12 => ?_)
  refine lv_iload_n hx hb dX3_key_15 rfl (lv_at hl 2 rfl) ?_
  refine lv_iconst (v := 2) hx hb dX3_key_16 (by decide) ?_
  refine lv_icmp_le (tgt := 30) hx hb dX3_key_17 (by decide) (fun c17 => ?_) (fun c17 => absurd h4 c17)
  refine lv_aload_n hx hb dX3_key_30 rfl (lv_at hl 0 rfl) ?_
  refine va_get (D := (dC, dI)) (ci := 3) (v := .int (bI made)) (C := RX3) (T := TX3) (N := 9) hx hb hts inX3 hown hK hP 0 rfl rfl 5 (by decide) (hts _ mw125) (fun _ h9 => h9) rfl dX3_key_31 ?_
  refine lv_if_ne (tgt := 48) hx hb dX3_key_34 (by decide) (fun c34 => absurd (by rw [hm]; rfl) c34) (fun c34 => ?_)
  refine lv_aload_n hx hb dX3_key_37 rfl (lv_at hl 0 rfl) ?_
  refine va_get (D := (dC, dI)) (ci := 3) (v := .ref (h 1)) (C := RX3) (T := TX3) (N := 9) hx hb hts inX3 hown hK hP 0 rfl rfl 0 (by decide) (hts _ mw120) (fun _ h9 => h9) rfl dX3_key_38 ?_
  refine va_get (D := (dC, dI)) (ci := 2) (v := .int (nI kn)) (C := RX2) (T := TX2) (N := 3) hx hb hts inX2 hown hK hP 1 rfl rfl 2 (by decide) (hts _ mw56) (fun _ h9 => h9) rfl dX3_key_41 ?_
  refine lv_iconst (v := 4) hx hb dX3_key_44 (by decide) ?_
  refine lv_icmp_lt (tgt := 58) hx hb dX3_key_45 (by decide) (fun c45 => ?_) (fun c45 => absurd ((nI_ltI (by omega) (by decide)).mpr hk : nI kn < nI 4) c45)
  refine lv_aload_n hx hb dX3_key_58 rfl (lv_at hl 0 rfl) ?_
  refine va_get (D := (dC, dI)) (ci := 3) (v := .ref (h 1)) (C := RX3) (T := TX3) (N := 9) hx hb hts inX3 hown hK hP 0 rfl rfl 0 (by decide) (hts _ mw120) (fun _ h9 => h9) rfl dX3_key_59 ?_
  refine lv_iload_n hx hb dX3_key_62 rfl (lv_at hl 2 rfl) ?_
  refine rd_calli (r := (bI (kAllow kinds kn kind))) (va_runV (As := [.int kind]) (rest := []) ⟨hx, hb, hml, hown, hts⟩ (c_X2_allow l dC dI cI cL (h 1) (h 6) (h 7) kinds ones kn kind (by omega)) (cwV 1 hts (gV mw279 mw280 mw281 mw23 mw282) rfl rfl rfl (by decide +kernel) ⟨Nat.le_of_ble_eq_true rfl, Nat.le_of_ble_eq_true rfl⟩) (rd_preV (hP.sub (ws' := [(h 1, .inr (2, [.ref (h 6), .ref (h 7), .int (nI kn)])), (h 6, .inl (cI, 4, .inl kinds)), (h 7, .inl (cL, 4, .inr (.inl ones)))]) [1, 6, 7] rfl) hK (va_recv (ci := 2) hK hP rfl (q0 := 1) rfl)) rfl rfl hl.1 rfl (lv_room (Nat.le_of_ble_eq_true rfl)) dX3_key_63 ⟨Nat.zero_le _, Nat.zero_le _⟩) ?_
  refine lv_if_ne (tgt := 79) hx hb dX3_key_66 (by decide) (fun c66 => absurd (by rw [h5]; rfl) c66) (fun c66 => ?_)
  exact x_thr_IAE hx hb hl9 hown hts hX hX.s82 (hl.1.trans hml.symm) dX3_key_69 dX3_key_72 dX3_key_73 dX3_key_75 dX3_key_78 hTb (Nat.le_of_ble_eq_true rfl) (Nat.le_of_ble_eq_true rfl) (Nat.le_refl _) (Nat.le_refl _) hlocks

set_option maxHeartbeats 4000000 in
set_option maxRecDepth 100000 in
/-- make: made, or no key -/
theorem x_X3_make_2 (l : Launch) (hl9 : l.stackTraces = false) (dC : Nat → ClassId) (dI : Nat → Nat → Nat) (cI cL : ClassId) (h : Nat → Nat) (kinds : Nat → Int32) (ones : Nat → Int64) (kn : Nat) (av am : Nat → Int64) (vals msks : Nat → Int64) (pre pri act : Nat → Int32) (dat : Nat → Int64) (en : Nat) (held : Nat → Int32) (bn : Nat) (wy stt : Int32) (made hashed : Bool) (cap : Int32) (lat : Int64) (n w t : Int32) (h1 : made = true ∨ kn = 0) : vx_Met l yX3_make wsX3_make ({ frames := 7, cells := 1, slots := 6, locals := 110 }) (xP (dC, dI) vwCl [(cI, .int), (cL, .long)] [(h 0, .inr (3, [.ref (h 1), .ref (h 2), .ref (h 3), .ref (h 4), .ref (h 5), .int (bI made), .int (bI hashed), .int cap, .long lat])), (h 1, .inr (2, [.ref (h 6), .ref (h 7), .int (nI kn)])), (h 2, .inr (1, [.ref (h 8), .ref (h 9), .ref (h 10), .ref (h 11), .ref (h 12), .ref (h 13), .int (nI en)])), (h 3, .inr (0, [.ref (h 14), .int (nI bn), .int wy, .int stt])), (h 4, .inl (cL, 4, .inr (.inl av))), (h 5, .inl (cL, 4, .inr (.inl am))), (h 6, .inl (cI, 4, .inl kinds)), (h 7, .inl (cL, 4, .inr (.inl ones))), (h 8, .inl (cL, 288, .inr (.inl vals))), (h 9, .inl (cL, 288, .inr (.inl msks))), (h 10, .inl (cI, 72, .inl pre)), (h 11, .inl (cI, 72, .inl pri)), (h 12, .inl (cI, 72, .inl act)), (h 13, .inl (cL, 72, .inr (.inl dat))), (h 14, .inl (cI, 16, .inl held))] [.ref (h 0), .int n, .int w, .int t]) xQ (xT "java/lang/IllegalStateException") 1 6 (fun _ => False) := by
  refine vx_ofW (cc := cX3_make) (maxL := 5) (ret := none) (by decide) rfl ?_
  intro p e s m args below meth c s₁ B hml hTb hv
  obtain ⟨rfl, hP, hK, hX⟩ := hv
  have hx := B.exec
  have hb := B.bytes
  have hr := B.returns
  have hts := fun w h => atoms_spec (ws := wsX3_make) B.pre w (List.mem_cons_of_mem _ h)
  have hown : s.vm.findClass RX3 = some m.cls := findClass_of_methodNamed B.named
  have hlocks := B.notSynchronized
  have hl := lv_entry ([.ref (h 0), .int n, .int w, .int t]) (n := 5) (Nat.le_of_ble_eq_true rfl)
  rw [lg_entry_eq]
  generalize (lg_sl ([.ref (h 0), .int n, .int w, .int t]) ++ List.replicate (5 - (lg_sl ([.ref (h 0), .int n, .int w, .int t])).length) Slot.unset).toArray = ls at hl ⊢
  have hl : lv_has ls 5 [(0, .ref (h 0)), (1, .int n), (2, .int w), (3, .int t)] := hl
  refine lv_aload_n hx hb dX3_make_0 rfl (lv_at hl 0 rfl) ?_
  refine va_get (D := (dC, dI)) (ci := 3) (v := .int (bI made)) (C := RX3) (T := TX3) (N := 9) hx hb hts inX3 hown hK hP 0 rfl rfl 5 (by decide) (hts _ mw125) (fun _ h9 => h9) rfl dX3_make_1 ?_
  refine lv_if_ne (tgt := 17) hx hb dX3_make_4 (by decide) (fun c4 => ?_) (fun c4 => ?_)
  · exact x_thr_ISE hx hb hl9 hown hts hX hX.s88 (hl.1.trans hml.symm) dX3_make_17 dX3_make_20 dX3_make_21 dX3_make_23 dX3_make_26 hTb (Nat.le_of_ble_eq_true rfl) (Nat.le_of_ble_eq_true rfl) (Nat.le_refl _) (Nat.le_refl _) hlocks
  · refine lv_aload_n hx hb dX3_make_7 rfl (lv_at hl 0 rfl) ?_
    refine va_get (D := (dC, dI)) (ci := 3) (v := .ref (h 1)) (C := RX3) (T := TX3) (N := 9) hx hb hts inX3 hown hK hP 0 rfl rfl 0 (by decide) (hts _ mw120) (fun _ h9 => h9) rfl dX3_make_8 ?_
    refine va_get (D := (dC, dI)) (ci := 2) (v := .int (nI kn)) (C := RX2) (T := TX2) (N := 3) hx hb hts inX2 hown hK hP 1 rfl rfl 2 (by decide) (hts _ mw56) (fun _ h9 => h9) rfl dX3_make_11 ?_
    refine lv_if_ne (tgt := 27) hx hb dX3_make_14 (by decide) (fun c14 => ?_) (fun c14 => ?_)
    · exact absurd h1 (fun z => z.elim (fun z => absurd c4 (by rw [z]; decide)) (fun z => absurd (by rw [z]; rfl) c14))
    · exact x_thr_ISE hx hb hl9 hown hts hX hX.s88 (hl.1.trans hml.symm) dX3_make_17 dX3_make_20 dX3_make_21 dX3_make_23 dX3_make_26 hTb (Nat.le_of_ble_eq_true rfl) (Nat.le_of_ble_eq_true rfl) (Nat.le_refl _) (Nat.le_refl _) hlocks

set_option maxHeartbeats 4000000 in
set_option maxRecDepth 100000 in
/-- make: no such table -/
theorem x_X3_make_1 (l : Launch) (hl9 : l.stackTraces = false) (dC : Nat → ClassId) (dI : Nat → Nat → Nat) (cI cL : ClassId) (h : Nat → Nat) (kinds : Nat → Int32) (ones : Nat → Int64) (kn : Nat) (av am : Nat → Int64) (vals msks : Nat → Int64) (pre pri act : Nat → Int32) (dat : Nat → Int64) (en : Nat) (held : Nat → Int32) (bn : Nat) (wy stt : Int32) (made hashed : Bool) (cap : Int32) (lat : Int64) (n w t : Int32) (hm : made = false) (h0 : 0 < kn) (hk : kn ≤ 4) (h1 : (if kExact kinds kn then hShape n w t else lShape n) = false) : vx_Met l yX3_make wsX3_make ({ frames := 7, cells := 1, slots := 6, locals := 110 }) (xP (dC, dI) vwCl [(cI, .int), (cL, .long)] [(h 0, .inr (3, [.ref (h 1), .ref (h 2), .ref (h 3), .ref (h 4), .ref (h 5), .int (bI made), .int (bI hashed), .int cap, .long lat])), (h 1, .inr (2, [.ref (h 6), .ref (h 7), .int (nI kn)])), (h 2, .inr (1, [.ref (h 8), .ref (h 9), .ref (h 10), .ref (h 11), .ref (h 12), .ref (h 13), .int (nI en)])), (h 3, .inr (0, [.ref (h 14), .int (nI bn), .int wy, .int stt])), (h 4, .inl (cL, 4, .inr (.inl av))), (h 5, .inl (cL, 4, .inr (.inl am))), (h 6, .inl (cI, 4, .inl kinds)), (h 7, .inl (cL, 4, .inr (.inl ones))), (h 8, .inl (cL, 288, .inr (.inl vals))), (h 9, .inl (cL, 288, .inr (.inl msks))), (h 10, .inl (cI, 72, .inl pre)), (h 11, .inl (cI, 72, .inl pri)), (h 12, .inl (cI, 72, .inl act)), (h 13, .inl (cL, 72, .inr (.inl dat))), (h 14, .inl (cI, 16, .inl held))] [.ref (h 0), .int n, .int w, .int t]) xQ (xT "java/lang/IllegalArgumentException") 1 6 (fun _ => False) := by
  refine vx_ofW (cc := cX3_make) (maxL := 5) (ret := none) (by decide) rfl ?_
  intro p e s m args below meth c s₁ B hml hTb hv
  obtain ⟨rfl, hP, hK, hX⟩ := hv
  have hx := B.exec
  have hb := B.bytes
  have hr := B.returns
  have hts := fun w h => atoms_spec (ws := wsX3_make) B.pre w (List.mem_cons_of_mem _ h)
  have hown : s.vm.findClass RX3 = some m.cls := findClass_of_methodNamed B.named
  have hlocks := B.notSynchronized
  have hl := lv_entry ([.ref (h 0), .int n, .int w, .int t]) (n := 5) (Nat.le_of_ble_eq_true rfl)
  rw [lg_entry_eq]
  generalize (lg_sl ([.ref (h 0), .int n, .int w, .int t]) ++ List.replicate (5 - (lg_sl ([.ref (h 0), .int n, .int w, .int t])).length) Slot.unset).toArray = ls at hl ⊢
  have hl : lv_has ls 5 [(0, .ref (h 0)), (1, .int n), (2, .int w), (3, .int t)] := hl
  refine lv_aload_n hx hb dX3_make_0 rfl (lv_at hl 0 rfl) ?_
  refine va_get (D := (dC, dI)) (ci := 3) (v := .int (bI made)) (C := RX3) (T := TX3) (N := 9) hx hb hts inX3 hown hK hP 0 rfl rfl 5 (by decide) (hts _ mw125) (fun _ h9 => h9) rfl dX3_make_1 ?_
  refine lv_if_ne (tgt := 17) hx hb dX3_make_4 (by decide) (fun c4 => absurd (by rw [hm]; rfl) c4) (fun c4 => ?_)
  refine lv_aload_n hx hb dX3_make_7 rfl (lv_at hl 0 rfl) ?_
  refine va_get (D := (dC, dI)) (ci := 3) (v := .ref (h 1)) (C := RX3) (T := TX3) (N := 9) hx hb hts inX3 hown hK hP 0 rfl rfl 0 (by decide) (hts _ mw120) (fun _ h9 => h9) rfl dX3_make_8 ?_
  refine va_get (D := (dC, dI)) (ci := 2) (v := .int (nI kn)) (C := RX2) (T := TX2) (N := 3) hx hb hts inX2 hown hK hP 1 rfl rfl 2 (by decide) (hts _ mw56) (fun _ h9 => h9) rfl dX3_make_11 ?_
  refine lv_if_ne (tgt := 27) hx hb dX3_make_14 (by decide) (fun c14 => ?_) (fun c14 => absurd c14 (nI_ne0 h0 (by omega)))
  refine lv_aload_n hx hb dX3_make_27 rfl (lv_at hl 0 rfl) ?_
  refine va_get (D := (dC, dI)) (ci := 3) (v := .ref (h 1)) (C := RX3) (T := TX3) (N := 9) hx hb hts inX3 hown hK hP 0 rfl rfl 0 (by decide) (hts _ mw120) (fun _ h9 => h9) rfl dX3_make_28 ?_
  refine rd_calli (r := (bI (kExact kinds kn))) (va_runV (As := []) (rest := []) ⟨hx, hb, hml, hown, hts⟩ (c_X2_areExact l dC dI cI cL (h 1) (h 6) (h 7) kinds ones kn (by omega)) (cwV 0 hts (gV mw305 mw284 mw285 mw23 mw286) rfl rfl rfl (by decide +kernel) ⟨Nat.le_of_ble_eq_true rfl, Nat.le_of_ble_eq_true rfl⟩) (rd_preV (hP.sub (ws' := [(h 1, .inr (2, [.ref (h 6), .ref (h 7), .int (nI kn)])), (h 6, .inl (cI, 4, .inl kinds)), (h 7, .inl (cL, 4, .inr (.inl ones)))]) [1, 6, 7] rfl) hK (va_recv (ci := 2) hK hP rfl (q0 := 1) rfl)) rfl rfl hl.1 rfl (lv_room (Nat.le_of_ble_eq_true rfl)) dX3_make_31 ⟨Nat.zero_le _, Nat.zero_le _⟩) ?_
  refine lv_istore (lv' := [(4, .int (bI (kExact kinds kn))), (0, .ref (h 0)), (1, .int n), (2, .int w), (3, .int t)]) hx hb dX3_make_34 hl (by decide) rfl (fun ls hl => ?_)
  refine lv_iload hx hb dX3_make_36 (lv_at hl 0 rfl) ?_
  refine lv_if_eq (tgt := 53) hx hb dX3_make_38 (by decide) (fun c38 => ?_) (fun c38 => ?_)
  · refine lv_iload_n hx hb dX3_make_53 rfl (lv_at hl 2 rfl) ?_
    refine rd_calli (r := (bI (lShape n))) (va_runS (As := [.int n]) (rest := []) ⟨hx, hb, hml, hown, hts⟩ (c_X3_isListedShape l dC dI cI cL n) (cwS 1 hts (gS mw315 mw316 mw22 mw317) rfl rfl rfl (by decide +kernel) ⟨Nat.le_of_ble_eq_true rfl, Nat.le_of_ble_eq_true rfl⟩) (rd_preS (hP.sub (ws' := []) [] rfl) hK) rfl rfl hl.1 rfl (lv_room (Nat.le_of_ble_eq_true rfl)) dX3_make_54 ⟨Nat.zero_le _, Nat.zero_le _⟩) ?_
    refine lv_if_ne (tgt := 70) hx hb dX3_make_57 (by decide) (fun c57 => absurd (by rw [bI_eq c38] at h1; rw [show lShape n = false from h1]; rfl) c57) (fun c57 => ?_)
    exact x_thr_IAE hx hb hl9 hown hts hX hX.s101 (hl.1.trans hml.symm) dX3_make_60 dX3_make_63 dX3_make_64 dX3_make_66 dX3_make_69 hTb (Nat.le_of_ble_eq_true rfl) (Nat.le_of_ble_eq_true rfl) (Nat.le_refl _) (Nat.le_refl _) hlocks
  · refine lv_iload_n hx hb dX3_make_41 rfl (lv_at hl 2 rfl) ?_
    refine lv_iload_n hx hb dX3_make_42 rfl (lv_at hl 3 rfl) ?_
    refine lv_iload_n hx hb dX3_make_43 rfl (lv_at hl 4 rfl) ?_
    refine rd_calli (r := (bI (hShape n w t))) (va_runS (As := [.int n, .int w, .int t]) (rest := []) ⟨hx, hb, hml, hown, hts⟩ (c_X3_isHashedShape l dC dI cI cL n w t) (cwS 3 hts (gS mw306 mw307 mw22 mw308) rfl rfl rfl (by decide +kernel) ⟨Nat.le_of_ble_eq_true rfl, Nat.le_of_ble_eq_true rfl⟩) (rd_preS (hP.sub (ws' := []) [] rfl) hK) rfl rfl hl.1 rfl (lv_room (Nat.le_of_ble_eq_true rfl)) dX3_make_44 ⟨Nat.zero_le _, Nat.zero_le _⟩) ?_
    refine lv_if_ne (tgt := 70) hx hb dX3_make_47 (by decide) (fun c47 => absurd (by rw [bI_ne c38] at h1; rw [show hShape n w t = false from h1]; rfl) c47) (fun c47 => ?_)
    refine lv_goto (tgt := 60) hx hb dX3_make_50 (by decide) ?_
    exact x_thr_IAE hx hb hl9 hown hts hX hX.s101 (hl.1.trans hml.symm) dX3_make_60 dX3_make_63 dX3_make_64 dX3_make_66 dX3_make_69 hTb (Nat.le_of_ble_eq_true rfl) (Nat.le_of_ble_eq_true rfl) (Nat.le_refl _) (Nat.le_refl _) hlocks

set_option maxHeartbeats 4000000 in
set_option maxRecDepth 100000 in
/-- set: no such key -/
theorem x_X3_set (l : Launch) (hl9 : l.stackTraces = false) (dC : Nat → ClassId) (dI : Nat → Nat → Nat) (cI cL : ClassId) (h : Nat → Nat) (kinds : Nat → Int32) (ones : Nat → Int64) (kn : Nat) (av am : Nat → Int64) (vals msks : Nat → Int64) (pre pri act : Nat → Int32) (dat : Nat → Int64) (en : Nat) (held : Nat → Int32) (bn : Nat) (wy stt : Int32) (made hashed : Bool) (cap : Int32) (lat : Int64) (k : Int32) (v2 m2 : Int64) (h1 : k < 0 ∨ 4 ≤ k) : vx_Met l yX3_set wsX3_set ({ frames := 7, cells := 1, slots := 6, locals := 110 }) (xP (dC, dI) vwCl [(cI, .int), (cL, .long)] [(h 0, .inr (3, [.ref (h 1), .ref (h 2), .ref (h 3), .ref (h 4), .ref (h 5), .int (bI made), .int (bI hashed), .int cap, .long lat])), (h 1, .inr (2, [.ref (h 6), .ref (h 7), .int (nI kn)])), (h 2, .inr (1, [.ref (h 8), .ref (h 9), .ref (h 10), .ref (h 11), .ref (h 12), .ref (h 13), .int (nI en)])), (h 3, .inr (0, [.ref (h 14), .int (nI bn), .int wy, .int stt])), (h 4, .inl (cL, 4, .inr (.inl av))), (h 5, .inl (cL, 4, .inr (.inl am))), (h 6, .inl (cI, 4, .inl kinds)), (h 7, .inl (cL, 4, .inr (.inl ones))), (h 8, .inl (cL, 288, .inr (.inl vals))), (h 9, .inl (cL, 288, .inr (.inl msks))), (h 10, .inl (cI, 72, .inl pre)), (h 11, .inl (cI, 72, .inl pri)), (h 12, .inl (cI, 72, .inl act)), (h 13, .inl (cL, 72, .inr (.inl dat))), (h 14, .inl (cI, 16, .inl held))] [.ref (h 0), .int k, .long v2, .long m2]) xQ (xT "java/lang/IndexOutOfBoundsException") 1 6 (fun _ => False) := by
  refine vx_ofW (cc := cX3_set) (maxL := 6) (ret := none) (by decide) rfl ?_
  intro p e s m args below meth c s₁ B hml hTb hv
  obtain ⟨rfl, hP, hK, hX⟩ := hv
  have hx := B.exec
  have hb := B.bytes
  have hr := B.returns
  have hts := fun w h => atoms_spec (ws := wsX3_set) B.pre w (List.mem_cons_of_mem _ h)
  have hown : s.vm.findClass RX3 = some m.cls := findClass_of_methodNamed B.named
  have hlocks := B.notSynchronized
  have hl := lv_entry ([.ref (h 0), .int k, .long v2, .long m2]) (n := 6) (Nat.le_of_ble_eq_true rfl)
  rw [lg_entry_eq]
  generalize (lg_sl ([.ref (h 0), .int k, .long v2, .long m2]) ++ List.replicate (6 - (lg_sl ([.ref (h 0), .int k, .long v2, .long m2])).length) Slot.unset).toArray = ls at hl ⊢
  have hl : lv_has ls 6 [(0, .ref (h 0)), (1, .int k), (2, .long v2), (4, .long m2)] := hl
  refine lv_iload_n hx hb dX3_set_0 rfl (lv_at hl 1 rfl) ?_
  refine lv_if_lt (tgt := 9) hx hb dX3_set_1 (by decide) (fun c1 => ?_) (fun c1 => ?_)
  · exact x_thr_IOB hx hb hl9 hown hts hX hX.s105 (hl.1.trans hml.symm) dX3_set_9 dX3_set_12 dX3_set_13 dX3_set_15 dX3_set_18 hTb (Nat.le_of_ble_eq_true rfl) (Nat.le_of_ble_eq_true rfl) (Nat.le_refl _) (Nat.le_refl _) hlocks
  · refine lv_iload_n hx hb dX3_set_4 rfl (lv_at hl 1 rfl) ?_
    refine lv_iconst (v := 4) hx hb dX3_set_5 (by decide) ?_
    refine lv_icmp_lt (tgt := 19) hx hb dX3_set_6 (by decide) (fun c6 => ?_) (fun c6 => ?_)
    · exact absurd h1 (fun z => z.elim c1 (fun z => absurd c6 (Int32.not_lt.mpr z)))
    · exact x_thr_IOB hx hb hl9 hown hts hX hX.s105 (hl.1.trans hml.symm) dX3_set_9 dX3_set_12 dX3_set_13 dX3_set_15 dX3_set_18 hTb (Nat.le_of_ble_eq_true rfl) (Nat.le_of_ble_eq_true rfl) (Nat.le_refl _) (Nat.le_refl _) hlocks

set_option maxHeartbeats 4000000 in
set_option maxRecDepth 100000 in
/-- insert: no table is made -/
theorem x_X3_insert (l : Launch) (hl9 : l.stackTraces = false) (dC : Nat → ClassId) (dI : Nat → Nat → Nat) (cI cL : ClassId) (h : Nat → Nat) (kinds : Nat → Int32) (ones : Nat → Int64) (kn : Nat) (av am : Nat → Int64) (vals msks : Nat → Int64) (pre pri act : Nat → Int32) (dat : Nat → Int64) (en : Nat) (held : Nat → Int32) (bn : Nat) (wy stt : Int32) (made hashed : Bool) (cap : Int32) (lat : Int64) (pr ac : Int32) (da : Int64) (hm : made = false) : vx_Met l yX3_insert wsX3_insert ({ frames := 7, cells := 1, slots := 6, locals := 110 }) (xP (dC, dI) vwCl [(cI, .int), (cL, .long)] [(h 0, .inr (3, [.ref (h 1), .ref (h 2), .ref (h 3), .ref (h 4), .ref (h 5), .int (bI made), .int (bI hashed), .int cap, .long lat])), (h 1, .inr (2, [.ref (h 6), .ref (h 7), .int (nI kn)])), (h 2, .inr (1, [.ref (h 8), .ref (h 9), .ref (h 10), .ref (h 11), .ref (h 12), .ref (h 13), .int (nI en)])), (h 3, .inr (0, [.ref (h 14), .int (nI bn), .int wy, .int stt])), (h 4, .inl (cL, 4, .inr (.inl av))), (h 5, .inl (cL, 4, .inr (.inl am))), (h 6, .inl (cI, 4, .inl kinds)), (h 7, .inl (cL, 4, .inr (.inl ones))), (h 8, .inl (cL, 288, .inr (.inl vals))), (h 9, .inl (cL, 288, .inr (.inl msks))), (h 10, .inl (cI, 72, .inl pre)), (h 11, .inl (cI, 72, .inl pri)), (h 12, .inl (cI, 72, .inl act)), (h 13, .inl (cL, 72, .inr (.inl dat))), (h 14, .inl (cI, 16, .inl held))] [.ref (h 0), .int pr, .int ac, .long da]) xQ (xT "java/lang/IllegalStateException") 1 6 (fun _ => False) := by
  refine vx_ofW (cc := cX3_insert) (maxL := 5) (ret := some .boolean) (by decide) rfl ?_
  intro p e s m args below meth c s₁ B hml hTb hv
  obtain ⟨rfl, hP, hK, hX⟩ := hv
  have hx := B.exec
  have hb := B.bytes
  have hr := B.returns
  have hts := fun w h => atoms_spec (ws := wsX3_insert) B.pre w (List.mem_cons_of_mem _ h)
  have hown : s.vm.findClass RX3 = some m.cls := findClass_of_methodNamed B.named
  have hlocks := B.notSynchronized
  have hl := lv_entry ([.ref (h 0), .int pr, .int ac, .long da]) (n := 5) (Nat.le_of_ble_eq_true rfl)
  rw [lg_entry_eq]
  generalize (lg_sl ([.ref (h 0), .int pr, .int ac, .long da]) ++ List.replicate (5 - (lg_sl ([.ref (h 0), .int pr, .int ac, .long da])).length) Slot.unset).toArray = ls at hl ⊢
  have hl : lv_has ls 5 [(0, .ref (h 0)), (1, .int pr), (2, .int ac), (3, .long da)] := hl
  refine lv_aload_n hx hb dX3_insert_0 rfl (lv_at hl 0 rfl) ?_
  refine x_call (E0 := "java/lang/IllegalStateException") (vx_runV (As := []) (rest := []) ⟨hx, hb, hml, hown, hts⟩ (x_X3_requireTable l hl9 dC dI cI cL h kinds ones kn av am vals msks pre pri act dat en held bn wy stt made hashed cap lat hm) (cwV 0 hts (gV mw350 mw352 mw1 mw22 mw353) rfl rfl rfl (by decide +kernel) ⟨Nat.le_of_ble_eq_true rfl, Nat.le_of_ble_eq_true rfl⟩) (xP_preV (fun U hU hW => hX.go hU hW) hP hK (va_recv (ci := 3) hK hP rfl (q0 := 0) rfl)) rfl rfl hl.1 rfl (lv_room (Nat.le_of_ble_eq_true rfl)) dX3_insert_1 ⟨Nat.le_refl _, Nat.le_refl _⟩) (fun ce q9 H1 hz hk hce hcv hcl => ?_)
  exact vx_out (fun x hx9 => (hTb x hx9).elim) hlocks hce hcv hcl (fun t ht ha => ⟨rfl, by rw [ht]; exact hz, fun q h _ => by rw [ht]; exact hk q h⟩) (fun _ h => nomatch h) (Nat.le_refl _) (Nat.le_refl _)

set_option maxHeartbeats 4000000 in
set_option maxRecDepth 100000 in
/-- change: no table is made -/
theorem x_X3_change (l : Launch) (hl9 : l.stackTraces = false) (dC : Nat → ClassId) (dI : Nat → Nat → Nat) (cI cL : ClassId) (h : Nat → Nat) (kinds : Nat → Int32) (ones : Nat → Int64) (kn : Nat) (av am : Nat → Int64) (vals msks : Nat → Int64) (pre pri act : Nat → Int32) (dat : Nat → Int64) (en : Nat) (held : Nat → Int32) (bn : Nat) (wy stt : Int32) (made hashed : Bool) (cap : Int32) (lat : Int64) (ac : Int32) (da : Int64) (hm : made = false) : vx_Met l yX3_change wsX3_change ({ frames := 7, cells := 1, slots := 6, locals := 110 }) (xP (dC, dI) vwCl [(cI, .int), (cL, .long)] [(h 0, .inr (3, [.ref (h 1), .ref (h 2), .ref (h 3), .ref (h 4), .ref (h 5), .int (bI made), .int (bI hashed), .int cap, .long lat])), (h 1, .inr (2, [.ref (h 6), .ref (h 7), .int (nI kn)])), (h 2, .inr (1, [.ref (h 8), .ref (h 9), .ref (h 10), .ref (h 11), .ref (h 12), .ref (h 13), .int (nI en)])), (h 3, .inr (0, [.ref (h 14), .int (nI bn), .int wy, .int stt])), (h 4, .inl (cL, 4, .inr (.inl av))), (h 5, .inl (cL, 4, .inr (.inl am))), (h 6, .inl (cI, 4, .inl kinds)), (h 7, .inl (cL, 4, .inr (.inl ones))), (h 8, .inl (cL, 288, .inr (.inl vals))), (h 9, .inl (cL, 288, .inr (.inl msks))), (h 10, .inl (cI, 72, .inl pre)), (h 11, .inl (cI, 72, .inl pri)), (h 12, .inl (cI, 72, .inl act)), (h 13, .inl (cL, 72, .inr (.inl dat))), (h 14, .inl (cI, 16, .inl held))] [.ref (h 0), .int ac, .long da]) xQ (xT "java/lang/IllegalStateException") 1 6 (fun _ => False) := by
  refine vx_ofW (cc := cX3_change) (maxL := 5) (ret := some .boolean) (by decide) rfl ?_
  intro p e s m args below meth c s₁ B hml hTb hv
  obtain ⟨rfl, hP, hK, hX⟩ := hv
  have hx := B.exec
  have hb := B.bytes
  have hr := B.returns
  have hts := fun w h => atoms_spec (ws := wsX3_change) B.pre w (List.mem_cons_of_mem _ h)
  have hown : s.vm.findClass RX3 = some m.cls := findClass_of_methodNamed B.named
  have hlocks := B.notSynchronized
  have hl := lv_entry ([.ref (h 0), .int ac, .long da]) (n := 5) (Nat.le_of_ble_eq_true rfl)
  rw [lg_entry_eq]
  generalize (lg_sl ([.ref (h 0), .int ac, .long da]) ++ List.replicate (5 - (lg_sl ([.ref (h 0), .int ac, .long da])).length) Slot.unset).toArray = ls at hl ⊢
  have hl : lv_has ls 5 [(0, .ref (h 0)), (1, .int ac), (2, .long da)] := hl
  refine lv_aload_n hx hb dX3_change_0 rfl (lv_at hl 0 rfl) ?_
  refine x_call (E0 := "java/lang/IllegalStateException") (vx_runV (As := []) (rest := []) ⟨hx, hb, hml, hown, hts⟩ (x_X3_requireTable l hl9 dC dI cI cL h kinds ones kn av am vals msks pre pri act dat en held bn wy stt made hashed cap lat hm) (cwV 0 hts (gV mw350 mw352 mw1 mw22 mw353) rfl rfl rfl (by decide +kernel) ⟨Nat.le_of_ble_eq_true rfl, Nat.le_of_ble_eq_true rfl⟩) (xP_preV (fun U hU hW => hX.go hU hW) hP hK (va_recv (ci := 3) hK hP rfl (q0 := 0) rfl)) rfl rfl hl.1 rfl (lv_room (Nat.le_of_ble_eq_true rfl)) dX3_change_1 ⟨Nat.le_refl _, Nat.le_refl _⟩) (fun ce q9 H1 hz hk hce hcv hcl => ?_)
  exact vx_out (fun x hx9 => (hTb x hx9).elim) hlocks hce hcv hcl (fun t ht ha => ⟨rfl, by rw [ht]; exact hz, fun q h _ => by rw [ht]; exact hk q h⟩) (fun _ h => nomatch h) (Nat.le_refl _) (Nat.le_refl _)

set_option maxHeartbeats 4000000 in
set_option maxRecDepth 100000 in
/-- remove: no table is made -/
theorem x_X3_remove (l : Launch) (hl9 : l.stackTraces = false) (dC : Nat → ClassId) (dI : Nat → Nat → Nat) (cI cL : ClassId) (h : Nat → Nat) (kinds : Nat → Int32) (ones : Nat → Int64) (kn : Nat) (av am : Nat → Int64) (vals msks : Nat → Int64) (pre pri act : Nat → Int32) (dat : Nat → Int64) (en : Nat) (held : Nat → Int32) (bn : Nat) (wy stt : Int32) (made hashed : Bool) (cap : Int32) (lat : Int64) (hm : made = false) : vx_Met l yX3_remove wsX3_remove ({ frames := 7, cells := 1, slots := 6, locals := 110 }) (xP (dC, dI) vwCl [(cI, .int), (cL, .long)] [(h 0, .inr (3, [.ref (h 1), .ref (h 2), .ref (h 3), .ref (h 4), .ref (h 5), .int (bI made), .int (bI hashed), .int cap, .long lat])), (h 1, .inr (2, [.ref (h 6), .ref (h 7), .int (nI kn)])), (h 2, .inr (1, [.ref (h 8), .ref (h 9), .ref (h 10), .ref (h 11), .ref (h 12), .ref (h 13), .int (nI en)])), (h 3, .inr (0, [.ref (h 14), .int (nI bn), .int wy, .int stt])), (h 4, .inl (cL, 4, .inr (.inl av))), (h 5, .inl (cL, 4, .inr (.inl am))), (h 6, .inl (cI, 4, .inl kinds)), (h 7, .inl (cL, 4, .inr (.inl ones))), (h 8, .inl (cL, 288, .inr (.inl vals))), (h 9, .inl (cL, 288, .inr (.inl msks))), (h 10, .inl (cI, 72, .inl pre)), (h 11, .inl (cI, 72, .inl pri)), (h 12, .inl (cI, 72, .inl act)), (h 13, .inl (cL, 72, .inr (.inl dat))), (h 14, .inl (cI, 16, .inl held))] [.ref (h 0)]) xQ (xT "java/lang/IllegalStateException") 1 6 (fun _ => False) := by
  refine vx_ofW (cc := cX3_remove) (maxL := 2) (ret := some .boolean) (by decide) rfl ?_
  intro p e s m args below meth c s₁ B hml hTb hv
  obtain ⟨rfl, hP, hK, hX⟩ := hv
  have hx := B.exec
  have hb := B.bytes
  have hr := B.returns
  have hts := fun w h => atoms_spec (ws := wsX3_remove) B.pre w (List.mem_cons_of_mem _ h)
  have hown : s.vm.findClass RX3 = some m.cls := findClass_of_methodNamed B.named
  have hlocks := B.notSynchronized
  have hl := lv_entry ([.ref (h 0)]) (n := 2) (Nat.le_of_ble_eq_true rfl)
  rw [lg_entry_eq]
  generalize (lg_sl ([.ref (h 0)]) ++ List.replicate (2 - (lg_sl ([.ref (h 0)])).length) Slot.unset).toArray = ls at hl ⊢
  have hl : lv_has ls 2 [(0, .ref (h 0))] := hl
  refine lv_aload_n hx hb dX3_remove_0 rfl (lv_at hl 0 rfl) ?_
  refine x_call (E0 := "java/lang/IllegalStateException") (vx_runV (As := []) (rest := []) ⟨hx, hb, hml, hown, hts⟩ (x_X3_requireTable l hl9 dC dI cI cL h kinds ones kn av am vals msks pre pri act dat en held bn wy stt made hashed cap lat hm) (cwV 0 hts (gV mw350 mw352 mw1 mw22 mw353) rfl rfl rfl (by decide +kernel) ⟨Nat.le_of_ble_eq_true rfl, Nat.le_of_ble_eq_true rfl⟩) (xP_preV (fun U hU hW => hX.go hU hW) hP hK (va_recv (ci := 3) hK hP rfl (q0 := 0) rfl)) rfl rfl hl.1 rfl (lv_room (Nat.le_of_ble_eq_true rfl)) dX3_remove_1 ⟨Nat.le_refl _, Nat.le_refl _⟩) (fun ce q9 H1 hz hk hce hcv hcl => ?_)
  exact vx_out (fun x hx9 => (hTb x hx9).elim) hlocks hce hcv hcl (fun t ht ha => ⟨rfl, by rw [ht]; exact hz, fun q h _ => by rw [ht]; exact hk q h⟩) (fun _ h => nomatch h) (Nat.le_refl _) (Nat.le_refl _)

set_option maxHeartbeats 4000000 in
set_option maxRecDepth 100000 in
/-- match: no table is made -/
theorem x_X3_match (l : Launch) (hl9 : l.stackTraces = false) (dC : Nat → ClassId) (dI : Nat → Nat → Nat) (cI cL : ClassId) (h : Nat → Nat) (kinds : Nat → Int32) (ones : Nat → Int64) (kn : Nat) (av am : Nat → Int64) (vals msks : Nat → Int64) (pre pri act : Nat → Int32) (dat : Nat → Int64) (en : Nat) (held : Nat → Int32) (bn : Nat) (wy stt : Int32) (made hashed : Bool) (cap : Int32) (lat : Int64) (hm : made = false) : vx_Met l yX3_match wsX3_match ({ frames := 7, cells := 1, slots := 6, locals := 110 }) (xP (dC, dI) vwCl [(cI, .int), (cL, .long)] [(h 0, .inr (3, [.ref (h 1), .ref (h 2), .ref (h 3), .ref (h 4), .ref (h 5), .int (bI made), .int (bI hashed), .int cap, .long lat])), (h 1, .inr (2, [.ref (h 6), .ref (h 7), .int (nI kn)])), (h 2, .inr (1, [.ref (h 8), .ref (h 9), .ref (h 10), .ref (h 11), .ref (h 12), .ref (h 13), .int (nI en)])), (h 3, .inr (0, [.ref (h 14), .int (nI bn), .int wy, .int stt])), (h 4, .inl (cL, 4, .inr (.inl av))), (h 5, .inl (cL, 4, .inr (.inl am))), (h 6, .inl (cI, 4, .inl kinds)), (h 7, .inl (cL, 4, .inr (.inl ones))), (h 8, .inl (cL, 288, .inr (.inl vals))), (h 9, .inl (cL, 288, .inr (.inl msks))), (h 10, .inl (cI, 72, .inl pre)), (h 11, .inl (cI, 72, .inl pri)), (h 12, .inl (cI, 72, .inl act)), (h 13, .inl (cL, 72, .inr (.inl dat))), (h 14, .inl (cI, 16, .inl held))] [.ref (h 0)]) xQ (xT "java/lang/IllegalStateException") 1 6 (fun _ => False) := by
  refine vx_ofW (cc := cX3_match) (maxL := 3) (ret := some .int) (by decide) rfl ?_
  intro p e s m args below meth c s₁ B hml hTb hv
  obtain ⟨rfl, hP, hK, hX⟩ := hv
  have hx := B.exec
  have hb := B.bytes
  have hr := B.returns
  have hts := fun w h => atoms_spec (ws := wsX3_match) B.pre w (List.mem_cons_of_mem _ h)
  have hown : s.vm.findClass RX3 = some m.cls := findClass_of_methodNamed B.named
  have hlocks := B.notSynchronized
  have hl := lv_entry ([.ref (h 0)]) (n := 3) (Nat.le_of_ble_eq_true rfl)
  rw [lg_entry_eq]
  generalize (lg_sl ([.ref (h 0)]) ++ List.replicate (3 - (lg_sl ([.ref (h 0)])).length) Slot.unset).toArray = ls at hl ⊢
  have hl : lv_has ls 3 [(0, .ref (h 0))] := hl
  refine lv_aload_n hx hb dX3_match_0 rfl (lv_at hl 0 rfl) ?_
  refine x_call (E0 := "java/lang/IllegalStateException") (vx_runV (As := []) (rest := []) ⟨hx, hb, hml, hown, hts⟩ (x_X3_requireTable l hl9 dC dI cI cL h kinds ones kn av am vals msks pre pri act dat en held bn wy stt made hashed cap lat hm) (cwV 0 hts (gV mw350 mw352 mw1 mw22 mw353) rfl rfl rfl (by decide +kernel) ⟨Nat.le_of_ble_eq_true rfl, Nat.le_of_ble_eq_true rfl⟩) (xP_preV (fun U hU hW => hX.go hU hW) hP hK (va_recv (ci := 3) hK hP rfl (q0 := 0) rfl)) rfl rfl hl.1 rfl (lv_room (Nat.le_of_ble_eq_true rfl)) dX3_match_1 ⟨Nat.le_refl _, Nat.le_refl _⟩) (fun ce q9 H1 hz hk hce hcv hcl => ?_)
  exact vx_out (fun x hx9 => (hTb x hx9).elim) hlocks hce hcv hcl (fun t ht ha => ⟨rfl, by rw [ht]; exact hz, fun q h _ => by rw [ht]; exact hk q h⟩) (fun _ h => nomatch h) (Nat.le_refl _) (Nat.le_refl _)
end
section
/-! the reference's own words -/
abbrev lsh (x : Int64) (y : Int32) : Int64 := x <<< (y.toInt64 &&& 63)
def mOne (w : Int32) : Int64 := if w = 64 then -1 else lsh 1 w - 1
def onF (x : Int64) : Int32 → Nat → Nat → Int32
  | a, _, 0 => a
  | a, b, n + 1 => onF x (if ush x (nI b) &&& 1 = 1 then a + 1 else a) (b + 1) n
def onesN (x : Int64) : Int32 := onF x 0 0 64
theorem onF_t {x : Int64} {a : Int32} {b n : Nat} (h : ush x (nI b) &&& 1 = 1) : onF x a b (n + 1) = onF x (a + 1) (b + 1) n := by simp only [onF]; rw [if_pos h]
theorem onF_f {x : Int64} {a : Int32} {b n : Nat} (h : ush x (nI b) &&& 1 ≠ 1) : onF x a b (n + 1) = onF x a (b + 1) n := by simp only [onF]; rw [if_neg h]
def mIdx (n : Int32) (h : Int64) : Int32 := (h &&& (n - 1).toInt64).toInt32
theorem n_ix (e k : Nat) : (4 : Int32) * nI e + nI k = nI (e * 4 + k) := by rw [show (4 : Int32) = nI 4 from rfl, pk_mul, nI_add, Nat.mul_comm]
theorem n_ix4 (e : Nat) : (4 : Int32) * nI e = nI (e * 4) := by rw [show (4 : Int32) = nI 4 from rfl, pk_mul, Nat.mul_comm]
theorem n_ix1 (e k : Nat) : (4 : Int32) * nI e + 4 + nI k = nI ((e + 1) * 4 + k) := by
  rw [show (4 : Int32) * nI e + 4 + nI k = nI 4 * nI e + nI 4 + nI k from rfl, pk_mul, nI_add, nI_add]
  congr 1
  omega
theorem bxw {w : Nat} (a one : BitVec w) : (a &&& one = one) ↔ (one &&& ((a &&& one) ^^^ BitVec.allOnes w)) = 0#w := by
  constructor
  · intro h
    rw [h]
    ext i hi
    simp
  · intro h
    ext i hi
    have h2 : (one &&& ((a &&& one) ^^^ BitVec.allOnes w)).getLsbD i = false := by rw [h]; simp
    simp [hi] at h2 ⊢
    intro h3
    have h4 := h2 h3
    simp [h3] at h4
    exact h4
theorem t_ex (a one : Int64) : (a &&& one = one) ↔ (one &&& ((a &&& one) ^^^ (-1)) = 0) := by
  have hm : (-1 : Int64).toBitVec = BitVec.allOnes 64 := by decide
  rw [← Int64.toBitVec_inj, ← Int64.toBitVec_inj (a := one &&& ((a &&& one) ^^^ (-1)))]
  simp only [Int64.toBitVec_and, Int64.toBitVec_xor, hm]
  exact bxw a.toBitVec one.toBitVec
def pFst (kinds : Nat → Int32) (g : Nat → Int64) : Nat → Nat → Int32
  | _, 0 => 0
  | k, n + 1 => if kinds k = 1 then onesN (g k) else pFst kinds g (k + 1) n
def mPre (kinds : Nat → Int32) (msks : Nat → Int64) (kn e : Nat) : Int32 := pFst kinds (fun k => msks (e * 4 + k)) 0 kn
def abF (bk : Nat → Nat) (w9 : Int32) : (Nat → Int32) → Int32 → Nat → Nat → (Nat → Int32) × Int32
  | f, a, _, 0 => (f, a)
  | f, a, i, n + 1 => abF bk w9 (upd f (bk i) (f (bk i) + 1)) (if w9 < f (bk i) + 1 then a + 1 else a) (i + 1) n
theorem abF_t {bk : Nat → Nat} {w9 : Int32} {f : Nat → Int32} {a : Int32} {i n : Nat} (h : ¬ f (bk i) + 1 ≤ w9) : abF bk w9 f a i (n + 1) = abF bk w9 (upd f (bk i) (f (bk i) + 1)) (a + 1) (i + 1) n := by simp only [abF]; rw [if_pos (Int32.not_le.mp h)]
theorem abF_f {bk : Nat → Nat} {w9 : Int32} {f : Nat → Int32} {a : Int32} {i n : Nat} (h : f (bk i) + 1 ≤ w9) : abF bk w9 f a i (n + 1) = abF bk w9 (upd f (bk i) (f (bk i) + 1)) a (i + 1) n := by simp only [abF]; rw [if_neg (Int32.not_lt.mpr h)]
def mMost (kinds : Nat → Int32) (kn : Nat) (n9 w9 s9 : Int32) : Int32 := if kExact kinds kn then n9 * w9 + s9 else n9
end
section
/-! mod1 -/
set_option maxHeartbeats 4000000 in
set_option maxRecDepth 100000 in
/-- thrown -/
theorem c_X4_thrown (l : Launch) (dC : Nat → ClassId) (dI : Nat → Nat → Nat) (cI cL : ClassId) (g : Nat → Nat) (th : Int32) (kn : Nat) (n9 w9 s9 : Int32) (en : Nat) (made : Bool) (wd kinds : Nat → Int32) (av am vals msks : Nat → Int64) (pri act : Nat → Int32) (dat : Nat → Int64) (inb : Nat → Int32) (lat : Int64) : Met l yX4_thrown wsX4_thrown ({ frames := 0, cells := 0, slots := 0, locals := 0 }) (rd_P (dC, dI) vwCl [(cI, .int), (cL, .long)] [(g 0, .inr (4, [.int th, .int (nI kn), .int n9, .int w9, .int s9, .int (nI en), .int (bI made), .ref (g 1), .ref (g 2), .ref (g 3), .ref (g 4), .ref (g 5), .ref (g 6), .ref (g 7), .ref (g 8), .ref (g 9), .ref (g 10), .long lat])), (g 1, .inl (cI, 4, .inl wd)), (g 2, .inl (cI, 4, .inl kinds)), (g 3, .inl (cL, 4, .inr (.inl av))), (g 4, .inl (cL, 4, .inr (.inl am))), (g 5, .inl (cL, 288, .inr (.inl vals))), (g 6, .inl (cL, 288, .inr (.inl msks))), (g 7, .inl (cI, 72, .inl pri)), (g 8, .inl (cI, 72, .inl act)), (g 9, .inl (cL, 72, .inr (.inl dat))), (g 10, .inl (cI, 16, .inl inb))] [.ref (g 0)]) (rd_Q (some (.int th))) 0 0 (fun _ => False) := by
  refine Met.ofW (cc := cX4_thrown) (maxL := 1) (ret := some .int) (by decide) rfl ?_
  intro p e s m args below meth c s₁ B hml hv
  obtain ⟨rfl, hP, hK⟩ := hv
  have hx := B.exec
  have hb := B.bytes
  have hr := B.returns
  have hts := fun w h => atoms_spec (ws := wsX4_thrown) B.pre w (List.mem_cons_of_mem _ h)
  have hown : s.vm.findClass RX4 = some m.cls := findClass_of_methodNamed B.named
  have hlocks := B.notSynchronized
  have hl := lv_entry ([.ref (g 0)]) (n := 1) (Nat.le_of_ble_eq_true rfl)
  rw [lg_entry_eq]
  generalize (lg_sl ([.ref (g 0)]) ++ List.replicate (1 - (lg_sl ([.ref (g 0)])).length) Slot.unset).toArray = ls at hl ⊢
  have hl : lv_has ls 1 [(0, .ref (g 0))] := hl
  refine lv_aload_n hx hb dX4_thrown_0 rfl (lv_at hl 0 rfl) ?_
  refine va_get (D := (dC, dI)) (ci := 4) (v := .int th) (C := RX4) (T := TX4) (N := 18) hx hb hts inX4 hown hK hP 0 rfl rfl 0 (by decide) (hts _ mw457) (fun _ h9 => h9) rfl dX4_thrown_1 ?_
  exact rd_iret hx hb hr hlocks dX4_thrown_4 rfl (rfl)

set_option maxHeartbeats 4000000 in
set_option maxRecDepth 100000 in
/-- has -/
theorem c_X4_has (l : Launch) (dC : Nat → ClassId) (dI : Nat → Nat → Nat) (cI cL : ClassId) (g : Nat → Nat) (th : Int32) (kn : Nat) (n9 w9 s9 : Int32) (en : Nat) (made : Bool) (wd kinds : Nat → Int32) (av am vals msks : Nat → Int64) (pri act : Nat → Int32) (dat : Nat → Int64) (inb : Nat → Int32) (lat : Int64) (kd : Int32) (hk : kn ≤ 4) : Met l yX4_has wsX4_has ({ frames := 0, cells := 0, slots := 0, locals := 0 }) (rd_P (dC, dI) vwCl [(cI, .int), (cL, .long)] [(g 0, .inr (4, [.int th, .int (nI kn), .int n9, .int w9, .int s9, .int (nI en), .int (bI made), .ref (g 1), .ref (g 2), .ref (g 3), .ref (g 4), .ref (g 5), .ref (g 6), .ref (g 7), .ref (g 8), .ref (g 9), .ref (g 10), .long lat])), (g 1, .inl (cI, 4, .inl wd)), (g 2, .inl (cI, 4, .inl kinds)), (g 3, .inl (cL, 4, .inr (.inl av))), (g 4, .inl (cL, 4, .inr (.inl am))), (g 5, .inl (cL, 288, .inr (.inl vals))), (g 6, .inl (cL, 288, .inr (.inl msks))), (g 7, .inl (cI, 72, .inl pri)), (g 8, .inl (cI, 72, .inl act)), (g 9, .inl (cL, 72, .inr (.inl dat))), (g 10, .inl (cI, 16, .inl inb))] [.ref (g 0), .int kd]) (rd_Q (some (.int (bI (kHave kinds kn kd))))) 0 0 (fun _ => False) := by
  refine Met.ofW (cc := cX4_has) (maxL := 3) (ret := some .boolean) (by decide) rfl ?_
  intro p e s m args below meth c s₁ B hml hv
  obtain ⟨rfl, hP, hK⟩ := hv
  have hx := B.exec
  have hb := B.bytes
  have hr := B.returns
  have hts := fun w h => atoms_spec (ws := wsX4_has) B.pre w (List.mem_cons_of_mem _ h)
  have hown : s.vm.findClass RX4 = some m.cls := findClass_of_methodNamed B.named
  have hlocks := B.notSynchronized
  have hl := lv_entry ([.ref (g 0), .int kd]) (n := 3) (Nat.le_of_ble_eq_true rfl)
  rw [lg_entry_eq]
  generalize (lg_sl ([.ref (g 0), .int kd]) ++ List.replicate (3 - (lg_sl ([.ref (g 0), .int kd])).length) Slot.unset).toArray = ls at hl ⊢
  have hl : lv_has ls 3 [(0, .ref (g 0)), (1, .int kd)] := hl
  refine lv_iconst (v := (nI 0)) hx hb dX4_has_0 (by decide) ?_
  refine lv_istore_n (lv' := [(2, .int (nI 0)), (0, .ref (g 0)), (1, .int kd)]) hx hb dX4_has_1 rfl hl (by decide) rfl (fun ls hl => ?_)
  have loop : ∀ (n i : Nat), i + n = kn → ∀ ls : Array Slot, lv_has ls 3 [(2, .int (nI i)), (0, .ref (g 0)), (1, .int kd)] → W p l e (headSpec wsX4_has ({ frames := 0, cells := 0, slots := 0, locals := 0 })).room s m ([.ref (g 0), .int kd]).toArray below meth c s.heap [] 0 0 (MQ below (rd_Q (some (.int (bI (anyF (fun k => decide (kinds k = kd)) i n))))) ([.ref (g 0), .int kd]).toArray s 0 0 (fun _ => False)) (F0 m 2 ls []) := by
    intro n
    induction n with
    | zero =>
      intro i hi ls hl
      refine lv_iload_n hx hb dX4_has_2 rfl (lv_at hl 0 rfl) ?_
      refine lv_aload_n hx hb dX4_has_3 rfl (lv_at hl 1 rfl) ?_
      refine va_get (D := (dC, dI)) (ci := 4) (v := .int (nI kn)) (C := RX4) (T := TX4) (N := 18) hx hb hts inX4 hown hK hP 0 rfl rfl 1 (by decide) (hts _ mw458) (fun _ h9 => h9) rfl dX4_has_4 ?_
      refine n_ige i kn (tgt := 28) (hexec := hx) (hb := hb) dX4_has_7 (by decide) rfl rfl (by omega) (by omega) (fun c7 => ?_) (fun c7 => absurd c7 (by omega))
      refine lv_iconst (v := 0) hx hb dX4_has_28 (by decide) ?_
      exact rd_iret hx hb hr hlocks dX4_has_29 rfl (rfl)
    | succ n ih =>
      intro i hi ls hl
      refine lv_iload_n hx hb dX4_has_2 rfl (lv_at hl 0 rfl) ?_
      refine lv_aload_n hx hb dX4_has_3 rfl (lv_at hl 1 rfl) ?_
      refine va_get (D := (dC, dI)) (ci := 4) (v := .int (nI kn)) (C := RX4) (T := TX4) (N := 18) hx hb hts inX4 hown hK hP 0 rfl rfl 1 (by decide) (hts _ mw458) (fun _ h9 => h9) rfl dX4_has_4 ?_
      refine n_ige i kn (tgt := 28) (hexec := hx) (hb := hb) dX4_has_7 (by decide) rfl rfl (by omega) (by omega) (fun c7 => absurd c7 (by omega)) (fun c7 => ?_)
      refine lv_aload_n hx hb dX4_has_10 rfl (lv_at hl 1 rfl) ?_
      refine va_get (D := (dC, dI)) (ci := 4) (v := .ref (g 2)) (C := RX4) (T := TX4) (N := 18) hx hb hts inX4 hown hK hP 0 rfl rfl 8 (by decide) (hts _ mw465) (fun _ h9 => h9) rfl dX4_has_11 ?_
      refine lv_iload_n hx hb dX4_has_14 rfl (lv_at hl 0 rfl) ?_
      refine n_iald hx hb hK hP 2 0 rfl rfl (k := i) rfl (by omega) (by omega) dX4_has_15 ?_
      refine lv_iload_n hx hb dX4_has_16 rfl (lv_at hl 2 rfl) ?_
      refine lv_icmp_ne (tgt := 22) hx hb dX4_has_17 (by decide) (fun c17 => ?_) (fun c17 => ?_)
      · rw [show anyF (fun k => decide (kinds k = kd)) i (n + 1) = anyF (fun k => decide (kinds k = kd)) (i + 1) n from anyF_f (decide_eq_false c17)]
        refine lv_iinc (v := nI (i + 1)) (lv' := [(2, .int (nI (i + 1))), (0, .ref (g 0)), (1, .int kd)]) hx hb dX4_has_22 hl (k := 0) rfl (nI_1 i) (by decide) rfl (fun ls hl => ?_)
        refine lv_goto (tgt := 2) hx hb dX4_has_25 (by decide) ?_
        exact ih (i + 1) (by omega) ls (lv_sub hl [0, 1, 2] rfl)
      · refine lv_iconst (v := 1) hx hb dX4_has_20 (by decide) ?_
        exact rd_iret hx hb hr hlocks dX4_has_21 rfl (by rw [show anyF (fun k => decide (kinds k = kd)) i (n + 1) = true from anyF_t (decide_eq_true c17)]; rfl)
  exact loop kn 0 (by omega) ls (lv_sub hl [0, 1, 2] rfl)

set_option maxHeartbeats 4000000 in
set_option maxRecDepth 100000 in
/-- hashed -/
theorem c_X4_hashed (l : Launch) (dC : Nat → ClassId) (dI : Nat → Nat → Nat) (cI cL : ClassId) (g : Nat → Nat) (th : Int32) (kn : Nat) (n9 w9 s9 : Int32) (en : Nat) (made : Bool) (wd kinds : Nat → Int32) (av am vals msks : Nat → Int64) (pri act : Nat → Int32) (dat : Nat → Int64) (inb : Nat → Int32) (lat : Int64) (hk : kn ≤ 4) : Met l yX4_hashed wsX4_hashed ({ frames := 1, cells := 0, slots := 0, locals := 22 }) (rd_P (dC, dI) vwCl [(cI, .int), (cL, .long)] [(g 0, .inr (4, [.int th, .int (nI kn), .int n9, .int w9, .int s9, .int (nI en), .int (bI made), .ref (g 1), .ref (g 2), .ref (g 3), .ref (g 4), .ref (g 5), .ref (g 6), .ref (g 7), .ref (g 8), .ref (g 9), .ref (g 10), .long lat])), (g 1, .inl (cI, 4, .inl wd)), (g 2, .inl (cI, 4, .inl kinds)), (g 3, .inl (cL, 4, .inr (.inl av))), (g 4, .inl (cL, 4, .inr (.inl am))), (g 5, .inl (cL, 288, .inr (.inl vals))), (g 6, .inl (cL, 288, .inr (.inl msks))), (g 7, .inl (cI, 72, .inl pri)), (g 8, .inl (cI, 72, .inl act)), (g 9, .inl (cL, 72, .inr (.inl dat))), (g 10, .inl (cI, 16, .inl inb))] [.ref (g 0)]) (rd_Q (some (.int (bI (kExact kinds kn))))) 0 0 (fun _ => False) := by
  refine Met.ofW (cc := cX4_hashed) (maxL := 1) (ret := some .boolean) (by decide) rfl ?_
  intro p e s m args below meth c s₁ B hml hv
  obtain ⟨rfl, hP, hK⟩ := hv
  have hx := B.exec
  have hb := B.bytes
  have hr := B.returns
  have hts := fun w h => atoms_spec (ws := wsX4_hashed) B.pre w (List.mem_cons_of_mem _ h)
  have hown : s.vm.findClass RX4 = some m.cls := findClass_of_methodNamed B.named
  have hlocks := B.notSynchronized
  have hl := lv_entry ([.ref (g 0)]) (n := 1) (Nat.le_of_ble_eq_true rfl)
  rw [lg_entry_eq]
  generalize (lg_sl ([.ref (g 0)]) ++ List.replicate (1 - (lg_sl ([.ref (g 0)])).length) Slot.unset).toArray = ls at hl ⊢
  have hl : lv_has ls 1 [(0, .ref (g 0))] := hl
  refine lv_aload_n hx hb dX4_hashed_0 rfl (lv_at hl 0 rfl) ?_
  refine lv_iconst (v := 1) hx hb dX4_hashed_1 (by decide) ?_
  refine rd_calli (r := (bI (kHave kinds kn 1))) (va_runV (As := [.int 1]) (rest := []) ⟨hx, hb, hml, hown, hts⟩ (c_X4_has l dC dI cI cL g th kn n9 w9 s9 en made wd kinds av am vals msks pri act dat inb lat 1 hk) (cwV 1 hts (gV mw524 mw526 mw10 mw26 mw527) rfl rfl rfl (by decide +kernel) ⟨Nat.le_of_ble_eq_true rfl, Nat.le_of_ble_eq_true rfl⟩) (rd_preV (hP.sub (ws' := [(g 0, .inr (4, [.int th, .int (nI kn), .int n9, .int w9, .int s9, .int (nI en), .int (bI made), .ref (g 1), .ref (g 2), .ref (g 3), .ref (g 4), .ref (g 5), .ref (g 6), .ref (g 7), .ref (g 8), .ref (g 9), .ref (g 10), .long lat])), (g 1, .inl (cI, 4, .inl wd)), (g 2, .inl (cI, 4, .inl kinds)), (g 3, .inl (cL, 4, .inr (.inl av))), (g 4, .inl (cL, 4, .inr (.inl am))), (g 5, .inl (cL, 288, .inr (.inl vals))), (g 6, .inl (cL, 288, .inr (.inl msks))), (g 7, .inl (cI, 72, .inl pri)), (g 8, .inl (cI, 72, .inl act)), (g 9, .inl (cL, 72, .inr (.inl dat))), (g 10, .inl (cI, 16, .inl inb))]) [0, 1, 2, 3, 4, 5, 6, 7, 8, 9, 10] rfl) hK (va_recv (ci := 4) hK hP rfl (q0 := 0) rfl)) rfl rfl hl.1 rfl (lv_room (Nat.le_of_ble_eq_true rfl)) dX4_hashed_2 ⟨Nat.zero_le _, Nat.zero_le _⟩) ?_
  refine lv_if_ne (tgt := 20) hx hb dX4_hashed_5 (by decide) (fun c5 => ?_) (fun c5 => ?_)
  · refine lv_iconst (v := 0) hx hb dX4_hashed_20 (by decide) ?_
    exact rd_iret hx hb hr hlocks dX4_hashed_21 rfl (by unfold kExact; rw [bI_ne c5]; rfl)
  · refine lv_aload_n hx hb dX4_hashed_8 rfl (lv_at hl 0 rfl) ?_
    refine lv_iconst (v := 2) hx hb dX4_hashed_9 (by decide) ?_
    refine rd_calli (r := (bI (kHave kinds kn 2))) (va_runV (As := [.int 2]) (rest := []) ⟨hx, hb, hml, hown, hts⟩ (c_X4_has l dC dI cI cL g th kn n9 w9 s9 en made wd kinds av am vals msks pri act dat inb lat 2 hk) (cwV 1 hts (gV mw524 mw526 mw10 mw26 mw527) rfl rfl rfl (by decide +kernel) ⟨Nat.le_of_ble_eq_true rfl, Nat.le_of_ble_eq_true rfl⟩) (rd_preV (hP.sub (ws' := [(g 0, .inr (4, [.int th, .int (nI kn), .int n9, .int w9, .int s9, .int (nI en), .int (bI made), .ref (g 1), .ref (g 2), .ref (g 3), .ref (g 4), .ref (g 5), .ref (g 6), .ref (g 7), .ref (g 8), .ref (g 9), .ref (g 10), .long lat])), (g 1, .inl (cI, 4, .inl wd)), (g 2, .inl (cI, 4, .inl kinds)), (g 3, .inl (cL, 4, .inr (.inl av))), (g 4, .inl (cL, 4, .inr (.inl am))), (g 5, .inl (cL, 288, .inr (.inl vals))), (g 6, .inl (cL, 288, .inr (.inl msks))), (g 7, .inl (cI, 72, .inl pri)), (g 8, .inl (cI, 72, .inl act)), (g 9, .inl (cL, 72, .inr (.inl dat))), (g 10, .inl (cI, 16, .inl inb))]) [0, 1, 2, 3, 4, 5, 6, 7, 8, 9, 10] rfl) hK (va_recv (ci := 4) hK hP rfl (q0 := 0) rfl)) rfl rfl hl.1 rfl (lv_room (Nat.le_of_ble_eq_true rfl)) dX4_hashed_10 ⟨Nat.zero_le _, Nat.zero_le _⟩) ?_
    refine lv_if_ne (tgt := 20) hx hb dX4_hashed_13 (by decide) (fun c13 => ?_) (fun c13 => ?_)
    · refine lv_iconst (v := 0) hx hb dX4_hashed_20 (by decide) ?_
      exact rd_iret hx hb hr hlocks dX4_hashed_21 rfl (by unfold kExact; rw [bI_eq c5, bI_ne c13]; rfl)
    · refine lv_iconst (v := 1) hx hb dX4_hashed_16 (by decide) ?_
      refine lv_goto (tgt := 21) hx hb dX4_hashed_17 (by decide) ?_
      exact rd_iret hx hb hr hlocks dX4_hashed_21 rfl (by unfold kExact; rw [bI_eq c5, bI_eq c13]; rfl)

set_option maxHeartbeats 4000000 in
set_option maxRecDepth 100000 in
/-- ones -/
theorem c_X4_ones (l : Launch) (dC : Nat → ClassId) (dI : Nat → Nat → Nat) (cI cL : ClassId) (g : Nat → Nat) (th : Int32) (kn : Nat) (n9 w9 s9 : Int32) (en : Nat) (made : Bool) (wd kinds : Nat → Int32) (av am vals msks : Nat → Int64) (pri act : Nat → Int32) (dat : Nat → Int64) (inb : Nat → Int32) (lat : Int64) (k : Nat) (hk : k < 4) : Met l yX4_ones wsX4_ones ({ frames := 0, cells := 0, slots := 0, locals := 0 }) (rd_P (dC, dI) vwCl [(cI, .int), (cL, .long)] [(g 0, .inr (4, [.int th, .int (nI kn), .int n9, .int w9, .int s9, .int (nI en), .int (bI made), .ref (g 1), .ref (g 2), .ref (g 3), .ref (g 4), .ref (g 5), .ref (g 6), .ref (g 7), .ref (g 8), .ref (g 9), .ref (g 10), .long lat])), (g 1, .inl (cI, 4, .inl wd)), (g 2, .inl (cI, 4, .inl kinds)), (g 3, .inl (cL, 4, .inr (.inl av))), (g 4, .inl (cL, 4, .inr (.inl am))), (g 5, .inl (cL, 288, .inr (.inl vals))), (g 6, .inl (cL, 288, .inr (.inl msks))), (g 7, .inl (cI, 72, .inl pri)), (g 8, .inl (cI, 72, .inl act)), (g 9, .inl (cL, 72, .inr (.inl dat))), (g 10, .inl (cI, 16, .inl inb))] [.ref (g 0), .int (nI k)]) (rd_Q (some (.long (mOne (wd k))))) 0 0 (fun _ => False) := by
  refine Met.ofW (cc := cX4_ones) (maxL := 2) (ret := some .long) (by decide) rfl ?_
  intro p e s m args below meth c s₁ B hml hv
  obtain ⟨rfl, hP, hK⟩ := hv
  have hx := B.exec
  have hb := B.bytes
  have hr := B.returns
  have hts := fun w h => atoms_spec (ws := wsX4_ones) B.pre w (List.mem_cons_of_mem _ h)
  have hown : s.vm.findClass RX4 = some m.cls := findClass_of_methodNamed B.named
  have hlocks := B.notSynchronized
  have hl := lv_entry ([.ref (g 0), .int (nI k)]) (n := 2) (Nat.le_of_ble_eq_true rfl)
  rw [lg_entry_eq]
  generalize (lg_sl ([.ref (g 0), .int (nI k)]) ++ List.replicate (2 - (lg_sl ([.ref (g 0), .int (nI k)])).length) Slot.unset).toArray = ls at hl ⊢
  have hl : lv_has ls 2 [(0, .ref (g 0)), (1, .int (nI k))] := hl
  refine lv_aload_n hx hb dX4_ones_0 rfl (lv_at hl 0 rfl) ?_
  refine va_get (D := (dC, dI)) (ci := 4) (v := .ref (g 1)) (C := RX4) (T := TX4) (N := 18) hx hb hts inX4 hown hK hP 0 rfl rfl 7 (by decide) (hts _ mw464) (fun _ h9 => h9) rfl dX4_ones_1 ?_
  refine lv_iload_n hx hb dX4_ones_4 rfl (lv_at hl 1 rfl) ?_
  refine n_iald hx hb hK hP 1 0 rfl rfl (k := k) rfl hk (by omega) dX4_ones_5 ?_
  refine lv_bipush (v := 64) hx hb dX4_ones_6 (by decide) ?_
  refine lv_icmp_ne (tgt := 17) hx hb dX4_ones_8 (by decide) (fun c8 => ?_) (fun c8 => ?_)
  · refine lv_lconst (v := 1) hx hb dX4_ones_17 (by decide) ?_
    refine lv_aload_n hx hb dX4_ones_18 rfl (lv_at hl 0 rfl) ?_
    refine va_get (D := (dC, dI)) (ci := 4) (v := .ref (g 1)) (C := RX4) (T := TX4) (N := 18) hx hb hts inX4 hown hK hP 0 rfl rfl 7 (by decide) (hts _ mw464) (fun _ h9 => h9) rfl dX4_ones_19 ?_
    refine lv_iload_n hx hb dX4_ones_22 rfl (lv_at hl 1 rfl) ?_
    refine n_iald hx hb hK hP 1 0 rfl rfl (k := k) rfl hk (by omega) dX4_ones_23 ?_
    refine lv_lshl (v := lsh 1 (wd k)) hx hb dX4_ones_24 rfl ?_
    refine lv_lconst (v := 1) hx hb dX4_ones_25 (by decide) ?_
    refine lv_lsub hx hb dX4_ones_26 ?_
    exact rd_lret hx hb hr hlocks dX4_ones_27 (by unfold mOne; rw [if_neg c8])
  · refine lv_ldc2 (v := (-1)) hx hb hown (hts _ mw552) dX4_ones_11 ?_
    refine lv_goto (tgt := 27) hx hb dX4_ones_14 (by decide) ?_
    exact rd_lret hx hb hr hlocks dX4_ones_27 (by unfold mOne; rw [if_pos c8])

set_option maxHeartbeats 4000000 in
set_option maxRecDepth 100000 in
/-- onesIn -/
theorem c_X4_onesIn (l : Launch) (dC : Nat → ClassId) (dI : Nat → Nat → Nat) (cI cL : ClassId) (x : Int64) : Met l yX4_onesIn wsX4_onesIn ({ frames := 0, cells := 0, slots := 0, locals := 0 }) (rd_P (dC, dI) vwCl [(cI, .int), (cL, .long)] [] [.long x]) (rd_Q (some (.int (onesN x)))) 0 0 (fun _ => False) := by
  refine Met.ofW (cc := cX4_onesIn) (maxL := 4) (ret := some .int) (by decide) rfl ?_
  intro p e s m args below meth c s₁ B hml hv
  obtain ⟨rfl, hP, hK⟩ := hv
  have hx := B.exec
  have hb := B.bytes
  have hr := B.returns
  have hts := fun w h => atoms_spec (ws := wsX4_onesIn) B.pre w (List.mem_cons_of_mem _ h)
  have hown : s.vm.findClass RX4 = some m.cls := findClass_of_methodNamed B.named
  have hlocks := B.notSynchronized
  have hl := lv_entry ([.long x]) (n := 4) (Nat.le_of_ble_eq_true rfl)
  rw [lg_entry_eq]
  generalize (lg_sl ([.long x]) ++ List.replicate (4 - (lg_sl ([.long x])).length) Slot.unset).toArray = ls at hl ⊢
  have hl : lv_has ls 4 [(0, .long x)] := hl
  refine lv_iconst (v := 0) hx hb dX4_onesIn_0 (by decide) ?_
  refine lv_istore_n (lv' := [(2, .int 0), (0, .long x)]) hx hb dX4_onesIn_1 rfl hl (by decide) rfl (fun ls hl => ?_)
  refine lv_iconst (v := (nI 0)) hx hb dX4_onesIn_2 (by decide) ?_
  refine lv_istore_n (lv' := [(3, .int (nI 0)), (2, .int 0), (0, .long x)]) hx hb dX4_onesIn_3 rfl hl (by decide) rfl (fun ls hl => ?_)
  have loop : ∀ (n i : Nat) (a : Int32), i + n = 64 → ∀ ls : Array Slot, lv_has ls 4 [(3, .int (nI i)), (2, .int a), (0, .long x)] → W p l e (headSpec wsX4_onesIn ({ frames := 0, cells := 0, slots := 0, locals := 0 })).room s m ([.long x]).toArray below meth c s.heap [] 0 0 (MQ below (rd_Q (some (.int (onF x a i n)))) ([.long x]).toArray s 0 0 (fun _ => False)) (F0 m 4 ls []) := by
    intro n
    induction n with
    | zero =>
      intro i a hi ls hl
      refine lv_iload_n hx hb dX4_onesIn_4 rfl (lv_at hl 0 rfl) ?_
      refine lv_bipush (v := 64) hx hb dX4_onesIn_5 (by decide) ?_
      refine n_ige i 64 (tgt := 29) (hexec := hx) (hb := hb) dX4_onesIn_7 (by decide) rfl rfl (by omega) (by omega) (fun c7 => ?_) (fun c7 => absurd c7 (by omega))
      refine lv_iload_n hx hb dX4_onesIn_29 rfl (lv_at hl 1 rfl) ?_
      exact rd_iret hx hb hr hlocks dX4_onesIn_30 rfl (rfl)
    | succ n ih =>
      intro i a hi ls hl
      refine lv_iload_n hx hb dX4_onesIn_4 rfl (lv_at hl 0 rfl) ?_
      refine lv_bipush (v := 64) hx hb dX4_onesIn_5 (by decide) ?_
      refine n_ige i 64 (tgt := 29) (hexec := hx) (hb := hb) dX4_onesIn_7 (by decide) rfl rfl (by omega) (by omega) (fun c7 => absurd c7 (by omega)) (fun c7 => ?_)
      refine lv_lload_n hx hb dX4_onesIn_10 rfl (lv_at hl 2 rfl) ?_
      refine lv_iload_n hx hb dX4_onesIn_11 rfl (lv_at hl 0 rfl) ?_
      refine lv_lushr (v := ush x (nI i)) hx hb dX4_onesIn_12 rfl ?_
      refine lv_lconst (v := 1) hx hb dX4_onesIn_13 (by decide) ?_
      refine lv_land hx hb dX4_onesIn_14 ?_
      refine lv_lconst (v := 1) hx hb dX4_onesIn_15 (by decide) ?_
      refine n_lne (tgt := 23) hx hb dX4_onesIn_16 dX4_onesIn_17 (by decide) (fun c16 => ?_) (fun c16 => ?_)
      · rw [show onF x a i (n + 1) = onF x a (i + 1) n from onF_f c16]
        refine lv_iinc (v := nI (i + 1)) (lv' := [(3, .int (nI (i + 1))), (2, .int a), (0, .long x)]) hx hb dX4_onesIn_23 hl (k := 0) rfl (nI_1 i) (by decide) rfl (fun ls hl => ?_)
        refine lv_goto (tgt := 4) hx hb dX4_onesIn_26 (by decide) ?_
        exact ih (i + 1) a (by omega) ls (lv_sub hl [0, 1, 2] rfl)
      · rw [show onF x a i (n + 1) = onF x (a + 1) (i + 1) n from onF_t c16]
        refine lv_iinc (v := (a + 1)) (lv' := [(2, .int (a + 1)), (3, .int (nI i)), (0, .long x)]) hx hb dX4_onesIn_20 hl (k := 1) rfl (rfl) (by decide) rfl (fun ls hl => ?_)
        refine lv_iinc (v := nI (i + 1)) (lv' := [(3, .int (nI (i + 1))), (2, .int (a + 1)), (0, .long x)]) hx hb dX4_onesIn_23 hl (k := 1) rfl (nI_1 i) (by decide) rfl (fun ls hl => ?_)
        refine lv_goto (tgt := 4) hx hb dX4_onesIn_26 (by decide) ?_
        exact ih (i + 1) (a + 1) (by omega) ls (lv_sub hl [0, 1, 2] rfl)
  exact loop 64 0 0 (by omega) ls (lv_sub hl [0, 1, 2] rfl)

set_option maxHeartbeats 4000000 in
set_option maxRecDepth 100000 in
/-- masksAreRight -/
theorem c_X4_masksAreRight (l : Launch) (dC : Nat → ClassId) (dI : Nat → Nat → Nat) (cI cL : ClassId) (g : Nat → Nat) (th : Int32) (kn : Nat) (n9 w9 s9 : Int32) (en : Nat) (made : Bool) (wd kinds : Nat → Int32) (av am vals msks : Nat → Int64) (pri act : Nat → Int32) (dat : Nat → Int64) (inb : Nat → Int32) (lat : Int64) (hk : kn ≤ 4) : Met l yX4_masksAreRight wsX4_masksAreRight ({ frames := 1, cells := 0, slots := 0, locals := 21 }) (rd_P (dC, dI) vwCl [(cI, .int), (cL, .long)] [(g 0, .inr (4, [.int th, .int (nI kn), .int n9, .int w9, .int s9, .int (nI en), .int (bI made), .ref (g 1), .ref (g 2), .ref (g 3), .ref (g 4), .ref (g 5), .ref (g 6), .ref (g 7), .ref (g 8), .ref (g 9), .ref (g 10), .long lat])), (g 1, .inl (cI, 4, .inl wd)), (g 2, .inl (cI, 4, .inl kinds)), (g 3, .inl (cL, 4, .inr (.inl av))), (g 4, .inl (cL, 4, .inr (.inl am))), (g 5, .inl (cL, 288, .inr (.inl vals))), (g 6, .inl (cL, 288, .inr (.inl msks))), (g 7, .inl (cI, 72, .inl pri)), (g 8, .inl (cI, 72, .inl act)), (g 9, .inl (cL, 72, .inr (.inl dat))), (g 10, .inl (cI, 16, .inl inb))] [.ref (g 0)]) (rd_Q (some (.int (bI (cTakeAll kinds (fun k => mOne (wd k)) am kn))))) 0 0 (fun _ => False) := by
  refine Met.ofW (cc := cX4_masksAreRight) (maxL := 8) (ret := some .boolean) (by decide) rfl ?_
  intro p e s m args below meth c s₁ B hml hv
  obtain ⟨rfl, hP, hK⟩ := hv
  have hx := B.exec
  have hb := B.bytes
  have hr := B.returns
  have hts := fun w h => atoms_spec (ws := wsX4_masksAreRight) B.pre w (List.mem_cons_of_mem _ h)
  have hown : s.vm.findClass RX4 = some m.cls := findClass_of_methodNamed B.named
  have hlocks := B.notSynchronized
  have hl := lv_entry ([.ref (g 0)]) (n := 8) (Nat.le_of_ble_eq_true rfl)
  rw [lg_entry_eq]
  generalize (lg_sl ([.ref (g 0)]) ++ List.replicate (8 - (lg_sl ([.ref (g 0)])).length) Slot.unset).toArray = ls at hl ⊢
  have hl : lv_has ls 8 [(0, .ref (g 0))] := hl
  refine lv_iconst (v := (nI 0)) hx hb dX4_masksAreRight_0 (by decide) ?_
  refine lv_istore_n (lv' := [(1, .int (nI 0)), (0, .ref (g 0))]) hx hb dX4_masksAreRight_1 rfl hl (by decide) rfl (fun ls hl => ?_)
  have loop : ∀ (n i : Nat), i + n = kn → ∀ ls : Array Slot, lv_has ls 8 [(1, .int (nI i)), (0, .ref (g 0))] → W p l e (headSpec wsX4_masksAreRight ({ frames := 1, cells := 0, slots := 0, locals := 21 })).room s m ([.ref (g 0)]).toArray below meth c s.heap [] 0 0 (MQ below (rd_Q (some (.int (bI (allF (fun k => kTake (kinds k) ((fun k => mOne (wd k)) k) (am k &&& (fun k => mOne (wd k)) k)) i n))))) ([.ref (g 0)]).toArray s 0 0 (fun _ => False)) (F0 m 2 ls []) := by
    intro n
    induction n with
    | zero =>
      intro i hi ls hl
      refine lv_iload_n hx hb dX4_masksAreRight_2 rfl (lv_at hl 0 rfl) ?_
      refine lv_aload_n hx hb dX4_masksAreRight_3 rfl (lv_at hl 1 rfl) ?_
      refine va_get (D := (dC, dI)) (ci := 4) (v := .int (nI kn)) (C := RX4) (T := TX4) (N := 18) hx hb hts inX4 hown hK hP 0 rfl rfl 1 (by decide) (hts _ mw458) (fun _ h9 => h9) rfl dX4_masksAreRight_4 ?_
      refine n_ige i kn (tgt := 84) (hexec := hx) (hb := hb) dX4_masksAreRight_7 (by decide) rfl rfl (by omega) (by omega) (fun c7 => ?_) (fun c7 => absurd c7 (by omega))
      refine lv_iconst (v := 1) hx hb dX4_masksAreRight_84 (by decide) ?_
      exact rd_iret hx hb hr hlocks dX4_masksAreRight_85 rfl (rfl)
    | succ n ih =>
      intro i hi ls hl
      refine lv_iload_n hx hb dX4_masksAreRight_2 rfl (lv_at hl 0 rfl) ?_
      refine lv_aload_n hx hb dX4_masksAreRight_3 rfl (lv_at hl 1 rfl) ?_
      refine va_get (D := (dC, dI)) (ci := 4) (v := .int (nI kn)) (C := RX4) (T := TX4) (N := 18) hx hb hts inX4 hown hK hP 0 rfl rfl 1 (by decide) (hts _ mw458) (fun _ h9 => h9) rfl dX4_masksAreRight_4 ?_
      refine n_ige i kn (tgt := 84) (hexec := hx) (hb := hb) dX4_masksAreRight_7 (by decide) rfl rfl (by omega) (by omega) (fun c7 => absurd c7 (by omega)) (fun c7 => ?_)
      refine lv_aload_n hx hb dX4_masksAreRight_10 rfl (lv_at hl 1 rfl) ?_
      refine lv_iload_n hx hb dX4_masksAreRight_11 rfl (lv_at hl 0 rfl) ?_
      refine rd_calll (r := (mOne (wd i))) (va_runV (As := [.int (nI i)]) (rest := []) ⟨hx, hb, hml, hown, hts⟩ (c_X4_ones l dC dI cI cL g th kn n9 w9 s9 en made wd kinds av am vals msks pri act dat inb lat i (by omega)) (cwV 1 hts (gV mw548 mw550 mw13 mw26 mw551) rfl rfl rfl (by decide +kernel) ⟨Nat.le_of_ble_eq_true rfl, Nat.le_of_ble_eq_true rfl⟩) (rd_preV (hP.sub (ws' := [(g 0, .inr (4, [.int th, .int (nI kn), .int n9, .int w9, .int s9, .int (nI en), .int (bI made), .ref (g 1), .ref (g 2), .ref (g 3), .ref (g 4), .ref (g 5), .ref (g 6), .ref (g 7), .ref (g 8), .ref (g 9), .ref (g 10), .long lat])), (g 1, .inl (cI, 4, .inl wd)), (g 2, .inl (cI, 4, .inl kinds)), (g 3, .inl (cL, 4, .inr (.inl av))), (g 4, .inl (cL, 4, .inr (.inl am))), (g 5, .inl (cL, 288, .inr (.inl vals))), (g 6, .inl (cL, 288, .inr (.inl msks))), (g 7, .inl (cI, 72, .inl pri)), (g 8, .inl (cI, 72, .inl act)), (g 9, .inl (cL, 72, .inr (.inl dat))), (g 10, .inl (cI, 16, .inl inb))]) [0, 1, 2, 3, 4, 5, 6, 7, 8, 9, 10] rfl) hK (va_recv (ci := 4) hK hP rfl (q0 := 0) rfl)) rfl rfl hl.1 rfl (lv_room (Nat.le_of_ble_eq_true rfl)) dX4_masksAreRight_12 ⟨Nat.zero_le _, Nat.zero_le _⟩) ?_
      refine lv_lstore_n (lv' := [(2, .long (mOne (wd i))), (1, .int (nI i)), (0, .ref (g 0))]) hx hb dX4_masksAreRight_15 rfl hl (by decide) rfl (fun ls hl => ?_)
      refine lv_aload_n hx hb dX4_masksAreRight_16 rfl (lv_at hl 2 rfl) ?_
      refine va_get (D := (dC, dI)) (ci := 4) (v := .ref (g 4)) (C := RX4) (T := TX4) (N := 18) hx hb hts inX4 hown hK hP 0 rfl rfl 10 (by decide) (hts _ mw467) (fun _ h9 => h9) rfl dX4_masksAreRight_17 ?_
      refine lv_iload_n hx hb dX4_masksAreRight_20 rfl (lv_at hl 1 rfl) ?_
      refine n_lald hx hb hK hP 4 1 rfl rfl (k := i) rfl (by omega) (by omega) dX4_masksAreRight_21 ?_
      refine lv_lload_n hx hb dX4_masksAreRight_22 rfl (lv_at hl 0 rfl) ?_
      refine lv_land hx hb dX4_masksAreRight_23 ?_
      refine lv_lstore (lv' := [(4, .long ((am i) &&& (mOne (wd i)))), (2, .long (mOne (wd i))), (1, .int (nI i)), (0, .ref (g 0))]) hx hb dX4_masksAreRight_24 hl (by decide) rfl (fun ls hl => ?_)
      refine lv_aload_n hx hb dX4_masksAreRight_26 rfl (lv_at hl 3 rfl) ?_
      refine va_get (D := (dC, dI)) (ci := 4) (v := .ref (g 2)) (C := RX4) (T := TX4) (N := 18) hx hb hts inX4 hown hK hP 0 rfl rfl 8 (by decide) (hts _ mw465) (fun _ h9 => h9) rfl dX4_masksAreRight_27 ?_
      refine lv_iload_n hx hb dX4_masksAreRight_30 rfl (lv_at hl 2 rfl) ?_
      refine n_iald hx hb hK hP 2 0 rfl rfl (k := i) rfl (by omega) (by omega) dX4_masksAreRight_31 ?_
      refine lv_if_ne (tgt := 44) hx hb dX4_masksAreRight_32 (by decide) (fun c32 => ?_) (fun c32 => ?_)
      · refine lv_lload_n hx hb dX4_masksAreRight_44 rfl (lv_at hl 1 rfl) ?_
        refine lv_lload hx hb dX4_masksAreRight_45 (lv_at hl 0 rfl) ?_
        refine lv_ldc2 (v := (-1)) hx hb hown (hts _ mw552) dX4_masksAreRight_47 ?_
        refine lv_lxor hx hb dX4_masksAreRight_50 ?_
        refine lv_land hx hb dX4_masksAreRight_51 ?_
        refine lv_lstore (lv' := [(6, .long ((mOne (wd i)) &&& (((am i) &&& (mOne (wd i))) ^^^ (-1)))), (4, .long ((am i) &&& (mOne (wd i)))), (2, .long (mOne (wd i))), (1, .int (nI i)), (0, .ref (g 0))]) hx hb dX4_masksAreRight_52 hl (by decide) rfl (fun ls hl => ?_)
        refine lv_aload_n hx hb dX4_masksAreRight_54 rfl (lv_at hl 4 rfl) ?_
        refine va_get (D := (dC, dI)) (ci := 4) (v := .ref (g 2)) (C := RX4) (T := TX4) (N := 18) hx hb hts inX4 hown hK hP 0 rfl rfl 8 (by decide) (hts _ mw465) (fun _ h9 => h9) rfl dX4_masksAreRight_55 ?_
        refine lv_iload_n hx hb dX4_masksAreRight_58 rfl (lv_at hl 3 rfl) ?_
        refine n_iald hx hb hK hP 2 0 rfl rfl (k := i) rfl (by omega) (by omega) dX4_masksAreRight_59 ?_
        refine lv_iconst (v := 1) hx hb dX4_masksAreRight_60 (by decide) ?_
        refine lv_icmp_ne (tgt := 78) hx hb dX4_masksAreRight_61 (by decide) (fun c61 => ?_) (fun c61 => ?_)
        · rw [show allF (fun k => kTake (kinds k) ((fun k => mOne (wd k)) k) (am k &&& (fun k => mOne (wd k)) k)) i (n + 1) = allF (fun k => kTake (kinds k) ((fun k => mOne (wd k)) k) (am k &&& (fun k => mOne (wd k)) k)) (i + 1) n from allF_t (by show kTake (kinds i) (mOne (wd i)) (am i &&& mOne (wd i)) = true; unfold kTake; rw [if_neg c32, if_neg c61])]
          refine lv_iinc (v := nI (i + 1)) (lv' := [(1, .int (nI (i + 1))), (6, .long ((mOne (wd i)) &&& (((am i) &&& (mOne (wd i))) ^^^ (-1)))), (4, .long ((am i) &&& (mOne (wd i)))), (2, .long (mOne (wd i))), (0, .ref (g 0))]) hx hb dX4_masksAreRight_78 hl (k := 3) rfl (nI_1 i) (by decide) rfl (fun ls hl => ?_)
          refine lv_goto (tgt := 2) hx hb dX4_masksAreRight_81 (by decide) ?_
          exact ih (i + 1) (by omega) ls (lv_sub hl [0, 4] rfl)
        · refine lv_lload hx hb dX4_masksAreRight_64 (lv_at hl 0 rfl) ?_
          refine lv_lload hx hb dX4_masksAreRight_66 (lv_at hl 0 rfl) ?_
          refine lv_lconst (v := 1) hx hb dX4_masksAreRight_68 (by decide) ?_
          refine lv_ladd hx hb dX4_masksAreRight_69 ?_
          refine lv_land hx hb dX4_masksAreRight_70 ?_
          refine lv_lconst (v := 0) hx hb dX4_masksAreRight_71 (by decide) ?_
          refine n_leq (tgt := 78) hx hb dX4_masksAreRight_72 dX4_masksAreRight_73 (by decide) (fun c72 => ?_) (fun c72 => ?_)
          · rw [show allF (fun k => kTake (kinds k) ((fun k => mOne (wd k)) k) (am k &&& (fun k => mOne (wd k)) k)) i (n + 1) = allF (fun k => kTake (kinds k) ((fun k => mOne (wd k)) k) (am k &&& (fun k => mOne (wd k)) k)) (i + 1) n from allF_t (by show kTake (kinds i) (mOne (wd i)) (am i &&& mOne (wd i)) = true; unfold kTake; rw [c61, if_neg (by decide), if_pos rfl, decide_eq_true c72])]
            refine lv_iinc (v := nI (i + 1)) (lv' := [(1, .int (nI (i + 1))), (6, .long ((mOne (wd i)) &&& (((am i) &&& (mOne (wd i))) ^^^ (-1)))), (4, .long ((am i) &&& (mOne (wd i)))), (2, .long (mOne (wd i))), (0, .ref (g 0))]) hx hb dX4_masksAreRight_78 hl (k := 3) rfl (nI_1 i) (by decide) rfl (fun ls hl => ?_)
            refine lv_goto (tgt := 2) hx hb dX4_masksAreRight_81 (by decide) ?_
            exact ih (i + 1) (by omega) ls (lv_sub hl [0, 4] rfl)
          · refine lv_iconst (v := 0) hx hb dX4_masksAreRight_76 (by decide) ?_
            exact rd_iret hx hb hr hlocks dX4_masksAreRight_77 rfl (by rw [show allF (fun k => kTake (kinds k) ((fun k => mOne (wd k)) k) (am k &&& (fun k => mOne (wd k)) k)) i (n + 1) = false from allF_f (by show kTake (kinds i) (mOne (wd i)) (am i &&& mOne (wd i)) = false; unfold kTake; rw [c61, if_neg (by decide), if_pos rfl, decide_eq_false c72])]; rfl)
      · refine lv_lload hx hb dX4_masksAreRight_35 (lv_at hl 0 rfl) ?_
        refine lv_lload_n hx hb dX4_masksAreRight_37 rfl (lv_at hl 1 rfl) ?_
        refine n_leq (tgt := 44) hx hb dX4_masksAreRight_38 dX4_masksAreRight_39 (by decide) (fun c38 => ?_) (fun c38 => ?_)
        · refine lv_lload_n hx hb dX4_masksAreRight_44 rfl (lv_at hl 1 rfl) ?_
          refine lv_lload hx hb dX4_masksAreRight_45 (lv_at hl 0 rfl) ?_
          refine lv_ldc2 (v := (-1)) hx hb hown (hts _ mw552) dX4_masksAreRight_47 ?_
          refine lv_lxor hx hb dX4_masksAreRight_50 ?_
          refine lv_land hx hb dX4_masksAreRight_51 ?_
          refine lv_lstore (lv' := [(6, .long ((mOne (wd i)) &&& (((am i) &&& (mOne (wd i))) ^^^ (-1)))), (4, .long ((am i) &&& (mOne (wd i)))), (2, .long (mOne (wd i))), (1, .int (nI i)), (0, .ref (g 0))]) hx hb dX4_masksAreRight_52 hl (by decide) rfl (fun ls hl => ?_)
          refine lv_aload_n hx hb dX4_masksAreRight_54 rfl (lv_at hl 4 rfl) ?_
          refine va_get (D := (dC, dI)) (ci := 4) (v := .ref (g 2)) (C := RX4) (T := TX4) (N := 18) hx hb hts inX4 hown hK hP 0 rfl rfl 8 (by decide) (hts _ mw465) (fun _ h9 => h9) rfl dX4_masksAreRight_55 ?_
          refine lv_iload_n hx hb dX4_masksAreRight_58 rfl (lv_at hl 3 rfl) ?_
          refine n_iald hx hb hK hP 2 0 rfl rfl (k := i) rfl (by omega) (by omega) dX4_masksAreRight_59 ?_
          refine lv_iconst (v := 1) hx hb dX4_masksAreRight_60 (by decide) ?_
          refine lv_icmp_ne (tgt := 78) hx hb dX4_masksAreRight_61 (by decide) (fun c61 => ?_) (fun c61 => absurd (c32.symm.trans c61) (by decide))
          rw [show allF (fun k => kTake (kinds k) ((fun k => mOne (wd k)) k) (am k &&& (fun k => mOne (wd k)) k)) i (n + 1) = allF (fun k => kTake (kinds k) ((fun k => mOne (wd k)) k) (am k &&& (fun k => mOne (wd k)) k)) (i + 1) n from allF_t (by show kTake (kinds i) (mOne (wd i)) (am i &&& mOne (wd i)) = true; unfold kTake; rw [if_pos c32, decide_eq_true ((t_ex _ _).mp c38)])]
          refine lv_iinc (v := nI (i + 1)) (lv' := [(1, .int (nI (i + 1))), (6, .long ((mOne (wd i)) &&& (((am i) &&& (mOne (wd i))) ^^^ (-1)))), (4, .long ((am i) &&& (mOne (wd i)))), (2, .long (mOne (wd i))), (0, .ref (g 0))]) hx hb dX4_masksAreRight_78 hl (k := 3) rfl (nI_1 i) (by decide) rfl (fun ls hl => ?_)
          refine lv_goto (tgt := 2) hx hb dX4_masksAreRight_81 (by decide) ?_
          exact ih (i + 1) (by omega) ls (lv_sub hl [0, 4] rfl)
        · refine lv_iconst (v := 0) hx hb dX4_masksAreRight_42 (by decide) ?_
          exact rd_iret hx hb hr hlocks dX4_masksAreRight_43 rfl (by rw [show allF (fun k => kTake (kinds k) ((fun k => mOne (wd k)) k) (am k &&& (fun k => mOne (wd k)) k)) i (n + 1) = false from allF_f (by show kTake (kinds i) (mOne (wd i)) (am i &&& mOne (wd i)) = false; unfold kTake; rw [if_pos c32, decide_eq_false (fun z => c38 ((t_ex _ _).mpr z))])]; rfl)
  exact loop kn 0 (by omega) ls (lv_sub hl [0, 1] rfl)

set_option maxHeartbeats 4000000 in
set_option maxRecDepth 100000 in
/-- matches -/
theorem c_X4_matches (l : Launch) (dC : Nat → ClassId) (dI : Nat → Nat → Nat) (cI cL : ClassId) (g : Nat → Nat) (th : Int32) (kn : Nat) (n9 w9 s9 : Int32) (en : Nat) (made : Bool) (wd kinds : Nat → Int32) (av am vals msks : Nat → Int64) (pri act : Nat → Int32) (dat : Nat → Int64) (inb : Nat → Int32) (lat : Int64) (q : Nat) (hk : kn ≤ 4) (hq : q < 72) : Met l yX4_matches wsX4_matches ({ frames := 0, cells := 0, slots := 0, locals := 0 }) (rd_P (dC, dI) vwCl [(cI, .int), (cL, .long)] [(g 0, .inr (4, [.int th, .int (nI kn), .int n9, .int w9, .int s9, .int (nI en), .int (bI made), .ref (g 1), .ref (g 2), .ref (g 3), .ref (g 4), .ref (g 5), .ref (g 6), .ref (g 7), .ref (g 8), .ref (g 9), .ref (g 10), .long lat])), (g 1, .inl (cI, 4, .inl wd)), (g 2, .inl (cI, 4, .inl kinds)), (g 3, .inl (cL, 4, .inr (.inl av))), (g 4, .inl (cL, 4, .inr (.inl am))), (g 5, .inl (cL, 288, .inr (.inl vals))), (g 6, .inl (cL, 288, .inr (.inl msks))), (g 7, .inl (cI, 72, .inl pri)), (g 8, .inl (cI, 72, .inl act)), (g 9, .inl (cL, 72, .inr (.inl dat))), (g 10, .inl (cI, 16, .inl inb))] [.ref (g 0), .int (nI q)]) (rd_Q (some (.int (bI (cFit av vals msks kn q))))) 0 0 (fun _ => False) := by
  refine Met.ofW (cc := cX4_matches) (maxL := 3) (ret := some .boolean) (by decide) rfl ?_
  intro p e s m args below meth c s₁ B hml hv
  obtain ⟨rfl, hP, hK⟩ := hv
  have hx := B.exec
  have hb := B.bytes
  have hr := B.returns
  have hts := fun w h => atoms_spec (ws := wsX4_matches) B.pre w (List.mem_cons_of_mem _ h)
  have hown : s.vm.findClass RX4 = some m.cls := findClass_of_methodNamed B.named
  have hlocks := B.notSynchronized
  have hl := lv_entry ([.ref (g 0), .int (nI q)]) (n := 3) (Nat.le_of_ble_eq_true rfl)
  rw [lg_entry_eq]
  generalize (lg_sl ([.ref (g 0), .int (nI q)]) ++ List.replicate (3 - (lg_sl ([.ref (g 0), .int (nI q)])).length) Slot.unset).toArray = ls at hl ⊢
  have hl : lv_has ls 3 [(0, .ref (g 0)), (1, .int (nI q))] := hl
  refine lv_iconst (v := (nI 0)) hx hb dX4_matches_0 (by decide) ?_
  refine lv_istore_n (lv' := [(2, .int (nI 0)), (0, .ref (g 0)), (1, .int (nI q))]) hx hb dX4_matches_1 rfl hl (by decide) rfl (fun ls hl => ?_)
  have loop : ∀ (n i : Nat), i + n = kn → ∀ ls : Array Slot, lv_has ls 3 [(2, .int (nI i)), (0, .ref (g 0)), (1, .int (nI q))] → W p l e (headSpec wsX4_matches ({ frames := 0, cells := 0, slots := 0, locals := 0 })).room s m ([.ref (g 0), .int (nI q)]).toArray below meth c s.heap [] 0 0 (MQ below (rd_Q (some (.int (bI (allF (cFitP av vals msks q) i n))))) ([.ref (g 0), .int (nI q)]).toArray s 0 0 (fun _ => False)) (F0 m 2 ls []) := by
    intro n
    induction n with
    | zero =>
      intro i hi ls hl
      refine lv_iload_n hx hb dX4_matches_2 rfl (lv_at hl 0 rfl) ?_
      refine lv_aload_n hx hb dX4_matches_3 rfl (lv_at hl 1 rfl) ?_
      refine va_get (D := (dC, dI)) (ci := 4) (v := .int (nI kn)) (C := RX4) (T := TX4) (N := 18) hx hb hts inX4 hown hK hP 0 rfl rfl 1 (by decide) (hts _ mw458) (fun _ h9 => h9) rfl dX4_matches_4 ?_
      refine n_ige i kn (tgt := 49) (hexec := hx) (hb := hb) dX4_matches_7 (by decide) rfl rfl (by omega) (by omega) (fun c7 => ?_) (fun c7 => absurd c7 (by omega))
      refine lv_iconst (v := 1) hx hb dX4_matches_49 (by decide) ?_
      exact rd_iret hx hb hr hlocks dX4_matches_50 rfl (rfl)
    | succ n ih =>
      intro i hi ls hl
      refine lv_iload_n hx hb dX4_matches_2 rfl (lv_at hl 0 rfl) ?_
      refine lv_aload_n hx hb dX4_matches_3 rfl (lv_at hl 1 rfl) ?_
      refine va_get (D := (dC, dI)) (ci := 4) (v := .int (nI kn)) (C := RX4) (T := TX4) (N := 18) hx hb hts inX4 hown hK hP 0 rfl rfl 1 (by decide) (hts _ mw458) (fun _ h9 => h9) rfl dX4_matches_4 ?_
      refine n_ige i kn (tgt := 49) (hexec := hx) (hb := hb) dX4_matches_7 (by decide) rfl rfl (by omega) (by omega) (fun c7 => absurd c7 (by omega)) (fun c7 => ?_)
      refine lv_aload_n hx hb dX4_matches_10 rfl (lv_at hl 1 rfl) ?_
      refine va_get (D := (dC, dI)) (ci := 4) (v := .ref (g 3)) (C := RX4) (T := TX4) (N := 18) hx hb hts inX4 hown hK hP 0 rfl rfl 9 (by decide) (hts _ mw466) (fun _ h9 => h9) rfl dX4_matches_11 ?_
      refine lv_iload_n hx hb dX4_matches_14 rfl (lv_at hl 0 rfl) ?_
      refine n_lald hx hb hK hP 3 1 rfl rfl (k := i) rfl (by omega) (by omega) dX4_matches_15 ?_
      refine lv_aload_n hx hb dX4_matches_16 rfl (lv_at hl 1 rfl) ?_
      refine va_get (D := (dC, dI)) (ci := 4) (v := .ref (g 6)) (C := RX4) (T := TX4) (N := 18) hx hb hts inX4 hown hK hP 0 rfl rfl 12 (by decide) (hts _ mw469) (fun _ h9 => h9) rfl dX4_matches_17 ?_
      refine lv_iconst (v := 4) hx hb dX4_matches_20 (by decide) ?_
      refine lv_iload_n hx hb dX4_matches_21 rfl (lv_at hl 2 rfl) ?_
      refine lv_imul hx hb dX4_matches_22 ?_
      refine lv_iload_n hx hb dX4_matches_23 rfl (lv_at hl 0 rfl) ?_
      refine lv_iadd hx hb dX4_matches_24 ?_
      refine n_lald hx hb hK hP 6 1 rfl rfl (k := q * 4 + i) (n_ix q i) (by omega) (by omega) dX4_matches_25 ?_
      refine lv_land hx hb dX4_matches_26 ?_
      refine lv_aload_n hx hb dX4_matches_27 rfl (lv_at hl 1 rfl) ?_
      refine va_get (D := (dC, dI)) (ci := 4) (v := .ref (g 5)) (C := RX4) (T := TX4) (N := 18) hx hb hts inX4 hown hK hP 0 rfl rfl 11 (by decide) (hts _ mw468) (fun _ h9 => h9) rfl dX4_matches_28 ?_
      refine lv_iconst (v := 4) hx hb dX4_matches_31 (by decide) ?_
      refine lv_iload_n hx hb dX4_matches_32 rfl (lv_at hl 2 rfl) ?_
      refine lv_imul hx hb dX4_matches_33 ?_
      refine lv_iload_n hx hb dX4_matches_34 rfl (lv_at hl 0 rfl) ?_
      refine lv_iadd hx hb dX4_matches_35 ?_
      refine n_lald hx hb hK hP 5 1 rfl rfl (k := q * 4 + i) (n_ix q i) (by omega) (by omega) dX4_matches_36 ?_
      refine n_leq (tgt := 43) hx hb dX4_matches_37 dX4_matches_38 (by decide) (fun c37 => ?_) (fun c37 => ?_)
      · rw [show allF (cFitP av vals msks q) i (n + 1) = allF (cFitP av vals msks q) (i + 1) n from allF_t (by simp [cFitP, c37])]
        refine lv_iinc (v := nI (i + 1)) (lv' := [(2, .int (nI (i + 1))), (0, .ref (g 0)), (1, .int (nI q))]) hx hb dX4_matches_43 hl (k := 0) rfl (nI_1 i) (by decide) rfl (fun ls hl => ?_)
        refine lv_goto (tgt := 2) hx hb dX4_matches_46 (by decide) ?_
        exact ih (i + 1) (by omega) ls (lv_sub hl [0, 1, 2] rfl)
      · refine lv_iconst (v := 0) hx hb dX4_matches_41 (by decide) ?_
        exact rd_iret hx hb hr hlocks dX4_matches_42 rfl (by rw [show allF (cFitP av vals msks q) i (n + 1) = false from allF_f (by simp [cFitP, c37])]; rfl)
  exact loop kn 0 (by omega) ls (lv_sub hl [0, 1, 2] rfl)

set_option maxHeartbeats 4000000 in
set_option maxRecDepth 100000 in
/-- prefixOnes -/
theorem c_X4_prefixOnes (l : Launch) (dC : Nat → ClassId) (dI : Nat → Nat → Nat) (cI cL : ClassId) (g : Nat → Nat) (th : Int32) (kn : Nat) (n9 w9 s9 : Int32) (en : Nat) (made : Bool) (wd kinds : Nat → Int32) (av am vals msks : Nat → Int64) (pri act : Nat → Int32) (dat : Nat → Int64) (inb : Nat → Int32) (lat : Int64) (q : Nat) (hk : kn ≤ 4) (hq : q < 72) : Met l yX4_prefixOnes wsX4_prefixOnes ({ frames := 1, cells := 0, slots := 0, locals := 23 }) (rd_P (dC, dI) vwCl [(cI, .int), (cL, .long)] [(g 0, .inr (4, [.int th, .int (nI kn), .int n9, .int w9, .int s9, .int (nI en), .int (bI made), .ref (g 1), .ref (g 2), .ref (g 3), .ref (g 4), .ref (g 5), .ref (g 6), .ref (g 7), .ref (g 8), .ref (g 9), .ref (g 10), .long lat])), (g 1, .inl (cI, 4, .inl wd)), (g 2, .inl (cI, 4, .inl kinds)), (g 3, .inl (cL, 4, .inr (.inl av))), (g 4, .inl (cL, 4, .inr (.inl am))), (g 5, .inl (cL, 288, .inr (.inl vals))), (g 6, .inl (cL, 288, .inr (.inl msks))), (g 7, .inl (cI, 72, .inl pri)), (g 8, .inl (cI, 72, .inl act)), (g 9, .inl (cL, 72, .inr (.inl dat))), (g 10, .inl (cI, 16, .inl inb))] [.ref (g 0), .int (nI q)]) (rd_Q (some (.int (mPre kinds msks kn q)))) 0 0 (fun _ => False) := by
  refine Met.ofW (cc := cX4_prefixOnes) (maxL := 3) (ret := some .int) (by decide) rfl ?_
  intro p e s m args below meth c s₁ B hml hv
  obtain ⟨rfl, hP, hK⟩ := hv
  have hx := B.exec
  have hb := B.bytes
  have hr := B.returns
  have hts := fun w h => atoms_spec (ws := wsX4_prefixOnes) B.pre w (List.mem_cons_of_mem _ h)
  have hown : s.vm.findClass RX4 = some m.cls := findClass_of_methodNamed B.named
  have hlocks := B.notSynchronized
  have hl := lv_entry ([.ref (g 0), .int (nI q)]) (n := 3) (Nat.le_of_ble_eq_true rfl)
  rw [lg_entry_eq]
  generalize (lg_sl ([.ref (g 0), .int (nI q)]) ++ List.replicate (3 - (lg_sl ([.ref (g 0), .int (nI q)])).length) Slot.unset).toArray = ls at hl ⊢
  have hl : lv_has ls 3 [(0, .ref (g 0)), (1, .int (nI q))] := hl
  refine lv_iconst (v := (nI 0)) hx hb dX4_prefixOnes_0 (by decide) ?_
  refine lv_istore_n (lv' := [(2, .int (nI 0)), (0, .ref (g 0)), (1, .int (nI q))]) hx hb dX4_prefixOnes_1 rfl hl (by decide) rfl (fun ls hl => ?_)
  have loop : ∀ (n i : Nat), i + n = kn → ∀ ls : Array Slot, lv_has ls 3 [(2, .int (nI i)), (0, .ref (g 0)), (1, .int (nI q))] → W p l e (headSpec wsX4_prefixOnes ({ frames := 1, cells := 0, slots := 0, locals := 23 })).room s m ([.ref (g 0), .int (nI q)]).toArray below meth c s.heap [] 0 0 (MQ below (rd_Q (some (.int (pFst kinds (fun k => msks (q * 4 + k)) i n)))) ([.ref (g 0), .int (nI q)]).toArray s 0 0 (fun _ => False)) (F0 m 2 ls []) := by
    intro n
    induction n with
    | zero =>
      intro i hi ls hl
      refine lv_iload_n hx hb dX4_prefixOnes_2 rfl (lv_at hl 0 rfl) ?_
      refine lv_aload_n hx hb dX4_prefixOnes_3 rfl (lv_at hl 1 rfl) ?_
      refine va_get (D := (dC, dI)) (ci := 4) (v := .int (nI kn)) (C := RX4) (T := TX4) (N := 18) hx hb hts inX4 hown hK hP 0 rfl rfl 1 (by decide) (hts _ mw458) (fun _ h9 => h9) rfl dX4_prefixOnes_4 ?_
      refine n_ige i kn (tgt := 40) (hexec := hx) (hb := hb) dX4_prefixOnes_7 (by decide) rfl rfl (by omega) (by omega) (fun c7 => ?_) (fun c7 => absurd c7 (by omega))
      refine lv_iconst (v := 0) hx hb dX4_prefixOnes_40 (by decide) ?_
      exact rd_iret hx hb hr hlocks dX4_prefixOnes_41 rfl (rfl)
    | succ n ih =>
      intro i hi ls hl
      refine lv_iload_n hx hb dX4_prefixOnes_2 rfl (lv_at hl 0 rfl) ?_
      refine lv_aload_n hx hb dX4_prefixOnes_3 rfl (lv_at hl 1 rfl) ?_
      refine va_get (D := (dC, dI)) (ci := 4) (v := .int (nI kn)) (C := RX4) (T := TX4) (N := 18) hx hb hts inX4 hown hK hP 0 rfl rfl 1 (by decide) (hts _ mw458) (fun _ h9 => h9) rfl dX4_prefixOnes_4 ?_
      refine n_ige i kn (tgt := 40) (hexec := hx) (hb := hb) dX4_prefixOnes_7 (by decide) rfl rfl (by omega) (by omega) (fun c7 => absurd c7 (by omega)) (fun c7 => ?_)
      refine lv_aload_n hx hb dX4_prefixOnes_10 rfl (lv_at hl 1 rfl) ?_
      refine va_get (D := (dC, dI)) (ci := 4) (v := .ref (g 2)) (C := RX4) (T := TX4) (N := 18) hx hb hts inX4 hown hK hP 0 rfl rfl 8 (by decide) (hts _ mw465) (fun _ h9 => h9) rfl dX4_prefixOnes_11 ?_
      refine lv_iload_n hx hb dX4_prefixOnes_14 rfl (lv_at hl 0 rfl) ?_
      refine n_iald hx hb hK hP 2 0 rfl rfl (k := i) rfl (by omega) (by omega) dX4_prefixOnes_15 ?_
      refine lv_iconst (v := 1) hx hb dX4_prefixOnes_16 (by decide) ?_
      refine lv_icmp_ne (tgt := 34) hx hb dX4_prefixOnes_17 (by decide) (fun c17 => ?_) (fun c17 => ?_)
      · rw [show pFst kinds (fun k => msks (q * 4 + k)) i (n + 1) = pFst kinds (fun k => msks (q * 4 + k)) (i + 1) n from if_neg c17]
        refine lv_iinc (v := nI (i + 1)) (lv' := [(2, .int (nI (i + 1))), (0, .ref (g 0)), (1, .int (nI q))]) hx hb dX4_prefixOnes_34 hl (k := 0) rfl (nI_1 i) (by decide) rfl (fun ls hl => ?_)
        refine lv_goto (tgt := 2) hx hb dX4_prefixOnes_37 (by decide) ?_
        exact ih (i + 1) (by omega) ls (lv_sub hl [0, 1, 2] rfl)
      · refine lv_aload_n hx hb dX4_prefixOnes_20 rfl (lv_at hl 1 rfl) ?_
        refine va_get (D := (dC, dI)) (ci := 4) (v := .ref (g 6)) (C := RX4) (T := TX4) (N := 18) hx hb hts inX4 hown hK hP 0 rfl rfl 12 (by decide) (hts _ mw469) (fun _ h9 => h9) rfl dX4_prefixOnes_21 ?_
        refine lv_iconst (v := 4) hx hb dX4_prefixOnes_24 (by decide) ?_
        refine lv_iload_n hx hb dX4_prefixOnes_25 rfl (lv_at hl 2 rfl) ?_
        refine lv_imul hx hb dX4_prefixOnes_26 ?_
        refine lv_iload_n hx hb dX4_prefixOnes_27 rfl (lv_at hl 0 rfl) ?_
        refine lv_iadd hx hb dX4_prefixOnes_28 ?_
        refine n_lald hx hb hK hP 6 1 rfl rfl (k := q * 4 + i) (n_ix q i) (by omega) (by omega) dX4_prefixOnes_29 ?_
        refine rd_calli (r := (onesN (msks (q * 4 + i)))) (va_runS (As := [.long (msks (q * 4 + i))]) (rest := []) ⟨hx, hb, hml, hown, hts⟩ (c_X4_onesIn l dC dI cI cL (msks (q * 4 + i))) (cwS 1 hts (gS mw594 mw595 mw26 mw596) rfl rfl rfl (by decide +kernel) ⟨Nat.le_of_ble_eq_true rfl, Nat.le_of_ble_eq_true rfl⟩) (rd_preS (hP.sub (ws' := []) [] rfl) hK) rfl rfl hl.1 rfl (lv_room (Nat.le_of_ble_eq_true rfl)) dX4_prefixOnes_30 ⟨Nat.zero_le _, Nat.zero_le _⟩) ?_
        exact rd_iret hx hb hr hlocks dX4_prefixOnes_33 rfl (by rw [show pFst kinds (fun k => msks (q * 4 + k)) i (n + 1) = onesN (msks (q * 4 + i)) from if_pos c17])
  exact loop kn 0 (by omega) ls (lv_sub hl [0, 1, 2] rfl)

set_option maxHeartbeats 4000000 in
set_option maxRecDepth 100000 in
/-- most -/
theorem c_X4_most (l : Launch) (dC : Nat → ClassId) (dI : Nat → Nat → Nat) (cI cL : ClassId) (g : Nat → Nat) (th : Int32) (kn : Nat) (n9 w9 s9 : Int32) (en : Nat) (made : Bool) (wd kinds : Nat → Int32) (av am vals msks : Nat → Int64) (pri act : Nat → Int32) (dat : Nat → Int64) (inb : Nat → Int32) (lat : Int64) (hk : kn ≤ 4) : Met l yX4_most wsX4_most ({ frames := 2, cells := 0, slots := 0, locals := 42 }) (rd_P (dC, dI) vwCl [(cI, .int), (cL, .long)] [(g 0, .inr (4, [.int th, .int (nI kn), .int n9, .int w9, .int s9, .int (nI en), .int (bI made), .ref (g 1), .ref (g 2), .ref (g 3), .ref (g 4), .ref (g 5), .ref (g 6), .ref (g 7), .ref (g 8), .ref (g 9), .ref (g 10), .long lat])), (g 1, .inl (cI, 4, .inl wd)), (g 2, .inl (cI, 4, .inl kinds)), (g 3, .inl (cL, 4, .inr (.inl av))), (g 4, .inl (cL, 4, .inr (.inl am))), (g 5, .inl (cL, 288, .inr (.inl vals))), (g 6, .inl (cL, 288, .inr (.inl msks))), (g 7, .inl (cI, 72, .inl pri)), (g 8, .inl (cI, 72, .inl act)), (g 9, .inl (cL, 72, .inr (.inl dat))), (g 10, .inl (cI, 16, .inl inb))] [.ref (g 0)]) (rd_Q (some (.int (mMost kinds kn n9 w9 s9)))) 0 0 (fun _ => False) := by
  refine Met.ofW (cc := cX4_most) (maxL := 1) (ret := some .int) (by decide) rfl ?_
  intro p e s m args below meth c s₁ B hml hv
  obtain ⟨rfl, hP, hK⟩ := hv
  have hx := B.exec
  have hb := B.bytes
  have hr := B.returns
  have hts := fun w h => atoms_spec (ws := wsX4_most) B.pre w (List.mem_cons_of_mem _ h)
  have hown : s.vm.findClass RX4 = some m.cls := findClass_of_methodNamed B.named
  have hlocks := B.notSynchronized
  have hl := lv_entry ([.ref (g 0)]) (n := 1) (Nat.le_of_ble_eq_true rfl)
  rw [lg_entry_eq]
  generalize (lg_sl ([.ref (g 0)]) ++ List.replicate (1 - (lg_sl ([.ref (g 0)])).length) Slot.unset).toArray = ls at hl ⊢
  have hl : lv_has ls 1 [(0, .ref (g 0))] := hl
  refine lv_aload_n hx hb dX4_most_0 rfl (lv_at hl 0 rfl) ?_
  refine rd_calli (r := (bI (kExact kinds kn))) (va_runV (As := []) (rest := []) ⟨hx, hb, hml, hown, hts⟩ (c_X4_hashed l dC dI cI cL g th kn n9 w9 s9 en made wd kinds av am vals msks pri act dat inb lat hk) (cwV 0 hts (gV mw532 mw534 mw11 mw26 mw535) rfl rfl rfl (by decide +kernel) ⟨Nat.le_of_ble_eq_true rfl, Nat.le_of_ble_eq_true rfl⟩) (rd_preV (hP.sub (ws' := [(g 0, .inr (4, [.int th, .int (nI kn), .int n9, .int w9, .int s9, .int (nI en), .int (bI made), .ref (g 1), .ref (g 2), .ref (g 3), .ref (g 4), .ref (g 5), .ref (g 6), .ref (g 7), .ref (g 8), .ref (g 9), .ref (g 10), .long lat])), (g 1, .inl (cI, 4, .inl wd)), (g 2, .inl (cI, 4, .inl kinds)), (g 3, .inl (cL, 4, .inr (.inl av))), (g 4, .inl (cL, 4, .inr (.inl am))), (g 5, .inl (cL, 288, .inr (.inl vals))), (g 6, .inl (cL, 288, .inr (.inl msks))), (g 7, .inl (cI, 72, .inl pri)), (g 8, .inl (cI, 72, .inl act)), (g 9, .inl (cL, 72, .inr (.inl dat))), (g 10, .inl (cI, 16, .inl inb))]) [0, 1, 2, 3, 4, 5, 6, 7, 8, 9, 10] rfl) hK (va_recv (ci := 4) hK hP rfl (q0 := 0) rfl)) rfl rfl hl.1 rfl (lv_room (Nat.le_of_ble_eq_true rfl)) dX4_most_1 ⟨Nat.zero_le _, Nat.zero_le _⟩) ?_
  refine lv_if_eq (tgt := 24) hx hb dX4_most_4 (by decide) (fun c4 => ?_) (fun c4 => ?_)
  · refine lv_aload_n hx hb dX4_most_24 rfl (lv_at hl 0 rfl) ?_
    refine va_get (D := (dC, dI)) (ci := 4) (v := .int n9) (C := RX4) (T := TX4) (N := 18) hx hb hts inX4 hown hK hP 0 rfl rfl 2 (by decide) (hts _ mw459) (fun _ h9 => h9) rfl dX4_most_25 ?_
    exact rd_iret hx hb hr hlocks dX4_most_28 rfl (by unfold mMost; rw [bI_eq c4]; rfl)
  · refine lv_aload_n hx hb dX4_most_7 rfl (lv_at hl 0 rfl) ?_
    refine va_get (D := (dC, dI)) (ci := 4) (v := .int n9) (C := RX4) (T := TX4) (N := 18) hx hb hts inX4 hown hK hP 0 rfl rfl 2 (by decide) (hts _ mw459) (fun _ h9 => h9) rfl dX4_most_8 ?_
    refine lv_aload_n hx hb dX4_most_11 rfl (lv_at hl 0 rfl) ?_
    refine va_get (D := (dC, dI)) (ci := 4) (v := .int w9) (C := RX4) (T := TX4) (N := 18) hx hb hts inX4 hown hK hP 0 rfl rfl 3 (by decide) (hts _ mw460) (fun _ h9 => h9) rfl dX4_most_12 ?_
    refine lv_imul hx hb dX4_most_15 ?_
    refine lv_aload_n hx hb dX4_most_16 rfl (lv_at hl 0 rfl) ?_
    refine va_get (D := (dC, dI)) (ci := 4) (v := .int s9) (C := RX4) (T := TX4) (N := 18) hx hb hts inX4 hown hK hP 0 rfl rfl 4 (by decide) (hts _ mw461) (fun _ h9 => h9) rfl dX4_most_17 ?_
    refine lv_iadd hx hb dX4_most_20 ?_
    refine lv_goto (tgt := 28) hx hb dX4_most_21 (by decide) ?_
    exact rd_iret hx hb hr hlocks dX4_most_28 rfl (by unfold mMost; rw [bI_ne c4]; rfl)

set_option maxHeartbeats 4000000 in
set_option maxRecDepth 100000 in
/-- there -/
theorem c_X4_there (l : Launch) (dC : Nat → ClassId) (dI : Nat → Nat → Nat) (cI cL : ClassId) (g : Nat → Nat) (th : Int32) (kn : Nat) (n9 w9 s9 : Int32) (en : Nat) (made : Bool) (wd kinds : Nat → Int32) (av am vals msks : Nat → Int64) (pri act : Nat → Int32) (dat : Nat → Int64) (inb : Nat → Int32) (lat : Int64) (hk : kn ≤ 4) (he : en ≤ 72) : Met l yX4_there wsX4_there ({ frames := 1, cells := 0, slots := 0, locals := 21 }) (rd_P (dC, dI) vwCl [(cI, .int), (cL, .long)] [(g 0, .inr (4, [.int th, .int (nI kn), .int n9, .int w9, .int s9, .int (nI en), .int (bI made), .ref (g 1), .ref (g 2), .ref (g 3), .ref (g 4), .ref (g 5), .ref (g 6), .ref (g 7), .ref (g 8), .ref (g 9), .ref (g 10), .long lat])), (g 1, .inl (cI, 4, .inl wd)), (g 2, .inl (cI, 4, .inl kinds)), (g 3, .inl (cL, 4, .inr (.inl av))), (g 4, .inl (cL, 4, .inr (.inl am))), (g 5, .inl (cL, 288, .inr (.inl vals))), (g 6, .inl (cL, 288, .inr (.inl msks))), (g 7, .inl (cI, 72, .inl pri)), (g 8, .inl (cI, 72, .inl act)), (g 9, .inl (cL, 72, .inr (.inl dat))), (g 10, .inl (cI, 16, .inl inb))] [.ref (g 0)]) (rd_Q (some (.int (cFind (fun k => mOne (wd k)) av am vals msks kn en)))) 0 0 (fun _ => False) := by
  refine Met.ofW (cc := cX4_there) (maxL := 6) (ret := some .int) (by decide) rfl ?_
  intro p e s m args below meth c s₁ B hml hv
  obtain ⟨rfl, hP, hK⟩ := hv
  have hx := B.exec
  have hb := B.bytes
  have hr := B.returns
  have hts := fun w h => atoms_spec (ws := wsX4_there) B.pre w (List.mem_cons_of_mem _ h)
  have hown : s.vm.findClass RX4 = some m.cls := findClass_of_methodNamed B.named
  have hlocks := B.notSynchronized
  have hl := lv_entry ([.ref (g 0)]) (n := 6) (Nat.le_of_ble_eq_true rfl)
  rw [lg_entry_eq]
  generalize (lg_sl ([.ref (g 0)]) ++ List.replicate (6 - (lg_sl ([.ref (g 0)])).length) Slot.unset).toArray = ls at hl ⊢
  have hl : lv_has ls 6 [(0, .ref (g 0))] := hl
  refine lv_iconst (v := (nI 0)) hx hb dX4_there_0 (by decide) ?_
  refine lv_istore_n (lv' := [(1, .int (nI 0)), (0, .ref (g 0))]) hx hb dX4_there_1 rfl hl (by decide) rfl (fun ls hl => ?_)
  have loop : ∀ (n i : Nat), i + n = en → ∀ ls : Array Slot, lv_has ls 6 [(1, .int (nI i)), (0, .ref (g 0))] → W p l e (headSpec wsX4_there ({ frames := 1, cells := 0, slots := 0, locals := 21 })).room s m ([.ref (g 0)]).toArray below meth c s.heap [] 0 0 (MQ below (rd_Q (some (.int (findF (cAsk (fun k => mOne (wd k)) av am vals msks kn) i n)))) ([.ref (g 0)]).toArray s 0 0 (fun _ => False)) (F0 m 2 ls []) := by
    intro n
    induction n with
    | zero =>
      intro i hi ls hl
      refine lv_iload_n hx hb dX4_there_2 rfl (lv_at hl 0 rfl) ?_
      refine lv_aload_n hx hb dX4_there_3 rfl (lv_at hl 1 rfl) ?_
      refine va_get (D := (dC, dI)) (ci := 4) (v := .int (nI en)) (C := RX4) (T := TX4) (N := 18) hx hb hts inX4 hown hK hP 0 rfl rfl 5 (by decide) (hts _ mw462) (fun _ h9 => h9) rfl dX4_there_4 ?_
      refine n_ige i en (tgt := 95) (hexec := hx) (hb := hb) dX4_there_7 (by decide) rfl rfl (by omega) (by omega) (fun c7 => ?_) (fun c7 => absurd c7 (by omega))
      refine lv_iconst (v := (-1)) hx hb dX4_there_95 (by decide) ?_
      exact rd_iret hx hb hr hlocks dX4_there_96 rfl (rfl)
    | succ n ih =>
      intro i hi ls hl
      refine lv_iload_n hx hb dX4_there_2 rfl (lv_at hl 0 rfl) ?_
      refine lv_aload_n hx hb dX4_there_3 rfl (lv_at hl 1 rfl) ?_
      refine va_get (D := (dC, dI)) (ci := 4) (v := .int (nI en)) (C := RX4) (T := TX4) (N := 18) hx hb hts inX4 hown hK hP 0 rfl rfl 5 (by decide) (hts _ mw462) (fun _ h9 => h9) rfl dX4_there_4 ?_
      refine n_ige i en (tgt := 95) (hexec := hx) (hb := hb) dX4_there_7 (by decide) rfl rfl (by omega) (by omega) (fun c7 => absurd c7 (by omega)) (fun c7 => ?_)
      refine lv_iconst (v := (bI true)) hx hb dX4_there_10 (by decide) ?_
      refine lv_istore_n (lv' := [(2, .int (bI true)), (1, .int (nI i)), (0, .ref (g 0))]) hx hb dX4_there_11 rfl hl (by decide) rfl (fun ls hl => ?_)
      refine lv_iconst (v := (nI 0)) hx hb dX4_there_12 (by decide) ?_
      refine lv_istore_n (lv' := [(3, .int (nI 0)), (2, .int (bI true)), (1, .int (nI i)), (0, .ref (g 0))]) hx hb dX4_there_13 rfl hl (by decide) rfl (fun ls hl => ?_)
      have inner : ∀ (n2 j : Nat) (b : Bool), j + n2 = kn → (∀ ls : Array Slot, lv_has ls 6 [(2, .int (bI (b && allF (cAskP (fun k => mOne (wd k)) av am vals msks i) j n2))), (1, .int (nI i)), (0, .ref (g 0))] → W p l e (headSpec wsX4_there ({ frames := 1, cells := 0, slots := 0, locals := 21 })).room s m ([.ref (g 0)]).toArray below meth c s.heap [] 0 0 (MQ below (rd_Q (some (.int (findF (cAsk (fun k => mOne (wd k)) av am vals msks kn) i (n + 1))))) ([.ref (g 0)]).toArray s 0 0 (fun _ => False)) (F0 m 83 ls [])) → ∀ ls : Array Slot, lv_has ls 6 [(3, .int (nI j)), (2, .int (bI b)), (1, .int (nI i)), (0, .ref (g 0))] → W p l e (headSpec wsX4_there ({ frames := 1, cells := 0, slots := 0, locals := 21 })).room s m ([.ref (g 0)]).toArray below meth c s.heap [] 0 0 (MQ below (rd_Q (some (.int (findF (cAsk (fun k => mOne (wd k)) av am vals msks kn) i (n + 1))))) ([.ref (g 0)]).toArray s 0 0 (fun _ => False)) (F0 m 14 ls []) := by
        intro n2
        induction n2 with
        | zero =>
          intro j b hj kk ls hl
          refine lv_iload_n hx hb dX4_there_14 rfl (lv_at hl 0 rfl) ?_
          refine lv_aload_n hx hb dX4_there_15 rfl (lv_at hl 3 rfl) ?_
          refine va_get (D := (dC, dI)) (ci := 4) (v := .int (nI kn)) (C := RX4) (T := TX4) (N := 18) hx hb hts inX4 hown hK hP 0 rfl rfl 1 (by decide) (hts _ mw458) (fun _ h9 => h9) rfl dX4_there_16 ?_
          refine n_ige j kn (tgt := 83) (hexec := hx) (hb := hb) dX4_there_19 (by decide) rfl rfl (by omega) (by omega) (fun c19 => ?_) (fun c19 => absurd c19 (by omega))
          exact kk ls (lv_sub hl [1, 2, 3] (by simp [lv_pick, allF]))
        | succ n2 ih2 =>
          intro j b hj kk ls hl
          refine lv_iload_n hx hb dX4_there_14 rfl (lv_at hl 0 rfl) ?_
          refine lv_aload_n hx hb dX4_there_15 rfl (lv_at hl 3 rfl) ?_
          refine va_get (D := (dC, dI)) (ci := 4) (v := .int (nI kn)) (C := RX4) (T := TX4) (N := 18) hx hb hts inX4 hown hK hP 0 rfl rfl 1 (by decide) (hts _ mw458) (fun _ h9 => h9) rfl dX4_there_16 ?_
          refine n_ige j kn (tgt := 83) (hexec := hx) (hb := hb) dX4_there_19 (by decide) rfl rfl (by omega) (by omega) (fun c19 => absurd c19 (by omega)) (fun c19 => ?_)
          refine lv_aload_n hx hb dX4_there_22 rfl (lv_at hl 3 rfl) ?_
          refine va_get (D := (dC, dI)) (ci := 4) (v := .ref (g 4)) (C := RX4) (T := TX4) (N := 18) hx hb hts inX4 hown hK hP 0 rfl rfl 10 (by decide) (hts _ mw467) (fun _ h9 => h9) rfl dX4_there_23 ?_
          refine lv_iload_n hx hb dX4_there_26 rfl (lv_at hl 0 rfl) ?_
          refine n_lald hx hb hK hP 4 1 rfl rfl (k := j) rfl (by omega) (by omega) dX4_there_27 ?_
          refine lv_aload_n hx hb dX4_there_28 rfl (lv_at hl 3 rfl) ?_
          refine lv_iload_n hx hb dX4_there_29 rfl (lv_at hl 0 rfl) ?_
          refine rd_calll (r := (mOne (wd j))) (va_runV (As := [.int (nI j)]) (rest := [.long (am j)]) ⟨hx, hb, hml, hown, hts⟩ (c_X4_ones l dC dI cI cL g th kn n9 w9 s9 en made wd kinds av am vals msks pri act dat inb lat j (by omega)) (cwV 1 hts (gV mw548 mw550 mw13 mw26 mw551) rfl rfl rfl (by decide +kernel) ⟨Nat.le_of_ble_eq_true rfl, Nat.le_of_ble_eq_true rfl⟩) (rd_preV (hP.sub (ws' := [(g 0, .inr (4, [.int th, .int (nI kn), .int n9, .int w9, .int s9, .int (nI en), .int (bI made), .ref (g 1), .ref (g 2), .ref (g 3), .ref (g 4), .ref (g 5), .ref (g 6), .ref (g 7), .ref (g 8), .ref (g 9), .ref (g 10), .long lat])), (g 1, .inl (cI, 4, .inl wd)), (g 2, .inl (cI, 4, .inl kinds)), (g 3, .inl (cL, 4, .inr (.inl av))), (g 4, .inl (cL, 4, .inr (.inl am))), (g 5, .inl (cL, 288, .inr (.inl vals))), (g 6, .inl (cL, 288, .inr (.inl msks))), (g 7, .inl (cI, 72, .inl pri)), (g 8, .inl (cI, 72, .inl act)), (g 9, .inl (cL, 72, .inr (.inl dat))), (g 10, .inl (cI, 16, .inl inb))]) [0, 1, 2, 3, 4, 5, 6, 7, 8, 9, 10] rfl) hK (va_recv (ci := 4) hK hP rfl (q0 := 0) rfl)) rfl rfl hl.1 rfl (lv_room (Nat.le_of_ble_eq_true rfl)) dX4_there_30 ⟨Nat.zero_le _, Nat.zero_le _⟩) ?_
          refine lv_land hx hb dX4_there_33 ?_
          refine lv_lstore (lv' := [(4, .long ((am j) &&& (mOne (wd j)))), (3, .int (nI j)), (2, .int (bI b)), (1, .int (nI i)), (0, .ref (g 0))]) hx hb dX4_there_34 hl (by decide) rfl (fun ls hl => ?_)
          refine lv_aload_n hx hb dX4_there_36 rfl (lv_at hl 4 rfl) ?_
          refine va_get (D := (dC, dI)) (ci := 4) (v := .ref (g 6)) (C := RX4) (T := TX4) (N := 18) hx hb hts inX4 hown hK hP 0 rfl rfl 12 (by decide) (hts _ mw469) (fun _ h9 => h9) rfl dX4_there_37 ?_
          refine lv_iconst (v := 4) hx hb dX4_there_40 (by decide) ?_
          refine lv_iload_n hx hb dX4_there_41 rfl (lv_at hl 3 rfl) ?_
          refine lv_imul hx hb dX4_there_42 ?_
          refine lv_iload_n hx hb dX4_there_43 rfl (lv_at hl 1 rfl) ?_
          refine lv_iadd hx hb dX4_there_44 ?_
          refine n_lald hx hb hK hP 6 1 rfl rfl (k := i * 4 + j) (n_ix i j) (by omega) (by omega) dX4_there_45 ?_
          refine lv_lload hx hb dX4_there_46 (lv_at hl 0 rfl) ?_
          refine n_lne (tgt := 75) hx hb dX4_there_48 dX4_there_49 (by decide) (fun c48 => ?_) (fun c48 => ?_)
          · refine lv_iconst (v := (bI false)) hx hb dX4_there_75 (by decide) ?_
            refine lv_istore_n (lv' := [(2, .int (bI false)), (4, .long ((am j) &&& (mOne (wd j)))), (3, .int (nI j)), (1, .int (nI i)), (0, .ref (g 0))]) hx hb dX4_there_76 rfl hl (by decide) rfl (fun ls hl => ?_)
            refine lv_iinc (v := nI (j + 1)) (lv' := [(3, .int (nI (j + 1))), (2, .int (bI false)), (4, .long ((am j) &&& (mOne (wd j)))), (1, .int (nI i)), (0, .ref (g 0))]) hx hb dX4_there_77 hl (k := 2) rfl (nI_1 j) (by decide) rfl (fun ls hl => ?_)
            refine lv_goto (tgt := 14) hx hb dX4_there_80 (by decide) ?_
            exact ih2 (j + 1) false (by omega) (by rw [show (false && allF (cAskP (fun k => mOne (wd k)) av am vals msks i) (j + 1) n2) = (b && allF (cAskP (fun k => mOne (wd k)) av am vals msks i) j (n2 + 1)) from by rw [allF_f (by simp [cAskP, c48]), Bool.and_false]; rfl]; exact kk) ls (lv_sub hl [0, 1, 3, 4] rfl)
          · refine lv_aload_n hx hb dX4_there_52 rfl (lv_at hl 4 rfl) ?_
            refine va_get (D := (dC, dI)) (ci := 4) (v := .ref (g 5)) (C := RX4) (T := TX4) (N := 18) hx hb hts inX4 hown hK hP 0 rfl rfl 11 (by decide) (hts _ mw468) (fun _ h9 => h9) rfl dX4_there_53 ?_
            refine lv_iconst (v := 4) hx hb dX4_there_56 (by decide) ?_
            refine lv_iload_n hx hb dX4_there_57 rfl (lv_at hl 3 rfl) ?_
            refine lv_imul hx hb dX4_there_58 ?_
            refine lv_iload_n hx hb dX4_there_59 rfl (lv_at hl 1 rfl) ?_
            refine lv_iadd hx hb dX4_there_60 ?_
            refine n_lald hx hb hK hP 5 1 rfl rfl (k := i * 4 + j) (n_ix i j) (by omega) (by omega) dX4_there_61 ?_
            refine lv_aload_n hx hb dX4_there_62 rfl (lv_at hl 4 rfl) ?_
            refine va_get (D := (dC, dI)) (ci := 4) (v := .ref (g 3)) (C := RX4) (T := TX4) (N := 18) hx hb hts inX4 hown hK hP 0 rfl rfl 9 (by decide) (hts _ mw466) (fun _ h9 => h9) rfl dX4_there_63 ?_
            refine lv_iload_n hx hb dX4_there_66 rfl (lv_at hl 1 rfl) ?_
            refine n_lald hx hb hK hP 3 1 rfl rfl (k := j) rfl (by omega) (by omega) dX4_there_67 ?_
            refine lv_lload hx hb dX4_there_68 (lv_at hl 0 rfl) ?_
            refine lv_land hx hb dX4_there_70 ?_
            refine n_leq (tgt := 77) hx hb dX4_there_71 dX4_there_72 (by decide) (fun c71 => ?_) (fun c71 => ?_)
            · refine lv_iinc (v := nI (j + 1)) (lv' := [(3, .int (nI (j + 1))), (4, .long ((am j) &&& (mOne (wd j)))), (2, .int (bI b)), (1, .int (nI i)), (0, .ref (g 0))]) hx hb dX4_there_77 hl (k := 1) rfl (nI_1 j) (by decide) rfl (fun ls hl => ?_)
              refine lv_goto (tgt := 14) hx hb dX4_there_80 (by decide) ?_
              exact ih2 (j + 1) b (by omega) (by rw [show (b && allF (cAskP (fun k => mOne (wd k)) av am vals msks i) (j + 1) n2) = (b && allF (cAskP (fun k => mOne (wd k)) av am vals msks i) j (n2 + 1)) from by rw [allF_t (by simp [cAskP, c48, c71])]]; exact kk) ls (lv_sub hl [0, 2, 3, 4] rfl)
            · refine lv_iconst (v := (bI false)) hx hb dX4_there_75 (by decide) ?_
              refine lv_istore_n (lv' := [(2, .int (bI false)), (4, .long ((am j) &&& (mOne (wd j)))), (3, .int (nI j)), (1, .int (nI i)), (0, .ref (g 0))]) hx hb dX4_there_76 rfl hl (by decide) rfl (fun ls hl => ?_)
              refine lv_iinc (v := nI (j + 1)) (lv' := [(3, .int (nI (j + 1))), (2, .int (bI false)), (4, .long ((am j) &&& (mOne (wd j)))), (1, .int (nI i)), (0, .ref (g 0))]) hx hb dX4_there_77 hl (k := 2) rfl (nI_1 j) (by decide) rfl (fun ls hl => ?_)
              refine lv_goto (tgt := 14) hx hb dX4_there_80 (by decide) ?_
              exact ih2 (j + 1) false (by omega) (by rw [show (false && allF (cAskP (fun k => mOne (wd k)) av am vals msks i) (j + 1) n2) = (b && allF (cAskP (fun k => mOne (wd k)) av am vals msks i) j (n2 + 1)) from by rw [allF_f (by simp [cAskP, c71]), Bool.and_false]; rfl]; exact kk) ls (lv_sub hl [0, 1, 3, 4] rfl)
      refine inner kn 0 true (by omega) (fun ls hl => ?_) ls (lv_sub hl [0, 1, 2, 3] rfl)
      rw [Bool.true_and] at hl
      refine lv_iload_n hx hb dX4_there_83 rfl (lv_at hl 0 rfl) ?_
      refine lv_if_eq (tgt := 89) hx hb dX4_there_84 (by decide) (fun c84 => ?_) (fun c84 => ?_)
      · rw [show findF (cAsk (fun k => mOne (wd k)) av am vals msks kn) i (n + 1) = findF (cAsk (fun k => mOne (wd k)) av am vals msks kn) (i + 1) n from findF_f (bI_eq c84)]
        refine lv_iinc (v := nI (i + 1)) (lv' := [(1, .int (nI (i + 1))), (2, .int (bI (allF (cAskP (fun k => mOne (wd k)) av am vals msks i) 0 kn))), (0, .ref (g 0))]) hx hb dX4_there_89 hl (k := 1) rfl (nI_1 i) (by decide) rfl (fun ls hl => ?_)
        refine lv_goto (tgt := 2) hx hb dX4_there_92 (by decide) ?_
        exact ih (i + 1) (by omega) ls (lv_sub hl [0, 2] rfl)
      · refine lv_iload_n hx hb dX4_there_87 rfl (lv_at hl 1 rfl) ?_
        exact rd_iret hx hb hr hlocks dX4_there_88 rfl (by rw [show findF (cAsk (fun k => mOne (wd k)) av am vals msks kn) i (n + 1) = nI i from findF_t (bI_ne c84)])
  exact loop en 0 (by omega) ls (lv_sub hl [0, 1] rfl)

set_option maxHeartbeats 4000000 in
set_option maxRecDepth 100000 in
/-- bucketOf -/
theorem c_X4_bucketOf_v (l : Launch) (dC : Nat → ClassId) (dI : Nat → Nat → Nat) (cI cL : ClassId) (g : Nat → Nat) (th : Int32) (kn : Nat) (n9 w9 s9 : Int32) (en : Nat) (made : Bool) (wd kinds : Nat → Int32) (av am vals msks : Nat → Int64) (pri act : Nat → Int32) (dat : Nat → Int64) (inb : Nat → Int32) (lat : Int64) (hk : kn ≤ 4) : Met l yX4_bucketOf wsX4_bucketOf ({ frames := 1, cells := 0, slots := 0, locals := 21 }) (rd_P (dC, dI) vwCl [(cI, .int), (cL, .long)] [(g 0, .inr (4, [.int th, .int (nI kn), .int n9, .int w9, .int s9, .int (nI en), .int (bI made), .ref (g 1), .ref (g 2), .ref (g 3), .ref (g 4), .ref (g 5), .ref (g 6), .ref (g 7), .ref (g 8), .ref (g 9), .ref (g 10), .long lat])), (g 1, .inl (cI, 4, .inl wd)), (g 2, .inl (cI, 4, .inl kinds)), (g 3, .inl (cL, 4, .inr (.inl av))), (g 4, .inl (cL, 4, .inr (.inl am))), (g 5, .inl (cL, 288, .inr (.inl vals))), (g 6, .inl (cL, 288, .inr (.inl msks))), (g 7, .inl (cI, 72, .inl pri)), (g 8, .inl (cI, 72, .inl act)), (g 9, .inl (cL, 72, .inr (.inl dat))), (g 10, .inl (cI, 16, .inl inb))] [.ref (g 0), .ref (g 3), .int (nI 0)]) (rd_Q (some (.int (mIdx n9 (hMix (hashF (fun k => av k &&& mOne (wd k)) 0 0 kn)))))) 0 0 (fun _ => False) := by
  refine Met.ofW (cc := cX4_bucketOf) (maxL := 8) (ret := some .int) (by decide) rfl ?_
  intro p e s m args below meth c s₁ B hml hv
  obtain ⟨rfl, hP, hK⟩ := hv
  have hx := B.exec
  have hb := B.bytes
  have hr := B.returns
  have hts := fun w h => atoms_spec (ws := wsX4_bucketOf) B.pre w (List.mem_cons_of_mem _ h)
  have hown : s.vm.findClass RX4 = some m.cls := findClass_of_methodNamed B.named
  have hlocks := B.notSynchronized
  have hl := lv_entry ([.ref (g 0), .ref (g 3), .int (nI 0)]) (n := 8) (Nat.le_of_ble_eq_true rfl)
  rw [lg_entry_eq]
  generalize (lg_sl ([.ref (g 0), .ref (g 3), .int (nI 0)]) ++ List.replicate (8 - (lg_sl ([.ref (g 0), .ref (g 3), .int (nI 0)])).length) Slot.unset).toArray = ls at hl ⊢
  have hl : lv_has ls 8 [(0, .ref (g 0)), (1, .ref (g 3)), (2, .int (nI 0))] := hl
  refine lv_lconst (v := 0) hx hb dX4_bucketOf_0 (by decide) ?_
  refine lv_lstore_n (lv' := [(3, .long 0), (0, .ref (g 0)), (1, .ref (g 3)), (2, .int (nI 0))]) hx hb dX4_bucketOf_1 rfl hl (by decide) rfl (fun ls hl => ?_)
  refine lv_iconst (v := (nI 0)) hx hb dX4_bucketOf_2 (by decide) ?_
  refine lv_istore (lv' := [(5, .int (nI 0)), (3, .long 0), (0, .ref (g 0)), (1, .ref (g 3)), (2, .int (nI 0))]) hx hb dX4_bucketOf_3 hl (by decide) rfl (fun ls hl => ?_)
  have loop : ∀ (n i : Nat) (x : Int64), i + n = kn → ∀ ls : Array Slot, lv_has ls 8 [(5, .int (nI i)), (3, .long x), (0, .ref (g 0)), (1, .ref (g 3)), (2, .int (nI 0))] → W p l e (headSpec wsX4_bucketOf ({ frames := 1, cells := 0, slots := 0, locals := 21 })).room s m ([.ref (g 0), .ref (g 3), .int (nI 0)]).toArray below meth c s.heap [] 0 0 (MQ below (rd_Q (some (.int (mIdx n9 (hMix (hashF (fun k => av k &&& mOne (wd k)) x i n)))))) ([.ref (g 0), .ref (g 3), .int (nI 0)]).toArray s 0 0 (fun _ => False)) (F0 m 5 ls []) := by
    intro n
    induction n with
    | zero =>
      intro i x hi ls hl
      refine lv_iload hx hb dX4_bucketOf_5 (lv_at hl 0 rfl) ?_
      refine lv_aload_n hx hb dX4_bucketOf_7 rfl (lv_at hl 2 rfl) ?_
      refine va_get (D := (dC, dI)) (ci := 4) (v := .int (nI kn)) (C := RX4) (T := TX4) (N := 18) hx hb hts inX4 hown hK hP 0 rfl rfl 1 (by decide) (hts _ mw458) (fun _ h9 => h9) rfl dX4_bucketOf_8 ?_
      refine n_ige i kn (tgt := 56) (hexec := hx) (hb := hb) dX4_bucketOf_11 (by decide) rfl rfl (by omega) (by omega) (fun c11 => ?_) (fun c11 => absurd c11 (by omega))
      refine lv_lload_n hx hb dX4_bucketOf_56 rfl (lv_at hl 1 rfl) ?_
      refine lv_lload_n hx hb dX4_bucketOf_57 rfl (lv_at hl 1 rfl) ?_
      refine lv_bipush (v := 20) hx hb dX4_bucketOf_58 (by decide) ?_
      refine lv_lushr (v := ush x 20) hx hb dX4_bucketOf_60 rfl ?_
      refine lv_lxor hx hb dX4_bucketOf_61 ?_
      refine lv_lload_n hx hb dX4_bucketOf_62 rfl (lv_at hl 1 rfl) ?_
      refine lv_bipush (v := 7) hx hb dX4_bucketOf_63 (by decide) ?_
      refine lv_lushr (v := ush x 7) hx hb dX4_bucketOf_65 rfl ?_
      refine lv_lxor hx hb dX4_bucketOf_66 ?_
      refine lv_aload_n hx hb dX4_bucketOf_67 rfl (lv_at hl 2 rfl) ?_
      refine va_get (D := (dC, dI)) (ci := 4) (v := .int n9) (C := RX4) (T := TX4) (N := 18) hx hb hts inX4 hown hK hP 0 rfl rfl 2 (by decide) (hts _ mw459) (fun _ h9 => h9) rfl dX4_bucketOf_68 ?_
      refine lv_iconst (v := 1) hx hb dX4_bucketOf_71 (by decide) ?_
      refine lv_isub hx hb dX4_bucketOf_72 ?_
      refine lv_i2l (v := (n9 - 1).toInt64) hx hb dX4_bucketOf_73 rfl ?_
      refine lv_land hx hb dX4_bucketOf_74 ?_
      refine lv_l2i (v := (((x ^^^ (ush x 20)) ^^^ (ush x 7)) &&& ((n9 - 1).toInt64)).toInt32) hx hb dX4_bucketOf_75 rfl ?_
      exact rd_iret hx hb hr hlocks dX4_bucketOf_76 rfl (rfl)
    | succ n ih =>
      intro i x hi ls hl
      refine lv_iload hx hb dX4_bucketOf_5 (lv_at hl 0 rfl) ?_
      refine lv_aload_n hx hb dX4_bucketOf_7 rfl (lv_at hl 2 rfl) ?_
      refine va_get (D := (dC, dI)) (ci := 4) (v := .int (nI kn)) (C := RX4) (T := TX4) (N := 18) hx hb hts inX4 hown hK hP 0 rfl rfl 1 (by decide) (hts _ mw458) (fun _ h9 => h9) rfl dX4_bucketOf_8 ?_
      refine n_ige i kn (tgt := 56) (hexec := hx) (hb := hb) dX4_bucketOf_11 (by decide) rfl rfl (by omega) (by omega) (fun c11 => absurd c11 (by omega)) (fun c11 => ?_)
      refine lv_aload_n hx hb dX4_bucketOf_14 rfl (lv_at hl 3 rfl) ?_
      refine lv_iload_n hx hb dX4_bucketOf_15 rfl (lv_at hl 4 rfl) ?_
      refine lv_iload hx hb dX4_bucketOf_16 (lv_at hl 0 rfl) ?_
      refine lv_iadd hx hb dX4_bucketOf_18 ?_
      refine n_lald hx hb hK hP 3 1 rfl rfl (k := i) (by rw [nI_add, Nat.zero_add]) (by omega) (by omega) dX4_bucketOf_19 ?_
      refine lv_aload_n hx hb dX4_bucketOf_20 rfl (lv_at hl 2 rfl) ?_
      refine lv_iload hx hb dX4_bucketOf_21 (lv_at hl 0 rfl) ?_
      refine rd_calll (r := (mOne (wd i))) (va_runV (As := [.int (nI i)]) (rest := [.long (av i)]) ⟨hx, hb, hml, hown, hts⟩ (c_X4_ones l dC dI cI cL g th kn n9 w9 s9 en made wd kinds av am vals msks pri act dat inb lat i (by omega)) (cwV 1 hts (gV mw548 mw550 mw13 mw26 mw551) rfl rfl rfl (by decide +kernel) ⟨Nat.le_of_ble_eq_true rfl, Nat.le_of_ble_eq_true rfl⟩) (rd_preV (hP.sub (ws' := [(g 0, .inr (4, [.int th, .int (nI kn), .int n9, .int w9, .int s9, .int (nI en), .int (bI made), .ref (g 1), .ref (g 2), .ref (g 3), .ref (g 4), .ref (g 5), .ref (g 6), .ref (g 7), .ref (g 8), .ref (g 9), .ref (g 10), .long lat])), (g 1, .inl (cI, 4, .inl wd)), (g 2, .inl (cI, 4, .inl kinds)), (g 3, .inl (cL, 4, .inr (.inl av))), (g 4, .inl (cL, 4, .inr (.inl am))), (g 5, .inl (cL, 288, .inr (.inl vals))), (g 6, .inl (cL, 288, .inr (.inl msks))), (g 7, .inl (cI, 72, .inl pri)), (g 8, .inl (cI, 72, .inl act)), (g 9, .inl (cL, 72, .inr (.inl dat))), (g 10, .inl (cI, 16, .inl inb))]) [0, 1, 2, 3, 4, 5, 6, 7, 8, 9, 10] rfl) hK (va_recv (ci := 4) hK hP rfl (q0 := 0) rfl)) rfl rfl hl.1 rfl (lv_room (Nat.le_of_ble_eq_true rfl)) dX4_bucketOf_23 ⟨Nat.zero_le _, Nat.zero_le _⟩) ?_
      refine lv_land hx hb dX4_bucketOf_26 ?_
      refine lv_lstore (lv' := [(6, .long ((av i) &&& (mOne (wd i)))), (5, .int (nI i)), (3, .long x), (0, .ref (g 0)), (1, .ref (g 3)), (2, .int (nI 0))]) hx hb dX4_bucketOf_27 hl (by decide) rfl (fun ls hl => ?_)
      refine lv_ldc2 (v := 31) hx hb hown (hts _ mw573) dX4_bucketOf_29 ?_
      refine lv_lload_n hx hb dX4_bucketOf_32 rfl (lv_at hl 2 rfl) ?_
      refine lv_lmul hx hb dX4_bucketOf_33 ?_
      refine lv_lload hx hb dX4_bucketOf_34 (lv_at hl 0 rfl) ?_
      refine lv_lload hx hb dX4_bucketOf_36 (lv_at hl 0 rfl) ?_
      refine lv_bipush (v := 32) hx hb dX4_bucketOf_38 (by decide) ?_
      refine lv_lushr (v := ush ((av i) &&& (mOne (wd i))) 32) hx hb dX4_bucketOf_40 rfl ?_
      refine lv_lxor hx hb dX4_bucketOf_41 ?_
      refine lv_lload hx hb dX4_bucketOf_42 (lv_at hl 0 rfl) ?_
      refine lv_bipush (v := 17) hx hb dX4_bucketOf_44 (by decide) ?_
      refine lv_lushr (v := ush ((av i) &&& (mOne (wd i))) 17) hx hb dX4_bucketOf_46 rfl ?_
      refine lv_lxor hx hb dX4_bucketOf_47 ?_
      refine lv_ladd hx hb dX4_bucketOf_48 ?_
      refine lv_lstore_n (lv' := [(3, .long (hStep x (av i &&& mOne (wd i)))), (6, .long ((av i) &&& (mOne (wd i)))), (5, .int (nI i)), (0, .ref (g 0)), (1, .ref (g 3)), (2, .int (nI 0))]) hx hb dX4_bucketOf_49 rfl hl (by decide) rfl (fun ls hl => ?_)
      refine lv_iinc (v := nI (i + 1)) (lv' := [(5, .int (nI (i + 1))), (3, .long (hStep x (av i &&& mOne (wd i)))), (6, .long ((av i) &&& (mOne (wd i)))), (0, .ref (g 0)), (1, .ref (g 3)), (2, .int (nI 0))]) hx hb dX4_bucketOf_50 hl (k := 2) rfl (nI_1 i) (by decide) rfl (fun ls hl => ?_)
      refine lv_goto (tgt := 5) hx hb dX4_bucketOf_53 (by decide) ?_
      exact ih (i + 1) _ (by omega) ls (lv_sub hl [0, 1, 3, 4, 5] rfl)
  exact loop kn 0 0 (by omega) ls (lv_sub hl [0, 1, 2, 3, 4] rfl)

set_option maxHeartbeats 4000000 in
set_option maxRecDepth 100000 in
/-- bucketOf -/
theorem c_X4_bucketOf_e (l : Launch) (dC : Nat → ClassId) (dI : Nat → Nat → Nat) (cI cL : ClassId) (g : Nat → Nat) (th : Int32) (kn : Nat) (n9 w9 s9 : Int32) (en : Nat) (made : Bool) (wd kinds : Nat → Int32) (av am vals msks : Nat → Int64) (pri act : Nat → Int32) (dat : Nat → Int64) (inb : Nat → Int32) (lat : Int64) (q : Nat) (hk : kn ≤ 4) (hq : q < 72) : Met l yX4_bucketOf wsX4_bucketOf ({ frames := 1, cells := 0, slots := 0, locals := 21 }) (rd_P (dC, dI) vwCl [(cI, .int), (cL, .long)] [(g 0, .inr (4, [.int th, .int (nI kn), .int n9, .int w9, .int s9, .int (nI en), .int (bI made), .ref (g 1), .ref (g 2), .ref (g 3), .ref (g 4), .ref (g 5), .ref (g 6), .ref (g 7), .ref (g 8), .ref (g 9), .ref (g 10), .long lat])), (g 1, .inl (cI, 4, .inl wd)), (g 2, .inl (cI, 4, .inl kinds)), (g 3, .inl (cL, 4, .inr (.inl av))), (g 4, .inl (cL, 4, .inr (.inl am))), (g 5, .inl (cL, 288, .inr (.inl vals))), (g 6, .inl (cL, 288, .inr (.inl msks))), (g 7, .inl (cI, 72, .inl pri)), (g 8, .inl (cI, 72, .inl act)), (g 9, .inl (cL, 72, .inr (.inl dat))), (g 10, .inl (cI, 16, .inl inb))] [.ref (g 0), .ref (g 5), .int (nI (q * 4))]) (rd_Q (some (.int (mIdx n9 (hMix (hashF (fun k => vals (q * 4 + k) &&& mOne (wd k)) 0 0 kn)))))) 0 0 (fun _ => False) := by
  refine Met.ofW (cc := cX4_bucketOf) (maxL := 8) (ret := some .int) (by decide) rfl ?_
  intro p e s m args below meth c s₁ B hml hv
  obtain ⟨rfl, hP, hK⟩ := hv
  have hx := B.exec
  have hb := B.bytes
  have hr := B.returns
  have hts := fun w h => atoms_spec (ws := wsX4_bucketOf) B.pre w (List.mem_cons_of_mem _ h)
  have hown : s.vm.findClass RX4 = some m.cls := findClass_of_methodNamed B.named
  have hlocks := B.notSynchronized
  have hl := lv_entry ([.ref (g 0), .ref (g 5), .int (nI (q * 4))]) (n := 8) (Nat.le_of_ble_eq_true rfl)
  rw [lg_entry_eq]
  generalize (lg_sl ([.ref (g 0), .ref (g 5), .int (nI (q * 4))]) ++ List.replicate (8 - (lg_sl ([.ref (g 0), .ref (g 5), .int (nI (q * 4))])).length) Slot.unset).toArray = ls at hl ⊢
  have hl : lv_has ls 8 [(0, .ref (g 0)), (1, .ref (g 5)), (2, .int (nI (q * 4)))] := hl
  refine lv_lconst (v := 0) hx hb dX4_bucketOf_0 (by decide) ?_
  refine lv_lstore_n (lv' := [(3, .long 0), (0, .ref (g 0)), (1, .ref (g 5)), (2, .int (nI (q * 4)))]) hx hb dX4_bucketOf_1 rfl hl (by decide) rfl (fun ls hl => ?_)
  refine lv_iconst (v := (nI 0)) hx hb dX4_bucketOf_2 (by decide) ?_
  refine lv_istore (lv' := [(5, .int (nI 0)), (3, .long 0), (0, .ref (g 0)), (1, .ref (g 5)), (2, .int (nI (q * 4)))]) hx hb dX4_bucketOf_3 hl (by decide) rfl (fun ls hl => ?_)
  have loop : ∀ (n i : Nat) (x : Int64), i + n = kn → ∀ ls : Array Slot, lv_has ls 8 [(5, .int (nI i)), (3, .long x), (0, .ref (g 0)), (1, .ref (g 5)), (2, .int (nI (q * 4)))] → W p l e (headSpec wsX4_bucketOf ({ frames := 1, cells := 0, slots := 0, locals := 21 })).room s m ([.ref (g 0), .ref (g 5), .int (nI (q * 4))]).toArray below meth c s.heap [] 0 0 (MQ below (rd_Q (some (.int (mIdx n9 (hMix (hashF (fun k => vals (q * 4 + k) &&& mOne (wd k)) x i n)))))) ([.ref (g 0), .ref (g 5), .int (nI (q * 4))]).toArray s 0 0 (fun _ => False)) (F0 m 5 ls []) := by
    intro n
    induction n with
    | zero =>
      intro i x hi ls hl
      refine lv_iload hx hb dX4_bucketOf_5 (lv_at hl 0 rfl) ?_
      refine lv_aload_n hx hb dX4_bucketOf_7 rfl (lv_at hl 2 rfl) ?_
      refine va_get (D := (dC, dI)) (ci := 4) (v := .int (nI kn)) (C := RX4) (T := TX4) (N := 18) hx hb hts inX4 hown hK hP 0 rfl rfl 1 (by decide) (hts _ mw458) (fun _ h9 => h9) rfl dX4_bucketOf_8 ?_
      refine n_ige i kn (tgt := 56) (hexec := hx) (hb := hb) dX4_bucketOf_11 (by decide) rfl rfl (by omega) (by omega) (fun c11 => ?_) (fun c11 => absurd c11 (by omega))
      refine lv_lload_n hx hb dX4_bucketOf_56 rfl (lv_at hl 1 rfl) ?_
      refine lv_lload_n hx hb dX4_bucketOf_57 rfl (lv_at hl 1 rfl) ?_
      refine lv_bipush (v := 20) hx hb dX4_bucketOf_58 (by decide) ?_
      refine lv_lushr (v := ush x 20) hx hb dX4_bucketOf_60 rfl ?_
      refine lv_lxor hx hb dX4_bucketOf_61 ?_
      refine lv_lload_n hx hb dX4_bucketOf_62 rfl (lv_at hl 1 rfl) ?_
      refine lv_bipush (v := 7) hx hb dX4_bucketOf_63 (by decide) ?_
      refine lv_lushr (v := ush x 7) hx hb dX4_bucketOf_65 rfl ?_
      refine lv_lxor hx hb dX4_bucketOf_66 ?_
      refine lv_aload_n hx hb dX4_bucketOf_67 rfl (lv_at hl 2 rfl) ?_
      refine va_get (D := (dC, dI)) (ci := 4) (v := .int n9) (C := RX4) (T := TX4) (N := 18) hx hb hts inX4 hown hK hP 0 rfl rfl 2 (by decide) (hts _ mw459) (fun _ h9 => h9) rfl dX4_bucketOf_68 ?_
      refine lv_iconst (v := 1) hx hb dX4_bucketOf_71 (by decide) ?_
      refine lv_isub hx hb dX4_bucketOf_72 ?_
      refine lv_i2l (v := (n9 - 1).toInt64) hx hb dX4_bucketOf_73 rfl ?_
      refine lv_land hx hb dX4_bucketOf_74 ?_
      refine lv_l2i (v := (((x ^^^ (ush x 20)) ^^^ (ush x 7)) &&& ((n9 - 1).toInt64)).toInt32) hx hb dX4_bucketOf_75 rfl ?_
      exact rd_iret hx hb hr hlocks dX4_bucketOf_76 rfl (rfl)
    | succ n ih =>
      intro i x hi ls hl
      refine lv_iload hx hb dX4_bucketOf_5 (lv_at hl 0 rfl) ?_
      refine lv_aload_n hx hb dX4_bucketOf_7 rfl (lv_at hl 2 rfl) ?_
      refine va_get (D := (dC, dI)) (ci := 4) (v := .int (nI kn)) (C := RX4) (T := TX4) (N := 18) hx hb hts inX4 hown hK hP 0 rfl rfl 1 (by decide) (hts _ mw458) (fun _ h9 => h9) rfl dX4_bucketOf_8 ?_
      refine n_ige i kn (tgt := 56) (hexec := hx) (hb := hb) dX4_bucketOf_11 (by decide) rfl rfl (by omega) (by omega) (fun c11 => absurd c11 (by omega)) (fun c11 => ?_)
      refine lv_aload_n hx hb dX4_bucketOf_14 rfl (lv_at hl 3 rfl) ?_
      refine lv_iload_n hx hb dX4_bucketOf_15 rfl (lv_at hl 4 rfl) ?_
      refine lv_iload hx hb dX4_bucketOf_16 (lv_at hl 0 rfl) ?_
      refine lv_iadd hx hb dX4_bucketOf_18 ?_
      refine n_lald hx hb hK hP 5 1 rfl rfl (k := q * 4 + i) (nI_add _ _) (by omega) (by omega) dX4_bucketOf_19 ?_
      refine lv_aload_n hx hb dX4_bucketOf_20 rfl (lv_at hl 2 rfl) ?_
      refine lv_iload hx hb dX4_bucketOf_21 (lv_at hl 0 rfl) ?_
      refine rd_calll (r := (mOne (wd i))) (va_runV (As := [.int (nI i)]) (rest := [.long (vals (q * 4 + i))]) ⟨hx, hb, hml, hown, hts⟩ (c_X4_ones l dC dI cI cL g th kn n9 w9 s9 en made wd kinds av am vals msks pri act dat inb lat i (by omega)) (cwV 1 hts (gV mw548 mw550 mw13 mw26 mw551) rfl rfl rfl (by decide +kernel) ⟨Nat.le_of_ble_eq_true rfl, Nat.le_of_ble_eq_true rfl⟩) (rd_preV (hP.sub (ws' := [(g 0, .inr (4, [.int th, .int (nI kn), .int n9, .int w9, .int s9, .int (nI en), .int (bI made), .ref (g 1), .ref (g 2), .ref (g 3), .ref (g 4), .ref (g 5), .ref (g 6), .ref (g 7), .ref (g 8), .ref (g 9), .ref (g 10), .long lat])), (g 1, .inl (cI, 4, .inl wd)), (g 2, .inl (cI, 4, .inl kinds)), (g 3, .inl (cL, 4, .inr (.inl av))), (g 4, .inl (cL, 4, .inr (.inl am))), (g 5, .inl (cL, 288, .inr (.inl vals))), (g 6, .inl (cL, 288, .inr (.inl msks))), (g 7, .inl (cI, 72, .inl pri)), (g 8, .inl (cI, 72, .inl act)), (g 9, .inl (cL, 72, .inr (.inl dat))), (g 10, .inl (cI, 16, .inl inb))]) [0, 1, 2, 3, 4, 5, 6, 7, 8, 9, 10] rfl) hK (va_recv (ci := 4) hK hP rfl (q0 := 0) rfl)) rfl rfl hl.1 rfl (lv_room (Nat.le_of_ble_eq_true rfl)) dX4_bucketOf_23 ⟨Nat.zero_le _, Nat.zero_le _⟩) ?_
      refine lv_land hx hb dX4_bucketOf_26 ?_
      refine lv_lstore (lv' := [(6, .long ((vals (q * 4 + i)) &&& (mOne (wd i)))), (5, .int (nI i)), (3, .long x), (0, .ref (g 0)), (1, .ref (g 5)), (2, .int (nI (q * 4)))]) hx hb dX4_bucketOf_27 hl (by decide) rfl (fun ls hl => ?_)
      refine lv_ldc2 (v := 31) hx hb hown (hts _ mw573) dX4_bucketOf_29 ?_
      refine lv_lload_n hx hb dX4_bucketOf_32 rfl (lv_at hl 2 rfl) ?_
      refine lv_lmul hx hb dX4_bucketOf_33 ?_
      refine lv_lload hx hb dX4_bucketOf_34 (lv_at hl 0 rfl) ?_
      refine lv_lload hx hb dX4_bucketOf_36 (lv_at hl 0 rfl) ?_
      refine lv_bipush (v := 32) hx hb dX4_bucketOf_38 (by decide) ?_
      refine lv_lushr (v := ush ((vals (q * 4 + i)) &&& (mOne (wd i))) 32) hx hb dX4_bucketOf_40 rfl ?_
      refine lv_lxor hx hb dX4_bucketOf_41 ?_
      refine lv_lload hx hb dX4_bucketOf_42 (lv_at hl 0 rfl) ?_
      refine lv_bipush (v := 17) hx hb dX4_bucketOf_44 (by decide) ?_
      refine lv_lushr (v := ush ((vals (q * 4 + i)) &&& (mOne (wd i))) 17) hx hb dX4_bucketOf_46 rfl ?_
      refine lv_lxor hx hb dX4_bucketOf_47 ?_
      refine lv_ladd hx hb dX4_bucketOf_48 ?_
      refine lv_lstore_n (lv' := [(3, .long (hStep x (vals (q * 4 + i) &&& mOne (wd i)))), (6, .long ((vals (q * 4 + i)) &&& (mOne (wd i)))), (5, .int (nI i)), (0, .ref (g 0)), (1, .ref (g 5)), (2, .int (nI (q * 4)))]) hx hb dX4_bucketOf_49 rfl hl (by decide) rfl (fun ls hl => ?_)
      refine lv_iinc (v := nI (i + 1)) (lv' := [(5, .int (nI (i + 1))), (3, .long (hStep x (vals (q * 4 + i) &&& mOne (wd i)))), (6, .long ((vals (q * 4 + i)) &&& (mOne (wd i)))), (0, .ref (g 0)), (1, .ref (g 5)), (2, .int (nI (q * 4)))]) hx hb dX4_bucketOf_50 hl (k := 2) rfl (nI_1 i) (by decide) rfl (fun ls hl => ?_)
      refine lv_goto (tgt := 5) hx hb dX4_bucketOf_53 (by decide) ?_
      exact ih (i + 1) _ (by omega) ls (lv_sub hl [0, 1, 3, 4, 5] rfl)
  exact loop kn 0 0 (by omega) ls (lv_sub hl [0, 1, 2, 3, 4] rfl)
end
