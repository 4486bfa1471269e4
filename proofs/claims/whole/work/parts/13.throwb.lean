/-! what a throw asks of the start, and the three throws of the class -/
def tX (U : State) : Prop := va_Nw (.castable "java/lang/IllegalArgumentException" "java/lang/IllegalArgumentException") U ∧ va_Nw (.castable "java/lang/IllegalStateException" "java/lang/IllegalStateException") U ∧ va_Nw (.castable "java/lang/IndexOutOfBoundsException" "java/lang/IndexOutOfBoundsException") U ∧ va_Nw (.declares ⟨"java/lang/RuntimeException", "<init>", "(Ljava/lang/String;)V"⟩) U ∧ va_Nw (.declares ⟨"java/lang/Exception", "<init>", "(Ljava/lang/String;)V"⟩) U ∧ va_Nw (.declares ⟨"java/lang/Throwable", "<init>", "(Ljava/lang/String;)V"⟩) U ∧ (∃ sa, vk_R RX3 68 "no such width or kind" sa U) ∧ (∃ sa, vk_R RX3 75 "the table is made or has four keys" sa U) ∧ (∃ sa, vk_R RX3 82 "the kind may not be with those that are there" sa U) ∧ (∃ sa, vk_R RX3 88 "the table is made or has no key" sa U) ∧ (∃ sa, vk_R RX3 101 "no such table" sa U) ∧ (∃ sa, vk_R RX3 105 "no such key" sa U) ∧ (∃ sa, vk_R RX3 166 "no table is made" sa U) ∧ vx_Zq Bundle.tN "UNASSIGNED_STACK" Bundle.steD (fun _ => False) U U.heap ∧ vx_Zq Bundle.tN "SUPPRESSED_SENTINEL" Bundle.listD (fun _ => False) U U.heap
theorem tX.blind {U : State} {g : JFrame} {mk : MethodId} {a : Array Value} (h : tX U) : tX (U.calling g mk a) := by
  obtain ⟨c0, c1, c2, c3, c4, c5, ⟨a68, s68⟩, ⟨a75, s75⟩, ⟨a82, s82⟩, ⟨a88, s88⟩, ⟨a101, s101⟩, ⟨a105, s105⟩, ⟨a166, s166⟩, z1, z2⟩ := h
  exact ⟨va_Nw.same (u := U) rfl rfl c0, va_Nw.same (u := U) rfl rfl c1, va_Nw.same (u := U) rfl rfl c2, va_Nw.same (u := U) rfl rfl c3, va_Nw.same (u := U) rfl rfl c4, va_Nw.same (u := U) rfl rfl c5, ⟨a68, vk_R.same (u := U) rfl s68⟩, ⟨a75, vk_R.same (u := U) rfl s75⟩, ⟨a82, vk_R.same (u := U) rfl s82⟩, ⟨a88, vk_R.same (u := U) rfl s88⟩, ⟨a101, vk_R.same (u := U) rfl s101⟩, ⟨a105, vk_R.same (u := U) rfl s105⟩, ⟨a166, vk_R.same (u := U) rfl s166⟩, z1.moved (Vm.Alike.refl U.vm), z2.moved (Vm.Alike.refl U.vm)⟩
theorem tX.go {s U : State} (h : tX s) (hh : U.heap = s.heap) (hW : s.WarmedH U.vm) : tX U := by
  obtain ⟨c0, c1, c2, c3, c4, c5, ⟨a68, s68⟩, ⟨a75, s75⟩, ⟨a82, s82⟩, ⟨a88, s88⟩, ⟨a101, s101⟩, ⟨a105, s105⟩, ⟨a166, s166⟩, z1, z2⟩ := h
  exact ⟨va_Nw.warmC hW c0, va_Nw.warmC hW c1, va_Nw.warmC hW c2, va_Nw.warmD hW c3, va_Nw.warmD hW c4, va_Nw.warmD hW c5, ⟨a68, s68.warm hW⟩, ⟨a75, s75.warm hW⟩, ⟨a82, s82.warm hW⟩, ⟨a88, s88.warm hW⟩, ⟨a101, s101.warm hW⟩, ⟨a105, s105.warm hW⟩, ⟨a166, s166.warm hW⟩, by rw [hh]; exact z1.moved hW.alike, by rw [hh]; exact z2.moved hW.alike⟩
theorem tX.s68 {U : State} (h : tX U) : ∃ sa, vk_R RX3 68 "no such width or kind" sa U := h.2.2.2.2.2.2.1
theorem tX.s75 {U : State} (h : tX U) : ∃ sa, vk_R RX3 75 "the table is made or has four keys" sa U := h.2.2.2.2.2.2.2.1
theorem tX.s82 {U : State} (h : tX U) : ∃ sa, vk_R RX3 82 "the kind may not be with those that are there" sa U := h.2.2.2.2.2.2.2.2.1
theorem tX.s88 {U : State} (h : tX U) : ∃ sa, vk_R RX3 88 "the table is made or has no key" sa U := h.2.2.2.2.2.2.2.2.2.1
theorem tX.s101 {U : State} (h : tX U) : ∃ sa, vk_R RX3 101 "no such table" sa U := h.2.2.2.2.2.2.2.2.2.2.1
theorem tX.s105 {U : State} (h : tX U) : ∃ sa, vk_R RX3 105 "no such key" sa U := h.2.2.2.2.2.2.2.2.2.2.2.1
theorem tX.s166 {U : State} (h : tX U) : ∃ sa, vk_R RX3 166 "no table is made" sa U := h.2.2.2.2.2.2.2.2.2.2.2.2.1
def xP (D : va_G) (cl : List vw_C) (tys : List (ClassId × FieldType)) (w : va_W) (av : List Value) : Array Value → State → Prop := va_Pc av (fun U => va_P D cl w U.heap ∧ va_K D cl tys U ∧ tX U)
def xT (E0 : String) : String → State → State → Prop := fun E st t => E = E0 ∧ va_F (fun _ => False) st t
abbrev xQ : Array Value → State → Outcome → State → Prop := fun _ _ _ _ => False
section XB
variable {p : Program} {l : Launch} {e : Env} {R : Room} {s : State} {m : MethodId} {args : Array Value} {below : List Frame} {meth : Method} {c : Code} {H : Heap} {locs : List Loc} {cells slots : Nat} {Q : State → Prop}
variable {cc : ByteArray} {pc : Nat} {ls : Array Slot} {rest st0 : List Value} {D : va_G} {cl : List vw_C} {tys : List (ClassId × FieldType)}
theorem xP_blind {w : va_W} {av : List Value} : FrameBlind (xP D cl tys w av) := fun a U g mk q => ⟨q.1, q.2.1, va_K.moved (u := U) (U := U.calling g mk a) (Vm.Alike.refl U.vm) q.2.2.1, q.2.2.2.blind⟩
theorem xP_preV {w : va_W} {As : List Value} {C : String} {b : Addr} (hX : ∀ U : State, U.heap = H → s.WarmedH U.vm → tX U) (hP : va_P D cl w H) (hK : va_K D cl tys s) (hr : ∃ cell : Cell, H[b]? = some cell ∧ cell.vm.isStatics = false ∧ s.vm.findClass C = some cell.cls) : PreV s H C b (xP D cl tys w (.ref b :: As)) As :=
  ⟨xP_blind, hr, fun U hU hW => ⟨rfl, by rw [hU]; exact hP, va_K.moved hW.alike hK, hX U hU hW⟩⟩
/-- a call that always throws E0 -/
theorem x_call {E0 : String} {a : Array Value} (hr : vx_Run p l e R s m args below meth c H locs cells slots 1 6 (F0 m pc ls st0) rest (xQ a) (xT E0) (fun _ => False))
    (kx : ∀ (ce : Cell) (q9 : Addr) (H1 : Heap), H.size ≤ H1.size → (∀ q : Nat, q < H.size → H1[q]? = H[q]?) → H1[q9]? = some ce → ce.vm = .none → s.vm.findClass E0 = some ce.cls → vx_W p l e R s m args below meth c H1 locs (cells + 1) (slots + 6) Q (F0 m pc ls rest) q9) : W p l e R s m args below meth c H locs cells slots Q (F0 m pc ls st0) := by
  intro T hT X
  rcases hr T hT X with ⟨v, st₀, t, T', L, h0, X', hL, e1, e2, hq, st⟩ | ⟨q, st₀, t, T', L, E, ce, h0, X', hL, e1, e2, ⟨rfl, hz, hk⟩, hce, hcv, hcl, st⟩
  · exact absurd hq (fun z => z)
  · rw [h0] at hz hk
    obtain ⟨t2, a1, b1⟩ := kx ce q T'.heap (by rw [e1]; exact hz) (fun q h => by rw [e1]; exact hk q h (fun z => z)) (by rw [e1]; exact hce) hcv hcl T' rfl (Stand.forget X' (fun q h => (hL q h).elim))
    exact ⟨t2, st.trans a1, b1⟩
end XB
theorem hat_IAE : ∀ w ∈ (vx_atS RX3 70 "java/lang/IllegalArgumentException" ["java/lang/RuntimeException", "java/lang/Exception"]).filter goodWord, w ∈ wAll := fun w h => List.mem_filter.mpr ⟨(by decide +kernel : ∀ w ∈ (vx_atS RX3 70 "java/lang/IllegalArgumentException" ["java/lang/RuntimeException", "java/lang/Exception"]).filter goodWord, w ∈ lw_tbl) w h, (List.mem_filter.mp h).2⟩
set_option maxRecDepth 100000 in
theorem x_thr_IAE {p : Program} {l : Launch} {e : Env} {R : Room} {s : State} {m : MethodId} {args : Array Value} {below : List Frame} {meth : Method} {c : Code} {cc : ByteArray} {pc : Nat} {ls : Array Slot} {rest : List Value}
    (hx : p.tables.exec = Jvm.exec) (hb : c.code = cc) (hl9 : l.stackTraces = false) (hown : s.vm.findClass RX3 = some m.cls) (hts : ∀ w ∈ wAll, w.before args s = true) (hX : tX s) {is : Nat} {text : String} (hstr : ∃ sa, vk_R RX3 is text sa s) (hsize : ls.size = c.maxLocals)
    (d0 : decode cc pc = .ok (.new 66, 3)) (d3 : decode cc (pc + 3) = .ok (.dup, 1)) (d4 : decode cc (pc + 4) = .ok (.ldc is, 2)) (d6 : decode cc (pc + 6) = .ok (.invokespecial 70, 3)) (d9 : decode cc (pc + 9) = .ok (.athrow, 1))
    (hout : ∀ x ∈ c.exceptionTable.toList, False) (hRf : 5 < R.frames) (hRl : (rest.map fun v => v.category).sum + 82 ≤ R.locals) (hRc : 1 ≤ R.cells) (hRs : 6 ≤ R.slots) (hlocks : meth.locks = false) :
    W p l e R s m args below meth c s.heap [] 0 0 (vx_MQ below xQ (xT "java/lang/IllegalArgumentException") args s 1 6 (fun _ => False)) (F0 m pc ls rest) := by
  obtain ⟨sa, hstr⟩ := hstr
  have hXX := hX
  obtain ⟨c0, c1, c2, c3, c4, c5, -, -, -, -, -, -, -, z1, z2⟩ := hXX
  exact vx_throwS (own := RX3) (cls := "java/lang/IllegalArgumentException") (names := ["java/lang/RuntimeException", "java/lang/Exception"]) (A := fun _ => False) hx hb hl9 hown (by decide +kernel) (by decide +kernel) (hts _ mw195) (hts _ mw31) hstr
    (vx_hat (L := vx_atS RX3 70 "java/lang/IllegalArgumentException" ["java/lang/RuntimeException", "java/lang/Exception"]) (B := [.castable "java/lang/IllegalArgumentException" "java/lang/IllegalArgumentException", .declares ⟨"java/lang/RuntimeException", "<init>", "(Ljava/lang/String;)V"⟩, .declares ⟨"java/lang/Exception", "<init>", "(Ljava/lang/String;)V"⟩, .declares ⟨"java/lang/Throwable", "<init>", "(Ljava/lang/String;)V"⟩]) (fun w hw => hts w (hat_IAE w hw)) (by decide +kernel) (vx_c (va_Nw.use rfl c0) (vx_c (va_Nw.use rfl c3) (vx_c (va_Nw.use rfl c4) (vx_c (va_Nw.use rfl c5) (vx_n)))))) (by decide +kernel) z1 z2 va_S.rf hsize d0 d3 d4 d6 d9 (fun x hx9 => (hout x hx9).elim) hRf hRl hRc hRs hlocks
    (fun t ha hsz hk => ⟨rfl, hsz, fun q h _ => hk q h⟩) (fun _ h => nomatch h) (Nat.le_refl _) (Nat.le_refl _)
theorem hat_ISE : ∀ w ∈ (vx_atS RX3 77 "java/lang/IllegalStateException" ["java/lang/RuntimeException", "java/lang/Exception"]).filter goodWord, w ∈ wAll := fun w h => List.mem_filter.mpr ⟨(by decide +kernel : ∀ w ∈ (vx_atS RX3 77 "java/lang/IllegalStateException" ["java/lang/RuntimeException", "java/lang/Exception"]).filter goodWord, w ∈ lw_tbl) w h, (List.mem_filter.mp h).2⟩
set_option maxRecDepth 100000 in
theorem x_thr_ISE {p : Program} {l : Launch} {e : Env} {R : Room} {s : State} {m : MethodId} {args : Array Value} {below : List Frame} {meth : Method} {c : Code} {cc : ByteArray} {pc : Nat} {ls : Array Slot} {rest : List Value}
    (hx : p.tables.exec = Jvm.exec) (hb : c.code = cc) (hl9 : l.stackTraces = false) (hown : s.vm.findClass RX3 = some m.cls) (hts : ∀ w ∈ wAll, w.before args s = true) (hX : tX s) {is : Nat} {text : String} (hstr : ∃ sa, vk_R RX3 is text sa s) (hsize : ls.size = c.maxLocals)
    (d0 : decode cc pc = .ok (.new 73, 3)) (d3 : decode cc (pc + 3) = .ok (.dup, 1)) (d4 : decode cc (pc + 4) = .ok (.ldc is, 2)) (d6 : decode cc (pc + 6) = .ok (.invokespecial 77, 3)) (d9 : decode cc (pc + 9) = .ok (.athrow, 1))
    (hout : ∀ x ∈ c.exceptionTable.toList, False) (hRf : 5 < R.frames) (hRl : (rest.map fun v => v.category).sum + 82 ≤ R.locals) (hRc : 1 ≤ R.cells) (hRs : 6 ≤ R.slots) (hlocks : meth.locks = false) :
    W p l e R s m args below meth c s.heap [] 0 0 (vx_MQ below xQ (xT "java/lang/IllegalStateException") args s 1 6 (fun _ => False)) (F0 m pc ls rest) := by
  obtain ⟨sa, hstr⟩ := hstr
  have hXX := hX
  obtain ⟨c0, c1, c2, c3, c4, c5, -, -, -, -, -, -, -, z1, z2⟩ := hXX
  exact vx_throwS (own := RX3) (cls := "java/lang/IllegalStateException") (names := ["java/lang/RuntimeException", "java/lang/Exception"]) (A := fun _ => False) hx hb hl9 hown (by decide +kernel) (by decide +kernel) (hts _ mw263) (hts _ mw32) hstr
    (vx_hat (L := vx_atS RX3 77 "java/lang/IllegalStateException" ["java/lang/RuntimeException", "java/lang/Exception"]) (B := [.castable "java/lang/IllegalStateException" "java/lang/IllegalStateException", .declares ⟨"java/lang/RuntimeException", "<init>", "(Ljava/lang/String;)V"⟩, .declares ⟨"java/lang/Exception", "<init>", "(Ljava/lang/String;)V"⟩, .declares ⟨"java/lang/Throwable", "<init>", "(Ljava/lang/String;)V"⟩]) (fun w hw => hts w (hat_ISE w hw)) (by decide +kernel) (vx_c (va_Nw.use rfl c1) (vx_c (va_Nw.use rfl c3) (vx_c (va_Nw.use rfl c4) (vx_c (va_Nw.use rfl c5) (vx_n)))))) (by decide +kernel) z1 z2 va_S.rf hsize d0 d3 d4 d6 d9 (fun x hx9 => (hout x hx9).elim) hRf hRl hRc hRs hlocks
    (fun t ha hsz hk => ⟨rfl, hsz, fun q h _ => hk q h⟩) (fun _ h => nomatch h) (Nat.le_refl _) (Nat.le_refl _)
theorem hat_IOB : ∀ w ∈ (vx_atS RX3 107 "java/lang/IndexOutOfBoundsException" ["java/lang/RuntimeException", "java/lang/Exception"]).filter goodWord, w ∈ wAll := fun w h => List.mem_filter.mpr ⟨(by decide +kernel : ∀ w ∈ (vx_atS RX3 107 "java/lang/IndexOutOfBoundsException" ["java/lang/RuntimeException", "java/lang/Exception"]).filter goodWord, w ∈ lw_tbl) w h, (List.mem_filter.mp h).2⟩
set_option maxRecDepth 100000 in
theorem x_thr_IOB {p : Program} {l : Launch} {e : Env} {R : Room} {s : State} {m : MethodId} {args : Array Value} {below : List Frame} {meth : Method} {c : Code} {cc : ByteArray} {pc : Nat} {ls : Array Slot} {rest : List Value}
    (hx : p.tables.exec = Jvm.exec) (hb : c.code = cc) (hl9 : l.stackTraces = false) (hown : s.vm.findClass RX3 = some m.cls) (hts : ∀ w ∈ wAll, w.before args s = true) (hX : tX s) {is : Nat} {text : String} (hstr : ∃ sa, vk_R RX3 is text sa s) (hsize : ls.size = c.maxLocals)
    (d0 : decode cc pc = .ok (.new 103, 3)) (d3 : decode cc (pc + 3) = .ok (.dup, 1)) (d4 : decode cc (pc + 4) = .ok (.ldc is, 2)) (d6 : decode cc (pc + 6) = .ok (.invokespecial 107, 3)) (d9 : decode cc (pc + 9) = .ok (.athrow, 1))
    (hout : ∀ x ∈ c.exceptionTable.toList, False) (hRf : 5 < R.frames) (hRl : (rest.map fun v => v.category).sum + 82 ≤ R.locals) (hRc : 1 ≤ R.cells) (hRs : 6 ≤ R.slots) (hlocks : meth.locks = false) :
    W p l e R s m args below meth c s.heap [] 0 0 (vx_MQ below xQ (xT "java/lang/IndexOutOfBoundsException") args s 1 6 (fun _ => False)) (F0 m pc ls rest) := by
  obtain ⟨sa, hstr⟩ := hstr
  have hXX := hX
  obtain ⟨c0, c1, c2, c3, c4, c5, -, -, -, -, -, -, -, z1, z2⟩ := hXX
  exact vx_throwS (own := RX3) (cls := "java/lang/IndexOutOfBoundsException") (names := ["java/lang/RuntimeException", "java/lang/Exception"]) (A := fun _ => False) hx hb hl9 hown (by decide +kernel) (by decide +kernel) (hts _ mw327) (hts _ mw34) hstr
    (vx_hat (L := vx_atS RX3 107 "java/lang/IndexOutOfBoundsException" ["java/lang/RuntimeException", "java/lang/Exception"]) (B := [.castable "java/lang/IndexOutOfBoundsException" "java/lang/IndexOutOfBoundsException", .declares ⟨"java/lang/RuntimeException", "<init>", "(Ljava/lang/String;)V"⟩, .declares ⟨"java/lang/Exception", "<init>", "(Ljava/lang/String;)V"⟩, .declares ⟨"java/lang/Throwable", "<init>", "(Ljava/lang/String;)V"⟩]) (fun w hw => hts w (hat_IOB w hw)) (by decide +kernel) (vx_c (va_Nw.use rfl c2) (vx_c (va_Nw.use rfl c3) (vx_c (va_Nw.use rfl c4) (vx_c (va_Nw.use rfl c5) (vx_n)))))) (by decide +kernel) z1 z2 va_S.rf hsize d0 d3 d4 d6 d9 (fun x hx9 => (hout x hx9).elim) hRf hRl hRc hRs hlocks
    (fun t ha hsz hk => ⟨rfl, hsz, fun q h _ => hk q h⟩) (fun _ h => nomatch h) (Nat.le_refl _) (Nat.le_refl _)
