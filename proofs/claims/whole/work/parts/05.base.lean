/-! 04.base: reads (the heap stays), writes (a world becomes another at the same places), and rows for places counted by Nat -/
section BASE
variable {p : Program} {l : Launch} {e : Env} {R : Room} {s : State} {m : MethodId} {args : Array Value} {below : List Frame} {meth : Method} {c : Code} {H : Heap} {locs : List Loc} {cells slots : Nat} {Q : State → Prop}
variable {cc : ByteArray} {pc : Nat} {ls : Array Slot} {rest st0 : List Value} {D : va_G} {cl : List vw_C} {tys : List (ClassId × FieldType)} {A : Nat → Prop} {H0 : Heap} {ws : va_W}

/-- a read: it answers v, and the heap is as it was -/
def rd_Q (v : Option Value) : Array Value → State → Outcome → State → Prop := fun _ st o t => o = .returned v ∧ t.heap = st.heap
/-- what a read asks: the cells w -/
def rd_P (D : va_G) (cl : List vw_C) (tys : List (ClassId × FieldType)) (w : va_W) (av : List Value) : Array Value → State → Prop := va_Pc av (fun U => va_P D cl w U.heap ∧ va_K D cl tys U)
theorem rd_blind {w : va_W} {av : List Value} : FrameBlind (rd_P D cl tys w av) := fun a U g mk q => ⟨q.1, q.2.1, va_K.moved (u := U) (U := U.calling g mk a) (Vm.Alike.refl U.vm) q.2.2⟩
theorem rd_preS {w : va_W} {As : List Value} (hP : va_P D cl w H) (hK : va_K D cl tys s) : PreS s H (rd_P D cl tys w As) As :=
  ⟨rd_blind, fun U hU hW => ⟨rfl, by rw [hU]; exact hP, va_K.moved hW.alike hK⟩⟩
theorem rd_preV {w : va_W} {As : List Value} {C : String} {b : Addr} (hP : va_P D cl w H) (hK : va_K D cl tys s) (hr : ∃ cell : Cell, H[b]? = some cell ∧ cell.vm.isStatics = false ∧ s.vm.findClass C = some cell.cls) : PreV s H C b (rd_P D cl tys w (.ref b :: As)) As :=
  ⟨rd_blind, hr, fun U hU hW => ⟨rfl, by rw [hU]; exact hP, va_K.moved hW.alike hK⟩⟩
theorem rd_calli {r : Int32} {a : Array Value} (hr : va_Run p l e R s m args below meth c H locs cells slots 0 0 (F0 m pc ls st0) rest (rd_Q (some (.int r)) a) (fun _ => False)) (kk : W p l e R s m args below meth c H locs cells slots Q (F0 m (pc + 3) ls (.int r :: rest))) : W p l e R s m args below meth c H locs cells slots Q (F0 m pc ls st0) := by
  intro T hT X
  obtain ⟨v, st₀, t, T', L, h0, X', hL, e1, e2, ⟨hv, hh⟩, st⟩ := hr T hT X
  cases hv
  obtain ⟨t2, a1, b1⟩ := kk T' (by rw [e1, hh, h0]) (Stand.forget X' (fun q h => (hL q h).elim))
  exact ⟨t2, st t2 a1, b1⟩
theorem rd_calll {r : Int64} {a : Array Value} (hr : va_Run p l e R s m args below meth c H locs cells slots 0 0 (F0 m pc ls st0) rest (rd_Q (some (.long r)) a) (fun _ => False)) (kk : W p l e R s m args below meth c H locs cells slots Q (F0 m (pc + 3) ls (.long r :: rest))) : W p l e R s m args below meth c H locs cells slots Q (F0 m pc ls st0) := by
  intro T hT X
  obtain ⟨v, st₀, t, T', L, h0, X', hL, e1, e2, ⟨hv, hh⟩, st⟩ := hr T hT X
  cases hv
  obtain ⟨t2, a1, b1⟩ := kk T' (by rw [e1, hh, h0]) (Stand.forget X' (fun q h => (hL q h).elim))
  exact ⟨t2, st t2 a1, b1⟩
/-- the ends of a read -/
theorem rd_iret {v r : Int32} {ty : FieldType} (hexec : p.tables.exec = Jvm.exec) (hb : c.code = cc) (hr : meth.sig.returnType = some ty) (hlocks : meth.locks = false) (hdg : decode cc pc = .ok (.ireturn, 1)) (hn : narrow ty (.int v) = .int v) (hv : v = r) :
    W p l e R s m args below meth c s.heap [] 0 0 (MQ below (rd_Q (some (.int r))) args s 0 0 (fun _ => False)) (F0 m pc ls [.int v]) :=
  W.zret hexec hb hr hn (fun t ht _ => ⟨by rw [hv], ht⟩) (fun _ h => nomatch h) hdg hlocks
theorem rd_lret {v r : Int64} (hexec : p.tables.exec = Jvm.exec) (hb : c.code = cc) (hr : meth.sig.returnType = some .long) (hlocks : meth.locks = false) (hdg : decode cc pc = .ok (.lreturn, 1)) (hv : v = r) :
    W p l e R s m args below meth c s.heap [] 0 0 (MQ below (rd_Q (some (.long r))) args s 0 0 (fun _ => False)) (F0 m pc ls [.long v]) :=
  W.lret hexec hb hr (fun t ht _ => ⟨by rw [hv], ht⟩) (fun _ h => nomatch h) hdg hlocks

/-- the places of a world -/
def wr_I (w : va_W) : Nat → Prop := fun q => ∃ (k : Nat) (e : va_E), w[k]? = some (q, e)
/-- a write: it answers v, the cells w are now w', all else that was there is as it was -/
def wr_Q (D : va_G) (cl : List vw_C) (v : Option Value) (w w' : va_W) : Array Value → State → Outcome → State → Prop := fun _ st o t => o = .returned v ∧ va_P D cl w' t.heap ∧ va_F (wr_I w) st t
def wr_P (D : va_G) (cl : List vw_C) (tys : List (ClassId × FieldType)) (w : va_W) (av : List Value) : Array Value → State → Prop := va_Pc av (fun U => va_P D cl w U.heap ∧ va_K D cl tys U ∧ va_D (fun _ => True) w)
theorem wr_blind {w : va_W} {av : List Value} : FrameBlind (wr_P D cl tys w av) := fun a U g mk q => ⟨q.1, q.2.1, va_K.moved (u := U) (U := U.calling g mk a) (Vm.Alike.refl U.vm) q.2.2.1, q.2.2.2⟩
theorem wr_preS {w : va_W} {As : List Value} (hP : va_P D cl w H) (hK : va_K D cl tys s) (hD : va_D A w) : PreS s H (wr_P D cl tys w As) As :=
  ⟨wr_blind, fun U hU hW => ⟨rfl, by rw [hU]; exact hP, va_K.moved hW.alike hK, hD.weaken (fun _ _ _ _ => trivial)⟩⟩
theorem wr_preV {w : va_W} {As : List Value} {C : String} {b : Addr} (hP : va_P D cl w H) (hK : va_K D cl tys s) (hD : va_D A w) (hr : ∃ cell : Cell, H[b]? = some cell ∧ cell.vm.isStatics = false ∧ s.vm.findClass C = some cell.cls) : PreV s H C b (wr_P D cl tys w (.ref b :: As)) As :=
  ⟨wr_blind, hr, fun U hU hW => ⟨rfl, by rw [hU]; exact hP, va_K.moved hW.alike hK, hD.weaken (fun _ _ _ _ => trivial)⟩⟩
theorem wr_addr {ws ws' : va_W} (hD : va_D A ws) (ha : ws'.map (fun q => q.1) = ws.map (fun q => q.1)) : va_D A ws' := by
  have h1 : ∀ (k : Nat) (q : Nat × va_E), ws'[k]? = some q → ∃ e, ws[k]? = some (q.1, e) := by
    intro k q hq
    have h2 : (ws'.map (fun q => q.1))[k]? = some q.1 := by rw [List.getElem?_map, hq]; rfl
    rw [ha, List.getElem?_map] at h2
    cases h3 : ws[k]? with
    | none => rw [h3] at h2; cases h2
    | some z =>
      rw [h3] at h2
      obtain ⟨z1, z2⟩ := z
      have h4 : z1 = q.1 := Option.some.inj h2
      exact ⟨z2, by rw [h4]⟩
  refine ⟨fun i j x y hx hy hxy => ?_, fun k q hk => ?_⟩
  · obtain ⟨e1, g1⟩ := h1 i x hx
    obtain ⟨e2, g2⟩ := h1 j y hy
    exact hD.1 i j _ _ g1 g2 hxy
  · obtain ⟨e1, g1⟩ := h1 k q hk
    exact hD.2 k (q.1, e1) g1
/-- behind a write of the cells w, at the places isC of ws: the world in its old order -/
theorem wr_join {w w' wr ws' : va_W} {H1 : Heap} (hP : va_P D cl ws H) (hD : va_D A ws) (isC isR pm : List Nat) (hC : isC.map (fun i => ws[i]?) = w.map some) (hR : isR.map (fun i => ws[i]?) = wr.map some) (hdis : ∀ i ∈ isR, i ∉ isC) (hpm : pm.filterMap (fun i => (wr ++ w')[i]?) = ws') (ha : ws'.map (fun q => q.1) = ws.map (fun q => q.1))
    (hk : ∀ q : Nat, q < H.size → ¬ wr_I w q → H1[q]? = H[q]?) (hP1 : va_P D cl w' H1) : va_P D cl ws' H1 ∧ va_D A ws' := by
  have at' : ∀ {is : List Nat} {w : va_W}, is.map (fun i => ws[i]?) = w.map some → ∀ (k : Nat) (q : Nat × va_E), w[k]? = some q → ∃ i, is[k]? = some i ∧ ws[i]? = some q := by
    intro is w hs k q hq
    have h1 : (is.map (fun i => ws[i]?))[k]? = some (some q) := by rw [hs, List.getElem?_map, hq]; rfl
    rw [List.getElem?_map] at h1
    cases hi : is[k]? with
    | none => rw [hi] at h1; cases h1
    | some i => rw [hi] at h1; exact ⟨i, rfl, Option.some.inj h1⟩
  have hPr : va_P D cl wr H1 := by
    intro k q hq
    obtain ⟨i, h1, h2⟩ := at' hR k q hq
    refine (hP i q h2).kept (hk q.1 (hP i q h2).lt ?_)
    rintro ⟨k2, e, h⟩
    obtain ⟨j, h3, h4⟩ := at' hC k2 (q.1, e) h
    have hij := hD.1 i j q (q.1, e) h2 h4 rfl
    subst hij
    exact hdis i (List.mem_of_getElem? h1) (List.mem_of_getElem? h3)
  exact ⟨(hPr.app hP1).sub pm hpm, wr_addr hD ha⟩
theorem wr_in {w : va_W} (hD : va_D A ws) (isC : List Nat) (hC : isC.map (fun i => ws[i]?) = w.map some) : ∀ q, wr_I w q → A q := by
  rintro q ⟨k, e, h⟩
  have h1 : (isC.map (fun i => ws[i]?))[k]? = some (some (q, e)) := by rw [hC, List.getElem?_map, h]; rfl
  rw [List.getElem?_map] at h1
  cases hi : isC[k]? with
  | none => rw [hi] at h1; cases h1
  | some i => rw [hi] at h1; exact hD.2 i _ (Option.some.inj h1)
theorem wr_call {w w' wr ws' : va_W} {v : Option Value} {a : Array Value} (hr : va_Run p l e R s m args below meth c H locs cells slots 0 0 (F0 m pc ls st0) rest (wr_Q D cl v w w' a) (wr_I w)) (hP : va_P D cl ws H) (hD : va_D A ws) (hS : va_S A H0 H locs)
    (isC isR pm : List Nat) (hC : isC.map (fun i => ws[i]?) = w.map some) (hR : isR.map (fun i => ws[i]?) = wr.map some) (hdis : ∀ i ∈ isR, i ∉ isC) (hpm : pm.filterMap (fun i => (wr ++ w')[i]?) = ws') (ha : ws'.map (fun q => q.1) = ws.map (fun q => q.1))
    (kk : ∀ (H1 : Heap) (locs1 : List Loc), va_P D cl ws' H1 → va_D A ws' → va_S A H0 H1 locs1 → W p l e R s m args below meth c H1 locs1 cells slots Q (F0 m (pc + 3) ls (v.toList ++ rest))) : W p l e R s m args below meth c H locs cells slots Q (F0 m pc ls st0) := by
  intro T hT X
  obtain ⟨v', st₀, t, T', L, h0, X', hL, e1, e2, ⟨hv, hP1, hz, hk⟩, st⟩ := hr T hT X
  cases hv
  rw [h0] at hz hk
  rw [← e1] at hP1 hz hk
  have hin := wr_in hD isC hC
  obtain ⟨hP2, hD2⟩ := wr_join hP hD isC isR pm hC hR hdis hpm ha hk hP1
  obtain ⟨t2, a1, b1⟩ := kk T'.heap (locs ++ L) hP2 hD2 ⟨Nat.le_trans hS.1 hz, fun q h1 h2 => by rw [hk q (Nat.lt_of_lt_of_le h1 hS.1) (fun z => h2 (hin q z))]; exact hS.2.1 q h1 h2, fun q hq => by
      rcases List.mem_append.mp hq with h | h
      · exact hS.2.2 q h
      · exact hin _ (hL q h)⟩ T' rfl X'
  exact ⟨t2, st t2 a1, b1⟩
/-- the ends of a write -/
theorem wr_iret {v r : Int32} {ty : FieldType} {w w' : va_W} (hexec : p.tables.exec = Jvm.exec) (hb : c.code = cc) (hr : meth.sig.returnType = some ty) (hlocks : meth.locks = false) (hP : va_P D cl w' H) (hS : va_S (wr_I w) s.heap H locs) (hdg : decode cc pc = .ok (.ireturn, 1)) (hn : narrow ty (.int v) = .int v) (hv : v = r) :
    W p l e R s m args below meth c H locs 0 0 (MQ below (wr_Q D cl (some (.int r)) w w') args s 0 0 (wr_I w)) (F0 m pc ls [.int v]) :=
  W.zret hexec hb hr hn (fun t ht _ => ⟨by rw [hv], by rw [ht]; exact hP, hS.F ht⟩) hS.2.2 hdg hlocks
theorem wr_vret {w w' : va_W} (hexec : p.tables.exec = Jvm.exec) (hb : c.code = cc) (hr : meth.sig.returnType = none) (hlocks : meth.locks = false) (hP : va_P D cl w' H) (hS : va_S (wr_I w) s.heap H locs) (hdg : decode cc pc = .ok (.return_, 1)) :
    W p l e R s m args below meth c H locs 0 0 (MQ below (wr_Q D cl none w w') args s 0 0 (wr_I w)) (F0 m pc ls []) :=
  W.vret hexec hb hr (fun t ht _ => ⟨rfl, by rw [ht]; exact hP, hS.F ht⟩) hS.2.2 hdg hlocks
theorem wr_self {w : va_W} {B : Nat → Prop} (h : va_D B w) : va_D (wr_I w) w := ⟨h.1, fun k q hk => ⟨k, q.2, hk⟩⟩

/-- rows for places by Nat -/
theorem n_lald (hexec : p.tables.exec = Jvm.exec) (hb : c.code = cc) (hK : va_K D cl tys s) (hP : va_P D cl ws H) (q0 t0 : Nat) {a : Nat} {cA : ClassId} {n : Nat} {f : Nat → Int64} (ha : ws[q0]? = some (a, .inl (cA, n, .inr (.inl f)))) (ht : tys[t0]? = some (cA, .long)) {i : Int32} {k : Nat} (hi : i = nI k) (hk : k < n) (hn : n < 2147483648) (hdg : decode cc pc = .ok (.laload, 1))
    (kk : W p l e R s m args below meth c H locs cells slots Q (F0 m (pc + 1) ls (.long (f k) :: rest))) : W p l e R s m args below meth c H locs cells slots Q (F0 m pc ls (.int i :: .ref a :: rest)) := by
  subst hi
  refine va_lald hexec hb hK hP q0 t0 ha ht (vp_in_nI hk hn) hdg ?_
  rw [nI_clamp (Nat.lt_trans hk hn)]; exact kk
theorem n_iald (hexec : p.tables.exec = Jvm.exec) (hb : c.code = cc) (hK : va_K D cl tys s) (hP : va_P D cl ws H) (q0 t0 : Nat) {a : Nat} {cA : ClassId} {n : Nat} {f : Nat → Int32} (ha : ws[q0]? = some (a, .inl (cA, n, .inl f))) (ht : tys[t0]? = some (cA, .int)) {i : Int32} {k : Nat} (hi : i = nI k) (hk : k < n) (hn : n < 2147483648) (hdg : decode cc pc = .ok (.iaload, 1))
    (kk : W p l e R s m args below meth c H locs cells slots Q (F0 m (pc + 1) ls (.int (f k) :: rest))) : W p l e R s m args below meth c H locs cells slots Q (F0 m pc ls (.int i :: .ref a :: rest)) := by
  subst hi
  refine va_iald hexec hb hK hP q0 t0 ha ht (vp_in_nI hk hn) hdg ?_
  rw [nI_clamp (Nat.lt_trans hk hn)]; exact kk
theorem n_last (hexec : p.tables.exec = Jvm.exec) (hb : c.code = cc) (hK : va_K D cl tys s) (hP : va_P D cl ws H) (hD : va_D A ws) (hS : va_S A H0 H locs) (q0 t0 : Nat) {a : Nat} {cA : ClassId} {n : Nat} {f : Nat → Int64} (ha : ws[q0]? = some (a, .inl (cA, n, .inr (.inl f)))) (ht : tys[t0]? = some (cA, .long)) {i : Int32} {x : Int64} {k : Nat} (hi : i = nI k) (hk : k < n) (hn : n < 2147483648) (hdg : decode cc pc = .ok (.lastore, 1))
    {ws' : va_W} (hw : ws.set q0 (a, .inl (cA, n, .inr (.inl (vp_updL f k x)))) = ws')
    (kk : ∀ (H1 : Heap) (locs1 : List Loc), va_P D cl ws' H1 → va_D A ws' → va_S A H0 H1 locs1 → W p l e R s m args below meth c H1 locs1 cells slots Q (F0 m (pc + 1) ls rest)) : W p l e R s m args below meth c H locs cells slots Q (F0 m pc ls (.long x :: .int i :: .ref a :: rest)) := by
  subst hi
  refine va_last hexec hb hK hP hD hS q0 t0 ha ht (vp_in_nI hk hn) hdg ?_
  rw [nI_clamp (Nat.lt_trans hk hn), hw]; exact kk
theorem n_iast (hexec : p.tables.exec = Jvm.exec) (hb : c.code = cc) (hK : va_K D cl tys s) (hP : va_P D cl ws H) (hD : va_D A ws) (hS : va_S A H0 H locs) (q0 t0 : Nat) {a : Nat} {cA : ClassId} {n : Nat} {f : Nat → Int32} (ha : ws[q0]? = some (a, .inl (cA, n, .inl f))) (ht : tys[t0]? = some (cA, .int)) {i : Int32} {x : Int32} {k : Nat} (hi : i = nI k) (hk : k < n) (hn : n < 2147483648) (hdg : decode cc pc = .ok (.iastore, 1))
    {ws' : va_W} (hw : ws.set q0 (a, .inl (cA, n, .inl (upd f k x))) = ws')
    (kk : ∀ (H1 : Heap) (locs1 : List Loc), va_P D cl ws' H1 → va_D A ws' → va_S A H0 H1 locs1 → W p l e R s m args below meth c H1 locs1 cells slots Q (F0 m (pc + 1) ls rest)) : W p l e R s m args below meth c H locs cells slots Q (F0 m pc ls (.int x :: .int i :: .ref a :: rest)) := by
  subst hi
  refine va_iast hexec hb hK hP hD hS q0 t0 ha ht (vp_in_nI hk hn) hdg ?_
  rw [nI_clamp (Nat.lt_trans hk hn), hw]; exact kk
theorem n_cmp (x y : Int64) : lg_cmp x y = 0 ↔ x = y := by
  unfold lg_cmp
  by_cases h1 : x > y
  · have h2 : x ≠ y := fun h => by subst h; exact absurd h1 (by simp)
    simp [h1, h2]
  · by_cases h2 : x = y
    · simp [h1, h2]
    · simp [h1, h2]
theorem n_lne (hexec : p.tables.exec = Jvm.exec) (hb : c.code = cc) {x y : Int64} {off : Int} {tgt : Nat} (hdg : decode cc pc = .ok (.lcmp, 1)) (hdg2 : decode cc (pc + 1) = .ok (.ifCond .ne off, 3)) (ht : ((pc + 1 : Nat) : Int) + off = (tgt : Int))
    (kt : x ≠ y → W p l e R s m args below meth c H locs cells slots Q (F0 m tgt ls rest)) (kf : x = y → W p l e R s m args below meth c H locs cells slots Q (F0 m (pc + 4) ls rest)) : W p l e R s m args below meth c H locs cells slots Q (F0 m pc ls (.long y :: .long x :: rest)) :=
  W.lcmp hexec hb hdg (lv_if_ne hexec hb hdg2 ht (fun h => kt (fun h2 => h ((n_cmp x y).mpr h2))) (fun h => kf ((n_cmp x y).mp h)))
theorem n_leq (hexec : p.tables.exec = Jvm.exec) (hb : c.code = cc) {x y : Int64} {off : Int} {tgt : Nat} (hdg : decode cc pc = .ok (.lcmp, 1)) (hdg2 : decode cc (pc + 1) = .ok (.ifCond .eq off, 3)) (ht : ((pc + 1 : Nat) : Int) + off = (tgt : Int))
    (kt : x = y → W p l e R s m args below meth c H locs cells slots Q (F0 m tgt ls rest)) (kf : x ≠ y → W p l e R s m args below meth c H locs cells slots Q (F0 m (pc + 4) ls rest)) : W p l e R s m args below meth c H locs cells slots Q (F0 m pc ls (.long y :: .long x :: rest)) :=
  W.lcmp hexec hb hdg (lv_if_eq hexec hb hdg2 ht (fun h => kt ((n_cmp x y).mp h)) (fun h => kf (fun h2 => h ((n_cmp x y).mpr h2))))
theorem n_ige (hexec : p.tables.exec = Jvm.exec) (hb : c.code = cc) {x y : Int32} (a b : Nat) {off : Int} {tgt : Nat} (hdg : decode cc pc = .ok (.if_icmp .ge off, 3)) (ht : (pc : Int) + off = (tgt : Int)) (hx : x = nI a) (hy : y = nI b) (ha : a < 2147483648) (hb2 : b < 2147483648)
    (kt : b ≤ a → W p l e R s m args below meth c H locs cells slots Q (F0 m tgt ls rest)) (kf : a < b → W p l e R s m args below meth c H locs cells slots Q (F0 m (pc + 3) ls rest)) : W p l e R s m args below meth c H locs cells slots Q (F0 m pc ls (.int y :: .int x :: rest)) := by
  subst hx; subst hy
  exact lv_icmp_ge hexec hb hdg ht (fun h => kt ((nI_leI hb2 ha).mp h)) (fun h => kf (Nat.not_le.mp (fun z => h ((nI_leI hb2 ha).mpr z))))
theorem n_put (hexec : p.tables.exec = Jvm.exec) (hb : c.code = cc) {own ref C : String} {T : u_T} {N ci index a : Nat} {Ts : List Cond} (hts : ∀ w ∈ Ts, w.before args s = true) (hin : ∀ w ∈ u_ws C T N, w ∈ Ts) (ty0 : Nat → FieldType) (hty : ∀ k, k < N → parseFieldDescriptor (T k).2.2.1 = some (ty0 k)) (hnm : ∀ a, a < N → ∀ b, b < N → a ≠ b → (T a).2.1 ≠ (T b).2.1) (hown : s.vm.findClass own = some m.cls) (hK : va_K D cl tys s) (hP : va_P D cl ws H) (hD : va_D A ws) (hS0 : va_S A H0 H locs) (q0 : Nat) {fs : List Value} (he : ws[q0]? = some (a, .inr (ci, fs))) (hc : cl[ci]? = some (C, T, N)) (k : Nat) (hk : k < N) (hlink : (Cond.fieldLink own index ref (T k).2.1 (T k).2.2.1).before args s = true) (hsame : ∀ x, s.fieldFound? (T k).1 (T k).2.1 (T k).2.2.1 = some x → s.fieldFound? ref (T k).2.1 (T k).2.2.1 = some x) (hfin : (T k).2.2.2 = false) {ty : FieldType} {v : Value} (hd : parseFieldDescriptor (T k).2.2.1 = some ty) (hn : narrow ty v = v) (hfit : fits ty v = true) (hl : k < fs.length)
    (hdg : decode cc pc = .ok (.putfield index, 3)) {ws' : va_W} (hw : ws.set q0 (a, .inr (ci, fs.set k v)) = ws') (kk : ∀ (H1 : Heap) (locs1 : List Loc), va_P D cl ws' H1 → va_D A ws' → va_S A H0 H1 locs1 → W p l e R s m args below meth c H1 locs1 cells slots Q (F0 m (pc + 3) ls rest)) : W p l e R s m args below meth c H locs cells slots Q (F0 m pc ls (v :: .ref a :: rest)) := by
  subst hw
  exact va_put hexec hb hts hin ty0 hty hnm hown hK hP hD hS0 q0 he hc k hk hlink hsame hfin hd hn hfit hl hdg kk
theorem n_putF (hexec : p.tables.exec = Jvm.exec) (hb : c.code = cc) {own ref C : String} {T : u_T} {N ci index a : Nat} {Ts : List Cond} (hts : ∀ w ∈ Ts, w.before args s = true) (hin : ∀ w ∈ u_ws C T N, w ∈ Ts) (ty0 : Nat → FieldType) (hty : ∀ k, k < N → parseFieldDescriptor (T k).2.2.1 = some (ty0 k)) (hnm : ∀ a, a < N → ∀ b, b < N → a ≠ b → (T a).2.1 ≠ (T b).2.1) (hown : s.vm.findClass own = some m.cls) (hK : va_K D cl tys s) (hP : va_P D cl ws H) (hD : va_D A ws) (hS0 : va_S A H0 H locs) (q0 : Nat) {fs : List Value} (he : ws[q0]? = some (a, .inr (ci, fs))) (hc : cl[ci]? = some (C, T, N)) (k : Nat) (hk : k < N) (hlink : (Cond.fieldLink own index ref (T k).2.1 (T k).2.2.1).before args s = true) (hsame : ∀ x, s.fieldFound? (T k).1 (T k).2.1 (T k).2.2.1 = some x → s.fieldFound? ref (T k).2.1 (T k).2.2.1 = some x) (hfin : (T k).2.2.2 = true) (hin2 : meth.name = "<init>") (hdecl : (T k).1 = own) {ty : FieldType} {v : Value} (hd : parseFieldDescriptor (T k).2.2.1 = some ty) (hn : narrow ty v = v) (hfit : fits ty v = true) (hl : k < fs.length)
    (hdg : decode cc pc = .ok (.putfield index, 3)) {ws' : va_W} (hw : ws.set q0 (a, .inr (ci, fs.set k v)) = ws') (kk : ∀ (H1 : Heap) (locs1 : List Loc), va_P D cl ws' H1 → va_D A ws' → va_S A H0 H1 locs1 → W p l e R s m args below meth c H1 locs1 cells slots Q (F0 m (pc + 3) ls rest)) : W p l e R s m args below meth c H locs cells slots Q (F0 m pc ls (v :: .ref a :: rest)) := by
  subst hw
  exact va_putF hexec hb hts hin ty0 hty hnm hown hK hP hD hS0 q0 he hc k hk hlink hsame hfin hin2 hdecl hd hn hfit hl hdg kk
/-- 0 or 1 -/
def bI (b : Bool) : Int32 := if b then 1 else 0
theorem bI_nar (b : Bool) : narrow .boolean (.int (bI b)) = .int (bI b) := by cases b <;> rfl
theorem bI_nar_int (x : Int32) : narrow .int (.int x) = .int x := rfl
theorem bI_ne {b : Bool} (h : ¬ bI b = 0) : b = true := by cases b; exact absurd rfl h; rfl
theorem bI_eq {b : Bool} (h : bI b = 0) : b = false := by cases b; rfl; exact absurd h (by decide)
end BASE
