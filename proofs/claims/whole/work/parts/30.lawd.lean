/-! THE CLAIM OUT OF ONE WALK OF THE LAW'S BODY. Your part is whole_start (and what it stands on); all else here is the same for every law, but numbers. -/
def R_law : String := "WayTablesLaw"
def lw_P (b : Addr) (xs : List Int32) (args : Array Value) (s : State) : Prop := args = #[.ref b] ∧ s.IntsAt b xs ∧ xs.length ≤ 3072 ∧ (Jvm.Cond.and given_1 narrow_1).before args s = true
def lw_Q (_ : Array Value) (s : State) (o : Outcome) (t : State) : Prop := o = .returned (some (.int 1)) ∧ Framed s o t [] 1058 9996
def lw_Z (below : List Frame) (a : Array Value) (s : State) : State → Prop := fun t => ∃ o, t.status = .running ∧ Ended t below o ∧ lw_Q a s o t
/-- the law's own end, with 1 on the stack, nothing written that was there before, its room as the claim has it -/
theorem lw_ret {p : Program} {l : Launch} {e : Env} {s : State} {m : MethodId} {below : List Frame} {meth : Method} {c : Code} {b : Nat} (hx : p.tables.exec = Jvm.exec) (hb : c.code = code) (hr : meth.sig.returnType = ret) (hlocks : meth.locks = false) {pc : Nat} {H : Heap} {ls : Array Slot} (hdg : decode code pc = .ok (.ireturn, 1)) : W p l e room_1 s m #[Value.ref b] below meth c H [] 1058 9996 (lw_Z below #[Value.ref b] s) (F0 m pc ls [.int 1]) := by
  intro T hT X
  obtain ⟨fs, hret, hrun, hended, hW, hframe⟩ := X.leave (v := some (.int 1)) (hlocks := hlocks) (fun h => by rw [hr] at h; cases h)
  have hmeth' : T.vm.method? m = some meth := X.method'
  refine ⟨T.setFrames fs, ?_, .returned (some (.int 1)), hrun, hended, rfl, ⟨_, rfl⟩, hW, hframe⟩
  jvm_step X.here [X.here.top, hx, hb, hdg, hmeth', hr, ret, narrow_b1]
  (try refine ⟨rfl, ?_⟩); (try refine ⟨rfl, ?_⟩)
  first | (intro acts; rw [hret _ acts rfl rfl rfl]) | rw [hret _ _ rfl rfl rfl]
  exact Steps.refl _
/-- what holds at the law's entry: the machine, the code, the tables' words (any of lw_tbl by 'hts w (by decide +kernel)'), the script of L ints xs at the cell b, what the Statement gives of the start (any of its parts by flat_of_before) -/
def lw_At (p : Program) (s : State) (m : MethodId) (meth : Method) (c : Code) (b L : Nat) (xs : Nat → Int32) : Prop :=
  p.tables.exec = Jvm.exec ∧ c.code = code ∧ meth.sig.returnType = ret ∧ c.maxLocals = 7 ∧ s.vm.findClass R_law = some m.cls ∧ (∀ w ∈ lw_tbl, w.before #[Value.ref b] s = true) ∧ va_X b L xs s s.heap ∧ b < s.heap.size ∧ meth.locks = false ∧ (Jvm.Cond.and given_1 narrow_1).before #[Value.ref b] s = true
/-! rows for the law itself -/
/-- what the law's start says of throws: A is what may change -/
def lX (A : Nat → Prop) (s : State) : Prop := tX s ∧ vx_Zq Bundle.tN "UNASSIGNED_STACK" Bundle.steD A s s.heap ∧ vx_Zq Bundle.tN "SUPPRESSED_SENTINEL" Bundle.listD A s s.heap
theorem lX_go {A : Nat → Prop} {s U : State} {H : Heap} {locs : List Loc} (h : lX A s) (hS : va_S A s.heap H locs) (hU : U.heap = H) (hW : s.WarmedH U.vm) : tX U := by
  obtain ⟨ht, z1, z2⟩ := h
  have a1 : vx_Zq Bundle.tN "UNASSIGNED_STACK" Bundle.steD (fun _ => False) U U.heap := by rw [hU]; exact ((z1.kept hS.2.1).moved hW.alike).narrow (fun _ h => h.elim)
  have a2 : vx_Zq Bundle.tN "SUPPRESSED_SENTINEL" Bundle.listD (fun _ => False) U U.heap := by rw [hU]; exact ((z2.kept hS.2.1).moved hW.alike).narrow (fun _ h => h.elim)
  obtain ⟨c0, c1, c2, c3, c4, c5, ⟨a68, s68⟩, ⟨a75, s75⟩, ⟨a82, s82⟩, ⟨a88, s88⟩, ⟨a101, s101⟩, ⟨a105, s105⟩, ⟨a166, s166⟩, -, -⟩ := ht
  exact ⟨va_Nw.warmC hW c0, va_Nw.warmC hW c1, va_Nw.warmC hW c2, va_Nw.warmD hW c3, va_Nw.warmD hW c4, va_Nw.warmD hW c5, ⟨a68, s68.warm hW⟩, ⟨a75, s75.warm hW⟩, ⟨a82, s82.warm hW⟩, ⟨a88, s88.warm hW⟩, ⟨a101, s101.warm hW⟩, ⟨a105, s105.warm hW⟩, ⟨a166, s166.warm hW⟩, a1, a2⟩
section LAWB
variable {p : Program} {l : Launch} {e : Env} {R : Room} {s : State} {m : MethodId} {args : Array Value} {below : List Frame} {meth : Method} {c : Code} {H : Heap} {locs : List Loc} {cells slots : Nat} {Q : State → Prop}
variable {cc : ByteArray} {pc : Nat} {ls : Array Slot} {rest st0 : List Value} {D : va_G} {cl : List vw_C} {tys : List (ClassId × FieldType)} {A : Nat → Prop} {H0 : Heap} {ws : va_W}
theorem n_sld (hexec : p.tables.exec = Jvm.exec) (hb : c.code = cc) {b L : Nat} {xs : Nat → Int32} (hX : va_X b L xs s H0) (hbl : b < H0.size) (hbA : ¬ A b) (hS : va_S A H0 H locs) {i : Int32} (k : Nat) (hi : i = nI k) (hk : k < L) (hL : L < 2147483648) (hdg : decode cc pc = .ok (.iaload, 1))
    (kk : W p l e R s m args below meth c H locs cells slots Q (F0 m (pc + 1) ls (.int (xs k) :: rest))) : W p l e R s m args below meth c H locs cells slots Q (F0 m pc ls (.int i :: .ref b :: rest)) := by
  subst hi
  refine va_sld hexec hb hX hbl hbA hS (vp_in_nI hk hL) hdg ?_
  rw [nI_clamp (Nat.lt_trans hk hL)]; exact kk
theorem xP2_preS {w : va_W} {As : List Value} (hX : ∀ U : State, U.heap = H → s.WarmedH U.vm → tX U) (hN : va_Nc "java/lang/IllegalStateException" "java/lang/IllegalArgumentException" s) (hP : va_P D cl w H) (hK : va_K D cl tys s) : PreS s H (xP2 D cl tys w As) As :=
  ⟨xP2_blind, fun U hU hW => ⟨rfl, by rw [hU]; exact hP, va_K.moved hW.alike hK, hX U hU hW, va_Nc.moved hW.alike hN⟩⟩
/-- a caught throw: nothing old has changed -/
theorem xr_call {k : Int32} {a : Array Value} (hr : va_Run p l e R s m args below meth c H locs cells slots 1 6 (F0 m pc ls st0) rest (xR k a) (fun _ => False)) (hP : va_P D cl ws H) (hS : va_S A H0 H locs)
    (kk : ∀ H1 : Heap, va_P D cl ws H1 → va_S A H0 H1 locs → W p l e R s m args below meth c H1 locs (cells + 1) (slots + 6) Q (F0 m (pc + 3) ls (.int k :: rest))) : W p l e R s m args below meth c H locs cells slots Q (F0 m pc ls st0) := by
  intro T hT X
  obtain ⟨v, st₀, t, T', L, h0, X', hL, e1, e2, ⟨hv, hz, hk⟩, st⟩ := hr T hT X
  cases hv
  rw [h0] at hz hk
  rw [← e1] at hz hk
  obtain ⟨t2, a1, b1⟩ := kk T'.heap (hP.kept (fun j q hq => hk q.1 (hP j q hq).lt (fun z => z))) ⟨Nat.le_trans hS.1 hz, fun q h1 h2 => by rw [hk q (Nat.lt_of_lt_of_le h1 hS.1) (fun z => z)]; exact hS.2.1 q h1 h2, hS.2.2⟩ T' rfl (Stand.forget X' (fun q h => (hL q h).elim))
  exact ⟨t2, st t2 a1, b1⟩
end LAWB
def LC (p : Program) (l : Launch) (s : State) (m : MethodId) (meth : Method) (c : Code) (dC : Nat → ClassId) (dI : Nat → Nat → Nat) (cI cL : ClassId) (b L : Nat) (xs : Nat → Int32) : Prop :=
  p.tables.exec = Jvm.exec ∧ c.code = cL_law ∧ meth.sig.returnType = ret ∧ c.maxLocals = 7 ∧ s.vm.findClass RL = some m.cls ∧ (∀ w ∈ wAll, w.before #[Value.ref b] s = true) ∧ va_X b L xs s s.heap ∧ b < s.heap.size ∧ meth.locks = false ∧ va_K (dC, dI) vwCl [(cI, .int), (cL, .long)] s ∧ lX (fun q : Nat => s.heap.size ≤ q) s ∧ va_Nc "java/lang/IllegalStateException" "java/lang/IllegalArgumentException" s ∧ l.stackTraces = false ∧ L ≤ 3072
theorem rel0 (kinds wd : Nat → Int32) (vals msks : Nat → Int64) (pre pri act : Nat → Int32) (dat : Nat → Int64) (held : Nat → Int32) (wy stt cap n9 w9 s9 : Int32) (vals2 msks2 : Nat → Int64) (pri2 act2 : Nat → Int32) (dat2 : Nat → Int64) : RK kinds wd 0 ∧ RE kinds wd 0 0 vals msks pre pri act dat vals2 msks2 pri2 act2 dat2 ∧ RT kinds wd 0 0 vals held 0 wy stt false false cap n9 w9 s9 :=
  ⟨⟨by omega, fun k hk => by omega, fun i j hi => by omega⟩, fun e he => by omega, ⟨by omega, fun _ => ⟨rfl, rfl, rfl⟩, fun h => nomatch h⟩⟩
theorem l_ins1 {kinds : Nat → Int32} {ones av am vals msks : Nat → Int64} {kn en : Nat} {held : Nat → Int32} {bn : Nat} {wy stt : Int32} {hashed : Bool} {cap ac : Int32} (h : (cAct ac && (cTakeAll kinds ones am kn && decide (cFind ones av am vals msks kn en = -1))) = false) : cIns kinds ones av am vals msks kn en held bn wy stt hashed cap ac = false := by
  unfold cIns
  rw [← Bool.and_assoc, ← Bool.and_assoc, Bool.and_assoc (cAct ac), h, Bool.false_and]
theorem l_ins2 {kinds : Nat → Int32} {ones av am vals msks : Nat → Int64} {kn en : Nat} {held : Nat → Int32} {bn : Nat} {wy stt : Int32} {hashed : Bool} {cap ac : Int32} (h : cRoom ones av kn en held bn wy stt hashed cap = false) : cIns kinds ones av am vals msks kn en held bn wy stt hashed cap ac = false := by
  unfold cIns
  rw [h, Bool.and_false, Bool.and_false, Bool.and_false]
theorem l_gt {L t : Nat} (hL : L ≤ 3072) (ht : 6 * t ≤ 3072) : (Int32.ofNat L - 6 < nI (6 * t)) ↔ L < 6 * t + 6 := by
  have e : Int32.ofNat L - 6 = nI L - nI 6 := rfl
  rw [e, Int32.lt_iff_toInt_lt, pk_sub_toInt (by omega) (by omega), nI_toInt (by omega)]
  omega
theorem on_0 : onW (fun _ => 0) = fun _ => 0 := by
  funext k
  show mOne 0 = 0
  decide
