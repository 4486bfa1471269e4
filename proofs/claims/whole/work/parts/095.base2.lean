/-! 12.base2: reads without an answer, and words of the calls that may throw -/
section BASE2
variable {p : Program} {l : Launch} {e : Env} {R : Room} {s : State} {m : MethodId} {args : Array Value} {below : List Frame} {meth : Method} {c : Code} {H : Heap} {locs : List Loc} {cells slots : Nat} {Q : State → Prop}
variable {cc : ByteArray} {pc : Nat} {ls : Array Slot} {rest st0 : List Value} {D : va_G} {cl : List vw_C} {tys : List (ClassId × FieldType)} {A : Nat → Prop} {H0 : Heap} {ws : va_W}
theorem rd_callv {a : Array Value} (hr : va_Run p l e R s m args below meth c H locs cells slots 0 0 (F0 m pc ls st0) rest (rd_Q none a) (fun _ => False)) (kk : W p l e R s m args below meth c H locs cells slots Q (F0 m (pc + 3) ls rest)) : W p l e R s m args below meth c H locs cells slots Q (F0 m pc ls st0) := by
  intro T hT X
  obtain ⟨v, st₀, t, T', L, h0, X', hL, e1, e2, ⟨hv, hh⟩, st⟩ := hr T hT X
  cases hv
  obtain ⟨t2, a1, b1⟩ := kk T' (by rw [e1, hh, h0]) (Stand.forget X' (fun q h => (hL q h).elim))
  exact ⟨t2, st t2 a1, b1⟩
theorem rd_vret (hexec : p.tables.exec = Jvm.exec) (hb : c.code = cc) (hr : meth.sig.returnType = none) (hlocks : meth.locks = false) (hdg : decode cc pc = .ok (.return_, 1)) :
    W p l e R s m args below meth c s.heap [] 0 0 (MQ below (rd_Q none) args s 0 0 (fun _ => False)) (F0 m pc ls []) :=
  W.vret hexec hb hr (fun t ht _ => ⟨rfl, ht⟩) (fun _ h => nomatch h) hdg hlocks
theorem bI_fit (b : Bool) : fits .boolean (.int (bI b)) = true := by cases b <;> rfl
end BASE2
def cIns (kinds : Nat → Int32) (ones av am vals msks : Nat → Int64) (kn en : Nat) (held : Nat → Int32) (bn : Nat) (wy stt : Int32) (hashed : Bool) (cap ac : Int32) : Bool := cAct ac && (cTakeAll kinds ones am kn && (decide (cFind ones av am vals msks kn en = -1) && cRoom ones av kn en held bn wy stt hashed cap))
def oI : Option Nat → Int32
  | none => -1
  | some j => nI j
def cBest (av vals msks : Nat → Int64) (kn : Nat) (pre pri : Nat → Int32) : Option Nat → Nat → Nat → Option Nat
  | b, _, 0 => b
  | b, i, n + 1 => cBest av vals msks kn pre pri (if cFit av vals msks kn i && (match b with | none => true | some j => eMore pre pri i j) then some i else b) (i + 1) n
def mAct (act : Nat → Int32) : Option Nat → Int32
  | none => -1
  | some j => act j
def mDat (dat : Nat → Int64) : Option Nat → Int64
  | none => 0
  | some j => dat j
theorem cBest_n {av vals msks : Nat → Int64} {kn : Nat} {pre pri : Nat → Int32} {b : Option Nat} {i n : Nat} (h : cFit av vals msks kn i = false) : cBest av vals msks kn pre pri b i (n + 1) = cBest av vals msks kn pre pri b (i + 1) n := by simp [cBest, h]
theorem cBest_0 {av vals msks : Nat → Int64} {kn : Nat} {pre pri : Nat → Int32} {i n : Nat} (h : cFit av vals msks kn i = true) : cBest av vals msks kn pre pri none i (n + 1) = cBest av vals msks kn pre pri (some i) (i + 1) n := by simp [cBest, h]
theorem cBest_y {av vals msks : Nat → Int64} {kn : Nat} {pre pri : Nat → Int32} {i j n : Nat} (h : cFit av vals msks kn i = true) (h2 : eMore pre pri i j = true) : cBest av vals msks kn pre pri (some j) i (n + 1) = cBest av vals msks kn pre pri (some i) (i + 1) n := by simp [cBest, h, h2]
theorem cBest_k {av vals msks : Nat → Int64} {kn : Nat} {pre pri : Nat → Int32} {i j n : Nat} (h2 : eMore pre pri i j = false) : cBest av vals msks kn pre pri (some j) i (n + 1) = cBest av vals msks kn pre pri (some j) (i + 1) n := by simp [cBest, h2]
