/-! the reference's own words -/
abbrev lsh (x : Int64) (y : Int32) : Int64 := x <<< (y.toInt64 &&& 63)
def mOne (w : Int32) : Int64 := if w = 64 then -1 else lsh 1 w - 1
def onF (x : Int64) : Int32 → Nat → Nat → Int32
  | a, _, 0 => a
  | a, b, n + 1 => onF x (if ush x (nI b) &&& 1 = 1 then a + 1 else a) (b + 1) n
def onesN (x : Int64) : Int32 := onF x 0 0 64
theorem onF_t {x : Int64} {a : Int32} {b n : Nat} (h : ush x (nI b) &&& 1 = 1) : onF x a b (n + 1) = onF x (a + 1) (b + 1) n := by simp only [onF]; rw [if_pos h]
theorem onF_f {x : Int64} {a : Int32} {b n : Nat} (h : ush x (nI b) &&& 1 ≠ 1) : onF x a b (n + 1) = onF x a (b + 1) n := by simp only [onF]; rw [if_neg h]
def mIdx (n : Int32) (h : Int64) : Int32 := (h &&& (n - 1).toInt64).toInt32
theorem n_ix (e k : Nat) : (4 : Int32) * nI e + nI k = nI (e * 4 + k) := by rw [show (4 : Int32) = nI 4 from rfl, pk_mul, nI_add, Nat.mul_comm]
theorem n_ix4 (e : Nat) : (4 : Int32) * nI e = nI (e * 4) := by rw [show (4 : Int32) = nI 4 from rfl, pk_mul, Nat.mul_comm]
theorem n_ix1 (e k : Nat) : (4 : Int32) * nI e + 4 + nI k = nI ((e + 1) * 4 + k) := by
  rw [show (4 : Int32) * nI e + 4 + nI k = nI 4 * nI e + nI 4 + nI k from rfl, pk_mul, nI_add, nI_add]
  congr 1
  omega
theorem bxw {w : Nat} (a one : BitVec w) : (a &&& one = one) ↔ (one &&& ((a &&& one) ^^^ BitVec.allOnes w)) = 0#w := by
  constructor
  · intro h
    rw [h]
    ext i hi
    simp
  · intro h
    ext i hi
    have h2 : (one &&& ((a &&& one) ^^^ BitVec.allOnes w)).getLsbD i = false := by rw [h]; simp
    simp [hi] at h2 ⊢
    intro h3
    have h4 := h2 h3
    simp [h3] at h4
    exact h4
theorem t_ex (a one : Int64) : (a &&& one = one) ↔ (one &&& ((a &&& one) ^^^ (-1)) = 0) := by
  have hm : (-1 : Int64).toBitVec = BitVec.allOnes 64 := by decide
  rw [← Int64.toBitVec_inj, ← Int64.toBitVec_inj (a := one &&& ((a &&& one) ^^^ (-1)))]
  simp only [Int64.toBitVec_and, Int64.toBitVec_xor, hm]
  exact bxw a.toBitVec one.toBitVec
def pFst (kinds : Nat → Int32) (g : Nat → Int64) : Nat → Nat → Int32
  | _, 0 => 0
  | k, n + 1 => if kinds k = 1 then onesN (g k) else pFst kinds g (k + 1) n
def mPre (kinds : Nat → Int32) (msks : Nat → Int64) (kn e : Nat) : Int32 := pFst kinds (fun k => msks (e * 4 + k)) 0 kn
def abF (bk : Nat → Nat) (w9 : Int32) : (Nat → Int32) → Int32 → Nat → Nat → (Nat → Int32) × Int32
  | f, a, _, 0 => (f, a)
  | f, a, i, n + 1 => abF bk w9 (upd f (bk i) (f (bk i) + 1)) (if w9 < f (bk i) + 1 then a + 1 else a) (i + 1) n
theorem abF_t {bk : Nat → Nat} {w9 : Int32} {f : Nat → Int32} {a : Int32} {i n : Nat} (h : ¬ f (bk i) + 1 ≤ w9) : abF bk w9 f a i (n + 1) = abF bk w9 (upd f (bk i) (f (bk i) + 1)) (a + 1) (i + 1) n := by simp only [abF]; rw [if_pos (Int32.not_le.mp h)]
theorem abF_f {bk : Nat → Nat} {w9 : Int32} {f : Nat → Int32} {a : Int32} {i n : Nat} (h : f (bk i) + 1 ≤ w9) : abF bk w9 f a i (n + 1) = abF bk w9 (upd f (bk i) (f (bk i) + 1)) a (i + 1) n := by simp only [abF]; rw [if_neg (Int32.not_lt.mpr h)]
def mMost (kinds : Nat → Int32) (kn : Nat) (n9 w9 s9 : Int32) : Int32 := if kExact kinds kn then n9 * w9 + s9 else n9
theorem wr_lret {p : Program} {l : Launch} {e : Env} {R : Room} {s : State} {m : MethodId} {args : Array Value} {below : List Frame} {meth : Method} {c : Code} {H : Heap} {locs : List Loc} {cc : ByteArray} {pc : Nat} {ls : Array Slot} {D : va_G} {cl : List vw_C} {v r : Int64} {w w' : va_W} (hexec : p.tables.exec = Jvm.exec) (hb : c.code = cc) (hr : meth.sig.returnType = some .long) (hlocks : meth.locks = false) (hP : va_P D cl w' H) (hS : va_S (wr_I w) s.heap H locs) (hdg : decode cc pc = .ok (.lreturn, 1)) (hv : v = r) :
    W p l e R s m args below meth c H locs 0 0 (MQ below (wr_Q D cl (some (.long r)) w w') args s 0 0 (wr_I w)) (F0 m pc ls [.long v]) :=
  W.lret hexec hb hr (fun t ht _ => ⟨by rw [hv], by rw [ht]; exact hP, hS.F ht⟩) hS.2.2 hdg hlocks
def mBucket (kinds : Nat → Int32) (av : Nat → Int64) (wd : Nat → Int32) (kn : Nat) (n9 : Int32) (made : Bool) : Int32 := if made && kExact kinds kn then mIdx n9 (hMix (hashF (fun k => av k &&& mOne (wd k)) 0 0 kn)) else -1
def mCount (kinds : Nat → Int32) (kn en : Nat) (n9 w9 s9 : Int32) (made : Bool) (what : Int32) : Int32 := if what = 2 then nI kn else if made then (if what = 0 then nI en else if what = 3 then mMost kinds kn n9 w9 s9 else if what = 1 then 0 else -1) else -1
def mShape (n w t : Int32) : Bool := (decide (n = 1) || (decide (n = 2) || (decide (n = 4) || (decide (n = 8) || decide (n = 16))))) && (!decide (w < 1) && (!decide (4 < w) && (!decide (t < 0) && !decide (8 < t))))
def mBk (vals : Nat → Int64) (wd : Nat → Int32) (kn : Nat) (n9 : Int32) (i : Nat) : Int32 := mIdx n9 (hMix (hashF (fun k => vals (i * 4 + k) &&& mOne (wd k)) 0 0 kn))
theorem if_f {α : Type} {b : Bool} {x y : α} (h : b = false) : (if b then x else y) = y := by rw [h]; rfl
theorem n_k4 {k : Nat} (h : k < 4) : ¬ nI k = 4 := fun z => by
  have h1 : k = 4 := (nI_eq (by omega) (by decide)).mp (show nI k = nI 4 from z)
  omega
theorem m_act {a : Int32} (h : cAct a = true) : ¬ a < 0 ∧ ¬ 7 < a := by
  unfold cAct at h
  rw [Bool.and_eq_true, Bool.not_eq_true', Bool.not_eq_true', decide_eq_false_iff_not, decide_eq_false_iff_not] at h
  exact h
theorem m_sub {p1 p2 : Nat} (h1 : p1 ≤ 64) (h2 : p2 ≤ 64) : (nI p1 - nI p2).toInt = (p1 : Int) - p2 := pk_sub_toInt (by omega) (by omega)
theorem m_more1 {pre pri : Nat → Int32} {i j p1 p2 : Nat} (e1 : pre i = nI p1) (e2 : pre j = nI p2) (h1 : p1 ≤ 64) (h2 : p2 ≤ 64) (c : 0 < pre i - pre j) : eMore pre pri i j = true := by
  rw [e1, e2, Int32.lt_iff_toInt_lt, m_sub h1 h2] at c
  have hlt : p2 < p1 := by simp at c; omega
  unfold eMore
  rw [e1, e2, if_neg (fun z => by have := (nI_eq (by omega) (by omega)).mp z; omega), decide_eq_true (nI_lt hlt (by omega))]
theorem m_more0 {p1 p2 : Nat} (h1 : p1 ≤ 64) (h2 : p2 ≤ 64) : nI p1 - nI p2 = 0 ↔ p1 = p2 := by
  rw [← Int32.toInt_inj, m_sub h1 h2]
  simp
  omega
theorem m_more2 {pre pri : Nat → Int32} {i j p1 p2 : Nat} (e1 : pre i = nI p1) (e2 : pre j = nI p2) (h1 : p1 ≤ 64) (h2 : p2 ≤ 64) (c : ¬ 0 < pre i - pre j) (c2 : ¬ pre i - pre j = 0) : eMore pre pri i j = false := by
  rw [e1, e2, Int32.lt_iff_toInt_lt, m_sub h1 h2] at c
  rw [e1, e2, m_more0 h1 h2] at c2
  have hlt : p1 < p2 := by simp at c; omega
  unfold eMore
  rw [e1, e2, if_neg (fun z => by have := (nI_eq (by omega) (by omega)).mp z; omega), decide_eq_false (nI_nlt (by omega) (by omega))]
theorem m_more3 {pre pri : Nat → Int32} {i j p1 p2 : Nat} (c2 : pre i - pre j = 0) (e1 : pre i = nI p1) (e2 : pre j = nI p2) (h1 : p1 ≤ 64) (h2 : p2 ≤ 64) (c : pri i ≤ pri j) : eMore pre pri i j = false := by
  rw [e1, e2, m_more0 h1 h2] at c2
  unfold eMore
  rw [e1, e2, c2, if_pos rfl, decide_eq_false (Int32.not_lt.mpr c)]
theorem m_more4 {pre pri : Nat → Int32} {i j p1 p2 : Nat} (c2 : pre i - pre j = 0) (e1 : pre i = nI p1) (e2 : pre j = nI p2) (h1 : p1 ≤ 64) (h2 : p2 ≤ 64) (c : ¬ pri i ≤ pri j) : eMore pre pri i j = true := by
  rw [e1, e2, m_more0 h1 h2] at c2
  unfold eMore
  rw [e1, e2, c2, if_pos rfl, decide_eq_true (Int32.not_le.mp c)]
theorem m_w1 {x : Int32} (h1 : ¬ x < 0) (h2 : x ≤ 3) (h3 : ¬ x = 2) (h4 : ¬ x = 0) (h5 : ¬ x = 3) : x = 1 := by
  obtain ⟨j, hj, rfl⟩ := nI_of2 (M := 3) (n := 3) (by decide) h1 h2
  match j, hj with
  | 0, _ => exact absurd rfl h4
  | 1, _ => rfl
  | 2, _ => exact absurd rfl h3
  | 3, _ => exact absurd rfl h5
