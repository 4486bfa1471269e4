/-! 05.words: what the class's reads answer, as functions -/
def anyF (P : Nat → Bool) : Nat → Nat → Bool
  | _, 0 => false
  | i, n + 1 => P i || anyF P (i + 1) n
def allF (P : Nat → Bool) : Nat → Nat → Bool
  | _, 0 => true
  | i, n + 1 => P i && allF P (i + 1) n
def findF (P : Nat → Bool) : Nat → Nat → Int32
  | _, 0 => -1
  | i, n + 1 => if P i then nI i else findF P (i + 1) n
theorem anyF_t {P : Nat → Bool} {i n : Nat} (h : P i = true) : anyF P i (n + 1) = true := by simp [anyF, h]
theorem anyF_f {P : Nat → Bool} {i n : Nat} (h : P i = false) : anyF P i (n + 1) = anyF P (i + 1) n := by simp [anyF, h]
theorem allF_t {P : Nat → Bool} {i n : Nat} (h : P i = true) : allF P i (n + 1) = allF P (i + 1) n := by simp [allF, h]
theorem allF_f {P : Nat → Bool} {i n : Nat} (h : P i = false) : allF P i (n + 1) = false := by simp [allF, h]
theorem findF_t {P : Nat → Bool} {i n : Nat} (h : P i = true) : findF P i (n + 1) = nI i := by simp [findF, h]
theorem findF_f {P : Nat → Bool} {i n : Nat} (h : P i = false) : findF P i (n + 1) = findF P (i + 1) n := by simp [findF, h]
abbrev ush (x : Int64) (y : Int32) : Int64 := (x.toUInt64 >>> (y.toInt64.toUInt64 &&& Int64.toUInt64 63)).toInt64
abbrev iush (x : Int32) (y : Int32) : Int32 := (x.toUInt32 >>> (y.toUInt32 &&& Int32.toUInt32 31)).toInt32
def kHave (kinds : Nat → Int32) (kn : Nat) (kind : Int32) : Bool := anyF (fun k => decide (kinds k = kind)) 0 kn
def kExact (kinds : Nat → Int32) (kn : Nat) : Bool := !kHave kinds kn 1 && !kHave kinds kn 2
def kAllow (kinds : Nat → Int32) (kn : Nat) (kind : Int32) : Bool := if kind = 1 then kExact kinds kn else if kind = 2 then !kHave kinds kn 1 else true
def kTake (kind : Int32) (one mask : Int64) : Bool :=
  if kind = 0 then decide (one &&& (mask ^^^ (-1)) = 0) else if kind = 1 then decide ((one &&& (mask ^^^ (-1))) &&& ((one &&& (mask ^^^ (-1))) + 1) = 0) else true
def hStep (h v : Int64) : Int64 := 31 * h + ((v ^^^ ush v 32) ^^^ ush v 17)
def hashF (f : Nat → Int64) : Int64 → Nat → Nat → Int64
  | h, _, 0 => h
  | h, i, n + 1 => hashF f (hStep h (f i)) (i + 1) n
def hMix (h : Int64) : Int64 := (h ^^^ ush h 20) ^^^ ush h 7
def bIndex (bn : Nat) (h : Int64) : Int32 := if bn = 0 then -1 else (h &&& (nI bn - 1).toInt64).toInt32
def bAbove (held : Nat → Int32) (wy : Int32) : Int32 → Nat → Nat → Int32
  | a, _, 0 => a
  | a, i, n + 1 => bAbove held wy (a + (if 0 < held i - wy then held i - wy else 0)) (i + 1) n
def bOne (bn : Nat) (b : Int32) : Bool := decide (0 ≤ b) && decide (b < nI bn)
def eMore (pre pri : Nat → Int32) (a b : Nat) : Bool := if pre a = pre b then decide (pri b < pri a) else decide (pre b < pre a)
theorem n_nI0 {n : Nat} (h : n < 2147483648) (h0 : nI n = 0) : n = 0 := (nI_eq h (by decide)).mp h0
def bRoom (held : Nat → Int32) (bn : Nat) (wy stt b : Int32) : Bool := bOne bn b && (decide (held b.toNatClampNeg < wy) || decide (bAbove held wy 0 0 bn < stt))
def fillI (v : Int32) : (Nat → Int32) → Nat → Nat → Nat → Int32
  | f, _, 0 => f
  | f, i, n + 1 => fillI v (upd f i v) (i + 1) n
def fillL (v : Int64) : (Nat → Int64) → Nat → Nat → Nat → Int64
  | f, _, 0 => f
  | f, i, n + 1 => fillL v (vp_updL f i v) (i + 1) n
def cpRow (fr t : Nat) : (Nat → Int64) → Nat → Nat → Nat → Int64
  | f, _, 0 => f
  | f, k, n + 1 => cpRow fr t (vp_updL f (t * 4 + k) (f (fr * 4 + k))) (k + 1) n
def dropR : (Nat → Int64) → Nat → Nat → Nat → Int64
  | f, _, 0 => f
  | f, t, n + 1 => dropR (cpRow (t + 1) t f 0 4) (t + 1) n
def dropI : (Nat → Int32) → Nat → Nat → Nat → Int32
  | f, _, 0 => f
  | f, t, n + 1 => dropI (upd f t (f (t + 1))) (t + 1) n
def dropL : (Nat → Int64) → Nat → Nat → Nat → Int64
  | f, _, 0 => f
  | f, t, n + 1 => dropL (vp_updL f t (f (t + 1))) (t + 1) n
def fillB (held : Nat → Int32) (bn : Nat) (b d : Int32) : Nat → Int32 := if bOne bn b then upd held b.toNatClampNeg (held b.toNatClampNeg + d) else held
theorem bOne_of {bn : Nat} {b : Int32} (hbn : bn ≤ 16) (h : bOne bn b = true) : ∃ j : Nat, j < bn ∧ b = nI j := by
  unfold bOne at h
  rw [Bool.and_eq_true, decide_eq_true_eq, decide_eq_true_eq] at h
  obtain ⟨j, hj, rfl⟩ := nI_of (x := b) (Int32.not_lt.mpr h.1)
  exact ⟨j, (nI_ltI hj (by omega)).mp h.2, rfl⟩
abbrev bi1 (x : Int32) : Int32 := x - (iush x 1 &&& 1431655765)
abbrev bi2 (x : Int32) : Int32 := (x &&& 858993459) + (iush x 2 &&& 858993459)
abbrev bi3 (x : Int32) : Int32 := (x + iush x 4) &&& 252645135
abbrev bi4 (x : Int32) : Int32 := x + iush x 8
abbrev bi5 (x : Int32) : Int32 := x + iush x 16
def bc32 (x : Int32) : Int32 := bi5 (bi4 (bi3 (bi2 (bi1 x)))) &&& 63
abbrev bl1 (x : Int64) : Int64 := x - (ush x 1 &&& 6148914691236517205)
abbrev bl2 (x : Int64) : Int64 := (x &&& 3689348814741910323) + (ush x 2 &&& 3689348814741910323)
abbrev bl3 (x : Int64) : Int64 := (x + ush x 4) &&& 1085102592571150095
abbrev bl4 (x : Int64) : Int64 := x + ush x 8
abbrev bl5 (x : Int64) : Int64 := x + ush x 16
abbrev bl6 (x : Int64) : Int64 := x + ush x 32
def bc64 (x : Int64) : Int32 := (bl6 (bl5 (bl4 (bl3 (bl2 (bl1 x)))))).toInt32 &&& 127
theorem n_dec {n : Nat} (h : 0 < n) : nI n - 1 = nI (n - 1) := by
  obtain ⟨k, rfl⟩ : ∃ k, n = k + 1 := ⟨n - 1, by omega⟩
  exact nI_pred k
/-! the class itself -/
def hShape (n w t : Int32) : Bool := !decide (n < 1) && (!decide (16 < n) && (decide (bc32 n = 1) && (!decide (w < 1) && (!decide (4 < w) && (!decide (t < 0) && !decide (8 < t))))))
def lShape (n : Int32) : Bool := !decide (n < 1) && !decide (32 < n)
def cAct (a : Int32) : Bool := !decide (a < 0) && !decide (7 < a)
def cTakeAll (kinds : Nat → Int32) (ones am : Nat → Int64) (kn : Nat) : Bool := allF (fun k => kTake (kinds k) (ones k) (am k &&& ones k)) 0 kn
def cAskP (ones av am vals msks : Nat → Int64) (q k : Nat) : Bool := decide (msks (q * 4 + k) = am k &&& ones k) && decide (vals (q * 4 + k) = av k &&& (am k &&& ones k))
def cAsk (ones av am vals msks : Nat → Int64) (kn q : Nat) : Bool := allF (cAskP ones av am vals msks q) 0 kn
def cFind (ones av am vals msks : Nat → Int64) (kn en : Nat) : Int32 := findF (cAsk ones av am vals msks kn) 0 en
def cFitP (av vals msks : Nat → Int64) (q k : Nat) : Bool := decide (av k &&& msks (q * 4 + k) = vals (q * 4 + k))
def cFit (av vals msks : Nat → Int64) (kn q : Nat) : Bool := allF (cFitP av vals msks q) 0 kn
def cBucket (ones av : Nat → Int64) (kn bn : Nat) (hashed : Bool) : Int32 := if hashed then bIndex bn (hMix (hashF (fun k => av k &&& ones k) 0 0 kn)) else -1
def cRoom (ones av : Nat → Int64) (kn en : Nat) (held : Nat → Int32) (bn : Nat) (wy stt : Int32) (hashed : Bool) (cap : Int32) : Bool := decide (nI en < cap) && (!hashed || bRoom held bn wy stt (cBucket ones av kn bn hashed))
def cCount (kn en : Nat) (held : Nat → Int32) (bn : Nat) (wy : Int32) (made : Bool) (cap what : Int32) : Int32 := if what = 2 then nI kn else if made then (if what = 0 then nI en else if what = 1 then bAbove held wy 0 0 bn else if what = 3 then cap else -1) else -1
def putRow (t : Nat) (g : Nat → Int64) : (Nat → Int64) → Nat → Nat → Nat → Int64
  | f, _, 0 => f
  | f, k, n + 1 => putRow t g (vp_updL f (t * 4 + k) (g k)) (k + 1) n
def pOnes (kinds : Nat → Int32) (g : Nat → Int64) : Int32 → Nat → Nat → Int32
  | p, _, 0 => p
  | p, k, n + 1 => pOnes kinds g (if kinds k = 1 then bc64 (g k) else p) (k + 1) n
theorem pOnes_t {kinds : Nat → Int32} {g : Nat → Int64} {p : Int32} {k n : Nat} (h : kinds k = 1) : pOnes kinds g p k (n + 1) = pOnes kinds g (bc64 (g k)) (k + 1) n := by simp [pOnes, h]
theorem pOnes_f {kinds : Nat → Int32} {g : Nat → Int64} {p : Int32} {k n : Nat} (h : ¬ kinds k = 1) : pOnes kinds g p k (n + 1) = pOnes kinds g p (k + 1) n := by simp [pOnes, h]
theorem if_t {α : Type} {b : Bool} {x y : α} (h : b = true) : (if b then x else y) = x := by rw [h]; rfl
theorem n_ne9 {q : Nat} (h : q < 72) : ¬ nI q = -1 := fun z => absurd (by rw [z]; decide : nI q < 0) (nI_pos (by omega))
