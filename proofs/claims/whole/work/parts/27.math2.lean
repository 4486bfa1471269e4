/-! rows of arrays, loops as functions, counts -/
theorem u_s {f : Nat → Int32} {k : Nat} {x : Int32} : upd f k x k = x := pk_us
theorem u_n {f : Nat → Int32} {k j : Nat} {x : Int32} (h : j ≠ k) : upd f k x j = f j := pk_un h
theorem ul_s {f : Nat → Int64} {k : Nat} {x : Int64} : vp_updL f k x k = x := pk_uLs
theorem ul_n {f : Nat → Int64} {k j : Nat} {x : Int64} (h : j ≠ k) : vp_updL f k x j = f j := pk_uLn h
theorem putRow_out (t : Nat) (g : Nat → Int64) : ∀ (n k : Nat) (f : Nat → Int64) (i : Nat), (∀ j, k ≤ j → j < k + n → i ≠ t * 4 + j) → putRow t g f k n i = f i := by
  intro n
  induction n with
  | zero => intro k f i _; rfl
  | succ n ih =>
    intro k f i h
    show putRow t g (vp_updL f (t * 4 + k) (g k)) (k + 1) n i = f i
    rw [ih (k + 1) _ i (fun j h1 h2 => h j (by omega) (by omega)), ul_n (h k (by omega) (by omega))]
theorem putRow_in (t : Nat) (g : Nat → Int64) : ∀ (n k : Nat) (f : Nat → Int64) (j : Nat), k ≤ j → j < k + n → putRow t g f k n (t * 4 + j) = g j := by
  intro n
  induction n with
  | zero => intro k f j h1 h2; omega
  | succ n ih =>
    intro k f j h1 h2
    show putRow t g (vp_updL f (t * 4 + k) (g k)) (k + 1) n (t * 4 + j) = g j
    by_cases e : j = k
    · rw [putRow_out t g n (k + 1) _ _ (fun j2 h3 h4 => by omega), e, ul_s]
    · exact ih (k + 1) _ j (by omega) (by omega)
theorem putRow_ne {t : Nat} {g f : Nat → Int64} {kn e j : Nat} (hk : kn ≤ 4) (hj : j < 4) (he : e ≠ t) : putRow t g f 0 kn (e * 4 + j) = f (e * 4 + j) := putRow_out t g kn 0 f _ (fun j2 _ h => by omega)
theorem cpRow_at {fr t : Nat} (hne : fr ≠ t) : ∀ (n k : Nat) (f : Nat → Int64) (e j : Nat), k + n = 4 → j < 4 → cpRow fr t f k n (e * 4 + j) = if e = t ∧ k ≤ j then f (fr * 4 + j) else f (e * 4 + j) := by
  intro n
  induction n with
  | zero =>
    intro k f e j h hj
    rw [if_neg (by omega)]
    rfl
  | succ n ih =>
    intro k f e j h hj
    show cpRow fr t (vp_updL f (t * 4 + k) (f (fr * 4 + k))) (k + 1) n (e * 4 + j) = _
    rw [ih (k + 1) _ e j (by omega) hj]
    by_cases c : e = t ∧ k + 1 ≤ j
    · rw [if_pos c, if_pos (by omega), ul_n (by omega)]
    · rw [if_neg c]
      by_cases c2 : e = t ∧ k ≤ j
      · rw [if_pos c2, show e * 4 + j = t * 4 + k by omega, ul_s, show k = j by omega]
      · rw [if_neg c2, ul_n (by omega)]
theorem dropR_at : ∀ (n t : Nat) (f : Nat → Int64) (e j : Nat), j < 4 → dropR f t n (e * 4 + j) = if t ≤ e ∧ e < t + n then f ((e + 1) * 4 + j) else f (e * 4 + j) := by
  intro n
  induction n with
  | zero => intro t f e j _; rw [if_neg (by omega)]; rfl
  | succ n ih =>
    intro t f e j hj
    show dropR (cpRow (t + 1) t f 0 4) (t + 1) n (e * 4 + j) = _
    rw [ih (t + 1) _ e j hj]
    by_cases c : t + 1 ≤ e ∧ e < t + 1 + n
    · rw [if_pos c, if_pos (by omega), cpRow_at (by omega) 4 0 f (e + 1) j rfl hj, if_neg (by omega)]
    · rw [if_neg c, cpRow_at (by omega) 4 0 f e j rfl hj]
      by_cases c2 : e = t
      · rw [if_pos (by omega), if_pos (by omega), c2]
      · rw [if_neg (by omega), if_neg (by omega)]
theorem dropI_at : ∀ (n t : Nat) (f : Nat → Int32) (e : Nat), dropI f t n e = if t ≤ e ∧ e < t + n then f (e + 1) else f e := by
  intro n
  induction n with
  | zero => intro t f e; rw [if_neg (by omega)]; rfl
  | succ n ih =>
    intro t f e
    show dropI (upd f t (f (t + 1))) (t + 1) n e = _
    rw [ih (t + 1) _ e]
    by_cases c : t + 1 ≤ e ∧ e < t + 1 + n
    · rw [if_pos c, if_pos (by omega), u_n (by omega)]
    · rw [if_neg c]
      by_cases c2 : e = t
      · rw [if_pos (by omega), c2, u_s]
      · rw [if_neg (by omega), u_n c2]
theorem dropL_at : ∀ (n t : Nat) (f : Nat → Int64) (e : Nat), dropL f t n e = if t ≤ e ∧ e < t + n then f (e + 1) else f e := by
  intro n
  induction n with
  | zero => intro t f e; rw [if_neg (by omega)]; rfl
  | succ n ih =>
    intro t f e
    show dropL (vp_updL f t (f (t + 1))) (t + 1) n e = _
    rw [ih (t + 1) _ e]
    by_cases c : t + 1 ≤ e ∧ e < t + 1 + n
    · rw [if_pos c, if_pos (by omega), ul_n (by omega)]
    · rw [if_neg c]
      by_cases c2 : e = t
      · rw [if_pos (by omega), c2, ul_s]
      · rw [if_neg (by omega), ul_n c2]
/-- the entry that stands at e behind the removal of q -/
def sk (q e : Nat) : Nat := if q ≤ e then e + 1 else e
theorem dropR_sk {f : Nat → Int64} {q en e j : Nat} (he : e < en - 1) (hj : j < 4) : dropR f q (en - 1 - q) (e * 4 + j) = f (sk q e * 4 + j) := by
  rw [dropR_at _ _ _ _ _ hj]
  unfold sk
  by_cases c : q ≤ e
  · rw [if_pos (by omega), if_pos c]
  · rw [if_neg (by omega), if_neg c]
theorem dropI_sk {f : Nat → Int32} {q en e : Nat} (he : e < en - 1) : dropI f q (en - 1 - q) e = f (sk q e) := by
  rw [dropI_at]
  unfold sk
  by_cases c : q ≤ e
  · rw [if_pos (by omega), if_pos c]
  · rw [if_neg (by omega), if_neg c]
theorem dropL_sk {f : Nat → Int64} {q en e : Nat} (he : e < en - 1) : dropL f q (en - 1 - q) e = f (sk q e) := by
  rw [dropL_at]
  unfold sk
  by_cases c : q ≤ e
  · rw [if_pos (by omega), if_pos c]
  · rw [if_neg (by omega), if_neg c]
theorem sk_lt {q en e : Nat} (hq : q < en) (he : e < en - 1) : sk q e < en := by unfold sk; split <;> omega
theorem fillI_at (v : Int32) : ∀ (n i : Nat) (f : Nat → Int32) (j : Nat), fillI v f i n j = if i ≤ j ∧ j < i + n then v else f j := by
  intro n
  induction n with
  | zero => intro i f j; rw [if_neg (by omega)]; rfl
  | succ n ih =>
    intro i f j
    show fillI v (upd f i v) (i + 1) n j = _
    rw [ih (i + 1) _ j]
    by_cases c : i + 1 ≤ j ∧ j < i + 1 + n
    · rw [if_pos c, if_pos (by omega)]
    · rw [if_neg c]
      by_cases c2 : j = i
      · rw [if_pos (by omega), c2, u_s]
      · rw [if_neg (by omega), u_n c2]
theorem anyF_iff {P : Nat → Bool} : ∀ (n i : Nat), anyF P i n = true ↔ ∃ k, i ≤ k ∧ k < i + n ∧ P k = true := by
  intro n
  induction n with
  | zero => intro i; exact ⟨fun h => (nomatch h), fun ⟨k, h1, h2, _⟩ => by omega⟩
  | succ n ih =>
    intro i
    show (P i || anyF P (i + 1) n) = true ↔ _
    rw [Bool.or_eq_true, ih (i + 1)]
    constructor
    · rintro (h | ⟨k, h1, h2, h3⟩)
      · exact ⟨i, Nat.le_refl i, by omega, h⟩
      · exact ⟨k, by omega, by omega, h3⟩
    · rintro ⟨k, h1, h2, h3⟩
      by_cases e : k = i
      · exact Or.inl (e ▸ h3)
      · exact Or.inr ⟨k, by omega, by omega, h3⟩
theorem allF_iff {P : Nat → Bool} : ∀ (n i : Nat), allF P i n = true ↔ ∀ k, i ≤ k → k < i + n → P k = true := by
  intro n
  induction n with
  | zero => intro i; exact ⟨fun _ k h1 h2 => by omega, fun _ => rfl⟩
  | succ n ih =>
    intro i
    show (P i && allF P (i + 1) n) = true ↔ _
    rw [Bool.and_eq_true, ih (i + 1)]
    constructor
    · rintro ⟨h, h2⟩ k h3 h4
      by_cases e : k = i
      · exact e ▸ h
      · exact h2 k (by omega) (by omega)
    · intro h
      exact ⟨h i (Nat.le_refl i) (by omega), fun k h1 h2 => h k (by omega) (by omega)⟩
theorem allF_congr {P Q : Nat → Bool} : ∀ (n i : Nat), (∀ k, i ≤ k → k < i + n → P k = Q k) → allF P i n = allF Q i n := by
  intro n
  induction n with
  | zero => intro i _; rfl
  | succ n ih =>
    intro i h
    show (P i && allF P (i + 1) n) = (Q i && allF Q (i + 1) n)
    rw [h i (Nat.le_refl i) (by omega), ih (i + 1) (fun k h1 h2 => h k (by omega) (by omega))]
theorem findF_congr {P Q : Nat → Bool} : ∀ (n i : Nat), (∀ k, i ≤ k → k < i + n → P k = Q k) → findF P i n = findF Q i n := by
  intro n
  induction n with
  | zero => intro i _; rfl
  | succ n ih =>
    intro i h
    show (if P i then nI i else findF P (i + 1) n) = (if Q i then nI i else findF Q (i + 1) n)
    rw [h i (Nat.le_refl i) (by omega), ih (i + 1) (fun k h1 h2 => h k (by omega) (by omega))]
theorem findF_cases {P : Nat → Bool} : ∀ (n i : Nat), (findF P i n = -1 ∧ ∀ q, i ≤ q → q < i + n → P q = false) ∨ ∃ q, i ≤ q ∧ q < i + n ∧ findF P i n = nI q ∧ P q = true := by
  intro n
  induction n with
  | zero => intro i; exact Or.inl ⟨rfl, fun q h1 h2 => by omega⟩
  | succ n ih =>
    intro i
    cases hp : P i with
    | true => exact Or.inr ⟨i, Nat.le_refl i, by omega, findF_t hp, hp⟩
    | false =>
      rw [findF_f hp]
      rcases ih (i + 1) with ⟨h1, h2⟩ | ⟨q, h1, h2, h3, h4⟩
      · refine Or.inl ⟨h1, fun q h3 h4 => ?_⟩
        by_cases e : q = i
        · exact e ▸ hp
        · exact h2 q (by omega) (by omega)
      · exact Or.inr ⟨q, by omega, by omega, h3, h4⟩
theorem hashF_congr {f g : Nat → Int64} : ∀ (n i : Nat) (h : Int64), (∀ k, i ≤ k → k < i + n → f k = g k) → hashF f h i n = hashF g h i n := by
  intro n
  induction n with
  | zero => intro i h _; rfl
  | succ n ih =>
    intro i h hh
    show hashF f (hStep h (f i)) (i + 1) n = hashF g (hStep h (g i)) (i + 1) n
    rw [hh i (Nat.le_refl i) (by omega)]
    exact ih (i + 1) _ (fun k h1 h2 => hh k (by omega) (by omega))
theorem pFst_congr {kinds : Nat → Int32} {f g : Nat → Int64} : ∀ (n i : Nat), (∀ k, i ≤ k → k < i + n → f k = g k) → pFst kinds f i n = pFst kinds g i n := by
  intro n
  induction n with
  | zero => intro i _; rfl
  | succ n ih =>
    intro i hh
    show (if kinds i = 1 then onesN (f i) else pFst kinds f (i + 1) n) = (if kinds i = 1 then onesN (g i) else pFst kinds g (i + 1) n)
    rw [hh i (Nat.le_refl i) (by omega), ih (i + 1) (fun k h1 h2 => hh k (by omega) (by omega))]
theorem cBest_congr {av vals msks vals2 msks2 : Nat → Int64} {kn : Nat} {pre pri pre2 pri2 : Nat → Int32} {en : Nat} (hf : ∀ q, q < en → cFit av vals2 msks2 kn q = cFit av vals msks kn q) (hp : ∀ q, q < en → pre2 q = pre q ∧ pri2 q = pri q) :
    ∀ (n i : Nat) (b : Option Nat), i + n = en → (∀ j, b = some j → j < en) → cBest av vals2 msks2 kn pre2 pri2 b i n = cBest av vals msks kn pre pri b i n ∧ ∀ j, cBest av vals msks kn pre pri b i n = some j → j < en := by
  intro n
  induction n with
  | zero => intro i b _ h; exact ⟨rfl, h⟩
  | succ n ih =>
    intro i b hi hb
    have hfi := hf i (by omega)
    cases hc : cFit av vals msks kn i with
    | false =>
      rw [cBest_n hc, cBest_n (hfi.trans hc)]
      exact ih (i + 1) b (by omega) hb
    | true =>
      cases b with
      | none =>
        rw [cBest_0 hc, cBest_0 (hfi.trans hc)]
        exact ih (i + 1) (some i) (by omega) (fun j h => by cases h; omega)
      | some j =>
        have hj := hb j rfl
        have hm : eMore pre2 pri2 i j = eMore pre pri i j := by
          unfold eMore
          rw [(hp i (by omega)).1, (hp i (by omega)).2, (hp j hj).1, (hp j hj).2]
        cases hq : eMore pre pri i j with
        | true =>
          rw [cBest_y hc hq, cBest_y (hfi.trans hc) (hm.trans hq)]
          exact ih (i + 1) (some i) (by omega) (fun j h => by cases h; omega)
        | false =>
          rw [cBest_k hq, cBest_k (hm.trans hq)]
          exact ih (i + 1) (some j) (by omega) hb
theorem pOnes_none {kinds : Nat → Int32} {g : Nat → Int64} : ∀ (n k : Nat) (p : Int32), (∀ j, k ≤ j → j < k + n → ¬ kinds j = 1) → pOnes kinds g p k n = p := by
  intro n
  induction n with
  | zero => intro k p _; rfl
  | succ n ih =>
    intro k p h
    rw [pOnes_f (h k (Nat.le_refl k) (by omega))]
    exact ih (k + 1) p (fun j h1 h2 => h j (by omega) (by omega))
theorem pOnes_pFst {kinds : Nat → Int32} {g : Nat → Int64} {kn : Nat} (hu : ∀ i j, i < kn → j < kn → kinds i = 1 → kinds j = 1 → i = j) (hg : ∀ k, k < kn → kinds k = 1 → bc64 (g k) = onesN (g k)) :
    ∀ (n k : Nat), k + n = kn → pOnes kinds g 0 k n = pFst kinds g k n := by
  intro n
  induction n with
  | zero => intro k _; rfl
  | succ n ih =>
    intro k hk
    by_cases c : kinds k = 1
    · rw [pOnes_t c, pOnes_none n (k + 1) _ (fun j h1 h2 h3 => absurd (hu k j (by omega) (by omega) c h3) (by omega)), show pFst kinds g k (n + 1) = onesN (g k) from if_pos c]
      exact hg k (by omega) c
    · rw [pOnes_f c, show pFst kinds g k (n + 1) = pFst kinds g (k + 1) n from if_neg c]
      exact ih (k + 1) (by omega)
/-- how many of bk i, bk (i + 1), .. (n of them) are b -/
def ct (bk : Nat → Nat) : Nat → Nat → Nat → Nat
  | _, 0, _ => 0
  | i, n + 1, b => (if bk i = b then 1 else 0) + ct bk (i + 1) n b
theorem ct_le (bk : Nat → Nat) : ∀ (n i b : Nat), ct bk i n b ≤ n := by
  intro n
  induction n with
  | zero => intro i b; exact Nat.le_refl 0
  | succ n ih =>
    intro i b
    have h := ih (i + 1) b
    show (if bk i = b then 1 else 0) + ct bk (i + 1) n b ≤ n + 1
    split <;> omega
theorem ct_add (bk : Nat → Nat) (b : Nat) : ∀ (n m i : Nat), ct bk i (n + m) b = ct bk i n b + ct bk (i + n) m b := by
  intro n
  induction n with
  | zero => intro m i; rw [Nat.zero_add, Nat.add_zero]; exact (Nat.zero_add _).symm
  | succ n ih =>
    intro m i
    rw [show n + 1 + m = (n + m) + 1 by omega]
    show (if bk i = b then 1 else 0) + ct bk (i + 1) (n + m) b = (if bk i = b then 1 else 0) + ct bk (i + 1) n b + ct bk (i + (n + 1)) m b
    rw [ih m (i + 1), show i + 1 + n = i + (n + 1) by omega]
    omega
theorem ct_congr {bk bk2 : Nat → Nat} (b : Nat) : ∀ (n i : Nat), (∀ e, i ≤ e → e < i + n → bk2 e = bk e) → ct bk2 i n b = ct bk i n b := by
  intro n
  induction n with
  | zero => intro i _; rfl
  | succ n ih =>
    intro i h
    show (if bk2 i = b then 1 else 0) + ct bk2 (i + 1) n b = (if bk i = b then 1 else 0) + ct bk (i + 1) n b
    rw [h i (Nat.le_refl i) (by omega), ih (i + 1) (fun e h1 h2 => h e (by omega) (by omega))]
theorem ct_shift (bk : Nat → Nat) (b : Nat) : ∀ (n i : Nat), ct (fun e => bk (e + 1)) i n b = ct bk (i + 1) n b := by
  intro n
  induction n with
  | zero => intro i; rfl
  | succ n ih =>
    intro i
    show (if bk (i + 1) = b then 1 else 0) + ct (fun e => bk (e + 1)) (i + 1) n b = (if bk (i + 1) = b then 1 else 0) + ct bk (i + 1 + 1) n b
    rw [ih (i + 1)]
theorem ct_last (bk : Nat → Nat) (n b : Nat) : ct bk 0 (n + 1) b = ct bk 0 n b + (if bk n = b then 1 else 0) := by
  rw [ct_add bk b n 1 0, Nat.zero_add]
  rfl
theorem ct_drop {bk : Nat → Nat} {en q : Nat} (hq : q < en) (b : Nat) : ct (fun e => bk (sk q e)) 0 (en - 1) b + (if bk q = b then 1 else 0) = ct bk 0 en b := by
  obtain ⟨r, rfl⟩ : ∃ r, en = q + (1 + r) := ⟨en - q - 1, by omega⟩
  rw [show q + (1 + r) - 1 = q + r by omega, ct_add _ b q r 0, ct_add _ b q (1 + r) 0, ct_add _ b 1 r (0 + q), ct_congr (bk := bk) b q 0 (fun e _ h => by unfold sk; rw [if_neg (by omega)]),
    ct_congr (bk := fun e => bk (e + 1)) (bk2 := fun e => bk (sk q e)) b r (0 + q) (fun e h _ => by unfold sk; rw [if_pos (by omega)]), ct_shift]
  show _ = ct bk 0 q b + ((if bk (0 + q) = b then 1 else 0) + 0 + ct bk (0 + q + 1) r b)
  rw [Nat.zero_add]
  omega
theorem ct_zero {bk : Nat → Nat} {bn b : Nat} (hb : bn ≤ b) : ∀ (n i : Nat), (∀ e, i ≤ e → e < i + n → bk e < bn) → ct bk i n b = 0 := by
  intro n
  induction n with
  | zero => intro i _; rfl
  | succ n ih =>
    intro i h
    show (if bk i = b then 1 else 0) + ct bk (i + 1) n b = 0
    have h1 := h i (Nat.le_refl i) (by omega)
    rw [if_neg (by omega), ih (i + 1) (fun e h1 h2 => h e (by omega) (by omega))]
/-- the sum of what is above w -/
def SF (cn : Nat → Nat) (w : Nat) : Nat → Nat → Nat
  | _, 0 => 0
  | i, n + 1 => (cn i - w) + SF cn w (i + 1) n
theorem SF_add (cn : Nat → Nat) (w : Nat) : ∀ (n m i : Nat), SF cn w i (n + m) = SF cn w i n + SF cn w (i + n) m := by
  intro n
  induction n with
  | zero => intro m i; rw [Nat.zero_add, Nat.add_zero]; exact (Nat.zero_add _).symm
  | succ n ih =>
    intro m i
    rw [show n + 1 + m = (n + m) + 1 by omega]
    show (cn i - w) + SF cn w (i + 1) (n + m) = (cn i - w) + SF cn w (i + 1) n + SF cn w (i + (n + 1)) m
    rw [ih m (i + 1), show i + 1 + n = i + (n + 1) by omega]
    omega
theorem SF_congr {cn cn2 : Nat → Nat} (w : Nat) : ∀ (n i : Nat), (∀ b, i ≤ b → b < i + n → cn2 b = cn b) → SF cn2 w i n = SF cn w i n := by
  intro n
  induction n with
  | zero => intro i _; rfl
  | succ n ih =>
    intro i h
    show (cn2 i - w) + SF cn2 w (i + 1) n = (cn i - w) + SF cn w (i + 1) n
    rw [h i (Nat.le_refl i) (by omega), ih (i + 1) (fun e h1 h2 => h e (by omega) (by omega))]
theorem SF_zero {cn : Nat → Nat} {w : Nat} : ∀ (n i : Nat), (∀ b, i ≤ b → b < i + n → cn b = 0) → SF cn w i n = 0 := by
  intro n
  induction n with
  | zero => intro i _; rfl
  | succ n ih =>
    intro i h
    show (cn i - w) + SF cn w (i + 1) n = 0
    rw [h i (Nat.le_refl i) (by omega), ih (i + 1) (fun e h1 h2 => h e (by omega) (by omega))]
    omega
def cUp (cn : Nat → Nat) (j : Nat) : Nat → Nat := fun b => cn b + (if j = b then 1 else 0)
theorem SF_up (cn : Nat → Nat) (w j : Nat) : ∀ (n i : Nat), SF (cUp cn j) w i n = SF cn w i n + (if i ≤ j ∧ j < i + n ∧ w ≤ cn j then 1 else 0) := by
  intro n
  induction n with
  | zero => intro i; rw [if_neg (by omega)]; rfl
  | succ n ih =>
    intro i
    show (cUp cn j i - w) + SF (cUp cn j) w (i + 1) n = (cn i - w) + SF cn w (i + 1) n + _
    rw [ih (i + 1)]
    unfold cUp
    by_cases e : j = i
    · subst e
      rw [if_pos rfl, if_neg (by omega)]
      by_cases c : w ≤ cn j
      · rw [if_pos (by omega)]
        omega
      · rw [if_neg (by omega)]
        omega
    · rw [if_neg e]
      by_cases c : i + 1 ≤ j ∧ j < i + 1 + n ∧ w ≤ cn j
      · rw [if_pos c, if_pos (by omega)]
        omega
      · rw [if_neg c, if_neg (by omega)]
        omega
theorem SF_le (cn : Nat → Nat) (w : Nat) : ∀ (n i m : Nat), (∀ b, cn b ≤ m) → SF cn w i n ≤ n * m := by
  intro n
  induction n with
  | zero => intro i m _; exact Nat.zero_le _
  | succ n ih =>
    intro i m h
    have h1 := ih (i + 1) m h
    have h2 := h i
    show (cn i - w) + SF cn w (i + 1) n ≤ (n + 1) * m
    rw [Nat.succ_mul]
    omega
/-- the reference's count of those above -/
theorem abF_eq {bk : Nat → Nat} {w : Nat} (hw : w ≤ 4) : ∀ (n i : Nat) (f : Nat → Int32) (cn : Nat → Nat), (∀ e, i ≤ e → e < i + n → bk e < 16) → i + n ≤ 73 → (∀ b, cn b ≤ i) → (∀ b, b < 16 → f b = nI (cn b)) →
    (abF bk (nI w) f (nI (SF cn w 0 16)) i n).2 = nI (SF (fun b => cn b + ct bk i n b) w 0 16) := by
  intro n
  induction n with
  | zero =>
    intro i f cn _ _ _ _
    show nI (SF cn w 0 16) = _
    rw [SF_congr (cn := cn) (cn2 := fun b => cn b + ct bk i 0 b) w 16 0 (fun b _ _ => rfl)]
  | succ n ih =>
    intro i f cn hb hi hc hf
    have hbi := hb i (Nat.le_refl i) (by omega)
    have hcj := hc (bk i)
    have hS : SF cn w 0 16 ≤ 16 * i := SF_le cn w 16 0 i hc
    have hfi := hf (bk i) hbi
    have h1 : ∀ b, cUp cn (bk i) b ≤ i + 1 := fun b => by have := hc b; unfold cUp; split <;> omega
    have h2 : ∀ b, b < 16 → upd f (bk i) (f (bk i) + 1) b = nI (cUp cn (bk i) b) := fun b hb2 => by
      unfold cUp
      by_cases e : b = bk i
      · rw [e, u_s, if_pos rfl, hfi, nI_1]
      · rw [u_n e, if_neg (fun z => e z.symm), hf b hb2]; rfl
    have h3 : (fun b => cUp cn (bk i) b + ct bk (i + 1) n b) = (fun b => cn b + ct bk i (n + 1) b) := by
      funext b
      show cn b + (if bk i = b then 1 else 0) + ct bk (i + 1) n b = cn b + ((if bk i = b then 1 else 0) + ct bk (i + 1) n b)
      omega
    have key := ih (i + 1) (upd f (bk i) (f (bk i) + 1)) (cUp cn (bk i)) (fun e h1 h2 => hb e (by omega) (by omega)) (by omega) h1 h2
    rw [h3, SF_up] at key
    by_cases c : w ≤ cn (bk i)
    · rw [if_pos (by omega)] at key
      rw [abF_t (by rw [hfi, nI_1, nI_leI (by omega) (by omega)]; omega), nI_1]
      exact key
    · rw [if_neg (by omega)] at key
      rw [abF_f (by rw [hfi, nI_1, nI_leI (by omega) (by omega)]; omega)]
      exact key
theorem abF_all {bk : Nat → Nat} {w n : Nat} (inb : Nat → Int32) (hw : w ≤ 4) (hn : n ≤ 73) (hb : ∀ e, e < n → bk e < 16) : (abF bk (nI w) (fillI 0 inb 0 16) 0 0 n).2 = nI (SF (ct bk 0 n) w 0 16) := by
  have h := abF_eq (bk := bk) hw n 0 (fillI 0 inb 0 16) (fun _ => 0) (fun e _ h => hb e (by omega)) (by omega) (fun _ => Nat.le_refl 0) (fun b hb2 => by rw [fillI_at, if_pos (by omega)]; rfl)
  rw [SF_zero (cn := fun _ => 0) 16 0 (fun _ _ _ => rfl)] at h
  refine Eq.trans h ?_
  congr 1
  exact SF_congr w 16 0 (fun b _ _ => Nat.zero_add _)
/-- the class's count of those above -/
theorem bAbove_eq {held : Nat → Int32} {cn : Nat → Nat} {w : Nat} (hw : w ≤ 4) (hc : ∀ b, cn b ≤ 72) : ∀ (n i a : Nat), i + n ≤ 16 → (∀ b, b < 16 → held b = nI (cn b)) → bAbove held (nI w) (nI a) i n = nI (a + SF cn w i n) := by
  intro n
  induction n with
  | zero => intro i a _ _; rfl
  | succ n ih =>
    intro i a hi hf
    show bAbove held (nI w) (nI a + (if 0 < held i - nI w then held i - nI w else 0)) (i + 1) n = nI (a + ((cn i - w) + SF cn w (i + 1) n))
    have hci := hc i
    rw [hf i (by omega)]
    have e : nI a + (if 0 < nI (cn i) - nI w then nI (cn i) - nI w else 0) = nI (a + (cn i - w)) := by
      by_cases c : w < cn i
      · rw [pk_sub (by omega), if_pos (show (0 : Int32) < nI (cn i - w) from (nI_ltI (a := 0) (b := cn i - w) (by decide) (by omega)).mpr (by omega)), nI_add]
      · have hn : ¬ 0 < nI (cn i) - nI w := by
          rw [Int32.lt_iff_toInt_lt, pk_sub_toInt (by omega) (by omega)]
          simp
          omega
        rw [if_neg hn, show cn i - w = 0 by omega]
        exact Int32.add_zero _
    rw [e, ih (i + 1) (a + (cn i - w)) (by omega) hf]
    congr 1
    omega
