/-! ===== lN n to 2^64: shifts, and, or, masks, one bit ===== -/
theorem wb_tb (n : Nat) : (lN n).toBitVec = BitVec.ofNat 64 n := rfl
theorem wb_inj {a b : Int64} (h : a.toBitVec = b.toBitVec) : a = b := Int64.toBitVec_inj.mp h
theorem wb_tn {n : Nat} (h : n < 2 ^ 64) : (lN n).toBitVec.toNat = n := by rw [wb_tb, BitVec.toNat_ofNat, Nat.mod_eq_of_lt h]
theorem wb_of (x : Int64) : ∃ n, n < 2 ^ 64 ∧ x = lN n := ⟨x.toBitVec.toNat, x.toBitVec.isLt, wb_inj (by rw [wb_tb]; simp)⟩
theorem wb_of32 (x : Int32) : ∃ n, n < 2 ^ 32 ∧ x = nI n := ⟨x.toBitVec.toNat, x.toBitVec.isLt, Int32.toBitVec_inj.mp (by show _ = BitVec.ofNat 32 _; simp)⟩
theorem wb_c : ∀ k, k < 64 → ((nI k).toInt64 &&& 63) = lN k := by decide +kernel
theorem wb_cu : ∀ k, k < 64 → ((nI k).toInt64.toUInt64 &&& Int64.toUInt64 63) = UInt64.ofNat k := by decide +kernel
theorem wb_sm : ∀ k, k < 64 → (BitVec.ofNat 64 k).smod 64 = BitVec.ofNat 64 k := by decide +kernel
theorem wb_pw {a b : Nat} (h : a ≤ b) : 2 ^ b = 2 ^ a * 2 ^ (b - a) := by rw [← Nat.pow_add]; congr 1; omega
theorem wb_lt2 {a b : Nat} (h : a < b) : 2 ^ a < 2 ^ b := Nat.pow_lt_pow_right (by decide) h
theorem wb_mod (n : Nat) : lN n = lN (n % 2 ^ 64) := wb_inj (by rw [wb_tb, wb_tb]; apply BitVec.eq_of_toNat_eq; rw [BitVec.toNat_ofNat, BitVec.toNat_ofNat, Nat.mod_mod])
theorem wb_shr {n k : Nat} (hn : n < 2 ^ 64) (hk : k < 64) : ((lN n).toUInt64 >>> ((nI k).toInt64.toUInt64 &&& Int64.toUInt64 63)).toInt64 = lN (n / 2 ^ k) := by
  rw [wb_cu k hk]
  apply wb_inj
  apply BitVec.eq_of_toNat_eq
  show ((lN n).toUInt64 >>> UInt64.ofNat k).toNat = (BitVec.ofNat 64 _).toNat
  have h1 : (UInt64.ofNat k).toNat = k := by
    show (BitVec.ofNat 64 k).toNat = k
    rw [BitVec.toNat_ofNat, Nat.mod_eq_of_lt (by omega)]
  have h2 : (lN n).toUInt64.toNat = n := wb_tn hn
  rw [UInt64.toNat_shiftRight, h1, h2, Nat.mod_eq_of_lt hk, Nat.shiftRight_eq_div_pow, BitVec.toNat_ofNat, Nat.mod_eq_of_lt (Nat.lt_of_le_of_lt (Nat.div_le_self _ _) hn)]
theorem wb_shl (n : Nat) {k : Nat} (hk : k < 64) : lN n <<< ((nI k).toInt64 &&& 63) = lN (n * 2 ^ k) := by
  rw [wb_c k hk]
  apply wb_inj
  rw [Int64.toBitVec_shiftLeft, wb_tb, wb_tb, wb_tb, wb_sm k hk]
  apply BitVec.eq_of_toNat_eq
  rw [BitVec.shiftLeft_eq', BitVec.toNat_shiftLeft, BitVec.toNat_ofNat, BitVec.toNat_ofNat, BitVec.toNat_ofNat, Nat.mod_eq_of_lt (show k < 2 ^ 64 by omega), Nat.shiftLeft_eq, Nat.mul_mod, Nat.mod_mod, ← Nat.mul_mod]
theorem wb_and {a b : Nat} (ha : a < 2 ^ 64) (hb : b < 2 ^ 64) : lN a &&& lN b = lN (a &&& b) := by
  apply wb_inj
  rw [Int64.toBitVec_and, wb_tb, wb_tb, wb_tb]
  apply BitVec.eq_of_toNat_eq
  rw [BitVec.toNat_and, BitVec.toNat_ofNat, BitVec.toNat_ofNat, BitVec.toNat_ofNat, Nat.mod_eq_of_lt ha, Nat.mod_eq_of_lt hb, Nat.mod_eq_of_lt (Nat.and_lt_two_pow _ hb)]
theorem wb_or {a b : Nat} (ha : a < 2 ^ 64) (hb : b < 2 ^ 64) : lN a ||| lN b = lN (a ||| b) := by
  apply wb_inj
  rw [Int64.toBitVec_or, wb_tb, wb_tb, wb_tb]
  apply BitVec.eq_of_toNat_eq
  rw [BitVec.toNat_or, BitVec.toNat_ofNat, BitVec.toNat_ofNat, BitVec.toNat_ofNat, Nat.mod_eq_of_lt ha, Nat.mod_eq_of_lt hb, Nat.mod_eq_of_lt (Nat.or_lt_two_pow ha hb)]
theorem wb_mask {n k : Nat} (hn : n < 2 ^ 64) (hk : k < 64) : lN n &&& lN (2 ^ k - 1) = lN (n % 2 ^ k) := by
  rw [wb_and hn (by have := wb_lt2 hk; omega), Nat.and_two_pow_sub_one_eq_mod]
theorem wb_a1 {n : Nat} (hn : n < 2 ^ 64) : lN n &&& 1 = lN (n % 2) := wb_mask (k := 1) hn (by decide)
theorem wb_bit {n k : Nat} (hn : n < 2 ^ 64) (hk : k < 64) : ((lN n).toUInt64 >>> ((nI k).toInt64.toUInt64 &&& Int64.toUInt64 63)).toInt64 &&& 1 = lN (n / 2 ^ k % 2) := by
  rw [wb_shr hn hk, wb_a1 (Nat.lt_of_le_of_lt (Nat.div_le_self _ _) hn)]
/-! numbers: the bucket's place, ones of a prefix mask, shapes -/
theorem x_one : ∀ j, j < 65 → mOne (nI j) = lN (2 ^ j - 1) := by decide +kernel
theorem x_ush : ∀ j, j < 65 → 1 ≤ j → ush (-1) (64 - nI j) = mOne (nI j) := by decide +kernel
theorem x_idx {bn : Nat} (hb : bn = 1 ∨ bn = 2 ∨ bn = 4 ∨ bn = 8 ∨ bn = 16) (h : Int64) : ∃ j, j < bn ∧ mIdx (nI bn) h = nI j := by
  obtain ⟨n, hn, rfl⟩ := wb_of h
  unfold mIdx
  rcases hb with rfl | rfl | rfl | rfl | rfl
  · refine ⟨n % 2 ^ 0, by omega, ?_⟩
    rw [show (nI 1 - 1).toInt64 = lN (2 ^ 0 - 1) by decide, wb_mask hn (by decide), lN_i]
  · refine ⟨n % 2 ^ 1, by omega, ?_⟩
    rw [show (nI 2 - 1).toInt64 = lN (2 ^ 1 - 1) by decide, wb_mask hn (by decide), lN_i]
  · refine ⟨n % 2 ^ 2, by omega, ?_⟩
    rw [show (nI 4 - 1).toInt64 = lN (2 ^ 2 - 1) by decide, wb_mask hn (by decide), lN_i]
  · refine ⟨n % 2 ^ 3, by omega, ?_⟩
    rw [show (nI 8 - 1).toInt64 = lN (2 ^ 3 - 1) by decide, wb_mask hn (by decide), lN_i]
  · refine ⟨n % 2 ^ 4, by omega, ?_⟩
    rw [show (nI 16 - 1).toInt64 = lN (2 ^ 4 - 1) by decide, wb_mask hn (by decide), lN_i]
theorem x_pow : ∀ (v : Nat), v &&& (v + 1) = 0 → ∃ t, v + 1 = 2 ^ t := by
  intro v
  induction v using Nat.strongRecOn with
  | _ v ih =>
    intro h
    by_cases h0 : v = 0
    · exact ⟨0, by rw [h0]⟩
    · have h2 : (v / 2) &&& ((v + 1) / 2) = 0 := by rw [← Nat.and_div_two, h]
      rcases Nat.mod_two_eq_zero_or_one v with e | e
      · have e2 : (v + 1) / 2 = v / 2 := by omega
        rw [e2, Nat.and_self] at h2
        omega
      · have e2 : (v + 1) / 2 = v / 2 + 1 := by omega
        rw [e2] at h2
        obtain ⟨t, ht⟩ := ih (v / 2) (by omega) h2
        exact ⟨t + 1, by rw [Nat.pow_succ]; omega⟩
theorem x_bc : ∀ w, w < 65 → ∀ t, t < 65 → t ≤ w → bc64 (lN (2 ^ w - 2 ^ t)) = nI (w - t) := by decide +kernel
theorem x_bit {w t b : Nat} (h : t ≤ w) : (2 ^ w - 2 ^ t) / 2 ^ b % 2 = if t ≤ b ∧ b < w then 1 else 0 := by
  have e : 2 ^ w - 2 ^ t = 2 ^ t * (2 ^ (w - t) - 1) := by rw [Nat.mul_sub, Nat.mul_one, ← wb_pw h]
  have h1 : (2 ^ w - 2 ^ t).testBit b = (decide (b ≥ t) && decide (b - t < w - t)) := by
    rw [e, Nat.testBit_two_pow_mul, Nat.testBit_two_pow_sub_one]
  rw [Nat.testBit_eq_decide_div_mod_eq] at h1
  by_cases c : t ≤ b ∧ b < w
  · rw [if_pos c]
    rw [decide_eq_true (show b ≥ t from c.1), decide_eq_true (show b - t < w - t by omega)] at h1
    exact of_decide_eq_true h1
  · rw [if_neg c]
    have h2 : (decide (b ≥ t) && decide (b - t < w - t)) = false := by
      by_cases c1 : b ≥ t
      · rw [decide_eq_false (show ¬ b - t < w - t by omega), Bool.and_false]
      · rw [decide_eq_false c1, Bool.false_and]
    rw [h2] at h1
    have h3 := of_decide_eq_false h1
    omega
theorem x_onI {w t : Nat} (h : t ≤ w) (hw : w ≤ 64) : ∀ (n b a : Nat), b + n = 64 → onF (lN (2 ^ w - 2 ^ t)) (nI a) b n = nI (a + ((w - b) - (t - b))) := by
  have h64 : 2 ^ w ≤ 2 ^ 64 := Nat.pow_le_pow_right (by decide) hw
  have hp : 0 < 2 ^ t := Nat.pow_pos (by decide)
  intro n
  induction n with
  | zero => intro b a hb; rw [show (w - b) - (t - b) = 0 by omega]; rfl
  | succ n ih =>
    intro b a hb
    have e := wb_bit (n := 2 ^ w - 2 ^ t) (k := b) (by omega) (by omega)
    rw [x_bit h] at e
    by_cases c : t ≤ b ∧ b < w
    · rw [if_pos c] at e
      rw [onF_t (show ush (lN (2 ^ w - 2 ^ t)) (nI b) &&& 1 = 1 from e), nI_1, ih (b + 1) (a + 1) (by omega)]
      congr 1
      omega
    · rw [if_neg c] at e
      rw [onF_f (fun z => absurd (e.symm.trans (show ush (lN (2 ^ w - 2 ^ t)) (nI b) &&& 1 = 1 from z)) (by decide)), ih (b + 1) a (by omega)]
      congr 1
      omega
theorem x_ones {w t : Nat} (hw : w < 65) (h : t ≤ w) : bc64 (lN (2 ^ w - 2 ^ t)) = onesN (lN (2 ^ w - 2 ^ t)) := by
  rw [x_bc w hw t (by omega) h]
  unfold onesN
  rw [show (0 : Int32) = nI 0 from rfl, x_onI h (by omega) 64 0 0 (by omega)]
  congr 1
  omega
theorem x_not {m : Nat} (hm : m < 2 ^ 64) : lN m ^^^ (-1) = lN (2 ^ 64 - 1 - m) := by
  apply wb_inj
  rw [Int64.toBitVec_xor, show (-1 : Int64).toBitVec = BitVec.allOnes 64 by decide, BitVec.xor_allOnes]
  apply BitVec.eq_of_toNat_eq
  rw [BitVec.toNat_not, wb_tn hm, wb_tn (by omega)]
theorem x_sub {j m : Nat} (hj : j ≤ 64) (hm : m < 2 ^ j) : lN (2 ^ j - 1) &&& (lN m ^^^ (-1)) = lN (2 ^ j - 1 - m) := by
  have h64 : 2 ^ j ≤ 2 ^ 64 := Nat.pow_le_pow_right (by decide) hj
  rw [x_not (by omega), wb_and (by omega) (by omega), Nat.and_comm, Nat.and_two_pow_sub_one_eq_mod]
  have e : 2 ^ 64 - 1 - m = 2 ^ j * (2 ^ (64 - j) - 1) + (2 ^ j - 1 - m) := by
    have e1 : 2 ^ 64 = 2 ^ j * 2 ^ (64 - j) := wb_pw hj
    have e2 : 2 ^ j * (2 ^ (64 - j) - 1) = 2 ^ j * 2 ^ (64 - j) - 2 ^ j := by rw [Nat.mul_sub, Nat.mul_one]
    have e3 : 2 ^ j ≤ 2 ^ j * 2 ^ (64 - j) := by omega
    omega
  rw [e, Nat.mul_add_mod, Nat.mod_eq_of_lt (by omega)]
theorem x_zero {n : Nat} (h : n < 2 ^ 64) (h0 : lN n = 0) : n = 0 := by
  have h1 : (lN n).toBitVec.toNat = 0 := by rw [h0]; rfl
  rw [wb_tn h] at h1
  exact h1
theorem x_pc {j : Nat} (hj : j ≤ 64) (a : Int64) (h : kTake 1 (mOne (nI j)) (a &&& mOne (nI j)) = true) : bc64 (a &&& mOne (nI j)) = onesN (a &&& mOne (nI j)) := by
  obtain ⟨n, hn, rfl⟩ := wb_of a
  have h64 : 2 ^ j ≤ 2 ^ 64 := Nat.pow_le_pow_right (by decide) hj
  have hpos : 0 < 2 ^ j := Nat.pow_pos (by decide)
  rw [x_one j (by omega)] at h ⊢
  have e1 : lN n &&& lN (2 ^ j - 1) = lN (n % 2 ^ j) := by rw [wb_and hn (by omega), Nat.and_two_pow_sub_one_eq_mod]
  rw [e1] at h ⊢
  have hm : n % 2 ^ j < 2 ^ j := Nat.mod_lt _ hpos
  generalize n % 2 ^ j = m at h hm ⊢
  unfold kTake at h
  rw [if_neg (by decide), if_pos rfl, decide_eq_true_eq, x_sub hj hm, lN_1] at h
  have ht : ∃ t, 2 ^ j - 1 - m + 1 = 2 ^ t := by
    by_cases hv : 2 ^ j - 1 - m + 1 < 2 ^ 64
    · rw [wb_and (by omega) hv] at h
      exact x_pow _ (x_zero (Nat.and_lt_two_pow _ hv) h)
    · exact ⟨64, by omega⟩
  obtain ⟨t, ht⟩ := ht
  have htj : t ≤ j := by
    rcases Nat.lt_or_ge j t with q | q
    · have := wb_lt2 q
      omega
    · exact q
  have em : m = 2 ^ j - 2 ^ t := by omega
  rw [em]
  exact x_ones (by omega) htj
theorem x_onF (x : Int64) : ∀ (n b a : Nat), a ≤ b → ∃ j, j ≤ b + n ∧ onF x (nI a) b n = nI j := by
  intro n
  induction n with
  | zero => intro b a h; exact ⟨a, h, rfl⟩
  | succ n ih =>
    intro b a h
    by_cases c : ush x (nI b) &&& 1 = 1
    · rw [onF_t c, nI_1]
      obtain ⟨j, hj, e⟩ := ih (b + 1) (a + 1) (by omega)
      exact ⟨j, by omega, e⟩
    · rw [onF_f c]
      obtain ⟨j, hj, e⟩ := ih (b + 1) a (by omega)
      exact ⟨j, by omega, e⟩
theorem x_onesN (x : Int64) : ∃ j, j ≤ 64 ∧ onesN x = nI j := by
  obtain ⟨j, hj, e⟩ := x_onF x 64 0 0 (Nat.le_refl 0)
  exact ⟨j, by omega, e⟩
theorem x_mPre (kinds : Nat → Int32) (msks : Nat → Int64) (kn i : Nat) : ∃ j, j ≤ 64 ∧ mPre kinds msks kn i = nI j := by
  unfold mPre
  generalize (fun k => msks (i * 4 + k)) = g
  have key : ∀ (n k : Nat), ∃ j, j ≤ 64 ∧ pFst kinds g k n = nI j := by
    intro n
    induction n with
    | zero => intro k; exact ⟨0, by omega, rfl⟩
    | succ n ih =>
      intro k
      by_cases c : kinds k = 1
      · rw [show pFst kinds g k (n + 1) = onesN (g k) from if_pos c]
        exact x_onesN _
      · rw [show pFst kinds g k (n + 1) = pFst kinds g (k + 1) n from if_neg c]
        exact ih (k + 1)
  exact key kn 0
theorem x_bc32 : ∀ j, j < 17 → decide (bc32 (nI j) = 1) = (decide (j = 1) || (decide (j = 2) || (decide (j = 4) || (decide (j = 8) || decide (j = 16))))) := by decide +kernel
theorem x_shape (n w t : Int32) : hShape n w t = mShape n w t := by
  unfold hShape mShape
  by_cases h1 : n < 1
  · have hn : ∀ k : Nat, 1 ≤ k → k < 17 → ¬ n = nI k := fun k hk hk2 z => by
      rw [z] at h1
      exact absurd ((nI_ltI (by omega) (by decide)).mp (show nI k < nI 1 from h1)) (by omega)
    have e1 := hn 1 (by omega) (by omega); have e2 := hn 2 (by omega) (by omega); have e4 := hn 4 (by omega) (by omega); have e8 := hn 8 (by omega) (by omega); have e16 := hn 16 (by omega) (by omega)
    simp [h1, show ¬ n = 1 from e1, show ¬ n = 2 from e2, show ¬ n = 4 from e4, show ¬ n = 8 from e8, show ¬ n = 16 from e16]
  · by_cases h2 : 16 < n
    · have hn : ∀ k : Nat, k < 17 → ¬ n = nI k := fun k hk2 z => by
        rw [z] at h2
        exact absurd ((nI_ltI (by decide) (by omega)).mp (show nI 16 < nI k from h2)) (by omega)
      have e1 := hn 1 (by omega); have e2 := hn 2 (by omega); have e4 := hn 4 (by omega); have e8 := hn 8 (by omega); have e16 := hn 16 (by omega)
      simp [h2, show ¬ n = 1 from e1, show ¬ n = 2 from e2, show ¬ n = 4 from e4, show ¬ n = 8 from e8, show ¬ n = 16 from e16]
    · obtain ⟨j, hj, rfl⟩ := nI_of2 (x := n) (M := 16) (n := 16) (by decide) (fun z => h1 (Int32.lt_trans z (by decide))) (Int32.not_lt.mp h2)
      have hq : ∀ k : Nat, k < 17 → decide (nI j = nI k) = decide (j = k) := fun k hk => by
        by_cases e : j = k
        · rw [e]; simp
        · rw [decide_eq_false e, decide_eq_false (fun z => e ((nI_eq (by omega) (by omega)).mp z))]
      rw [x_bc32 j (by omega), ← hq 1 (by omega), ← hq 2 (by omega), ← hq 4 (by omega), ← hq 8 (by omega), ← hq 16 (by omega), decide_eq_false h1, decide_eq_false h2]
      rfl
