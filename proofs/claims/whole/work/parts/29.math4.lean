/-! tables: buckets, room, counts -/
theorem cBucket_h {wd : Nat → Int32} {av : Nat → Int64} {kn bn : Nat} (hb : bn ≠ 0) : cBucket (onW wd) av kn bn true = mIdx (nI bn) (hMix (hashF (fun k => av k &&& mOne (wd k)) 0 0 kn)) := by
  unfold cBucket bIndex mIdx
  rw [if_t rfl, if_neg hb]
theorem S_bucket {kinds wd : Nat → Int32} {kn en : Nat} {vals : Nat → Int64} {held : Nat → Int32} {bn : Nat} {wy stt : Int32} {made hashed : Bool} {cap n9 w9 s9 : Int32} (h : RT kinds wd kn en vals held bn wy stt made hashed cap n9 w9 s9) (av : Nat → Int64) :
    cBucket (onW wd) av kn bn hashed = mBucket kinds av wd kn n9 made := by
  obtain ⟨-, h1, h2⟩ := h
  unfold mBucket
  cases made with
  | false => rw [(h1 rfl).2.2]; rfl
  | true =>
    obtain ⟨-, h4, -, h5, -⟩ := h2 rfl
    rw [← h4]
    cases hashed with
    | false => rfl
    | true =>
      obtain ⟨e1, e2, -⟩ := h5 rfl
      rw [cBucket_h (by omega), e1]
      rfl
theorem SF_bn {bk : Nat → Nat} {en bn w : Nat} (hb : bn ≤ 16) (h : ∀ e, e < en → bk e < bn) : SF (ct bk 0 en) w 0 bn = SF (ct bk 0 en) w 0 16 := by
  have e := SF_add (ct bk 0 en) w bn (16 - bn) 0
  rw [show bn + (16 - bn) = 16 by omega, SF_zero (16 - bn) (0 + bn) (fun b hb1 _ => ct_zero (by omega) en 0 (fun e _ he => h e (by omega)))] at e
  omega
theorem bAbove_RH {wd : Nat → Int32} {en bn w : Nat} {held : Nat → Int32} {bk : Nat → Nat} (hb : bn ≤ 16) (hw : w ≤ 4) (he : en ≤ 72) (h : ∀ e, e < en → bk e < bn) (hh : ∀ b, b < 16 → held b = nI (ct bk 0 en b)) : bAbove held (nI w) 0 0 bn = nI (SF (ct bk 0 en) w 0 16) := by
  have e := bAbove_eq (held := held) (cn := ct bk 0 en) hw (fun b => Nat.le_trans (ct_le bk en 0 b) he) bn 0 0 (by omega) hh
  rw [Nat.zero_add, SF_bn hb h] at e
  exact e
theorem S_count {kinds wd : Nat → Int32} {kn en : Nat} {vals : Nat → Int64} {held : Nat → Int32} {bn : Nat} {wy stt : Int32} {made hashed : Bool} {cap n9 w9 s9 what : Int32} (h : RT kinds wd kn en vals held bn wy stt made hashed cap n9 w9 s9) (hn : ¬ (what = 1 ∧ made = true ∧ kExact kinds kn = true)) :
    cCount kn en held bn wy made cap what = mCount kinds kn en n9 w9 s9 made what := by
  obtain ⟨-, h1, h2⟩ := h
  unfold cCount mCount
  by_cases c2 : what = 2
  · rw [if_pos c2, if_pos c2]
  · rw [if_neg c2, if_neg c2]
    cases made with
    | false => rfl
    | true =>
      obtain ⟨-, h4, h5, -, h7⟩ := h2 rfl
      rw [if_t rfl, if_t rfl]
      by_cases c0 : what = 0
      · rw [if_pos c0, if_pos c0]
      · rw [if_neg c0, if_neg c0]
        by_cases c1 : what = 1
        · subst c1
          have hx : hashed = false := by
            cases hashed with
            | false => rfl
            | true => exact absurd ⟨rfl, rfl, h4.symm⟩ hn
          rw [if_pos rfl, if_neg (by decide), if_pos rfl, (h7 hx).1]
          rfl
        · rw [if_neg c1, if_neg c1, h5]
theorem S_count_a {kinds wd : Nat → Int32} {kn en : Nat} {vals msks : Nat → Int64} {pre pri act : Nat → Int32} {dat : Nat → Int64} {vals2 msks2 : Nat → Int64} {pri2 act2 : Nat → Int32} {dat2 : Nat → Int64} {held : Nat → Int32} {bn : Nat} {wy stt : Int32} {hashed : Bool} {cap n9 w9 s9 : Int32} (hE : RE kinds wd kn en vals msks pre pri act dat vals2 msks2 pri2 act2 dat2)
    (h : RT kinds wd kn en vals held bn wy stt true hashed cap n9 w9 s9) (hx : kExact kinds kn = true) : ∃ bk : Nat → Nat, (∀ i, i < en → mBk vals2 wd kn n9 i = nI (bk i) ∧ bk i < 16) ∧ ∀ inb : Nat → Int32, cCount kn en held bn wy true cap 1 = (abF bk w9 (fillI 0 inb 0 16) 0 0 en).2 := by
  obtain ⟨he, -, h2⟩ := h
  obtain ⟨-, h4, -, h5, -⟩ := h2 rfl
  obtain ⟨e1, e2, w, s, bk, f1, f2, f3, f4, f5, f6, f7, f8, f9, f10, f11⟩ := h5 (h4.trans hx)
  refine ⟨bk, fun i hi => ⟨?_, by have := (f9 i hi).2; omega⟩, fun inb => ?_⟩
  · rw [← (f9 i hi).1]
    exact mBk_eq (fun k hk => ((hE i hi).1 k hk).1)
  · rw [f1, abF_all inb f4 (by omega) (fun e he2 => by have := (f9 e he2).2; omega)]
    show bAbove held wy 0 0 bn = _
    rw [f2]
    exact bAbove_RH (wd := wd) (by omega) f4 he (fun e he2 => (f9 e he2).2) f10
theorem RT_make_h {kinds wd : Nat → Int32} {kn : Nat} {vals : Nat → Int64} {held : Nat → Int32} {n2 : Nat} {w t : Int32} (h0 : 0 < kn) (he : kExact kinds kn = true) (hs : mShape (nI n2) w t = true) (hn : n2 < 2147483648) :
    RT kinds wd kn 0 vals (fillI 0 held 0 16) n2 w t true (kExact kinds kn) (nI n2 * w + t) (nI n2) w t := by
  unfold mShape at hs
  simp only [Bool.and_eq_true, Bool.or_eq_true, decide_eq_true_eq, Bool.not_eq_true', decide_eq_false_iff_not] at hs
  obtain ⟨hN, hw1, hw2, ht1, ht2⟩ := hs
  have hq : ∀ k : Nat, k < 17 → nI n2 = nI k → n2 = k := fun k hk z => (nI_eq hn (by omega)).mp z
  obtain ⟨w', hw', rfl⟩ := nI_of2 (x := w) (M := 4) (n := 4) (by decide) (fun z => hw1 (Int32.lt_trans z (by decide))) (Int32.not_lt.mp hw2)
  obtain ⟨s', hs', rfl⟩ := nI_of2 (x := t) (M := 8) (n := 8) (by decide) ht1 (Int32.not_lt.mp ht2)
  have hw0 : 1 ≤ w' := by
    rcases Nat.lt_or_ge w' 1 with q | q
    · exact absurd ((nI_ltI (by omega) (by decide)).mpr q : nI w' < nI 1) hw1
    · exact q
  refine ⟨by omega, (fun h => nomatch h), fun _ => ⟨h0, rfl, by unfold mMost; rw [if_t he], fun _ => ⟨rfl, ?_, w', s', fun _ => 0, rfl, rfl, hw0, hw', rfl, rfl, hs', by omega, fun e h => by omega, fun b hb => ?_, ?_⟩, fun h => absurd he (by rw [h]; decide)⟩⟩
  · rcases hN with h | h | h | h | h
    · exact Or.inl (hq 1 (by omega) h)
    · exact Or.inr (Or.inl (hq 2 (by omega) h))
    · exact Or.inr (Or.inr (Or.inl (hq 4 (by omega) h)))
    · exact Or.inr (Or.inr (Or.inr (Or.inl (hq 8 (by omega) h))))
    · exact Or.inr (Or.inr (Or.inr (Or.inr (hq 16 (by omega) h))))
  · rw [fillI_at, if_pos (by omega)]
    rfl
  · have e : SF (ct (fun _ => 0) 0 0) w' 0 16 = 0 := SF_zero 16 0 (fun _ _ _ => rfl)
    omega
theorem RT_make_l {kinds wd : Nat → Int32} {kn : Nat} {vals : Nat → Int64} {held : Nat → Int32} {bn : Nat} {wy stt n w t : Int32} (h0 : 0 < kn) (he : kExact kinds kn = false) (hb : bn = 0) (hs : lShape n = true) :
    RT kinds wd kn 0 vals held bn wy stt true (kExact kinds kn) n n w t := by
  unfold lShape at hs
  simp only [Bool.and_eq_true, decide_eq_true_eq, Bool.not_eq_true', decide_eq_false_iff_not] at hs
  obtain ⟨n', hn', rfl⟩ := nI_of2 (x := n) (M := 32) (n := 32) (by decide) (fun z => hs.1 (Int32.lt_trans z (by decide))) (Int32.not_lt.mp hs.2)
  exact ⟨by omega, (fun h => nomatch h), fun _ => ⟨h0, rfl, by unfold mMost; rw [if_f he], fun h => absurd he (by rw [h]; decide), fun _ => ⟨hb, n', rfl, hn', by omega⟩⟩⟩
/-- not hashed: room is what is left of n -/
theorem ins_l {kinds wd : Nat → Int32} {kn en : Nat} {vals : Nat → Int64} {held : Nat → Int32} {bn : Nat} {wy stt : Int32} {hashed : Bool} {cap n9 w9 s9 : Int32} (h : RT kinds wd kn en vals held bn wy stt true hashed cap n9 w9 s9) (hx : kExact kinds kn = false) (hf : ¬ nI en = mMost kinds kn n9 w9 s9) (av : Nat → Int64) (vals' : Nat → Int64) :
    en < 72 ∧ cRoom (onW wd) av kn en held bn wy stt hashed cap = true ∧ RT kinds wd kn (en + 1) vals' (fillB held bn (cBucket (onW wd) av kn bn hashed) 1) bn wy stt true hashed cap n9 w9 s9 := by
  obtain ⟨he, -, h2⟩ := h
  obtain ⟨h3, h4, h5, -, h7⟩ := h2 rfl
  have hh : hashed = false := h4.trans hx
  subst hh
  obtain ⟨hb, n, rfl, hn, hen⟩ := h7 rfl
  have hm : mMost kinds kn (nI n) w9 s9 = nI n := by unfold mMost; rw [if_f hx]
  rw [hm] at h5 hf
  have hlt : en < n := by
    rcases Nat.lt_or_ge en n with q | q
    · exact q
    · exact absurd (by rw [show en = n by omega]) hf
  subst hb
  refine ⟨by omega, ?_, by omega, (fun h => nomatch h), fun _ => ⟨h3, h4, by rw [hm]; exact h5, (fun h => nomatch h), fun _ => ⟨rfl, n, rfl, hn, by omega⟩⟩⟩
  unfold cRoom
  rw [h5, decide_eq_true ((nI_ltI (by omega) (by omega)).mpr hlt)]
  rfl
theorem take_exact {a one : Int64} (h : kTake 0 one (a &&& one) = true) : a &&& one = one := by
  unfold kTake at h
  rw [if_pos rfl, decide_eq_true_eq] at h
  exact (t_ex a one).mpr h
theorem fillB_in {held : Nat → Int32} {bn j : Nat} {d : Int32} (hb : bn ≤ 16) (hj : j < bn) : fillB held bn (nI j) d = upd held j (held j + d) := by
  have h : bOne bn (nI j) = true := by
    unfold bOne
    rw [decide_eq_true (nI_pos' (by omega)), decide_eq_true ((nI_ltI (by omega) (by omega)).mpr hj)]
    rfl
  unfold fillB
  rw [if_t h, nI_clamp (by omega)]
/-- a full table has no room for either -/
theorem full_eq {kinds wd : Nat → Int32} {kn en : Nat} {vals : Nat → Int64} {held : Nat → Int32} {bn : Nat} {wy stt : Int32} {hashed : Bool} {cap n9 w9 s9 : Int32} (h : RT kinds wd kn en vals held bn wy stt true hashed cap n9 w9 s9) (hf : nI en = mMost kinds kn n9 w9 s9) (av : Nat → Int64) : cRoom (onW wd) av kn en held bn wy stt hashed cap = false := by
  obtain ⟨he, -, h2⟩ := h
  obtain ⟨h3, h4, h5, -, h7⟩ := h2 rfl
  unfold cRoom
  rw [h5, ← hf, decide_eq_false (nI_nlt (Nat.le_refl en) (by omega))]
  rfl
/-- hashed: what the two sides say of room, and the table with one more -/
theorem ins_h {kinds wd : Nat → Int32} {kn en : Nat} {vals msks : Nat → Int64} {pre pri act : Nat → Int32} {dat : Nat → Int64} {vals2 msks2 : Nat → Int64} {pri2 act2 : Nat → Int32} {dat2 : Nat → Int64} {held : Nat → Int32} {bn : Nat} {wy stt : Int32} {hashed : Bool} {cap n9 w9 s9 : Int32} (hK : RK kinds wd kn) (hE : RE kinds wd kn en vals msks pre pri act dat vals2 msks2 pri2 act2 dat2)
    (h : RT kinds wd kn en vals held bn wy stt true hashed cap n9 w9 s9) (hx : kExact kinds kn = true) (hf : ¬ nI en = mMost kinds kn n9 w9 s9) {av am : Nat → Int64} (ht : cTakeAll kinds (onW wd) am kn = true) :
    en < 72 ∧ ∃ bk : Nat → Nat, (∀ i, i < en + 1 → mBk (putRow en (fun k => av k &&& (am k &&& mOne (wd k))) vals2 0 kn) wd kn n9 i = nI (bk i) ∧ bk i < 16) ∧ ∀ inb : Nat → Int32,
      (((abF bk w9 (fillI 0 inb 0 16) 0 0 (en + 1)).2 ≤ s9 ∧ cRoom (onW wd) av kn en held bn wy stt hashed cap = true ∧ RT kinds wd kn (en + 1) (putRow en (fun k => av k &&& (am k &&& mOne (wd k))) vals 0 kn) (fillB held bn (cBucket (onW wd) av kn bn hashed) 1) bn wy stt true hashed cap n9 w9 s9) ∨
        (¬ (abF bk w9 (fillI 0 inb 0 16) 0 0 (en + 1)).2 ≤ s9 ∧ cRoom (onW wd) av kn en held bn wy stt hashed cap = false)) := by
  obtain ⟨he, -, h2⟩ := h
  obtain ⟨h3, h4, h5, h6, -⟩ := h2 rfl
  have hh : hashed = true := h4.trans hx
  subst hh
  obtain ⟨e1, e2, w, s, bk, f1, f2, f3, f4, f5, f6, f7, f8, f9, f10, f11⟩ := h6 rfl
  have hbn : bn ≤ 16 := by omega
  have hbw : bn * w ≤ 64 := Nat.le_trans (Nat.mul_le_mul hbn f4) (by omega)
  have hcap : mMost kinds kn n9 w9 s9 = nI (bn * w + s) := by
    unfold mMost
    rw [if_t hx, e1, f1, f5, pk_mul, nI_add]
  rw [hcap] at hf h5
  have hlt : en < bn * w + s := by
    rcases Nat.lt_or_ge en (bn * w + s) with q | q
    · exact q
    · exact absurd (by rw [show en = bn * w + s by omega]) hf
  obtain ⟨j, hj, ej⟩ := x_idx e2 (hMix (hashF (fun k => av k &&& mOne (wd k)) 0 0 kn))
  have ebu : cBucket (onW wd) av kn bn true = nI j := by rw [cBucket_h (by omega), ej]
  have hone : ∀ k, k < kn → am k &&& mOne (wd k) = mOne (wd k) := fun k hk => by
    have h9 : kTake (kinds k) (mOne (wd k)) (am k &&& mOne (wd k)) = true := (allF_iff kn 0).mp ht k (by omega) (by omega)
    rw [kExact_0 hK hx hk] at h9
    exact take_exact h9
  have hk4 := hK.1
  have hbkN : ∀ (v : Nat → Int64), mBk (putRow en (fun k => av k &&& (am k &&& mOne (wd k))) v 0 kn) wd kn n9 en = nI j := fun v => by
    unfold mBk
    rw [hashF_congr kn 0 0 (g := fun k => av k &&& mOne (wd k)) (fun k _ hk => by
      show putRow en (fun k => av k &&& (am k &&& mOne (wd k))) v 0 kn (en * 4 + k) &&& mOne (wd k) = av k &&& mOne (wd k)
      rw [putRow_in _ _ kn 0 _ k (by omega) (by omega), hone k (by omega), Int64.and_assoc, Int64.and_self]), e1]
    exact ej
  obtain ⟨bk', hbk'⟩ : ∃ b : Nat → Nat, b = fun e => if e = en then j else bk e := ⟨_, rfl⟩
  have hb1 : bk' en = j := by rw [hbk']; exact if_pos rfl
  have hb2 : ∀ e, e < en → bk' e = bk e := fun e h => by rw [hbk']; exact if_neg (by omega)
  have hct : ∀ b, ct bk' 0 (en + 1) b = cUp (ct bk 0 en) j b := fun b => by
    rw [ct_last, hb1, ct_congr b en 0 (fun e _ h => hb2 e (by omega))]
    rfl
  have hall : ∀ (v : Nat → Int64), (∀ e, e < en → ∀ k, k < kn → v (e * 4 + k) = vals (e * 4 + k)) → ∀ i, i < en + 1 → mBk (putRow en (fun k => av k &&& (am k &&& mOne (wd k))) v 0 kn) wd kn n9 i = nI (bk' i) ∧ bk' i < bn := fun v hv i hi => by
    by_cases c : i = en
    · rw [c, hb1]
      exact ⟨hbkN v, hj⟩
    · rw [hb2 i (by omega)]
      refine ⟨?_, (f9 i (by omega)).2⟩
      rw [← (f9 i (by omega)).1]
      exact mBk_eq (fun k hk => by rw [putRow_ne hk4 (by omega) c]; exact hv i (by omega) k hk)
  have hSF : SF (ct bk' 0 (en + 1)) w 0 16 = SF (ct bk 0 en) w 0 16 + (if w ≤ ct bk 0 en j then 1 else 0) := by
    rw [SF_congr (cn := cUp (ct bk 0 en) j) w 16 0 (fun b _ _ => hct b), SF_up]
    by_cases c : w ≤ ct bk 0 en j
    · rw [if_pos (by omega), if_pos c]
    · rw [if_neg (by omega), if_neg c]
  have hcj := ct_le bk en 0 j
  have habv := bAbove_RH (wd := wd) hbn f4 he (fun e h => (f9 e h).2) f10
  have hroom : cRoom (onW wd) av kn en held bn wy stt true cap = (decide (ct bk 0 en j < w) || decide (SF (ct bk 0 en) w 0 16 < s)) := by
    unfold cRoom bRoom bOne
    rw [ebu, h5, decide_eq_true ((nI_ltI (by omega) (by omega)).mpr hlt), decide_eq_true (nI_pos' (by omega)), decide_eq_true ((nI_ltI (by omega) (by omega)).mpr hj), nI_clamp (by omega), f10 j (by omega), f2, habv, f6,
      show decide (nI (ct bk 0 en j) < nI w) = decide (ct bk 0 en j < w) from decide_eq_decide.mpr (nI_ltI (by omega) (by omega)),
      show decide (nI (SF (ct bk 0 en) w 0 16) < nI s) = decide (SF (ct bk 0 en) w 0 16 < s) from decide_eq_decide.mpr (nI_ltI (by omega) (by omega))]
    rfl
  refine ⟨by omega, bk', fun i hi => ⟨(hall vals2 (fun e h k hk => ((hE e h).1 k hk).1) i hi).1, by have := (hall vals2 (fun e h k hk => ((hE e h).1 k hk).1) i hi).2; omega⟩, fun inb => ?_⟩
  rw [f1, abF_all inb f4 (by omega) (fun e he2 => by have := (hall vals (fun _ _ _ _ => rfl) e he2).2; omega), f5, hSF, hroom, nI_leI (by split <;> omega) (by omega)]
  by_cases c1 : ct bk 0 en j < w
  · rw [if_neg (by omega), decide_eq_true c1]
    refine Or.inl ⟨by omega, rfl, by omega, (fun h => nomatch h), fun _ => ⟨h3, h4, by rw [← f1, ← f5, hcap]; exact h5, fun _ => ⟨e1, e2, w, s, bk', f1 ▸ rfl, f2, f3, f4, f5 ▸ rfl, f6, f7, by omega, hall vals (fun _ _ _ _ => rfl), fun b hb => ?_, by rw [hSF, if_neg (by omega)]; omega⟩, (fun h => nomatch h)⟩⟩
    rw [hct, ebu, fillB_in hbn hj]
    unfold cUp
    by_cases c : b = j
    · rw [c, u_s, if_pos rfl, f10 j (by omega), nI_1]
    · rw [u_n c, if_neg (fun z => c z.symm), f10 b hb]
      rfl
  · rw [if_pos (by omega), decide_eq_false c1]
    by_cases c2 : SF (ct bk 0 en) w 0 16 < s
    · rw [decide_eq_true c2]
      refine Or.inl ⟨by omega, rfl, by omega, (fun h => nomatch h), fun _ => ⟨h3, h4, by rw [← f1, ← f5, hcap]; exact h5, fun _ => ⟨e1, e2, w, s, bk', f1 ▸ rfl, f2, f3, f4, f5 ▸ rfl, f6, f7, by omega, hall vals (fun _ _ _ _ => rfl), fun b hb => ?_, by rw [hSF, if_pos (by omega)]; omega⟩, (fun h => nomatch h)⟩⟩
      rw [hct, ebu, fillB_in hbn hj]
      unfold cUp
      by_cases c : b = j
      · rw [c, u_s, if_pos rfl, f10 j (by omega), nI_1]
      · rw [u_n c, if_neg (fun z => c z.symm), f10 b hb]
        rfl
    · rw [decide_eq_false c2]
      exact Or.inr ⟨by omega, rfl⟩
/-- an entry goes -/
theorem RT_drop {kinds wd : Nat → Int32} {kn en : Nat} {vals msks : Nat → Int64} {pre pri act : Nat → Int32} {dat : Nat → Int64} {vals2 msks2 : Nat → Int64} {pri2 act2 : Nat → Int32} {dat2 : Nat → Int64} {held : Nat → Int32} {bn : Nat} {wy stt : Int32} {hashed : Bool} {cap n9 w9 s9 : Int32} (hK : RK kinds wd kn) (hE : RE kinds wd kn en vals msks pre pri act dat vals2 msks2 pri2 act2 dat2)
    (h : RT kinds wd kn en vals held bn wy stt true hashed cap n9 w9 s9) {av am : Nat → Int64} {q : Nat} (hq : q < en) (ha : cAsk (onW wd) av am vals msks kn q = true) :
    RT kinds wd kn (en - 1) (dropR vals q (en - 1 - q)) (fillB held bn (cBucket (onW wd) av kn bn hashed) (-1)) bn wy stt true hashed cap n9 w9 s9 := by
  obtain ⟨he, -, h2⟩ := h
  obtain ⟨h3, h4, h5, h6, h7⟩ := h2 rfl
  obtain ⟨ht, hask⟩ := find_take hE hq ha
  have hk4 := hK.1
  refine ⟨by omega, (fun h => nomatch h), fun _ => ⟨h3, h4, h5, fun hh => ?_, fun hh => ?_⟩⟩
  · have hx : kExact kinds kn = true := h4.symm.trans hh
    subst hh
    obtain ⟨e1, e2, w, s, bk, f1, f2, f3, f4, f5, f6, f7, f8, f9, f10, f11⟩ := h6 rfl
    have hbn : bn ≤ 16 := by omega
    have hone : ∀ k, k < kn → am k &&& mOne (wd k) = mOne (wd k) := fun k hk => by
      have h9 : kTake (kinds k) (mOne (wd k)) (am k &&& mOne (wd k)) = true := (allF_iff kn 0).mp ht k (by omega) (by omega)
      rw [kExact_0 hK hx hk] at h9
      exact take_exact h9
    have ebu : cBucket (onW wd) av kn bn true = nI (bk q) := by
      rw [cBucket_h (by omega), ← (f9 q hq).1, ← e1]
      unfold mBk
      rw [hashF_congr kn 0 0 (f := fun k => vals (q * 4 + k) &&& mOne (wd k)) (g := fun k => av k &&& mOne (wd k)) (fun k _ hk => by
        show vals (q * 4 + k) &&& mOne (wd k) = av k &&& mOne (wd k)
        rw [(hask k (by omega)).2, hone k (by omega), Int64.and_assoc, Int64.and_self])]
    have hdr := fun b => ct_drop (bk := bk) hq b
    have hle : ∀ b, ct (fun e => bk (sk q e)) 0 (en - 1) b ≤ ct bk 0 en b := fun b => by have := hdr b; omega
    refine ⟨e1, e2, w, s, fun e => bk (sk q e), f1, f2, f3, f4, f5, f6, f7, by omega, fun e he2 => ?_, fun b hb => ?_, ?_⟩
    · refine ⟨?_, (f9 (sk q e) (sk_lt hq he2)).2⟩
      rw [← (f9 (sk q e) (sk_lt hq he2)).1]
      exact mBk_eq (fun k hk => dropR_sk he2 (by omega))
    · have hd := hdr b
      rw [ebu, fillB_in hbn (f9 q hq).2]
      by_cases c : b = bk q
      · rw [c, u_s, f10 (bk q) (by have := (f9 q hq).2; omega)]
        rw [c, if_pos rfl] at hd
        rw [← hd]
        exact pk_m1 _
      · rw [u_n c, f10 b hb]
        rw [if_neg (fun z => c z.symm)] at hd
        rw [← hd]
        rfl
    · have hm : ∀ (n i : Nat), SF (ct (fun e => bk (sk q e)) 0 (en - 1)) w i n ≤ SF (ct bk 0 en) w i n := by
        intro n
        induction n with
        | zero => intro i; exact Nat.le_refl 0
        | succ n ih =>
          intro i
          have a1 := ih (i + 1)
          have a2 := hle i
          show (ct (fun e => bk (sk q e)) 0 (en - 1) i - w) + SF (ct (fun e => bk (sk q e)) 0 (en - 1)) w (i + 1) n ≤ (ct bk 0 en i - w) + SF (ct bk 0 en) w (i + 1) n
          omega
      have := hm 16 0
      omega
  · obtain ⟨hb, n, h8, h9, h10⟩ := h7 hh
    exact ⟨hb, n, h8, h9, by omega⟩
