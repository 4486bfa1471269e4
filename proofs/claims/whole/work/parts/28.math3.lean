/-! what holds between the class's state and the reference's -/
abbrev onW (wd : Nat → Int32) : Nat → Int64 := fun k => mOne (wd k)
def RK (kinds wd : Nat → Int32) (kn : Nat) : Prop := kn ≤ 4 ∧ (∀ k, k < kn → (∃ j, 1 ≤ j ∧ j ≤ 64 ∧ wd k = nI j) ∧ (kinds k = 0 ∨ kinds k = 1 ∨ kinds k = 2)) ∧ (∀ i j, i < kn → j < kn → kinds i = 1 → kinds j = 1 → i = j)
def RE (kinds wd : Nat → Int32) (kn en : Nat) (vals msks : Nat → Int64) (pre pri act : Nat → Int32) (dat : Nat → Int64) (vals2 msks2 : Nat → Int64) (pri2 act2 : Nat → Int32) (dat2 : Nat → Int64) : Prop :=
  ∀ e, e < en → (∀ k, k < kn → vals2 (e * 4 + k) = vals (e * 4 + k) ∧ msks2 (e * 4 + k) = msks (e * 4 + k) ∧ kTake (kinds k) (mOne (wd k)) (msks (e * 4 + k)) = true ∧ ∃ a, msks (e * 4 + k) = a &&& mOne (wd k)) ∧ pri2 e = pri e ∧ act2 e = act e ∧ dat2 e = dat e ∧ pre e = mPre kinds msks kn e
def RH (wd : Nat → Int32) (kn en : Nat) (vals : Nat → Int64) (held : Nat → Int32) (bn : Nat) (wy stt n9 w9 s9 : Int32) : Prop :=
  n9 = nI bn ∧ (bn = 1 ∨ bn = 2 ∨ bn = 4 ∨ bn = 8 ∨ bn = 16) ∧ ∃ (w s : Nat) (bk : Nat → Nat), w9 = nI w ∧ wy = nI w ∧ 1 ≤ w ∧ w ≤ 4 ∧ s9 = nI s ∧ stt = nI s ∧ s ≤ 8 ∧ en ≤ bn * w + s ∧ (∀ e, e < en → mBk vals wd kn n9 e = nI (bk e) ∧ bk e < bn) ∧ (∀ b, b < 16 → held b = nI (ct bk 0 en b)) ∧ SF (ct bk 0 en) w 0 16 ≤ s
def RT (kinds wd : Nat → Int32) (kn en : Nat) (vals : Nat → Int64) (held : Nat → Int32) (bn : Nat) (wy stt : Int32) (made hashed : Bool) (cap n9 w9 s9 : Int32) : Prop :=
  en ≤ 72 ∧ (made = false → en = 0 ∧ bn = 0 ∧ hashed = false) ∧ (made = true → 0 < kn ∧ hashed = kExact kinds kn ∧ cap = mMost kinds kn n9 w9 s9 ∧ (hashed = true → RH wd kn en vals held bn wy stt n9 w9 s9) ∧ (hashed = false → bn = 0 ∧ ∃ n, n9 = nI n ∧ n ≤ 32 ∧ en ≤ n))
theorem RT_bn {kinds wd : Nat → Int32} {kn en : Nat} {vals : Nat → Int64} {held : Nat → Int32} {bn : Nat} {wy stt : Int32} {made hashed : Bool} {cap n9 w9 s9 : Int32} (h : RT kinds wd kn en vals held bn wy stt made hashed cap n9 w9 s9) : bn ≤ 16 := by
  obtain ⟨-, h1, h2⟩ := h
  cases made with
  | false => have := (h1 rfl).2.1; omega
  | true =>
    obtain ⟨-, -, -, h3, h4⟩ := h2 rfl
    cases hashed with
    | false => have := (h4 rfl).1; omega
    | true => have := (h3 rfl).2.1; omega
theorem on_upd {wd : Nat → Int32} {kn : Nat} {w : Int32} (h1 : ¬ w < 1) (h2 : ¬ 64 < w) : vp_updL (onW wd) kn (ush (-1) (64 - w)) = onW (upd wd kn w) := by
  obtain ⟨j, hj, rfl⟩ := nI_of2 (x := w) (M := 64) (n := 64) (by decide) (fun z => h1 (Int32.lt_trans z (by decide))) (Int32.not_lt.mp h2)
  have hj1 : 1 ≤ j := by
    rcases Nat.lt_or_ge j 1 with q | q
    · exact absurd ((nI_ltI (by omega) (by decide)).mpr q : nI j < nI 1) h1
    · exact q
  funext k
  by_cases e : k = kn
  · rw [e, ul_s, x_ush j (by omega) hj1]
    show mOne (nI j) = mOne (upd wd kn (nI j) kn)
    rw [u_s]
  · rw [ul_n e]
    show mOne (wd k) = mOne (upd wd kn (nI j) k)
    rw [u_n e]
theorem kHave_f {kinds : Nat → Int32} {kn : Nat} {kd : Int32} (h : kHave kinds kn kd = false) {k : Nat} (hk : k < kn) : ¬ kinds k = kd := fun z => by
  have h2 : kHave kinds kn kd = true := (anyF_iff kn 0).mpr ⟨k, by omega, by omega, decide_eq_true z⟩
  rw [h] at h2
  cases h2
theorem kExact_0 {kinds wd : Nat → Int32} {kn : Nat} (hK : RK kinds wd kn) (h : kExact kinds kn = true) {k : Nat} (hk : k < kn) : kinds k = 0 := by
  unfold kExact at h
  rw [Bool.and_eq_true, Bool.not_eq_true', Bool.not_eq_true'] at h
  rcases (hK.2.1 k hk).2 with e | e | e
  · exact e
  · exact absurd e (kHave_f h.1 hk)
  · exact absurd e (kHave_f h.2 hk)
theorem RK_key {kinds wd : Nat → Int32} {kn : Nat} {w kd : Int32} (hK : RK kinds wd kn) (h1 : ¬ w < 1) (h2 : ¬ 64 < w) (h3 : ¬ kd < 0) (h4 : kd ≤ 2) (hk : kn < 4) (h5 : kAllow kinds kn kd = true) : RK (upd kinds kn kd) (upd wd kn w) (kn + 1) := by
  obtain ⟨hK1, hK2, hK3⟩ := hK
  have h1k : kd = 1 → ∀ j, j < kn → ¬ kinds j = 1 := fun e j hj => by
    subst e
    unfold kAllow at h5
    rw [if_pos rfl] at h5
    unfold kExact at h5
    rw [Bool.and_eq_true, Bool.not_eq_true'] at h5
    exact kHave_f h5.1 hj
  refine ⟨by omega, fun k hk2 => ?_, fun i j hi hj ei ej => ?_⟩
  · by_cases e : k = kn
    · rw [e, u_s, u_s]
      refine ⟨?_, ?_⟩
      · obtain ⟨j, hj, rfl⟩ := nI_of2 (x := w) (M := 64) (n := 64) (by decide) (fun z => h1 (Int32.lt_trans z (by decide))) (Int32.not_lt.mp h2)
        refine ⟨j, ?_, hj, rfl⟩
        rcases Nat.lt_or_ge j 1 with q | q
        · exact absurd ((nI_ltI (by omega) (by decide)).mpr q : nI j < nI 1) h1
        · exact q
      · obtain ⟨j, hj, rfl⟩ := nI_of2 (x := kd) (M := 2) (n := 2) (by decide) h3 h4
        match j, hj with
        | 0, _ => exact Or.inl rfl
        | 1, _ => exact Or.inr (Or.inl rfl)
        | 2, _ => exact Or.inr (Or.inr rfl)
    · rw [u_n e, u_n e]
      exact hK2 k (by omega)
  · by_cases ei2 : i = kn
    · by_cases ej2 : j = kn
      · omega
      · rw [ei2, u_s] at ei
        rw [u_n ej2] at ej
        exact absurd ej (h1k ei j (by omega))
    · by_cases ej2 : j = kn
      · rw [ej2, u_s] at ej
        rw [u_n ei2] at ei
        exact absurd ei (h1k ej i (by omega))
      · rw [u_n ei2] at ei
        rw [u_n ej2] at ej
        exact hK3 i j (by omega) (by omega) ei ej
theorem find_eq {kinds wd : Nat → Int32} {kn en : Nat} {vals msks : Nat → Int64} {pre pri act : Nat → Int32} {dat : Nat → Int64} {vals2 msks2 : Nat → Int64} {pri2 act2 : Nat → Int32} {dat2 : Nat → Int64} (hE : RE kinds wd kn en vals msks pre pri act dat vals2 msks2 pri2 act2 dat2) (av am : Nat → Int64) :
    cFind (onW wd) av am vals2 msks2 kn en = cFind (onW wd) av am vals msks kn en :=
  findF_congr en 0 (fun q _ hq => allF_congr kn 0 (fun k _ hk => by
    have h := (hE q (by omega)).1 k (by omega)
    unfold cAskP
    rw [h.1, h.2.1]))
theorem fit_eq {kinds wd : Nat → Int32} {kn en : Nat} {vals msks : Nat → Int64} {pre pri act : Nat → Int32} {dat : Nat → Int64} {vals2 msks2 : Nat → Int64} {pri2 act2 : Nat → Int32} {dat2 : Nat → Int64} (hE : RE kinds wd kn en vals msks pre pri act dat vals2 msks2 pri2 act2 dat2) (av : Nat → Int64) {q : Nat} (hq : q < en) :
    cFit av vals2 msks2 kn q = cFit av vals msks kn q :=
  allF_congr kn 0 (fun k _ hk => by
    have h := (hE q hq).1 k (by omega)
    unfold cFitP
    rw [h.1, h.2.1])
theorem mPre_eq {kinds : Nat → Int32} {kn : Nat} {m1 m2 : Nat → Int64} {e1 e2 : Nat} (h : ∀ k, k < kn → m1 (e1 * 4 + k) = m2 (e2 * 4 + k)) : mPre kinds m1 kn e1 = mPre kinds m2 kn e2 := pFst_congr kn 0 (fun k _ hk => h k (by omega))
theorem mBk_eq {wd : Nat → Int32} {kn : Nat} {n9 : Int32} {v1 v2 : Nat → Int64} {e1 e2 : Nat} (h : ∀ k, k < kn → v1 (e1 * 4 + k) = v2 (e2 * 4 + k)) : mBk v1 wd kn n9 e1 = mBk v2 wd kn n9 e2 := by
  unfold mBk
  rw [hashF_congr kn 0 0 (fun k _ hk => by rw [h k (by omega)])]
theorem best_eq {kinds wd : Nat → Int32} {kn en : Nat} {vals msks : Nat → Int64} {pre pri act : Nat → Int32} {dat : Nat → Int64} {vals2 msks2 : Nat → Int64} {pri2 act2 : Nat → Int32} {dat2 : Nat → Int64} (hE : RE kinds wd kn en vals msks pre pri act dat vals2 msks2 pri2 act2 dat2) (av : Nat → Int64) :
    mAct act2 (cBest av vals2 msks2 kn (mPre kinds msks2 kn) pri2 none 0 en) = mAct act (cBest av vals msks kn pre pri none 0 en) ∧ mDat dat2 (cBest av vals2 msks2 kn (mPre kinds msks2 kn) pri2 none 0 en) = mDat dat (cBest av vals msks kn pre pri none 0 en) := by
  obtain ⟨h1, h2⟩ := cBest_congr (av := av) (vals := vals) (msks := msks) (vals2 := vals2) (msks2 := msks2) (kn := kn) (pre := pre) (pri := pri) (pre2 := mPre kinds msks2 kn) (pri2 := pri2) (en := en) (fun q hq => fit_eq hE av hq) (fun q hq => ⟨by
    rw [(hE q hq).2.2.2.2]
    exact mPre_eq (fun k hk => ((hE q hq).1 k hk).2.1), (hE q hq).2.1⟩) en 0 none (Nat.zero_add en) (fun j h => nomatch h)
  rw [h1]
  cases hb : cBest av vals msks kn pre pri none 0 en with
  | none => exact ⟨rfl, rfl⟩
  | some j =>
    have hj := h2 j hb
    exact ⟨(hE j hj).2.2.1, (hE j hj).2.2.2.1⟩
/-- where the entry that is asked for is found, its masks are right -/
theorem find_take {kinds wd : Nat → Int32} {kn en : Nat} {vals msks : Nat → Int64} {pre pri act : Nat → Int32} {dat : Nat → Int64} {vals2 msks2 : Nat → Int64} {pri2 act2 : Nat → Int32} {dat2 : Nat → Int64} (hE : RE kinds wd kn en vals msks pre pri act dat vals2 msks2 pri2 act2 dat2) {av am : Nat → Int64} {q : Nat} (hq : q < en) (h : cAsk (onW wd) av am vals msks kn q = true) :
    cTakeAll kinds (onW wd) am kn = true ∧ ∀ k, k < kn → msks (q * 4 + k) = am k &&& mOne (wd k) ∧ vals (q * 4 + k) = av k &&& (am k &&& mOne (wd k)) := by
  have h2 : ∀ k, k < kn → msks (q * 4 + k) = am k &&& mOne (wd k) ∧ vals (q * 4 + k) = av k &&& (am k &&& mOne (wd k)) := fun k hk => by
    have h3 := (allF_iff kn 0).mp h k (by omega) (by omega)
    unfold cAskP at h3
    rw [Bool.and_eq_true, decide_eq_true_eq, decide_eq_true_eq] at h3
    exact h3
  refine ⟨(allF_iff kn 0).mpr (fun k _ hk => ?_), h2⟩
  show kTake (kinds k) (mOne (wd k)) (am k &&& mOne (wd k)) = true
  rw [← (h2 k (by omega)).1]
  exact ((hE q hq).1 k (by omega)).2.2.1
theorem find_cases {ones av am vals msks : Nat → Int64} {kn en : Nat} : (cFind ones av am vals msks kn en = -1) ∨ ∃ q, q < en ∧ cFind ones av am vals msks kn en = nI q ∧ cAsk ones av am vals msks kn q = true := by
  rcases findF_cases (P := cAsk ones av am vals msks kn) en 0 with ⟨h, -⟩ | ⟨q, -, h2, h3, h4⟩
  · exact Or.inl h
  · exact Or.inr ⟨q, by omega, h3, h4⟩
/-- an entry comes -/
theorem RE_ins {kinds wd : Nat → Int32} {kn en : Nat} {vals msks : Nat → Int64} {pre pri act : Nat → Int32} {dat : Nat → Int64} {vals2 msks2 : Nat → Int64} {pri2 act2 : Nat → Int32} {dat2 : Nat → Int64} (hK : RK kinds wd kn) (hE : RE kinds wd kn en vals msks pre pri act dat vals2 msks2 pri2 act2 dat2) {av am : Nat → Int64} (ht : cTakeAll kinds (onW wd) am kn = true) (pr ac : Int32) (da : Int64) :
    RE kinds wd kn (en + 1) (putRow en (fun k => av k &&& (am k &&& mOne (wd k))) vals 0 kn) (putRow en (fun k => am k &&& mOne (wd k)) msks 0 kn) (upd pre en (pOnes kinds (fun k => am k &&& mOne (wd k)) 0 0 kn)) (upd pri en pr) (upd act en ac) (vp_updL dat en da)
      (putRow en (fun k => av k &&& (am k &&& mOne (wd k))) vals2 0 kn) (putRow en (fun k => am k &&& mOne (wd k)) msks2 0 kn) (upd pri2 en pr) (upd act2 en ac) (vp_updL dat2 en da) := by
  have ht2 : ∀ k, k < kn → kTake (kinds k) (mOne (wd k)) (am k &&& mOne (wd k)) = true := fun k hk => (allF_iff kn 0).mp ht k (by omega) (by omega)
  obtain ⟨hk4, hK2, hK3⟩ := hK
  intro e he
  by_cases c : e = en
  · subst c
    refine ⟨fun k hk => ?_, by rw [u_s, u_s], by rw [u_s, u_s], by rw [ul_s, ul_s], ?_⟩
    · rw [putRow_in _ _ kn 0 _ k (by omega) (by omega), putRow_in _ _ kn 0 _ k (by omega) (by omega), putRow_in _ _ kn 0 _ k (by omega) (by omega), putRow_in _ _ kn 0 _ k (by omega) (by omega)]
      exact ⟨rfl, rfl, ht2 k hk, am k, rfl⟩
    · rw [u_s, pOnes_pFst hK3 (fun k hk hk1 => by
        obtain ⟨j, h1, h2, h3⟩ := (hK2 k hk).1
        have h4 := ht2 k hk
        rw [hk1] at h4
        show bc64 (am k &&& mOne (wd k)) = onesN (am k &&& mOne (wd k))
        rw [h3] at h4 ⊢
        exact x_pc h2 (am k) h4) kn 0 (Nat.zero_add kn)]
      exact pFst_congr kn 0 (fun k _ hk => by rw [putRow_in _ _ kn 0 _ k (by omega) (by omega)])
  · obtain ⟨h1, h2, h3, h4, h5⟩ := hE e (by omega)
    refine ⟨fun k hk => ?_, by rw [u_n c, u_n c, h2], by rw [u_n c, u_n c, h3], by rw [ul_n c, ul_n c, h4], ?_⟩
    · rw [putRow_ne hk4 (by omega) c, putRow_ne hk4 (by omega) c, putRow_ne hk4 (by omega) c, putRow_ne hk4 (by omega) c]
      exact h1 k hk
    · rw [u_n c, h5]
      exact mPre_eq (fun k hk => (putRow_ne hk4 (by omega) c).symm)
/-- the reference wrote behind its entries alone -/
theorem RE_junk {kinds wd : Nat → Int32} {kn en : Nat} {vals msks : Nat → Int64} {pre pri act : Nat → Int32} {dat : Nat → Int64} {vals2 msks2 : Nat → Int64} {pri2 act2 : Nat → Int32} {dat2 : Nat → Int64} (hk4 : kn ≤ 4) (hE : RE kinds wd kn en vals msks pre pri act dat vals2 msks2 pri2 act2 dat2) (g1 g2 : Nat → Int64) (pr ac : Int32) (da : Int64) :
    RE kinds wd kn en vals msks pre pri act dat (putRow en g1 vals2 0 kn) (putRow en g2 msks2 0 kn) (upd pri2 en pr) (upd act2 en ac) (vp_updL dat2 en da) := by
  intro e he
  obtain ⟨h1, h2, h3, h4, h5⟩ := hE e he
  refine ⟨fun k hk => ?_, by rw [u_n (by omega), h2], by rw [u_n (by omega), h3], by rw [ul_n (by omega), h4], h5⟩
  rw [putRow_ne hk4 (by omega) (by omega), putRow_ne hk4 (by omega) (by omega)]
  exact h1 k hk
theorem RE_chg {kinds wd : Nat → Int32} {kn en : Nat} {vals msks : Nat → Int64} {pre pri act : Nat → Int32} {dat : Nat → Int64} {vals2 msks2 : Nat → Int64} {pri2 act2 : Nat → Int32} {dat2 : Nat → Int64} (hE : RE kinds wd kn en vals msks pre pri act dat vals2 msks2 pri2 act2 dat2) (q : Nat) (ac : Int32) (da : Int64) :
    RE kinds wd kn en vals msks pre pri (upd act q ac) (vp_updL dat q da) vals2 msks2 pri2 (upd act2 q ac) (vp_updL dat2 q da) := by
  intro e he
  obtain ⟨h1, h2, h3, h4, h5⟩ := hE e he
  refine ⟨h1, h2, ?_, ?_, h5⟩
  · by_cases c : e = q
    · rw [c, u_s, u_s]
    · rw [u_n c, u_n c, h3]
  · by_cases c : e = q
    · rw [c, ul_s, ul_s]
    · rw [ul_n c, ul_n c, h4]
theorem RE_drop {kinds wd : Nat → Int32} {kn en : Nat} {vals msks : Nat → Int64} {pre pri act : Nat → Int32} {dat : Nat → Int64} {vals2 msks2 : Nat → Int64} {pri2 act2 : Nat → Int32} {dat2 : Nat → Int64} (hk4 : kn ≤ 4) (hE : RE kinds wd kn en vals msks pre pri act dat vals2 msks2 pri2 act2 dat2) {q : Nat} (hq : q < en) :
    RE kinds wd kn (en - 1) (dropR vals q (en - 1 - q)) (dropR msks q (en - 1 - q)) (dropI pre q (en - 1 - q)) (dropI pri q (en - 1 - q)) (dropI act q (en - 1 - q)) (dropL dat q (en - 1 - q)) (dropR vals2 q (en - 1 - q)) (dropR msks2 q (en - 1 - q)) (dropI pri2 q (en - 1 - q)) (dropI act2 q (en - 1 - q)) (dropL dat2 q (en - 1 - q)) := by
  intro e he
  obtain ⟨h1, h2, h3, h4, h5⟩ := hE (sk q e) (sk_lt hq he)
  refine ⟨fun k hk => ?_, by rw [dropI_sk he, dropI_sk he, h2], by rw [dropI_sk he, dropI_sk he, h3], by rw [dropL_sk he, dropL_sk he, h4], ?_⟩
  · rw [dropR_sk he (by omega), dropR_sk he (by omega), dropR_sk he (by omega), dropR_sk he (by omega)]
    exact h1 k hk
  · rw [dropI_sk he, h5]
    exact mPre_eq (fun k hk => (dropR_sk he (by omega)).symm)
