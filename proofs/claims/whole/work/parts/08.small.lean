/-! small -/
set_option maxHeartbeats 4000000 in
set_option maxRecDepth 100000 in
/-- Entries.place -/
theorem c_X1_place (l : Launch) (dC : Nat → ClassId) (dI : Nat → Nat → Nat) (cI cL : ClassId) (a b : Nat) : Met l yX1_place wsX1_place ({ frames := 0, cells := 0, slots := 0, locals := 0 }) (rd_P (dC, dI) vwCl [(cI, .int), (cL, .long)] [] [.int (nI a), .int (nI b)]) (rd_Q (some (.int (nI (a * 4 + b))))) 0 0 (fun _ => False) := by
  refine Met.ofW (cc := cX1_place) (maxL := 2) (ret := some .int) (by decide) rfl ?_
  intro p e s m args below meth c s₁ B hml hv
  obtain ⟨rfl, hP, hK⟩ := hv
  have hx := B.exec
  have hb := B.bytes
  have hr := B.returns
  have hts := fun w h => atoms_spec (ws := wsX1_place) B.pre w (List.mem_cons_of_mem _ h)
  have hown : s.vm.findClass RX1 = some m.cls := findClass_of_methodNamed B.named
  have hlocks := B.notSynchronized
  have hl := lv_entry ([.int (nI a), .int (nI b)]) (n := 2) (Nat.le_of_ble_eq_true rfl)
  rw [lg_entry_eq]
  generalize (lg_sl ([.int (nI a), .int (nI b)]) ++ List.replicate (2 - (lg_sl ([.int (nI a), .int (nI b)])).length) Slot.unset).toArray = ls at hl ⊢
  have hl : lv_has ls 2 [(0, .int (nI a)), (1, .int (nI b))] := hl
  refine lv_iload_n hx hb dX1_place_0 rfl (lv_at hl 0 rfl) ?_
  refine lv_iconst (v := 4) hx hb dX1_place_1 (by decide) ?_
  refine lv_imul hx hb dX1_place_2 ?_
  refine lv_iload_n hx hb dX1_place_3 rfl (lv_at hl 1 rfl) ?_
  refine lv_iadd hx hb dX1_place_4 ?_
  exact rd_iret hx hb hr hlocks dX1_place_5 rfl (by rw [show (4 : Int32) = nI 4 from rfl, pk_mul, nI_add])

set_option maxHeartbeats 4000000 in
set_option maxRecDepth 100000 in
/-- Entries.isWorthMore -/
theorem c_X1_isWorthMore (l : Launch) (dC : Nat → ClassId) (dI : Nat → Nat → Nat) (cI cL : ClassId) (e0 e1 e2 e3 e4 e5 e6 : Nat) (vals msks : Nat → Int64) (pre pri act : Nat → Int32) (dat : Nat → Int64) (en : Nat) (a b : Nat) (ha : a < 72) (hb9 : b < 72) : Met l yX1_isWorthMore wsX1_isWorthMore ({ frames := 0, cells := 0, slots := 0, locals := 0 }) (rd_P (dC, dI) vwCl [(cI, .int), (cL, .long)] [(e0, .inr (1, [.ref e1, .ref e2, .ref e3, .ref e4, .ref e5, .ref e6, .int (nI en)])), (e1, .inl (cL, 288, .inr (.inl vals))), (e2, .inl (cL, 288, .inr (.inl msks))), (e3, .inl (cI, 72, .inl pre)), (e4, .inl (cI, 72, .inl pri)), (e5, .inl (cI, 72, .inl act)), (e6, .inl (cL, 72, .inr (.inl dat)))] [.ref e0, .int (nI a), .int (nI b)]) (rd_Q (some (.int (bI (eMore pre pri a b))))) 0 0 (fun _ => False) := by
  refine Met.ofW (cc := cX1_isWorthMore) (maxL := 3) (ret := some .boolean) (by decide) rfl ?_
  intro p e s m args below meth c s₁ B hml hv
  obtain ⟨rfl, hP, hK⟩ := hv
  have hx := B.exec
  have hb := B.bytes
  have hr := B.returns
  have hts := fun w h => atoms_spec (ws := wsX1_isWorthMore) B.pre w (List.mem_cons_of_mem _ h)
  have hown : s.vm.findClass RX1 = some m.cls := findClass_of_methodNamed B.named
  have hlocks := B.notSynchronized
  have hl := lv_entry ([.ref e0, .int (nI a), .int (nI b)]) (n := 3) (Nat.le_of_ble_eq_true rfl)
  rw [lg_entry_eq]
  generalize (lg_sl ([.ref e0, .int (nI a), .int (nI b)]) ++ List.replicate (3 - (lg_sl ([.ref e0, .int (nI a), .int (nI b)])).length) Slot.unset).toArray = ls at hl ⊢
  have hl : lv_has ls 3 [(0, .ref e0), (1, .int (nI a)), (2, .int (nI b))] := hl
  refine lv_aload_n hx hb dX1_isWorthMore_0 rfl (lv_at hl 0 rfl) ?_
  refine va_get (D := (dC, dI)) (ci := 1) (v := .ref e3) (C := RX1) (T := TX1) (N := 7) hx hb hts inX1 hown hK hP 0 rfl rfl 2 (by decide) (hts _ mw76) (fun _ h9 => h9) rfl dX1_isWorthMore_1 ?_
  refine lv_iload_n hx hb dX1_isWorthMore_4 rfl (lv_at hl 1 rfl) ?_
  refine n_iald hx hb hK hP 3 0 rfl rfl (k := a) rfl ha (by omega) dX1_isWorthMore_5 ?_
  refine lv_aload_n hx hb dX1_isWorthMore_6 rfl (lv_at hl 0 rfl) ?_
  refine va_get (D := (dC, dI)) (ci := 1) (v := .ref e3) (C := RX1) (T := TX1) (N := 7) hx hb hts inX1 hown hK hP 0 rfl rfl 2 (by decide) (hts _ mw76) (fun _ h9 => h9) rfl dX1_isWorthMore_7 ?_
  refine lv_iload_n hx hb dX1_isWorthMore_10 rfl (lv_at hl 2 rfl) ?_
  refine n_iald hx hb hK hP 3 0 rfl rfl (k := b) rfl hb9 (by omega) dX1_isWorthMore_11 ?_
  refine lv_icmp_eq (tgt := 36) hx hb dX1_isWorthMore_12 (by decide) (fun c12 => ?_) (fun c12 => ?_)
  · refine lv_aload_n hx hb dX1_isWorthMore_36 rfl (lv_at hl 0 rfl) ?_
    refine va_get (D := (dC, dI)) (ci := 1) (v := .ref e4) (C := RX1) (T := TX1) (N := 7) hx hb hts inX1 hown hK hP 0 rfl rfl 3 (by decide) (hts _ mw78) (fun _ h9 => h9) rfl dX1_isWorthMore_37 ?_
    refine lv_iload_n hx hb dX1_isWorthMore_40 rfl (lv_at hl 1 rfl) ?_
    refine n_iald hx hb hK hP 4 0 rfl rfl (k := a) rfl ha (by omega) dX1_isWorthMore_41 ?_
    refine lv_aload_n hx hb dX1_isWorthMore_42 rfl (lv_at hl 0 rfl) ?_
    refine va_get (D := (dC, dI)) (ci := 1) (v := .ref e4) (C := RX1) (T := TX1) (N := 7) hx hb hts inX1 hown hK hP 0 rfl rfl 3 (by decide) (hts _ mw78) (fun _ h9 => h9) rfl dX1_isWorthMore_43 ?_
    refine lv_iload_n hx hb dX1_isWorthMore_46 rfl (lv_at hl 2 rfl) ?_
    refine n_iald hx hb hK hP 4 0 rfl rfl (k := b) rfl hb9 (by omega) dX1_isWorthMore_47 ?_
    refine lv_icmp_le (tgt := 55) hx hb dX1_isWorthMore_48 (by decide) (fun c48 => ?_) (fun c48 => ?_)
    · refine lv_iconst (v := 0) hx hb dX1_isWorthMore_55 (by decide) ?_
      exact rd_iret hx hb hr hlocks dX1_isWorthMore_56 rfl (by unfold eMore; rw [if_pos c12, decide_eq_false (Int32.not_lt.mpr c48)]; rfl)
    · refine lv_iconst (v := 1) hx hb dX1_isWorthMore_51 (by decide) ?_
      refine lv_goto (tgt := 56) hx hb dX1_isWorthMore_52 (by decide) ?_
      exact rd_iret hx hb hr hlocks dX1_isWorthMore_56 rfl (by unfold eMore; rw [if_pos c12, decide_eq_true (Int32.not_le.mp c48)]; rfl)
  · refine lv_aload_n hx hb dX1_isWorthMore_15 rfl (lv_at hl 0 rfl) ?_
    refine va_get (D := (dC, dI)) (ci := 1) (v := .ref e3) (C := RX1) (T := TX1) (N := 7) hx hb hts inX1 hown hK hP 0 rfl rfl 2 (by decide) (hts _ mw76) (fun _ h9 => h9) rfl dX1_isWorthMore_16 ?_
    refine lv_iload_n hx hb dX1_isWorthMore_19 rfl (lv_at hl 1 rfl) ?_
    refine n_iald hx hb hK hP 3 0 rfl rfl (k := a) rfl ha (by omega) dX1_isWorthMore_20 ?_
    refine lv_aload_n hx hb dX1_isWorthMore_21 rfl (lv_at hl 0 rfl) ?_
    refine va_get (D := (dC, dI)) (ci := 1) (v := .ref e3) (C := RX1) (T := TX1) (N := 7) hx hb hts inX1 hown hK hP 0 rfl rfl 2 (by decide) (hts _ mw76) (fun _ h9 => h9) rfl dX1_isWorthMore_22 ?_
    refine lv_iload_n hx hb dX1_isWorthMore_25 rfl (lv_at hl 2 rfl) ?_
    refine n_iald hx hb hK hP 3 0 rfl rfl (k := b) rfl hb9 (by omega) dX1_isWorthMore_26 ?_
    refine lv_icmp_le (tgt := 34) hx hb dX1_isWorthMore_27 (by decide) (fun c27 => ?_) (fun c27 => ?_)
    · refine lv_iconst (v := 0) hx hb dX1_isWorthMore_34 (by decide) ?_
      exact rd_iret hx hb hr hlocks dX1_isWorthMore_35 rfl (by unfold eMore; rw [if_neg c12, decide_eq_false (Int32.not_lt.mpr c27)]; rfl)
    · refine lv_iconst (v := 1) hx hb dX1_isWorthMore_30 (by decide) ?_
      refine lv_goto (tgt := 35) hx hb dX1_isWorthMore_31 (by decide) ?_
      exact rd_iret hx hb hr hlocks dX1_isWorthMore_35 rfl (by unfold eMore; rw [if_neg c12, decide_eq_true (Int32.not_le.mp c27)]; rfl)

set_option maxHeartbeats 4000000 in
set_option maxRecDepth 100000 in
/-- Buckets.indexOf -/
theorem c_X0_indexOf (l : Launch) (dC : Nat → ClassId) (dI : Nat → Nat → Nat) (cI cL : ClassId) (b0 b1 : Nat) (held : Nat → Int32) (bn : Nat) (wy stt : Int32) (hh : Int64) (hbn : bn ≤ 16) : Met l yX0_indexOf wsX0_indexOf ({ frames := 0, cells := 0, slots := 0, locals := 0 }) (rd_P (dC, dI) vwCl [(cI, .int), (cL, .long)] [(b0, .inr (0, [.ref b1, .int (nI bn), .int wy, .int stt])), (b1, .inl (cI, 16, .inl held))] [.ref b0, .long hh]) (rd_Q (some (.int (bIndex bn hh)))) 0 0 (fun _ => False) := by
  refine Met.ofW (cc := cX0_indexOf) (maxL := 3) (ret := some .int) (by decide) rfl ?_
  intro p e s m args below meth c s₁ B hml hv
  obtain ⟨rfl, hP, hK⟩ := hv
  have hx := B.exec
  have hb := B.bytes
  have hr := B.returns
  have hts := fun w h => atoms_spec (ws := wsX0_indexOf) B.pre w (List.mem_cons_of_mem _ h)
  have hown : s.vm.findClass RX0 = some m.cls := findClass_of_methodNamed B.named
  have hlocks := B.notSynchronized
  have hl := lv_entry ([.ref b0, .long hh]) (n := 3) (Nat.le_of_ble_eq_true rfl)
  rw [lg_entry_eq]
  generalize (lg_sl ([.ref b0, .long hh]) ++ List.replicate (3 - (lg_sl ([.ref b0, .long hh])).length) Slot.unset).toArray = ls at hl ⊢
  have hl : lv_has ls 3 [(0, .ref b0), (1, .long hh)] := hl
  refine lv_aload_n hx hb dX0_indexOf_0 rfl (lv_at hl 0 rfl) ?_
  refine va_get (D := (dC, dI)) (ci := 0) (v := .int (nI bn)) (C := RX0) (T := TX0) (N := 4) hx hb hts inX0 hown hK hP 0 rfl rfl 1 (by decide) (hts _ mw108) (fun _ h9 => h9) rfl dX0_indexOf_1 ?_
  refine lv_if_ne (tgt := 11) hx hb dX0_indexOf_4 (by decide) (fun c4 => ?_) (fun c4 => ?_)
  · refine lv_lload_n hx hb dX0_indexOf_11 rfl (lv_at hl 1 rfl) ?_
    refine lv_aload_n hx hb dX0_indexOf_12 rfl (lv_at hl 0 rfl) ?_
    refine va_get (D := (dC, dI)) (ci := 0) (v := .int (nI bn)) (C := RX0) (T := TX0) (N := 4) hx hb hts inX0 hown hK hP 0 rfl rfl 1 (by decide) (hts _ mw108) (fun _ h9 => h9) rfl dX0_indexOf_13 ?_
    refine lv_iconst (v := 1) hx hb dX0_indexOf_16 (by decide) ?_
    refine lv_isub hx hb dX0_indexOf_17 ?_
    refine lv_i2l (v := ((nI bn) - 1).toInt64) hx hb dX0_indexOf_18 rfl ?_
    refine lv_land hx hb dX0_indexOf_19 ?_
    refine lv_l2i (v := (hh &&& (((nI bn) - 1).toInt64)).toInt32) hx hb dX0_indexOf_20 rfl ?_
    exact rd_iret hx hb hr hlocks dX0_indexOf_21 rfl (by unfold bIndex; rw [if_neg (fun z => c4 (by rw [z]; rfl))])
  · refine lv_iconst (v := (-1)) hx hb dX0_indexOf_7 (by decide) ?_
    refine lv_goto (tgt := 21) hx hb dX0_indexOf_8 (by decide) ?_
    exact rd_iret hx hb hr hlocks dX0_indexOf_21 rfl (by unfold bIndex; rw [if_pos (n_nI0 (by omega) c4)])

set_option maxHeartbeats 4000000 in
set_option maxRecDepth 100000 in
/-- Buckets.isOne -/
theorem c_X0_isOne (l : Launch) (dC : Nat → ClassId) (dI : Nat → Nat → Nat) (cI cL : ClassId) (b0 b1 : Nat) (held : Nat → Int32) (bn : Nat) (wy stt : Int32) (b : Int32) : Met l yX0_isOne wsX0_isOne ({ frames := 0, cells := 0, slots := 0, locals := 0 }) (rd_P (dC, dI) vwCl [(cI, .int), (cL, .long)] [(b0, .inr (0, [.ref b1, .int (nI bn), .int wy, .int stt])), (b1, .inl (cI, 16, .inl held))] [.ref b0, .int b]) (rd_Q (some (.int (bI (bOne bn b))))) 0 0 (fun _ => False) := by
  refine Met.ofW (cc := cX0_isOne) (maxL := 2) (ret := some .boolean) (by decide) rfl ?_
  intro p e s m args below meth c s₁ B hml hv
  obtain ⟨rfl, hP, hK⟩ := hv
  have hx := B.exec
  have hb := B.bytes
  have hr := B.returns
  have hts := fun w h => atoms_spec (ws := wsX0_isOne) B.pre w (List.mem_cons_of_mem _ h)
  have hown : s.vm.findClass RX0 = some m.cls := findClass_of_methodNamed B.named
  have hlocks := B.notSynchronized
  have hl := lv_entry ([.ref b0, .int b]) (n := 2) (Nat.le_of_ble_eq_true rfl)
  rw [lg_entry_eq]
  generalize (lg_sl ([.ref b0, .int b]) ++ List.replicate (2 - (lg_sl ([.ref b0, .int b])).length) Slot.unset).toArray = ls at hl ⊢
  have hl : lv_has ls 2 [(0, .ref b0), (1, .int b)] := hl
  refine lv_iload_n hx hb dX0_isOne_0 rfl (lv_at hl 1 rfl) ?_
  refine lv_if_lt (tgt := 16) hx hb dX0_isOne_1 (by decide) (fun c1 => ?_) (fun c1 => ?_)
  · refine lv_iconst (v := 0) hx hb dX0_isOne_16 (by decide) ?_
    exact rd_iret hx hb hr hlocks dX0_isOne_17 rfl (by unfold bOne; rw [decide_eq_false (Int32.not_le.mpr c1)]; rfl)
  · refine lv_iload_n hx hb dX0_isOne_4 rfl (lv_at hl 1 rfl) ?_
    refine lv_aload_n hx hb dX0_isOne_5 rfl (lv_at hl 0 rfl) ?_
    refine va_get (D := (dC, dI)) (ci := 0) (v := .int (nI bn)) (C := RX0) (T := TX0) (N := 4) hx hb hts inX0 hown hK hP 0 rfl rfl 1 (by decide) (hts _ mw108) (fun _ h9 => h9) rfl dX0_isOne_6 ?_
    refine lv_icmp_ge (tgt := 16) hx hb dX0_isOne_9 (by decide) (fun c9 => ?_) (fun c9 => ?_)
    · refine lv_iconst (v := 0) hx hb dX0_isOne_16 (by decide) ?_
      exact rd_iret hx hb hr hlocks dX0_isOne_17 rfl (by unfold bOne; rw [decide_eq_false (Int32.not_lt.mpr c9), Bool.and_false]; rfl)
    · refine lv_iconst (v := 1) hx hb dX0_isOne_12 (by decide) ?_
      refine lv_goto (tgt := 17) hx hb dX0_isOne_13 (by decide) ?_
      exact rd_iret hx hb hr hlocks dX0_isOne_17 rfl (by unfold bOne; rw [decide_eq_true (Int32.not_lt.mp c1), decide_eq_true (Int32.not_le.mp c9)]; rfl)

set_option maxHeartbeats 4000000 in
set_option maxRecDepth 100000 in
/-- Buckets.above -/
theorem c_X0_above (l : Launch) (dC : Nat → ClassId) (dI : Nat → Nat → Nat) (cI cL : ClassId) (b0 b1 : Nat) (held : Nat → Int32) (bn : Nat) (wy stt : Int32) (hbn : bn ≤ 16) : Met l yX0_above wsX0_above ({ frames := 1, cells := 0, slots := 0, locals := 16 }) (rd_P (dC, dI) vwCl [(cI, .int), (cL, .long)] [(b0, .inr (0, [.ref b1, .int (nI bn), .int wy, .int stt])), (b1, .inl (cI, 16, .inl held))] [.ref b0]) (rd_Q (some (.int (bAbove held wy 0 0 bn)))) 0 0 (fun _ => False) := by
  refine Met.ofW (cc := cX0_above) (maxL := 3) (ret := some .int) (by decide) rfl ?_
  intro p e s m args below meth c s₁ B hml hv
  obtain ⟨rfl, hP, hK⟩ := hv
  have hx := B.exec
  have hb := B.bytes
  have hr := B.returns
  have hts := fun w h => atoms_spec (ws := wsX0_above) B.pre w (List.mem_cons_of_mem _ h)
  have hown : s.vm.findClass RX0 = some m.cls := findClass_of_methodNamed B.named
  have hlocks := B.notSynchronized
  have hl := lv_entry ([.ref b0]) (n := 3) (Nat.le_of_ble_eq_true rfl)
  rw [lg_entry_eq]
  generalize (lg_sl ([.ref b0]) ++ List.replicate (3 - (lg_sl ([.ref b0])).length) Slot.unset).toArray = ls at hl ⊢
  have hl : lv_has ls 3 [(0, .ref b0)] := hl
  refine lv_iconst (v := 0) hx hb dX0_above_0 (by decide) ?_
  refine lv_istore_n (lv' := [(1, .int 0), (0, .ref b0)]) hx hb dX0_above_1 rfl hl (by decide) rfl (fun ls hl => ?_)
  refine lv_iconst (v := (nI 0)) hx hb dX0_above_2 (by decide) ?_
  refine lv_istore_n (lv' := [(2, .int (nI 0)), (1, .int 0), (0, .ref b0)]) hx hb dX0_above_3 rfl hl (by decide) rfl (fun ls hl => ?_)
  have loop : ∀ (n i : Nat) (a : Int32), i + n = bn → ∀ ls : Array Slot, lv_has ls 3 [(2, .int (nI i)), (1, .int a), (0, .ref b0)] → W p l e (headSpec wsX0_above ({ frames := 1, cells := 0, slots := 0, locals := 16 })).room s m ([.ref b0]).toArray below meth c s.heap [] 0 0 (MQ below (rd_Q (some (.int (bAbove held wy a i n)))) ([.ref b0]).toArray s 0 0 (fun _ => False)) (F0 m 4 ls []) := by
    intro n
    induction n with
    | zero =>
      intro i a hi ls hl
      refine lv_iload_n hx hb dX0_above_4 rfl (lv_at hl 0 rfl) ?_
      refine lv_aload_n hx hb dX0_above_5 rfl (lv_at hl 2 rfl) ?_
      refine va_get (D := (dC, dI)) (ci := 0) (v := .int (nI bn)) (C := RX0) (T := TX0) (N := 4) hx hb hts inX0 hown hK hP 0 rfl rfl 1 (by decide) (hts _ mw108) (fun _ h9 => h9) rfl dX0_above_6 ?_
      refine n_ige i bn (tgt := 36) (hexec := hx) (hb := hb) dX0_above_9 (by decide) rfl rfl (by omega) (by omega) (fun c9 => ?_) (fun c9 => absurd c9 (by omega))
      refine lv_iload_n hx hb dX0_above_36 rfl (lv_at hl 1 rfl) ?_
      exact rd_iret hx hb hr hlocks dX0_above_37 rfl (rfl)
    | succ n ih =>
      intro i a hi ls hl
      refine lv_iload_n hx hb dX0_above_4 rfl (lv_at hl 0 rfl) ?_
      refine lv_aload_n hx hb dX0_above_5 rfl (lv_at hl 2 rfl) ?_
      refine va_get (D := (dC, dI)) (ci := 0) (v := .int (nI bn)) (C := RX0) (T := TX0) (N := 4) hx hb hts inX0 hown hK hP 0 rfl rfl 1 (by decide) (hts _ mw108) (fun _ h9 => h9) rfl dX0_above_6 ?_
      refine n_ige i bn (tgt := 36) (hexec := hx) (hb := hb) dX0_above_9 (by decide) rfl rfl (by omega) (by omega) (fun c9 => absurd c9 (by omega)) (fun c9 => ?_)
      refine lv_iload_n hx hb dX0_above_12 rfl (lv_at hl 1 rfl) ?_
      refine lv_iconst (v := 0) hx hb dX0_above_13 (by decide) ?_
      refine lv_aload_n hx hb dX0_above_14 rfl (lv_at hl 2 rfl) ?_
      refine va_get (D := (dC, dI)) (ci := 0) (v := .ref b1) (C := RX0) (T := TX0) (N := 4) hx hb hts inX0 hown hK hP 0 rfl rfl 0 (by decide) (hts _ mw107) (fun _ h9 => h9) rfl dX0_above_15 ?_
      refine lv_iload_n hx hb dX0_above_18 rfl (lv_at hl 0 rfl) ?_
      refine n_iald hx hb hK hP 1 0 rfl rfl (k := i) rfl (by omega) (by omega) dX0_above_19 ?_
      refine lv_aload_n hx hb dX0_above_20 rfl (lv_at hl 2 rfl) ?_
      refine va_get (D := (dC, dI)) (ci := 0) (v := .int wy) (C := RX0) (T := TX0) (N := 4) hx hb hts inX0 hown hK hP 0 rfl rfl 2 (by decide) (hts _ mw109) (fun _ h9 => h9) rfl dX0_above_21 ?_
      refine lv_isub hx hb dX0_above_24 ?_
      refine va_mmax hx hb (hml.trans hl.1.symm) hown (hts _ mw183) (hts _ mw184) (hts _ mw35) (hts _ mw185) (Nat.le_of_ble_eq_true rfl) (Nat.le_of_ble_eq_true rfl) (Nat.zero_le _) (Nat.zero_le _) dX0_above_25 ?_
      refine lv_iadd hx hb dX0_above_28 ?_
      refine lv_istore_n (lv' := [(1, .int (a + (if 0 < held i - wy then held i - wy else 0))), (2, .int (nI i)), (0, .ref b0)]) hx hb dX0_above_29 rfl hl (by decide) rfl (fun ls hl => ?_)
      refine lv_iinc (v := nI (i + 1)) (lv' := [(2, .int (nI (i + 1))), (1, .int (a + (if 0 < held i - wy then held i - wy else 0))), (0, .ref b0)]) hx hb dX0_above_30 hl (k := 1) rfl (nI_1 i) (by decide) rfl (fun ls hl => ?_)
      refine lv_goto (tgt := 4) hx hb dX0_above_33 (by decide) ?_
      exact ih (i + 1) (a + (if 0 < held i - wy then held i - wy else 0)) (by omega) ls (lv_sub hl [0, 1, 2] rfl)
  exact loop bn 0 0 (by omega) ls (lv_sub hl [0, 1, 2] rfl)

set_option maxHeartbeats 4000000 in
set_option maxRecDepth 100000 in
/-- Buckets.haveRoom -/
theorem c_X0_haveRoom (l : Launch) (dC : Nat → ClassId) (dI : Nat → Nat → Nat) (cI cL : ClassId) (b0 b1 : Nat) (held : Nat → Int32) (bn : Nat) (wy stt : Int32) (b : Int32) (hbn : bn ≤ 16) : Met l yX0_haveRoom wsX0_haveRoom ({ frames := 2, cells := 0, slots := 0, locals := 38 }) (rd_P (dC, dI) vwCl [(cI, .int), (cL, .long)] [(b0, .inr (0, [.ref b1, .int (nI bn), .int wy, .int stt])), (b1, .inl (cI, 16, .inl held))] [.ref b0, .int b]) (rd_Q (some (.int (bI (bRoom held bn wy stt b))))) 0 0 (fun _ => False) := by
  refine Met.ofW (cc := cX0_haveRoom) (maxL := 2) (ret := some .boolean) (by decide) rfl ?_
  intro p e s m args below meth c s₁ B hml hv
  obtain ⟨rfl, hP, hK⟩ := hv
  have hx := B.exec
  have hb := B.bytes
  have hr := B.returns
  have hts := fun w h => atoms_spec (ws := wsX0_haveRoom) B.pre w (List.mem_cons_of_mem _ h)
  have hown : s.vm.findClass RX0 = some m.cls := findClass_of_methodNamed B.named
  have hlocks := B.notSynchronized
  have hl := lv_entry ([.ref b0, .int b]) (n := 2) (Nat.le_of_ble_eq_true rfl)
  rw [lg_entry_eq]
  generalize (lg_sl ([.ref b0, .int b]) ++ List.replicate (2 - (lg_sl ([.ref b0, .int b])).length) Slot.unset).toArray = ls at hl ⊢
  have hl : lv_has ls 2 [(0, .ref b0), (1, .int b)] := hl
  refine lv_aload_n hx hb dX0_haveRoom_0 rfl (lv_at hl 0 rfl) ?_
  refine lv_iload_n hx hb dX0_haveRoom_1 rfl (lv_at hl 1 rfl) ?_
  refine rd_calli (r := (bI (bOne bn b))) (va_runV (As := [.int b]) (rest := []) ⟨hx, hb, hml, hown, hts⟩ (c_X0_isOne l dC dI cI cL b0 b1 held bn wy stt b) (cwV 1 hts (gV mw390 mw391 mw392 mw25 mw393) rfl rfl rfl (by decide +kernel) ⟨Nat.le_of_ble_eq_true rfl, Nat.le_of_ble_eq_true rfl⟩) (rd_preV (hP.sub (ws' := [(b0, .inr (0, [.ref b1, .int (nI bn), .int wy, .int stt])), (b1, .inl (cI, 16, .inl held))]) [0, 1] rfl) hK (va_recv (ci := 0) hK hP rfl (q0 := 0) rfl)) rfl rfl hl.1 rfl (lv_room (Nat.le_of_ble_eq_true rfl)) dX0_haveRoom_2 ⟨Nat.zero_le _, Nat.zero_le _⟩) ?_
  refine lv_if_eq (tgt := 36) hx hb dX0_haveRoom_5 (by decide) (fun c5 => ?_) (fun c5 => ?_)
  · refine lv_iconst (v := 0) hx hb dX0_haveRoom_36 (by decide) ?_
    exact rd_iret hx hb hr hlocks dX0_haveRoom_37 rfl (by unfold bRoom; rw [bI_eq c5]; rfl)
  · obtain ⟨j, hj, ej⟩ := bOne_of hbn (bI_ne c5)
    have ec : b.toNatClampNeg = j := by rw [ej]; exact nI_clamp (by omega)
    refine lv_aload_n hx hb dX0_haveRoom_8 rfl (lv_at hl 0 rfl) ?_
    refine va_get (D := (dC, dI)) (ci := 0) (v := .ref b1) (C := RX0) (T := TX0) (N := 4) hx hb hts inX0 hown hK hP 0 rfl rfl 0 (by decide) (hts _ mw107) (fun _ h9 => h9) rfl dX0_haveRoom_9 ?_
    refine lv_iload_n hx hb dX0_haveRoom_12 rfl (lv_at hl 1 rfl) ?_
    refine n_iald hx hb hK hP 1 0 rfl rfl (k := j) ej (by omega) (by omega) dX0_haveRoom_13 ?_
    refine lv_aload_n hx hb dX0_haveRoom_14 rfl (lv_at hl 0 rfl) ?_
    refine va_get (D := (dC, dI)) (ci := 0) (v := .int wy) (C := RX0) (T := TX0) (N := 4) hx hb hts inX0 hown hK hP 0 rfl rfl 2 (by decide) (hts _ mw109) (fun _ h9 => h9) rfl dX0_haveRoom_15 ?_
    refine lv_icmp_lt (tgt := 32) hx hb dX0_haveRoom_18 (by decide) (fun c18 => ?_) (fun c18 => ?_)
    · refine lv_iconst (v := 1) hx hb dX0_haveRoom_32 (by decide) ?_
      refine lv_goto (tgt := 37) hx hb dX0_haveRoom_33 (by decide) ?_
      exact rd_iret hx hb hr hlocks dX0_haveRoom_37 rfl (by unfold bRoom; rw [bI_ne c5, ec, decide_eq_true c18]; rfl)
    · refine lv_aload_n hx hb dX0_haveRoom_21 rfl (lv_at hl 0 rfl) ?_
      refine rd_calli (r := (bAbove held wy 0 0 bn)) (va_runV (As := []) (rest := []) ⟨hx, hb, hml, hown, hts⟩ (c_X0_above l dC dI cI cL b0 b1 held bn wy stt hbn) (cwV 0 hts (gV mw394 mw180 mw181 mw25 mw182) rfl rfl rfl (by decide +kernel) ⟨Nat.le_of_ble_eq_true rfl, Nat.le_of_ble_eq_true rfl⟩) (rd_preV (hP.sub (ws' := [(b0, .inr (0, [.ref b1, .int (nI bn), .int wy, .int stt])), (b1, .inl (cI, 16, .inl held))]) [0, 1] rfl) hK (va_recv (ci := 0) hK hP rfl (q0 := 0) rfl)) rfl rfl hl.1 rfl (lv_room (Nat.le_of_ble_eq_true rfl)) dX0_haveRoom_22 ⟨Nat.zero_le _, Nat.zero_le _⟩) ?_
      refine lv_aload_n hx hb dX0_haveRoom_25 rfl (lv_at hl 0 rfl) ?_
      refine va_get (D := (dC, dI)) (ci := 0) (v := .int stt) (C := RX0) (T := TX0) (N := 4) hx hb hts inX0 hown hK hP 0 rfl rfl 3 (by decide) (hts _ mw110) (fun _ h9 => h9) rfl dX0_haveRoom_26 ?_
      refine lv_icmp_ge (tgt := 36) hx hb dX0_haveRoom_29 (by decide) (fun c29 => ?_) (fun c29 => ?_)
      · refine lv_iconst (v := 0) hx hb dX0_haveRoom_36 (by decide) ?_
        exact rd_iret hx hb hr hlocks dX0_haveRoom_37 rfl (by unfold bRoom; rw [ec, decide_eq_false c18, decide_eq_false (Int32.not_lt.mpr c29), Bool.or_false, Bool.and_false]; rfl)
      · refine lv_iconst (v := 1) hx hb dX0_haveRoom_32 (by decide) ?_
        refine lv_goto (tgt := 37) hx hb dX0_haveRoom_33 (by decide) ?_
        exact rd_iret hx hb hr hlocks dX0_haveRoom_37 rfl (by unfold bRoom; rw [bI_ne c5, decide_eq_true (Int32.not_le.mp c29), Bool.or_true]; rfl)

set_option maxHeartbeats 4000000 in
set_option maxRecDepth 100000 in
/-- Buckets.fill -/
theorem c_X0_fill (l : Launch) (dC : Nat → ClassId) (dI : Nat → Nat → Nat) (cI cL : ClassId) (b0 b1 : Nat) (held : Nat → Int32) (bn : Nat) (wy stt : Int32) (b : Int32) (hbn : bn ≤ 16) : Met l yX0_fill wsX0_fill ({ frames := 1, cells := 0, slots := 0, locals := 21 }) (wr_P (dC, dI) vwCl [(cI, .int), (cL, .long)] [(b0, .inr (0, [.ref b1, .int (nI bn), .int wy, .int stt])), (b1, .inl (cI, 16, .inl held))] [.ref b0, .int b]) (wr_Q (dC, dI) vwCl none [(b0, .inr (0, [.ref b1, .int (nI bn), .int wy, .int stt])), (b1, .inl (cI, 16, .inl held))] [(b0, .inr (0, [.ref b1, .int (nI bn), .int wy, .int stt])), (b1, .inl (cI, 16, .inl (fillB held bn b 1)))]) 0 0 (wr_I [(b0, .inr (0, [.ref b1, .int (nI bn), .int wy, .int stt])), (b1, .inl (cI, 16, .inl held))]) := by
  refine Met.ofW (cc := cX0_fill) (maxL := 2) (ret := none) (by decide) rfl ?_
  intro p e s m args below meth c s₁ B hml hv
  obtain ⟨rfl, hP, hK, hD0⟩ := hv
  have hx := B.exec
  have hb := B.bytes
  have hr := B.returns
  have hts := fun w h => atoms_spec (ws := wsX0_fill) B.pre w (List.mem_cons_of_mem _ h)
  have hown : s.vm.findClass RX0 = some m.cls := findClass_of_methodNamed B.named
  have hlocks := B.notSynchronized
  have hD := wr_self hD0
  have hS : va_S (wr_I [(b0, .inr (0, [.ref b1, .int (nI bn), .int wy, .int stt])), (b1, .inl (cI, 16, .inl held))]) s.heap s.heap [] := va_S.rf
  have hl := lv_entry ([.ref b0, .int b]) (n := 2) (Nat.le_of_ble_eq_true rfl)
  rw [lg_entry_eq]
  generalize (lg_sl ([.ref b0, .int b]) ++ List.replicate (2 - (lg_sl ([.ref b0, .int b])).length) Slot.unset).toArray = ls at hl ⊢
  have hl : lv_has ls 2 [(0, .ref b0), (1, .int b)] := hl
  refine lv_aload_n hx hb dX0_fill_0 rfl (lv_at hl 0 rfl) ?_
  refine lv_iload_n hx hb dX0_fill_1 rfl (lv_at hl 1 rfl) ?_
  refine rd_calli (r := (bI (bOne bn b))) (va_runV (As := [.int b]) (rest := []) ⟨hx, hb, hml, hown, hts⟩ (c_X0_isOne l dC dI cI cL b0 b1 held bn wy stt b) (cwV 1 hts (gV mw390 mw391 mw392 mw25 mw393) rfl rfl rfl (by decide +kernel) ⟨Nat.le_of_ble_eq_true rfl, Nat.le_of_ble_eq_true rfl⟩) (rd_preV (hP.sub (ws' := [(b0, .inr (0, [.ref b1, .int (nI bn), .int wy, .int stt])), (b1, .inl (cI, 16, .inl held))]) [0, 1] rfl) hK (va_recv (ci := 0) hK hP rfl (q0 := 0) rfl)) rfl rfl hl.1 rfl (lv_room (Nat.le_of_ble_eq_true rfl)) dX0_fill_2 ⟨Nat.zero_le _, Nat.zero_le _⟩) ?_
  refine lv_if_eq (tgt := 18) hx hb dX0_fill_5 (by decide) (fun c5 => ?_) (fun c5 => ?_)
  · have e9 : fillB held bn b 1 = held := by unfold fillB; rw [bI_eq c5]; rfl
    rw [e9]
    exact wr_vret hx hb hr hlocks hP hS dX0_fill_18
  · obtain ⟨j, hj, ej⟩ := bOne_of hbn (bI_ne c5)
    have ec : b.toNatClampNeg = j := by rw [ej]; exact nI_clamp (by omega)
    refine lv_aload_n hx hb dX0_fill_8 rfl (lv_at hl 0 rfl) ?_
    refine va_get (D := (dC, dI)) (ci := 0) (v := .ref b1) (C := RX0) (T := TX0) (N := 4) hx hb hts inX0 hown hK hP 0 rfl rfl 0 (by decide) (hts _ mw107) (fun _ h9 => h9) rfl dX0_fill_9 ?_
    refine lv_iload_n hx hb dX0_fill_12 rfl (lv_at hl 1 rfl) ?_
    refine lv_dup2_11 hx hb dX0_fill_13 rfl rfl ?_
    refine n_iald hx hb hK hP 1 0 rfl rfl (k := j) ej (by omega) (by omega) dX0_fill_14 ?_
    refine lv_iconst (v := 1) hx hb dX0_fill_15 (by decide) ?_
    refine lv_iadd hx hb dX0_fill_16 ?_
    refine n_iast (ws' := [(b0, .inr (0, [.ref b1, .int (nI bn), .int wy, .int stt])), (b1, .inl (cI, 16, .inl (upd held j ((held j) + 1))))]) hx hb hK hP hD hS 1 0 rfl rfl (k := j) ej (by omega) (by omega) dX0_fill_17 rfl (fun H locs hP hD hS => ?_)
    have e9 : fillB held bn b 1 = upd held j (held j + 1) := by unfold fillB; rw [bI_ne c5, ec]; rfl
    rw [e9]
    exact wr_vret hx hb hr hlocks hP hS dX0_fill_18

set_option maxHeartbeats 4000000 in
set_option maxRecDepth 100000 in
/-- Buckets.empty -/
theorem c_X0_empty (l : Launch) (dC : Nat → ClassId) (dI : Nat → Nat → Nat) (cI cL : ClassId) (b0 b1 : Nat) (held : Nat → Int32) (bn : Nat) (wy stt : Int32) (b : Int32) (hbn : bn ≤ 16) : Met l yX0_empty wsX0_empty ({ frames := 1, cells := 0, slots := 0, locals := 21 }) (wr_P (dC, dI) vwCl [(cI, .int), (cL, .long)] [(b0, .inr (0, [.ref b1, .int (nI bn), .int wy, .int stt])), (b1, .inl (cI, 16, .inl held))] [.ref b0, .int b]) (wr_Q (dC, dI) vwCl none [(b0, .inr (0, [.ref b1, .int (nI bn), .int wy, .int stt])), (b1, .inl (cI, 16, .inl held))] [(b0, .inr (0, [.ref b1, .int (nI bn), .int wy, .int stt])), (b1, .inl (cI, 16, .inl (fillB held bn b (-1))))]) 0 0 (wr_I [(b0, .inr (0, [.ref b1, .int (nI bn), .int wy, .int stt])), (b1, .inl (cI, 16, .inl held))]) := by
  refine Met.ofW (cc := cX0_empty) (maxL := 2) (ret := none) (by decide) rfl ?_
  intro p e s m args below meth c s₁ B hml hv
  obtain ⟨rfl, hP, hK, hD0⟩ := hv
  have hx := B.exec
  have hb := B.bytes
  have hr := B.returns
  have hts := fun w h => atoms_spec (ws := wsX0_empty) B.pre w (List.mem_cons_of_mem _ h)
  have hown : s.vm.findClass RX0 = some m.cls := findClass_of_methodNamed B.named
  have hlocks := B.notSynchronized
  have hD := wr_self hD0
  have hS : va_S (wr_I [(b0, .inr (0, [.ref b1, .int (nI bn), .int wy, .int stt])), (b1, .inl (cI, 16, .inl held))]) s.heap s.heap [] := va_S.rf
  have hl := lv_entry ([.ref b0, .int b]) (n := 2) (Nat.le_of_ble_eq_true rfl)
  rw [lg_entry_eq]
  generalize (lg_sl ([.ref b0, .int b]) ++ List.replicate (2 - (lg_sl ([.ref b0, .int b])).length) Slot.unset).toArray = ls at hl ⊢
  have hl : lv_has ls 2 [(0, .ref b0), (1, .int b)] := hl
  refine lv_aload_n hx hb dX0_empty_0 rfl (lv_at hl 0 rfl) ?_
  refine lv_iload_n hx hb dX0_empty_1 rfl (lv_at hl 1 rfl) ?_
  refine rd_calli (r := (bI (bOne bn b))) (va_runV (As := [.int b]) (rest := []) ⟨hx, hb, hml, hown, hts⟩ (c_X0_isOne l dC dI cI cL b0 b1 held bn wy stt b) (cwV 1 hts (gV mw390 mw391 mw392 mw25 mw393) rfl rfl rfl (by decide +kernel) ⟨Nat.le_of_ble_eq_true rfl, Nat.le_of_ble_eq_true rfl⟩) (rd_preV (hP.sub (ws' := [(b0, .inr (0, [.ref b1, .int (nI bn), .int wy, .int stt])), (b1, .inl (cI, 16, .inl held))]) [0, 1] rfl) hK (va_recv (ci := 0) hK hP rfl (q0 := 0) rfl)) rfl rfl hl.1 rfl (lv_room (Nat.le_of_ble_eq_true rfl)) dX0_empty_2 ⟨Nat.zero_le _, Nat.zero_le _⟩) ?_
  refine lv_if_eq (tgt := 18) hx hb dX0_empty_5 (by decide) (fun c5 => ?_) (fun c5 => ?_)
  · have e9 : fillB held bn b (-1) = held := by unfold fillB; rw [bI_eq c5]; rfl
    rw [e9]
    exact wr_vret hx hb hr hlocks hP hS dX0_empty_18
  · obtain ⟨j, hj, ej⟩ := bOne_of hbn (bI_ne c5)
    have ec : b.toNatClampNeg = j := by rw [ej]; exact nI_clamp (by omega)
    refine lv_aload_n hx hb dX0_empty_8 rfl (lv_at hl 0 rfl) ?_
    refine va_get (D := (dC, dI)) (ci := 0) (v := .ref b1) (C := RX0) (T := TX0) (N := 4) hx hb hts inX0 hown hK hP 0 rfl rfl 0 (by decide) (hts _ mw107) (fun _ h9 => h9) rfl dX0_empty_9 ?_
    refine lv_iload_n hx hb dX0_empty_12 rfl (lv_at hl 1 rfl) ?_
    refine lv_dup2_11 hx hb dX0_empty_13 rfl rfl ?_
    refine n_iald hx hb hK hP 1 0 rfl rfl (k := j) ej (by omega) (by omega) dX0_empty_14 ?_
    refine lv_iconst (v := 1) hx hb dX0_empty_15 (by decide) ?_
    refine lv_isub hx hb dX0_empty_16 ?_
    refine n_iast (ws' := [(b0, .inr (0, [.ref b1, .int (nI bn), .int wy, .int stt])), (b1, .inl (cI, 16, .inl (upd held j ((held j) - 1))))]) hx hb hK hP hD hS 1 0 rfl rfl (k := j) ej (by omega) (by omega) dX0_empty_17 rfl (fun H locs hP hD hS => ?_)
    have e9 : fillB held bn b (-1) = upd held j (held j - 1) := by unfold fillB; rw [bI_ne c5, ec, Int32.sub_eq_add_neg]; rfl
    rw [e9]
    exact wr_vret hx hb hr hlocks hP hS dX0_empty_18
