/-! jdk -/
set_option maxHeartbeats 4000000 in
set_option maxRecDepth 100000 in
/-- Arrays.fill -/
theorem c_J7_fillI (l : Launch) (dC : Nat → ClassId) (dI : Nat → Nat → Nat) (cI cL : ClassId) (a cnt : Nat) (f : Nat → Int32) (v : Int32) (hn : cnt < 2147483648) : Met l yJ7_fillI wsJ7_fillI ({ frames := 0, cells := 0, slots := 0, locals := 0 }) (wr_P (dC, dI) vwCl [(cI, .int), (cL, .long)] [(a, .inl (cI, cnt, .inl f))] [.ref a, .int v]) (wr_Q (dC, dI) vwCl none [(a, .inl (cI, cnt, .inl f))] [(a, .inl (cI, cnt, .inl (fillI v f 0 cnt)))]) 0 0 (wr_I [(a, .inl (cI, cnt, .inl f))]) := by
  refine Met.ofW (cc := cJ7_fillI) (maxL := 4) (ret := none) (by decide) rfl ?_
  intro p e s m args below meth c s₁ B hml hv
  obtain ⟨rfl, hP, hK, hD0⟩ := hv
  have hx := B.exec
  have hb := B.bytes
  have hr := B.returns
  have hts := fun w h => atoms_spec (ws := wsJ7_fillI) B.pre w (List.mem_cons_of_mem _ h)
  have hown : s.vm.findClass RJ7 = some m.cls := findClass_of_methodNamed B.named
  have hlocks := B.notSynchronized
  have hD := wr_self hD0
  have hS : va_S (wr_I [(a, .inl (cI, cnt, .inl f))]) s.heap s.heap [] := va_S.rf
  have hl := lv_entry ([.ref a, .int v]) (n := 4) (Nat.le_of_ble_eq_true rfl)
  rw [lg_entry_eq]
  generalize (lg_sl ([.ref a, .int v]) ++ List.replicate (4 - (lg_sl ([.ref a, .int v])).length) Slot.unset).toArray = ls at hl ⊢
  have hl : lv_has ls 4 [(0, .ref a), (1, .int v)] := hl
  refine lv_iconst (v := (nI 0)) hx hb dJ7_fillI_0 (by decide) ?_
  refine lv_istore_n (lv' := [(2, .int (nI 0)), (0, .ref a), (1, .int v)]) hx hb dJ7_fillI_1 rfl hl (by decide) rfl (fun ls hl => ?_)
  refine lv_aload_n hx hb dJ7_fillI_2 rfl (lv_at hl 1 rfl) ?_
  refine va_alen (v := nI cnt) hx hb hK hP 0 0 rfl rfl rfl dJ7_fillI_3 ?_
  refine lv_istore_n (lv' := [(3, .int (nI cnt)), (2, .int (nI 0)), (0, .ref a), (1, .int v)]) hx hb dJ7_fillI_4 rfl hl (by decide) rfl (fun ls hl => ?_)
  have loop : ∀ (n : Nat) (i : Nat) (f1 : Nat → Int32) (H : Heap) (locs : List Loc), i + n = cnt → va_P (dC, dI) vwCl [(a, .inl (cI, cnt, .inl f1))] H → va_D (wr_I [(a, .inl (cI, cnt, .inl f))]) [(a, .inl (cI, cnt, .inl f1))] → va_S (wr_I [(a, .inl (cI, cnt, .inl f))]) s.heap H locs → ∀ ls : Array Slot, lv_has ls 4 [(2, .int (nI i)), (3, .int (nI cnt)), (0, .ref a), (1, .int v)] → W p l e (headSpec wsJ7_fillI ({ frames := 0, cells := 0, slots := 0, locals := 0 })).room s m ([.ref a, .int v]).toArray below meth c H locs 0 0 (MQ below (wr_Q (dC, dI) vwCl none [(a, .inl (cI, cnt, .inl f))] [(a, .inl (cI, cnt, .inl (fillI v f1 i n)))]) ([.ref a, .int v]).toArray s 0 0 (wr_I [(a, .inl (cI, cnt, .inl f))])) (F0 m 5 ls []) := by
    intro n
    induction n with
    | zero =>
      intro i f1 H locs hi hP hD hS ls hl
      refine lv_iload_n hx hb dJ7_fillI_5 rfl (lv_at hl 0 rfl) ?_
      refine lv_iload_n hx hb dJ7_fillI_6 rfl (lv_at hl 1 rfl) ?_
      refine n_ige i cnt (tgt := 20) (hexec := hx) (hb := hb) dJ7_fillI_7 (by decide) rfl rfl (by omega) (by omega) (fun c7 => ?_) (fun c7 => absurd c7 (by omega))
      exact wr_vret hx hb hr hlocks hP hS dJ7_fillI_20
    | succ n ih =>
      intro i f1 H locs hi hP hD hS ls hl
      refine lv_iload_n hx hb dJ7_fillI_5 rfl (lv_at hl 0 rfl) ?_
      refine lv_iload_n hx hb dJ7_fillI_6 rfl (lv_at hl 1 rfl) ?_
      refine n_ige i cnt (tgt := 20) (hexec := hx) (hb := hb) dJ7_fillI_7 (by decide) rfl rfl (by omega) (by omega) (fun c7 => absurd c7 (by omega)) (fun c7 => ?_)
      refine lv_aload_n hx hb dJ7_fillI_10 rfl (lv_at hl 2 rfl) ?_
      refine lv_iload_n hx hb dJ7_fillI_11 rfl (lv_at hl 0 rfl) ?_
      refine lv_iload_n hx hb dJ7_fillI_12 rfl (lv_at hl 3 rfl) ?_
      refine n_iast (ws' := [(a, .inl (cI, cnt, .inl (upd f1 i v)))]) hx hb hK hP hD hS 0 0 rfl rfl (k := i) rfl (by omega) (by omega) dJ7_fillI_13 rfl (fun H locs hP hD hS => ?_)
      refine lv_iinc (v := nI (i + 1)) (lv' := [(2, .int (nI (i + 1))), (3, .int (nI cnt)), (0, .ref a), (1, .int v)]) hx hb dJ7_fillI_14 hl (k := 0) rfl (nI_1 i) (by decide) rfl (fun ls hl => ?_)
      refine lv_goto (tgt := 5) hx hb dJ7_fillI_17 (by decide) ?_
      exact ih (i + 1) _ _ _ (by omega) hP hD hS ls (lv_sub hl [0, 1, 2, 3] rfl)
  exact loop cnt 0 f _ _ (by omega) hP hD hS ls (lv_sub hl [1, 0, 2, 3] rfl)

set_option maxHeartbeats 4000000 in
set_option maxRecDepth 100000 in
/-- Arrays.fill -/
theorem c_J7_fillL (l : Launch) (dC : Nat → ClassId) (dI : Nat → Nat → Nat) (cI cL : ClassId) (a cnt : Nat) (f : Nat → Int64) (v : Int64) (hn : cnt < 2147483648) : Met l yJ7_fillL wsJ7_fillL ({ frames := 0, cells := 0, slots := 0, locals := 0 }) (wr_P (dC, dI) vwCl [(cI, .int), (cL, .long)] [(a, .inl (cL, cnt, .inr (.inl f)))] [.ref a, .long v]) (wr_Q (dC, dI) vwCl none [(a, .inl (cL, cnt, .inr (.inl f)))] [(a, .inl (cL, cnt, .inr (.inl (fillL v f 0 cnt))))]) 0 0 (wr_I [(a, .inl (cL, cnt, .inr (.inl f)))]) := by
  refine Met.ofW (cc := cJ7_fillL) (maxL := 5) (ret := none) (by decide) rfl ?_
  intro p e s m args below meth c s₁ B hml hv
  obtain ⟨rfl, hP, hK, hD0⟩ := hv
  have hx := B.exec
  have hb := B.bytes
  have hr := B.returns
  have hts := fun w h => atoms_spec (ws := wsJ7_fillL) B.pre w (List.mem_cons_of_mem _ h)
  have hown : s.vm.findClass RJ7 = some m.cls := findClass_of_methodNamed B.named
  have hlocks := B.notSynchronized
  have hD := wr_self hD0
  have hS : va_S (wr_I [(a, .inl (cL, cnt, .inr (.inl f)))]) s.heap s.heap [] := va_S.rf
  have hl := lv_entry ([.ref a, .long v]) (n := 5) (Nat.le_of_ble_eq_true rfl)
  rw [lg_entry_eq]
  generalize (lg_sl ([.ref a, .long v]) ++ List.replicate (5 - (lg_sl ([.ref a, .long v])).length) Slot.unset).toArray = ls at hl ⊢
  have hl : lv_has ls 5 [(0, .ref a), (1, .long v)] := hl
  refine lv_iconst (v := (nI 0)) hx hb dJ7_fillL_0 (by decide) ?_
  refine lv_istore_n (lv' := [(3, .int (nI 0)), (0, .ref a), (1, .long v)]) hx hb dJ7_fillL_1 rfl hl (by decide) rfl (fun ls hl => ?_)
  refine lv_aload_n hx hb dJ7_fillL_2 rfl (lv_at hl 1 rfl) ?_
  refine va_alen (v := nI cnt) hx hb hK hP 0 1 rfl rfl rfl dJ7_fillL_3 ?_
  refine lv_istore (lv' := [(4, .int (nI cnt)), (3, .int (nI 0)), (0, .ref a), (1, .long v)]) hx hb dJ7_fillL_4 hl (by decide) rfl (fun ls hl => ?_)
  have loop : ∀ (n : Nat) (i : Nat) (f1 : Nat → Int64) (H : Heap) (locs : List Loc), i + n = cnt → va_P (dC, dI) vwCl [(a, .inl (cL, cnt, .inr (.inl f1)))] H → va_D (wr_I [(a, .inl (cL, cnt, .inr (.inl f)))]) [(a, .inl (cL, cnt, .inr (.inl f1)))] → va_S (wr_I [(a, .inl (cL, cnt, .inr (.inl f)))]) s.heap H locs → ∀ ls : Array Slot, lv_has ls 5 [(3, .int (nI i)), (4, .int (nI cnt)), (0, .ref a), (1, .long v)] → W p l e (headSpec wsJ7_fillL ({ frames := 0, cells := 0, slots := 0, locals := 0 })).room s m ([.ref a, .long v]).toArray below meth c H locs 0 0 (MQ below (wr_Q (dC, dI) vwCl none [(a, .inl (cL, cnt, .inr (.inl f)))] [(a, .inl (cL, cnt, .inr (.inl (fillL v f1 i n))))]) ([.ref a, .long v]).toArray s 0 0 (wr_I [(a, .inl (cL, cnt, .inr (.inl f)))])) (F0 m 6 ls []) := by
    intro n
    induction n with
    | zero =>
      intro i f1 H locs hi hP hD hS ls hl
      refine lv_iload_n hx hb dJ7_fillL_6 rfl (lv_at hl 0 rfl) ?_
      refine lv_iload hx hb dJ7_fillL_7 (lv_at hl 1 rfl) ?_
      refine n_ige i cnt (tgt := 22) (hexec := hx) (hb := hb) dJ7_fillL_9 (by decide) rfl rfl (by omega) (by omega) (fun c9 => ?_) (fun c9 => absurd c9 (by omega))
      exact wr_vret hx hb hr hlocks hP hS dJ7_fillL_22
    | succ n ih =>
      intro i f1 H locs hi hP hD hS ls hl
      refine lv_iload_n hx hb dJ7_fillL_6 rfl (lv_at hl 0 rfl) ?_
      refine lv_iload hx hb dJ7_fillL_7 (lv_at hl 1 rfl) ?_
      refine n_ige i cnt (tgt := 22) (hexec := hx) (hb := hb) dJ7_fillL_9 (by decide) rfl rfl (by omega) (by omega) (fun c9 => absurd c9 (by omega)) (fun c9 => ?_)
      refine lv_aload_n hx hb dJ7_fillL_12 rfl (lv_at hl 2 rfl) ?_
      refine lv_iload_n hx hb dJ7_fillL_13 rfl (lv_at hl 0 rfl) ?_
      refine lv_lload_n hx hb dJ7_fillL_14 rfl (lv_at hl 3 rfl) ?_
      refine n_last (ws' := [(a, .inl (cL, cnt, .inr (.inl (vp_updL f1 i v))))]) hx hb hK hP hD hS 0 1 rfl rfl (k := i) rfl (by omega) (by omega) dJ7_fillL_15 rfl (fun H locs hP hD hS => ?_)
      refine lv_iinc (v := nI (i + 1)) (lv' := [(3, .int (nI (i + 1))), (4, .int (nI cnt)), (0, .ref a), (1, .long v)]) hx hb dJ7_fillL_16 hl (k := 0) rfl (nI_1 i) (by decide) rfl (fun ls hl => ?_)
      refine lv_goto (tgt := 6) hx hb dJ7_fillL_19 (by decide) ?_
      exact ih (i + 1) _ _ _ (by omega) hP hD hS ls (lv_sub hl [0, 1, 2, 3] rfl)
  exact loop cnt 0 f _ _ (by omega) hP hD hS ls (lv_sub hl [1, 0, 2, 3] rfl)

set_option maxHeartbeats 4000000 in
set_option maxRecDepth 100000 in
/-- Integer.bitCount -/
theorem c_J6_bitCount (l : Launch) (dC : Nat → ClassId) (dI : Nat → Nat → Nat) (cI cL : ClassId) (x : Int32) : Met l yJ6_bitCount wsJ6_bitCount ({ frames := 0, cells := 0, slots := 0, locals := 0 }) (rd_P (dC, dI) vwCl [(cI, .int), (cL, .long)] [] [.int x]) (rd_Q (some (.int (bc32 x)))) 0 0 (fun _ => False) := by
  refine Met.ofW (cc := cJ6_bitCount) (maxL := 1) (ret := some .int) (by decide) rfl ?_
  intro p e s m args below meth c s₁ B hml hv
  obtain ⟨rfl, hP, hK⟩ := hv
  have hx := B.exec
  have hb := B.bytes
  have hr := B.returns
  have hts := fun w h => atoms_spec (ws := wsJ6_bitCount) B.pre w (List.mem_cons_of_mem _ h)
  have hown : s.vm.findClass RJ6 = some m.cls := findClass_of_methodNamed B.named
  have hlocks := B.notSynchronized
  have hl := lv_entry ([.int x]) (n := 1) (Nat.le_of_ble_eq_true rfl)
  rw [lg_entry_eq]
  generalize (lg_sl ([.int x]) ++ List.replicate (1 - (lg_sl ([.int x])).length) Slot.unset).toArray = ls at hl ⊢
  have hl : lv_has ls 1 [(0, .int x)] := hl
  refine lv_iload_n hx hb dJ6_bitCount_0 rfl (lv_at hl 0 rfl) ?_
  refine lv_iload_n hx hb dJ6_bitCount_1 rfl (lv_at hl 0 rfl) ?_
  refine lv_iconst (v := 1) hx hb dJ6_bitCount_2 (by decide) ?_
  refine lv_iushr (v := iush x 1) hx hb dJ6_bitCount_3 rfl ?_
  refine lv_ldcw (v := 1431655765) hx hb hown (hts _ mw312) dJ6_bitCount_4 ?_
  refine lv_iand hx hb dJ6_bitCount_7 ?_
  refine lv_isub hx hb dJ6_bitCount_8 ?_
  refine lv_istore_n (lv' := [(0, .int (bi1 x))]) hx hb dJ6_bitCount_9 rfl hl (by decide) rfl (fun ls hl => ?_)
  refine lv_iload_n hx hb dJ6_bitCount_10 rfl (lv_at hl 0 rfl) ?_
  refine lv_ldcw (v := 858993459) hx hb hown (hts _ mw313) dJ6_bitCount_11 ?_
  refine lv_iand hx hb dJ6_bitCount_14 ?_
  refine lv_iload_n hx hb dJ6_bitCount_15 rfl (lv_at hl 0 rfl) ?_
  refine lv_iconst (v := 2) hx hb dJ6_bitCount_16 (by decide) ?_
  refine lv_iushr (v := iush (bi1 x) 2) hx hb dJ6_bitCount_17 rfl ?_
  refine lv_ldcw (v := 858993459) hx hb hown (hts _ mw313) dJ6_bitCount_18 ?_
  refine lv_iand hx hb dJ6_bitCount_21 ?_
  refine lv_iadd hx hb dJ6_bitCount_22 ?_
  refine lv_istore_n (lv' := [(0, .int (bi2 (bi1 x)))]) hx hb dJ6_bitCount_23 rfl hl (by decide) rfl (fun ls hl => ?_)
  refine lv_iload_n hx hb dJ6_bitCount_24 rfl (lv_at hl 0 rfl) ?_
  refine lv_iload_n hx hb dJ6_bitCount_25 rfl (lv_at hl 0 rfl) ?_
  refine lv_iconst (v := 4) hx hb dJ6_bitCount_26 (by decide) ?_
  refine lv_iushr (v := iush (bi2 (bi1 x)) 4) hx hb dJ6_bitCount_27 rfl ?_
  refine lv_iadd hx hb dJ6_bitCount_28 ?_
  refine lv_ldcw (v := 252645135) hx hb hown (hts _ mw314) dJ6_bitCount_29 ?_
  refine lv_iand hx hb dJ6_bitCount_32 ?_
  refine lv_istore_n (lv' := [(0, .int (bi3 (bi2 (bi1 x))))]) hx hb dJ6_bitCount_33 rfl hl (by decide) rfl (fun ls hl => ?_)
  refine lv_iload_n hx hb dJ6_bitCount_34 rfl (lv_at hl 0 rfl) ?_
  refine lv_iload_n hx hb dJ6_bitCount_35 rfl (lv_at hl 0 rfl) ?_
  refine lv_bipush (v := 8) hx hb dJ6_bitCount_36 (by decide) ?_
  refine lv_iushr (v := iush (bi3 (bi2 (bi1 x))) 8) hx hb dJ6_bitCount_38 rfl ?_
  refine lv_iadd hx hb dJ6_bitCount_39 ?_
  refine lv_istore_n (lv' := [(0, .int (bi4 (bi3 (bi2 (bi1 x)))))]) hx hb dJ6_bitCount_40 rfl hl (by decide) rfl (fun ls hl => ?_)
  refine lv_iload_n hx hb dJ6_bitCount_41 rfl (lv_at hl 0 rfl) ?_
  refine lv_iload_n hx hb dJ6_bitCount_42 rfl (lv_at hl 0 rfl) ?_
  refine lv_bipush (v := 16) hx hb dJ6_bitCount_43 (by decide) ?_
  refine lv_iushr (v := iush (bi4 (bi3 (bi2 (bi1 x)))) 16) hx hb dJ6_bitCount_45 rfl ?_
  refine lv_iadd hx hb dJ6_bitCount_46 ?_
  refine lv_istore_n (lv' := [(0, .int (bi5 (bi4 (bi3 (bi2 (bi1 x))))))]) hx hb dJ6_bitCount_47 rfl hl (by decide) rfl (fun ls hl => ?_)
  refine lv_iload_n hx hb dJ6_bitCount_48 rfl (lv_at hl 0 rfl) ?_
  refine lv_bipush (v := 63) hx hb dJ6_bitCount_49 (by decide) ?_
  refine lv_iand hx hb dJ6_bitCount_51 ?_
  exact rd_iret hx hb hr hlocks dJ6_bitCount_52 rfl (rfl)

set_option maxHeartbeats 4000000 in
set_option maxRecDepth 100000 in
/-- Long.bitCount -/
theorem c_J13_bitCount (l : Launch) (dC : Nat → ClassId) (dI : Nat → Nat → Nat) (cI cL : ClassId) (x : Int64) : Met l yJ13_bitCount wsJ13_bitCount ({ frames := 0, cells := 0, slots := 0, locals := 0 }) (rd_P (dC, dI) vwCl [(cI, .int), (cL, .long)] [] [.long x]) (rd_Q (some (.int (bc64 x)))) 0 0 (fun _ => False) := by
  refine Met.ofW (cc := cJ13_bitCount) (maxL := 2) (ret := some .int) (by decide) rfl ?_
  intro p e s m args below meth c s₁ B hml hv
  obtain ⟨rfl, hP, hK⟩ := hv
  have hx := B.exec
  have hb := B.bytes
  have hr := B.returns
  have hts := fun w h => atoms_spec (ws := wsJ13_bitCount) B.pre w (List.mem_cons_of_mem _ h)
  have hown : s.vm.findClass RJ13 = some m.cls := findClass_of_methodNamed B.named
  have hlocks := B.notSynchronized
  have hl := lv_entry ([.long x]) (n := 2) (Nat.le_of_ble_eq_true rfl)
  rw [lg_entry_eq]
  generalize (lg_sl ([.long x]) ++ List.replicate (2 - (lg_sl ([.long x])).length) Slot.unset).toArray = ls at hl ⊢
  have hl : lv_has ls 2 [(0, .long x)] := hl
  refine lv_lload_n hx hb dJ13_bitCount_0 rfl (lv_at hl 0 rfl) ?_
  refine lv_lload_n hx hb dJ13_bitCount_1 rfl (lv_at hl 0 rfl) ?_
  refine lv_iconst (v := 1) hx hb dJ13_bitCount_2 (by decide) ?_
  refine lv_lushr (v := ush x 1) hx hb dJ13_bitCount_3 rfl ?_
  refine lv_ldc2 (v := 6148914691236517205) hx hb hown (hts _ mw402) dJ13_bitCount_4 ?_
  refine lv_land hx hb dJ13_bitCount_7 ?_
  refine lv_lsub hx hb dJ13_bitCount_8 ?_
  refine lv_lstore_n (lv' := [(0, .long (bl1 x))]) hx hb dJ13_bitCount_9 rfl hl (by decide) rfl (fun ls hl => ?_)
  refine lv_lload_n hx hb dJ13_bitCount_10 rfl (lv_at hl 0 rfl) ?_
  refine lv_ldc2 (v := 3689348814741910323) hx hb hown (hts _ mw403) dJ13_bitCount_11 ?_
  refine lv_land hx hb dJ13_bitCount_14 ?_
  refine lv_lload_n hx hb dJ13_bitCount_15 rfl (lv_at hl 0 rfl) ?_
  refine lv_iconst (v := 2) hx hb dJ13_bitCount_16 (by decide) ?_
  refine lv_lushr (v := ush (bl1 x) 2) hx hb dJ13_bitCount_17 rfl ?_
  refine lv_ldc2 (v := 3689348814741910323) hx hb hown (hts _ mw403) dJ13_bitCount_18 ?_
  refine lv_land hx hb dJ13_bitCount_21 ?_
  refine lv_ladd hx hb dJ13_bitCount_22 ?_
  refine lv_lstore_n (lv' := [(0, .long (bl2 (bl1 x)))]) hx hb dJ13_bitCount_23 rfl hl (by decide) rfl (fun ls hl => ?_)
  refine lv_lload_n hx hb dJ13_bitCount_24 rfl (lv_at hl 0 rfl) ?_
  refine lv_lload_n hx hb dJ13_bitCount_25 rfl (lv_at hl 0 rfl) ?_
  refine lv_iconst (v := 4) hx hb dJ13_bitCount_26 (by decide) ?_
  refine lv_lushr (v := ush (bl2 (bl1 x)) 4) hx hb dJ13_bitCount_27 rfl ?_
  refine lv_ladd hx hb dJ13_bitCount_28 ?_
  refine lv_ldc2 (v := 1085102592571150095) hx hb hown (hts _ mw404) dJ13_bitCount_29 ?_
  refine lv_land hx hb dJ13_bitCount_32 ?_
  refine lv_lstore_n (lv' := [(0, .long (bl3 (bl2 (bl1 x))))]) hx hb dJ13_bitCount_33 rfl hl (by decide) rfl (fun ls hl => ?_)
  refine lv_lload_n hx hb dJ13_bitCount_34 rfl (lv_at hl 0 rfl) ?_
  refine lv_lload_n hx hb dJ13_bitCount_35 rfl (lv_at hl 0 rfl) ?_
  refine lv_bipush (v := 8) hx hb dJ13_bitCount_36 (by decide) ?_
  refine lv_lushr (v := ush (bl3 (bl2 (bl1 x))) 8) hx hb dJ13_bitCount_38 rfl ?_
  refine lv_ladd hx hb dJ13_bitCount_39 ?_
  refine lv_lstore_n (lv' := [(0, .long (bl4 (bl3 (bl2 (bl1 x)))))]) hx hb dJ13_bitCount_40 rfl hl (by decide) rfl (fun ls hl => ?_)
  refine lv_lload_n hx hb dJ13_bitCount_41 rfl (lv_at hl 0 rfl) ?_
  refine lv_lload_n hx hb dJ13_bitCount_42 rfl (lv_at hl 0 rfl) ?_
  refine lv_bipush (v := 16) hx hb dJ13_bitCount_43 (by decide) ?_
  refine lv_lushr (v := ush (bl4 (bl3 (bl2 (bl1 x)))) 16) hx hb dJ13_bitCount_45 rfl ?_
  refine lv_ladd hx hb dJ13_bitCount_46 ?_
  refine lv_lstore_n (lv' := [(0, .long (bl5 (bl4 (bl3 (bl2 (bl1 x))))))]) hx hb dJ13_bitCount_47 rfl hl (by decide) rfl (fun ls hl => ?_)
  refine lv_lload_n hx hb dJ13_bitCount_48 rfl (lv_at hl 0 rfl) ?_
  refine lv_lload_n hx hb dJ13_bitCount_49 rfl (lv_at hl 0 rfl) ?_
  refine lv_bipush (v := 32) hx hb dJ13_bitCount_50 (by decide) ?_
  refine lv_lushr (v := ush (bl5 (bl4 (bl3 (bl2 (bl1 x))))) 32) hx hb dJ13_bitCount_52 rfl ?_
  refine lv_ladd hx hb dJ13_bitCount_53 ?_
  refine lv_lstore_n (lv' := [(0, .long (bl6 (bl5 (bl4 (bl3 (bl2 (bl1 x)))))))]) hx hb dJ13_bitCount_54 rfl hl (by decide) rfl (fun ls hl => ?_)
  refine lv_lload_n hx hb dJ13_bitCount_55 rfl (lv_at hl 0 rfl) ?_
  refine lv_l2i (v := (bl6 (bl5 (bl4 (bl3 (bl2 (bl1 x)))))).toInt32) hx hb dJ13_bitCount_56 rfl ?_
  refine lv_bipush (v := 127) hx hb dJ13_bitCount_57 (by decide) ?_
  refine lv_iand hx hb dJ13_bitCount_59 ?_
  exact rd_iret hx hb hr hlocks dJ13_bitCount_60 rfl (rfl)

set_option maxHeartbeats 4000000 in
set_option maxRecDepth 100000 in
/-- Buckets.lay -/
theorem c_X0_lay (l : Launch) (dC : Nat → ClassId) (dI : Nat → Nat → Nat) (cI cL : ClassId) (b0 b1 : Nat) (held : Nat → Int32) (bn : Nat) (wy stt : Int32) (n2 : Nat) (w2 s2 : Int32) : Met l yX0_lay wsX0_lay ({ frames := 1, cells := 0, slots := 0, locals := 23 }) (wr_P (dC, dI) vwCl [(cI, .int), (cL, .long)] [(b0, .inr (0, [.ref b1, .int (nI bn), .int wy, .int stt])), (b1, .inl (cI, 16, .inl held))] [.ref b0, .int (nI n2), .int w2, .int s2]) (wr_Q (dC, dI) vwCl none [(b0, .inr (0, [.ref b1, .int (nI bn), .int wy, .int stt])), (b1, .inl (cI, 16, .inl held))] [(b0, .inr (0, [.ref b1, .int (nI n2), .int w2, .int s2])), (b1, .inl (cI, 16, .inl (fillI 0 held 0 16)))]) 0 0 (wr_I [(b0, .inr (0, [.ref b1, .int (nI bn), .int wy, .int stt])), (b1, .inl (cI, 16, .inl held))]) := by
  refine Met.ofW (cc := cX0_lay) (maxL := 4) (ret := none) (by decide) rfl ?_
  intro p e s m args below meth c s₁ B hml hv
  obtain ⟨rfl, hP, hK, hD0⟩ := hv
  have hx := B.exec
  have hb := B.bytes
  have hr := B.returns
  have hts := fun w h => atoms_spec (ws := wsX0_lay) B.pre w (List.mem_cons_of_mem _ h)
  have hown : s.vm.findClass RX0 = some m.cls := findClass_of_methodNamed B.named
  have hlocks := B.notSynchronized
  have hD := wr_self hD0
  have hS : va_S (wr_I [(b0, .inr (0, [.ref b1, .int (nI bn), .int wy, .int stt])), (b1, .inl (cI, 16, .inl held))]) s.heap s.heap [] := va_S.rf
  have hl := lv_entry ([.ref b0, .int (nI n2), .int w2, .int s2]) (n := 4) (Nat.le_of_ble_eq_true rfl)
  rw [lg_entry_eq]
  generalize (lg_sl ([.ref b0, .int (nI n2), .int w2, .int s2]) ++ List.replicate (4 - (lg_sl ([.ref b0, .int (nI n2), .int w2, .int s2])).length) Slot.unset).toArray = ls at hl ⊢
  have hl : lv_has ls 4 [(0, .ref b0), (1, .int (nI n2)), (2, .int w2), (3, .int s2)] := hl
  refine lv_aload_n hx hb dX0_lay_0 rfl (lv_at hl 0 rfl) ?_
  refine va_get (D := (dC, dI)) (ci := 0) (v := .ref b1) (C := RX0) (T := TX0) (N := 4) hx hb hts inX0 hown hK hP 0 rfl rfl 0 (by decide) (hts _ mw107) (fun _ h9 => h9) rfl dX0_lay_1 ?_
  refine lv_iconst (v := 0) hx hb dX0_lay_4 (by decide) ?_
  refine wr_call (w := [(b1, .inl (cI, 16, .inl held))]) (w' := [(b1, .inl (cI, 16, .inl (fillI 0 held 0 16)))]) (wr := [(b0, .inr (0, [.ref b1, .int (nI bn), .int wy, .int stt]))]) (ws' := [(b0, .inr (0, [.ref b1, .int (nI bn), .int wy, .int stt])), (b1, .inl (cI, 16, .inl (fillI 0 held 0 16)))]) (va_runS (As := [.ref b1, .int 0]) (rest := []) ⟨hx, hb, hml, hown, hts⟩ (c_J7_fillI l dC dI cI cL b1 16 held 0 (by decide)) (va_cwS 2 hts (gSo mw156 mw157 mw27 mw158) rfl rfl rfl (by decide +kernel) ⟨Nat.le_of_ble_eq_true rfl, Nat.le_of_ble_eq_true rfl⟩) (wr_preS (hP.sub (ws' := [(b1, .inl (cI, 16, .inl held))]) [1] rfl) hK (hD.sub (ws' := [(b1, .inl (cI, 16, .inl held))]) [1] (by decide) rfl)) rfl rfl hl.1 rfl (lv_room (Nat.le_of_ble_eq_true rfl)) dX0_lay_5 ⟨Nat.zero_le _, Nat.zero_le _⟩) hP hD hS [1] [0] [0, 1] rfl rfl (by decide) rfl rfl (fun H locs hP hD hS => ?_)
  refine lv_aload_n hx hb dX0_lay_8 rfl (lv_at hl 0 rfl) ?_
  refine lv_iload_n hx hb dX0_lay_9 rfl (lv_at hl 1 rfl) ?_
  refine n_put (ws' := [(b0, .inr (0, [.ref b1, .int (nI n2), .int wy, .int stt])), (b1, .inl (cI, 16, .inl (fillI 0 held 0 16)))]) (D := (dC, dI)) (ci := 0) (v := .int (nI n2)) (ty := .int) (C := RX0) (T := TX0) (N := 4) hx hb hts inX0 tyX0 tyX0_ok nmX0 hown hK hP hD hS 0 rfl rfl 1 (by decide) (hts _ mw108) (fun _ h9 => h9) rfl rfl rfl rfl (Nat.le_of_ble_eq_true rfl) dX0_lay_10 rfl (fun H locs hP hD hS => ?_)
  refine lv_aload_n hx hb dX0_lay_13 rfl (lv_at hl 0 rfl) ?_
  refine lv_iload_n hx hb dX0_lay_14 rfl (lv_at hl 2 rfl) ?_
  refine n_put (ws' := [(b0, .inr (0, [.ref b1, .int (nI n2), .int w2, .int stt])), (b1, .inl (cI, 16, .inl (fillI 0 held 0 16)))]) (D := (dC, dI)) (ci := 0) (v := .int w2) (ty := .int) (C := RX0) (T := TX0) (N := 4) hx hb hts inX0 tyX0 tyX0_ok nmX0 hown hK hP hD hS 0 rfl rfl 2 (by decide) (hts _ mw109) (fun _ h9 => h9) rfl rfl rfl rfl (Nat.le_of_ble_eq_true rfl) dX0_lay_15 rfl (fun H locs hP hD hS => ?_)
  refine lv_aload_n hx hb dX0_lay_18 rfl (lv_at hl 0 rfl) ?_
  refine lv_iload_n hx hb dX0_lay_19 rfl (lv_at hl 3 rfl) ?_
  refine n_put (ws' := [(b0, .inr (0, [.ref b1, .int (nI n2), .int w2, .int s2])), (b1, .inl (cI, 16, .inl (fillI 0 held 0 16)))]) (D := (dC, dI)) (ci := 0) (v := .int s2) (ty := .int) (C := RX0) (T := TX0) (N := 4) hx hb hts inX0 tyX0 tyX0_ok nmX0 hown hK hP hD hS 0 rfl rfl 3 (by decide) (hts _ mw110) (fun _ h9 => h9) rfl rfl rfl rfl (Nat.le_of_ble_eq_true rfl) dX0_lay_20 rfl (fun H locs hP hD hS => ?_)
  exact wr_vret hx hb hr hlocks hP hS dX0_lay_23

set_option maxHeartbeats 4000000 in
set_option maxRecDepth 100000 in
/-- Entries.copy -/
theorem c_X1_copy (l : Launch) (dC : Nat → ClassId) (dI : Nat → Nat → Nat) (cI cL : ClassId) (e0 e1 e2 e3 e4 e5 e6 : Nat) (vals msks : Nat → Int64) (pre pri act : Nat → Int32) (dat : Nat → Int64) (en : Nat) (fr t : Nat) (hf : fr < 72) (ht : t < 72) : Met l yX1_copy wsX1_copy ({ frames := 1, cells := 0, slots := 0, locals := 21 }) (wr_P (dC, dI) vwCl [(cI, .int), (cL, .long)] [(e0, .inr (1, [.ref e1, .ref e2, .ref e3, .ref e4, .ref e5, .ref e6, .int (nI en)])), (e1, .inl (cL, 288, .inr (.inl vals))), (e2, .inl (cL, 288, .inr (.inl msks))), (e3, .inl (cI, 72, .inl pre)), (e4, .inl (cI, 72, .inl pri)), (e5, .inl (cI, 72, .inl act)), (e6, .inl (cL, 72, .inr (.inl dat)))] [.ref e0, .int (nI fr), .int (nI t)]) (wr_Q (dC, dI) vwCl none [(e0, .inr (1, [.ref e1, .ref e2, .ref e3, .ref e4, .ref e5, .ref e6, .int (nI en)])), (e1, .inl (cL, 288, .inr (.inl vals))), (e2, .inl (cL, 288, .inr (.inl msks))), (e3, .inl (cI, 72, .inl pre)), (e4, .inl (cI, 72, .inl pri)), (e5, .inl (cI, 72, .inl act)), (e6, .inl (cL, 72, .inr (.inl dat)))] [(e0, .inr (1, [.ref e1, .ref e2, .ref e3, .ref e4, .ref e5, .ref e6, .int (nI en)])), (e1, .inl (cL, 288, .inr (.inl (cpRow fr t vals 0 4)))), (e2, .inl (cL, 288, .inr (.inl (cpRow fr t msks 0 4)))), (e3, .inl (cI, 72, .inl (upd pre t (pre fr)))), (e4, .inl (cI, 72, .inl (upd pri t (pri fr)))), (e5, .inl (cI, 72, .inl (upd act t (act fr)))), (e6, .inl (cL, 72, .inr (.inl (vp_updL dat t (dat fr)))))]) 0 0 (wr_I [(e0, .inr (1, [.ref e1, .ref e2, .ref e3, .ref e4, .ref e5, .ref e6, .int (nI en)])), (e1, .inl (cL, 288, .inr (.inl vals))), (e2, .inl (cL, 288, .inr (.inl msks))), (e3, .inl (cI, 72, .inl pre)), (e4, .inl (cI, 72, .inl pri)), (e5, .inl (cI, 72, .inl act)), (e6, .inl (cL, 72, .inr (.inl dat)))]) := by
  refine Met.ofW (cc := cX1_copy) (maxL := 4) (ret := none) (by decide) rfl ?_
  intro p e s m args below meth c s₁ B hml hv
  obtain ⟨rfl, hP, hK, hD0⟩ := hv
  have hx := B.exec
  have hb := B.bytes
  have hr := B.returns
  have hts := fun w h => atoms_spec (ws := wsX1_copy) B.pre w (List.mem_cons_of_mem _ h)
  have hown : s.vm.findClass RX1 = some m.cls := findClass_of_methodNamed B.named
  have hlocks := B.notSynchronized
  have hD := wr_self hD0
  have hS : va_S (wr_I [(e0, .inr (1, [.ref e1, .ref e2, .ref e3, .ref e4, .ref e5, .ref e6, .int (nI en)])), (e1, .inl (cL, 288, .inr (.inl vals))), (e2, .inl (cL, 288, .inr (.inl msks))), (e3, .inl (cI, 72, .inl pre)), (e4, .inl (cI, 72, .inl pri)), (e5, .inl (cI, 72, .inl act)), (e6, .inl (cL, 72, .inr (.inl dat)))]) s.heap s.heap [] := va_S.rf
  have hl := lv_entry ([.ref e0, .int (nI fr), .int (nI t)]) (n := 4) (Nat.le_of_ble_eq_true rfl)
  rw [lg_entry_eq]
  generalize (lg_sl ([.ref e0, .int (nI fr), .int (nI t)]) ++ List.replicate (4 - (lg_sl ([.ref e0, .int (nI fr), .int (nI t)])).length) Slot.unset).toArray = ls at hl ⊢
  have hl : lv_has ls 4 [(0, .ref e0), (1, .int (nI fr)), (2, .int (nI t))] := hl
  refine lv_iconst (v := (nI 0)) hx hb dX1_copy_0 (by decide) ?_
  refine lv_istore_n (lv' := [(3, .int (nI 0)), (0, .ref e0), (1, .int (nI fr)), (2, .int (nI t))]) hx hb dX1_copy_1 rfl hl (by decide) rfl (fun ls hl => ?_)
  have loop : ∀ (n : Nat) (i : Nat) (vals1 msks1 : Nat → Int64) (H : Heap) (locs : List Loc), i + n = 4 → va_P (dC, dI) vwCl [(e0, .inr (1, [.ref e1, .ref e2, .ref e3, .ref e4, .ref e5, .ref e6, .int (nI en)])), (e1, .inl (cL, 288, .inr (.inl vals1))), (e2, .inl (cL, 288, .inr (.inl msks1))), (e3, .inl (cI, 72, .inl pre)), (e4, .inl (cI, 72, .inl pri)), (e5, .inl (cI, 72, .inl act)), (e6, .inl (cL, 72, .inr (.inl dat)))] H → va_D (wr_I [(e0, .inr (1, [.ref e1, .ref e2, .ref e3, .ref e4, .ref e5, .ref e6, .int (nI en)])), (e1, .inl (cL, 288, .inr (.inl vals))), (e2, .inl (cL, 288, .inr (.inl msks))), (e3, .inl (cI, 72, .inl pre)), (e4, .inl (cI, 72, .inl pri)), (e5, .inl (cI, 72, .inl act)), (e6, .inl (cL, 72, .inr (.inl dat)))]) [(e0, .inr (1, [.ref e1, .ref e2, .ref e3, .ref e4, .ref e5, .ref e6, .int (nI en)])), (e1, .inl (cL, 288, .inr (.inl vals1))), (e2, .inl (cL, 288, .inr (.inl msks1))), (e3, .inl (cI, 72, .inl pre)), (e4, .inl (cI, 72, .inl pri)), (e5, .inl (cI, 72, .inl act)), (e6, .inl (cL, 72, .inr (.inl dat)))] → va_S (wr_I [(e0, .inr (1, [.ref e1, .ref e2, .ref e3, .ref e4, .ref e5, .ref e6, .int (nI en)])), (e1, .inl (cL, 288, .inr (.inl vals))), (e2, .inl (cL, 288, .inr (.inl msks))), (e3, .inl (cI, 72, .inl pre)), (e4, .inl (cI, 72, .inl pri)), (e5, .inl (cI, 72, .inl act)), (e6, .inl (cL, 72, .inr (.inl dat)))]) s.heap H locs → ∀ ls : Array Slot, lv_has ls 4 [(3, .int (nI i)), (0, .ref e0), (1, .int (nI fr)), (2, .int (nI t))] → W p l e (headSpec wsX1_copy ({ frames := 1, cells := 0, slots := 0, locals := 21 })).room s m ([.ref e0, .int (nI fr), .int (nI t)]).toArray below meth c H locs 0 0 (MQ below (wr_Q (dC, dI) vwCl none [(e0, .inr (1, [.ref e1, .ref e2, .ref e3, .ref e4, .ref e5, .ref e6, .int (nI en)])), (e1, .inl (cL, 288, .inr (.inl vals))), (e2, .inl (cL, 288, .inr (.inl msks))), (e3, .inl (cI, 72, .inl pre)), (e4, .inl (cI, 72, .inl pri)), (e5, .inl (cI, 72, .inl act)), (e6, .inl (cL, 72, .inr (.inl dat)))] [(e0, .inr (1, [.ref e1, .ref e2, .ref e3, .ref e4, .ref e5, .ref e6, .int (nI en)])), (e1, .inl (cL, 288, .inr (.inl (cpRow fr t vals1 i n)))), (e2, .inl (cL, 288, .inr (.inl (cpRow fr t msks1 i n)))), (e3, .inl (cI, 72, .inl (upd pre t (pre fr)))), (e4, .inl (cI, 72, .inl (upd pri t (pri fr)))), (e5, .inl (cI, 72, .inl (upd act t (act fr)))), (e6, .inl (cL, 72, .inr (.inl (vp_updL dat t (dat fr)))))]) ([.ref e0, .int (nI fr), .int (nI t)]).toArray s 0 0 (wr_I [(e0, .inr (1, [.ref e1, .ref e2, .ref e3, .ref e4, .ref e5, .ref e6, .int (nI en)])), (e1, .inl (cL, 288, .inr (.inl vals))), (e2, .inl (cL, 288, .inr (.inl msks))), (e3, .inl (cI, 72, .inl pre)), (e4, .inl (cI, 72, .inl pri)), (e5, .inl (cI, 72, .inl act)), (e6, .inl (cL, 72, .inr (.inl dat)))])) (F0 m 2 ls []) := by
    intro n
    induction n with
    | zero =>
      intro i vals1 msks1 H locs hi hP hD hS ls hl
      refine lv_iload_n hx hb dX1_copy_2 rfl (lv_at hl 0 rfl) ?_
      refine lv_iconst (v := 4) hx hb dX1_copy_3 (by decide) ?_
      refine n_ige i 4 (tgt := 53) (hexec := hx) (hb := hb) dX1_copy_4 (by decide) rfl rfl (by omega) (by omega) (fun c4 => ?_) (fun c4 => absurd c4 (by omega))
      refine lv_aload_n hx hb dX1_copy_53 rfl (lv_at hl 1 rfl) ?_
      refine va_get (D := (dC, dI)) (ci := 1) (v := .ref e3) (C := RX1) (T := TX1) (N := 7) hx hb hts inX1 hown hK hP 0 rfl rfl 2 (by decide) (hts _ mw76) (fun _ h9 => h9) rfl dX1_copy_54 ?_
      refine lv_iload_n hx hb dX1_copy_57 rfl (lv_at hl 3 rfl) ?_
      refine lv_aload_n hx hb dX1_copy_58 rfl (lv_at hl 1 rfl) ?_
      refine va_get (D := (dC, dI)) (ci := 1) (v := .ref e3) (C := RX1) (T := TX1) (N := 7) hx hb hts inX1 hown hK hP 0 rfl rfl 2 (by decide) (hts _ mw76) (fun _ h9 => h9) rfl dX1_copy_59 ?_
      refine lv_iload_n hx hb dX1_copy_62 rfl (lv_at hl 2 rfl) ?_
      refine n_iald hx hb hK hP 3 0 rfl rfl (k := fr) rfl hf (by omega) dX1_copy_63 ?_
      refine n_iast (ws' := [(e0, .inr (1, [.ref e1, .ref e2, .ref e3, .ref e4, .ref e5, .ref e6, .int (nI en)])), (e1, .inl (cL, 288, .inr (.inl vals1))), (e2, .inl (cL, 288, .inr (.inl msks1))), (e3, .inl (cI, 72, .inl (upd pre t (pre fr)))), (e4, .inl (cI, 72, .inl pri)), (e5, .inl (cI, 72, .inl act)), (e6, .inl (cL, 72, .inr (.inl dat)))]) hx hb hK hP hD hS 3 0 rfl rfl (k := t) rfl ht (by omega) dX1_copy_64 rfl (fun H locs hP hD hS => ?_)
      refine lv_aload_n hx hb dX1_copy_65 rfl (lv_at hl 1 rfl) ?_
      refine va_get (D := (dC, dI)) (ci := 1) (v := .ref e4) (C := RX1) (T := TX1) (N := 7) hx hb hts inX1 hown hK hP 0 rfl rfl 3 (by decide) (hts _ mw78) (fun _ h9 => h9) rfl dX1_copy_66 ?_
      refine lv_iload_n hx hb dX1_copy_69 rfl (lv_at hl 3 rfl) ?_
      refine lv_aload_n hx hb dX1_copy_70 rfl (lv_at hl 1 rfl) ?_
      refine va_get (D := (dC, dI)) (ci := 1) (v := .ref e4) (C := RX1) (T := TX1) (N := 7) hx hb hts inX1 hown hK hP 0 rfl rfl 3 (by decide) (hts _ mw78) (fun _ h9 => h9) rfl dX1_copy_71 ?_
      refine lv_iload_n hx hb dX1_copy_74 rfl (lv_at hl 2 rfl) ?_
      refine n_iald hx hb hK hP 4 0 rfl rfl (k := fr) rfl hf (by omega) dX1_copy_75 ?_
      refine n_iast (ws' := [(e0, .inr (1, [.ref e1, .ref e2, .ref e3, .ref e4, .ref e5, .ref e6, .int (nI en)])), (e1, .inl (cL, 288, .inr (.inl vals1))), (e2, .inl (cL, 288, .inr (.inl msks1))), (e3, .inl (cI, 72, .inl (upd pre t (pre fr)))), (e4, .inl (cI, 72, .inl (upd pri t (pri fr)))), (e5, .inl (cI, 72, .inl act)), (e6, .inl (cL, 72, .inr (.inl dat)))]) hx hb hK hP hD hS 4 0 rfl rfl (k := t) rfl ht (by omega) dX1_copy_76 rfl (fun H locs hP hD hS => ?_)
      refine lv_aload_n hx hb dX1_copy_77 rfl (lv_at hl 1 rfl) ?_
      refine va_get (D := (dC, dI)) (ci := 1) (v := .ref e5) (C := RX1) (T := TX1) (N := 7) hx hb hts inX1 hown hK hP 0 rfl rfl 4 (by decide) (hts _ mw80) (fun _ h9 => h9) rfl dX1_copy_78 ?_
      refine lv_iload_n hx hb dX1_copy_81 rfl (lv_at hl 3 rfl) ?_
      refine lv_aload_n hx hb dX1_copy_82 rfl (lv_at hl 1 rfl) ?_
      refine va_get (D := (dC, dI)) (ci := 1) (v := .ref e5) (C := RX1) (T := TX1) (N := 7) hx hb hts inX1 hown hK hP 0 rfl rfl 4 (by decide) (hts _ mw80) (fun _ h9 => h9) rfl dX1_copy_83 ?_
      refine lv_iload_n hx hb dX1_copy_86 rfl (lv_at hl 2 rfl) ?_
      refine n_iald hx hb hK hP 5 0 rfl rfl (k := fr) rfl hf (by omega) dX1_copy_87 ?_
      refine n_iast (ws' := [(e0, .inr (1, [.ref e1, .ref e2, .ref e3, .ref e4, .ref e5, .ref e6, .int (nI en)])), (e1, .inl (cL, 288, .inr (.inl vals1))), (e2, .inl (cL, 288, .inr (.inl msks1))), (e3, .inl (cI, 72, .inl (upd pre t (pre fr)))), (e4, .inl (cI, 72, .inl (upd pri t (pri fr)))), (e5, .inl (cI, 72, .inl (upd act t (act fr)))), (e6, .inl (cL, 72, .inr (.inl dat)))]) hx hb hK hP hD hS 5 0 rfl rfl (k := t) rfl ht (by omega) dX1_copy_88 rfl (fun H locs hP hD hS => ?_)
      refine lv_aload_n hx hb dX1_copy_89 rfl (lv_at hl 1 rfl) ?_
      refine va_get (D := (dC, dI)) (ci := 1) (v := .ref e6) (C := RX1) (T := TX1) (N := 7) hx hb hts inX1 hown hK hP 0 rfl rfl 5 (by decide) (hts _ mw82) (fun _ h9 => h9) rfl dX1_copy_90 ?_
      refine lv_iload_n hx hb dX1_copy_93 rfl (lv_at hl 3 rfl) ?_
      refine lv_aload_n hx hb dX1_copy_94 rfl (lv_at hl 1 rfl) ?_
      refine va_get (D := (dC, dI)) (ci := 1) (v := .ref e6) (C := RX1) (T := TX1) (N := 7) hx hb hts inX1 hown hK hP 0 rfl rfl 5 (by decide) (hts _ mw82) (fun _ h9 => h9) rfl dX1_copy_95 ?_
      refine lv_iload_n hx hb dX1_copy_98 rfl (lv_at hl 2 rfl) ?_
      refine n_lald hx hb hK hP 6 1 rfl rfl (k := fr) rfl hf (by omega) dX1_copy_99 ?_
      refine n_last (ws' := [(e0, .inr (1, [.ref e1, .ref e2, .ref e3, .ref e4, .ref e5, .ref e6, .int (nI en)])), (e1, .inl (cL, 288, .inr (.inl vals1))), (e2, .inl (cL, 288, .inr (.inl msks1))), (e3, .inl (cI, 72, .inl (upd pre t (pre fr)))), (e4, .inl (cI, 72, .inl (upd pri t (pri fr)))), (e5, .inl (cI, 72, .inl (upd act t (act fr)))), (e6, .inl (cL, 72, .inr (.inl (vp_updL dat t (dat fr)))))]) hx hb hK hP hD hS 6 1 rfl rfl (k := t) rfl ht (by omega) dX1_copy_100 rfl (fun H locs hP hD hS => ?_)
      exact wr_vret hx hb hr hlocks hP hS dX1_copy_101
    | succ n ih =>
      intro i vals1 msks1 H locs hi hP hD hS ls hl
      refine lv_iload_n hx hb dX1_copy_2 rfl (lv_at hl 0 rfl) ?_
      refine lv_iconst (v := 4) hx hb dX1_copy_3 (by decide) ?_
      refine n_ige i 4 (tgt := 53) (hexec := hx) (hb := hb) dX1_copy_4 (by decide) rfl rfl (by omega) (by omega) (fun c4 => absurd c4 (by omega)) (fun c4 => ?_)
      refine lv_aload_n hx hb dX1_copy_7 rfl (lv_at hl 1 rfl) ?_
      refine va_get (D := (dC, dI)) (ci := 1) (v := .ref e1) (C := RX1) (T := TX1) (N := 7) hx hb hts inX1 hown hK hP 0 rfl rfl 0 (by decide) (hts _ mw72) (fun _ h9 => h9) rfl dX1_copy_8 ?_
      refine lv_iload_n hx hb dX1_copy_11 rfl (lv_at hl 3 rfl) ?_
      refine lv_iload_n hx hb dX1_copy_12 rfl (lv_at hl 0 rfl) ?_
      refine rd_calli (r := (nI (t * 4 + i))) (va_runS (As := [.int (nI t), .int (nI i)]) (rest := [.ref e1]) ⟨hx, hb, hml, hown, hts⟩ (c_X1_place l dC dI cI cL t i) (cwS 2 hts (gS mw431 mw379 mw24 mw380) rfl rfl rfl (by decide +kernel) ⟨Nat.le_of_ble_eq_true rfl, Nat.le_of_ble_eq_true rfl⟩) (rd_preS (hP.sub (ws' := []) [] rfl) hK) rfl rfl hl.1 rfl (lv_room (Nat.le_of_ble_eq_true rfl)) dX1_copy_13 ⟨Nat.zero_le _, Nat.zero_le _⟩) ?_
      refine lv_aload_n hx hb dX1_copy_16 rfl (lv_at hl 1 rfl) ?_
      refine va_get (D := (dC, dI)) (ci := 1) (v := .ref e1) (C := RX1) (T := TX1) (N := 7) hx hb hts inX1 hown hK hP 0 rfl rfl 0 (by decide) (hts _ mw72) (fun _ h9 => h9) rfl dX1_copy_17 ?_
      refine lv_iload_n hx hb dX1_copy_20 rfl (lv_at hl 2 rfl) ?_
      refine lv_iload_n hx hb dX1_copy_21 rfl (lv_at hl 0 rfl) ?_
      refine rd_calli (r := (nI (fr * 4 + i))) (va_runS (As := [.int (nI fr), .int (nI i)]) (rest := [.ref e1, .int (nI (t * 4 + i)), .ref e1]) ⟨hx, hb, hml, hown, hts⟩ (c_X1_place l dC dI cI cL fr i) (cwS 2 hts (gS mw431 mw379 mw24 mw380) rfl rfl rfl (by decide +kernel) ⟨Nat.le_of_ble_eq_true rfl, Nat.le_of_ble_eq_true rfl⟩) (rd_preS (hP.sub (ws' := []) [] rfl) hK) rfl rfl hl.1 rfl (lv_room (Nat.le_of_ble_eq_true rfl)) dX1_copy_22 ⟨Nat.zero_le _, Nat.zero_le _⟩) ?_
      refine n_lald hx hb hK hP 1 1 rfl rfl (k := fr * 4 + i) rfl (by omega) (by omega) dX1_copy_25 ?_
      refine n_last (ws' := [(e0, .inr (1, [.ref e1, .ref e2, .ref e3, .ref e4, .ref e5, .ref e6, .int (nI en)])), (e1, .inl (cL, 288, .inr (.inl (vp_updL vals1 (t * 4 + i) (vals1 (fr * 4 + i)))))), (e2, .inl (cL, 288, .inr (.inl msks1))), (e3, .inl (cI, 72, .inl pre)), (e4, .inl (cI, 72, .inl pri)), (e5, .inl (cI, 72, .inl act)), (e6, .inl (cL, 72, .inr (.inl dat)))]) hx hb hK hP hD hS 1 1 rfl rfl (k := t * 4 + i) rfl (by omega) (by omega) dX1_copy_26 rfl (fun H locs hP hD hS => ?_)
      refine lv_aload_n hx hb dX1_copy_27 rfl (lv_at hl 1 rfl) ?_
      refine va_get (D := (dC, dI)) (ci := 1) (v := .ref e2) (C := RX1) (T := TX1) (N := 7) hx hb hts inX1 hown hK hP 0 rfl rfl 1 (by decide) (hts _ mw74) (fun _ h9 => h9) rfl dX1_copy_28 ?_
      refine lv_iload_n hx hb dX1_copy_31 rfl (lv_at hl 3 rfl) ?_
      refine lv_iload_n hx hb dX1_copy_32 rfl (lv_at hl 0 rfl) ?_
      refine rd_calli (r := (nI (t * 4 + i))) (va_runS (As := [.int (nI t), .int (nI i)]) (rest := [.ref e2]) ⟨hx, hb, hml, hown, hts⟩ (c_X1_place l dC dI cI cL t i) (cwS 2 hts (gS mw431 mw379 mw24 mw380) rfl rfl rfl (by decide +kernel) ⟨Nat.le_of_ble_eq_true rfl, Nat.le_of_ble_eq_true rfl⟩) (rd_preS (hP.sub (ws' := []) [] rfl) hK) rfl rfl hl.1 rfl (lv_room (Nat.le_of_ble_eq_true rfl)) dX1_copy_33 ⟨Nat.zero_le _, Nat.zero_le _⟩) ?_
      refine lv_aload_n hx hb dX1_copy_36 rfl (lv_at hl 1 rfl) ?_
      refine va_get (D := (dC, dI)) (ci := 1) (v := .ref e2) (C := RX1) (T := TX1) (N := 7) hx hb hts inX1 hown hK hP 0 rfl rfl 1 (by decide) (hts _ mw74) (fun _ h9 => h9) rfl dX1_copy_37 ?_
      refine lv_iload_n hx hb dX1_copy_40 rfl (lv_at hl 2 rfl) ?_
      refine lv_iload_n hx hb dX1_copy_41 rfl (lv_at hl 0 rfl) ?_
      refine rd_calli (r := (nI (fr * 4 + i))) (va_runS (As := [.int (nI fr), .int (nI i)]) (rest := [.ref e2, .int (nI (t * 4 + i)), .ref e2]) ⟨hx, hb, hml, hown, hts⟩ (c_X1_place l dC dI cI cL fr i) (cwS 2 hts (gS mw431 mw379 mw24 mw380) rfl rfl rfl (by decide +kernel) ⟨Nat.le_of_ble_eq_true rfl, Nat.le_of_ble_eq_true rfl⟩) (rd_preS (hP.sub (ws' := []) [] rfl) hK) rfl rfl hl.1 rfl (lv_room (Nat.le_of_ble_eq_true rfl)) dX1_copy_42 ⟨Nat.zero_le _, Nat.zero_le _⟩) ?_
      refine n_lald hx hb hK hP 2 1 rfl rfl (k := fr * 4 + i) rfl (by omega) (by omega) dX1_copy_45 ?_
      refine n_last (ws' := [(e0, .inr (1, [.ref e1, .ref e2, .ref e3, .ref e4, .ref e5, .ref e6, .int (nI en)])), (e1, .inl (cL, 288, .inr (.inl (vp_updL vals1 (t * 4 + i) (vals1 (fr * 4 + i)))))), (e2, .inl (cL, 288, .inr (.inl (vp_updL msks1 (t * 4 + i) (msks1 (fr * 4 + i)))))), (e3, .inl (cI, 72, .inl pre)), (e4, .inl (cI, 72, .inl pri)), (e5, .inl (cI, 72, .inl act)), (e6, .inl (cL, 72, .inr (.inl dat)))]) hx hb hK hP hD hS 2 1 rfl rfl (k := t * 4 + i) rfl (by omega) (by omega) dX1_copy_46 rfl (fun H locs hP hD hS => ?_)
      refine lv_iinc (v := nI (i + 1)) (lv' := [(3, .int (nI (i + 1))), (0, .ref e0), (1, .int (nI fr)), (2, .int (nI t))]) hx hb dX1_copy_47 hl (k := 0) rfl (nI_1 i) (by decide) rfl (fun ls hl => ?_)
      refine lv_goto (tgt := 2) hx hb dX1_copy_50 (by decide) ?_
      exact ih (i + 1) _ _ _ _ (by omega) hP hD hS ls (lv_sub hl [0, 1, 2, 3] rfl)
  exact loop 4 0 vals msks _ _ (by omega) hP hD hS ls (lv_sub hl [0, 1, 2, 3] rfl)

set_option maxHeartbeats 4000000 in
set_option maxRecDepth 100000 in
/-- Entries.drop -/
theorem c_X1_drop (l : Launch) (dC : Nat → ClassId) (dI : Nat → Nat → Nat) (cI cL : ClassId) (e0 e1 e2 e3 e4 e5 e6 : Nat) (vals msks : Nat → Int64) (pre pri act : Nat → Int32) (dat : Nat → Int64) (en : Nat) (q : Nat) (he : en ≤ 72) (hq : q < en) : Met l yX1_drop wsX1_drop ({ frames := 2, cells := 0, slots := 0, locals := 44 }) (wr_P (dC, dI) vwCl [(cI, .int), (cL, .long)] [(e0, .inr (1, [.ref e1, .ref e2, .ref e3, .ref e4, .ref e5, .ref e6, .int (nI en)])), (e1, .inl (cL, 288, .inr (.inl vals))), (e2, .inl (cL, 288, .inr (.inl msks))), (e3, .inl (cI, 72, .inl pre)), (e4, .inl (cI, 72, .inl pri)), (e5, .inl (cI, 72, .inl act)), (e6, .inl (cL, 72, .inr (.inl dat)))] [.ref e0, .int (nI q)]) (wr_Q (dC, dI) vwCl none [(e0, .inr (1, [.ref e1, .ref e2, .ref e3, .ref e4, .ref e5, .ref e6, .int (nI en)])), (e1, .inl (cL, 288, .inr (.inl vals))), (e2, .inl (cL, 288, .inr (.inl msks))), (e3, .inl (cI, 72, .inl pre)), (e4, .inl (cI, 72, .inl pri)), (e5, .inl (cI, 72, .inl act)), (e6, .inl (cL, 72, .inr (.inl dat)))] [(e0, .inr (1, [.ref e1, .ref e2, .ref e3, .ref e4, .ref e5, .ref e6, .int (nI (en - 1))])), (e1, .inl (cL, 288, .inr (.inl (dropR vals q (en - 1 - q))))), (e2, .inl (cL, 288, .inr (.inl (dropR msks q (en - 1 - q))))), (e3, .inl (cI, 72, .inl (dropI pre q (en - 1 - q)))), (e4, .inl (cI, 72, .inl (dropI pri q (en - 1 - q)))), (e5, .inl (cI, 72, .inl (dropI act q (en - 1 - q)))), (e6, .inl (cL, 72, .inr (.inl (dropL dat q (en - 1 - q)))))]) 0 0 (wr_I [(e0, .inr (1, [.ref e1, .ref e2, .ref e3, .ref e4, .ref e5, .ref e6, .int (nI en)])), (e1, .inl (cL, 288, .inr (.inl vals))), (e2, .inl (cL, 288, .inr (.inl msks))), (e3, .inl (cI, 72, .inl pre)), (e4, .inl (cI, 72, .inl pri)), (e5, .inl (cI, 72, .inl act)), (e6, .inl (cL, 72, .inr (.inl dat)))]) := by
  refine Met.ofW (cc := cX1_drop) (maxL := 3) (ret := none) (by decide) rfl ?_
  intro p e s m args below meth c s₁ B hml hv
  obtain ⟨rfl, hP, hK, hD0⟩ := hv
  have hx := B.exec
  have hb := B.bytes
  have hr := B.returns
  have hts := fun w h => atoms_spec (ws := wsX1_drop) B.pre w (List.mem_cons_of_mem _ h)
  have hown : s.vm.findClass RX1 = some m.cls := findClass_of_methodNamed B.named
  have hlocks := B.notSynchronized
  have hD := wr_self hD0
  have hS : va_S (wr_I [(e0, .inr (1, [.ref e1, .ref e2, .ref e3, .ref e4, .ref e5, .ref e6, .int (nI en)])), (e1, .inl (cL, 288, .inr (.inl vals))), (e2, .inl (cL, 288, .inr (.inl msks))), (e3, .inl (cI, 72, .inl pre)), (e4, .inl (cI, 72, .inl pri)), (e5, .inl (cI, 72, .inl act)), (e6, .inl (cL, 72, .inr (.inl dat)))]) s.heap s.heap [] := va_S.rf
  have hl := lv_entry ([.ref e0, .int (nI q)]) (n := 3) (Nat.le_of_ble_eq_true rfl)
  rw [lg_entry_eq]
  generalize (lg_sl ([.ref e0, .int (nI q)]) ++ List.replicate (3 - (lg_sl ([.ref e0, .int (nI q)])).length) Slot.unset).toArray = ls at hl ⊢
  have hl : lv_has ls 3 [(0, .ref e0), (1, .int (nI q))] := hl
  refine lv_iload_n hx hb dX1_drop_0 rfl (lv_at hl 1 rfl) ?_
  refine lv_istore_n (lv' := [(2, .int (nI q)), (0, .ref e0), (1, .int (nI q))]) hx hb dX1_drop_1 rfl hl (by decide) rfl (fun ls hl => ?_)
  have loop : ∀ (n : Nat) (i : Nat) (vals1 msks1 : Nat → Int64) (pre1 pri1 act1 : Nat → Int32) (dat1 : Nat → Int64) (H : Heap) (locs : List Loc), i + n + 1 = en → va_P (dC, dI) vwCl [(e0, .inr (1, [.ref e1, .ref e2, .ref e3, .ref e4, .ref e5, .ref e6, .int (nI en)])), (e1, .inl (cL, 288, .inr (.inl vals1))), (e2, .inl (cL, 288, .inr (.inl msks1))), (e3, .inl (cI, 72, .inl pre1)), (e4, .inl (cI, 72, .inl pri1)), (e5, .inl (cI, 72, .inl act1)), (e6, .inl (cL, 72, .inr (.inl dat1)))] H → va_D (wr_I [(e0, .inr (1, [.ref e1, .ref e2, .ref e3, .ref e4, .ref e5, .ref e6, .int (nI en)])), (e1, .inl (cL, 288, .inr (.inl vals))), (e2, .inl (cL, 288, .inr (.inl msks))), (e3, .inl (cI, 72, .inl pre)), (e4, .inl (cI, 72, .inl pri)), (e5, .inl (cI, 72, .inl act)), (e6, .inl (cL, 72, .inr (.inl dat)))]) [(e0, .inr (1, [.ref e1, .ref e2, .ref e3, .ref e4, .ref e5, .ref e6, .int (nI en)])), (e1, .inl (cL, 288, .inr (.inl vals1))), (e2, .inl (cL, 288, .inr (.inl msks1))), (e3, .inl (cI, 72, .inl pre1)), (e4, .inl (cI, 72, .inl pri1)), (e5, .inl (cI, 72, .inl act1)), (e6, .inl (cL, 72, .inr (.inl dat1)))] → va_S (wr_I [(e0, .inr (1, [.ref e1, .ref e2, .ref e3, .ref e4, .ref e5, .ref e6, .int (nI en)])), (e1, .inl (cL, 288, .inr (.inl vals))), (e2, .inl (cL, 288, .inr (.inl msks))), (e3, .inl (cI, 72, .inl pre)), (e4, .inl (cI, 72, .inl pri)), (e5, .inl (cI, 72, .inl act)), (e6, .inl (cL, 72, .inr (.inl dat)))]) s.heap H locs → ∀ ls : Array Slot, lv_has ls 3 [(2, .int (nI i)), (0, .ref e0), (1, .int (nI q))] → W p l e (headSpec wsX1_drop ({ frames := 2, cells := 0, slots := 0, locals := 44 })).room s m ([.ref e0, .int (nI q)]).toArray below meth c H locs 0 0 (MQ below (wr_Q (dC, dI) vwCl none [(e0, .inr (1, [.ref e1, .ref e2, .ref e3, .ref e4, .ref e5, .ref e6, .int (nI en)])), (e1, .inl (cL, 288, .inr (.inl vals))), (e2, .inl (cL, 288, .inr (.inl msks))), (e3, .inl (cI, 72, .inl pre)), (e4, .inl (cI, 72, .inl pri)), (e5, .inl (cI, 72, .inl act)), (e6, .inl (cL, 72, .inr (.inl dat)))] [(e0, .inr (1, [.ref e1, .ref e2, .ref e3, .ref e4, .ref e5, .ref e6, .int (nI (en - 1))])), (e1, .inl (cL, 288, .inr (.inl (dropR vals1 i n)))), (e2, .inl (cL, 288, .inr (.inl (dropR msks1 i n)))), (e3, .inl (cI, 72, .inl (dropI pre1 i n))), (e4, .inl (cI, 72, .inl (dropI pri1 i n))), (e5, .inl (cI, 72, .inl (dropI act1 i n))), (e6, .inl (cL, 72, .inr (.inl (dropL dat1 i n))))]) ([.ref e0, .int (nI q)]).toArray s 0 0 (wr_I [(e0, .inr (1, [.ref e1, .ref e2, .ref e3, .ref e4, .ref e5, .ref e6, .int (nI en)])), (e1, .inl (cL, 288, .inr (.inl vals))), (e2, .inl (cL, 288, .inr (.inl msks))), (e3, .inl (cI, 72, .inl pre)), (e4, .inl (cI, 72, .inl pri)), (e5, .inl (cI, 72, .inl act)), (e6, .inl (cL, 72, .inr (.inl dat)))])) (F0 m 2 ls []) := by
    intro n
    induction n with
    | zero =>
      intro i vals1 msks1 pre1 pri1 act1 dat1 H locs hi hP hD hS ls hl
      refine lv_iload_n hx hb dX1_drop_2 rfl (lv_at hl 0 rfl) ?_
      refine lv_iconst (v := 1) hx hb dX1_drop_3 (by decide) ?_
      refine lv_iadd hx hb dX1_drop_4 ?_
      refine lv_aload_n hx hb dX1_drop_5 rfl (lv_at hl 1 rfl) ?_
      refine va_get (D := (dC, dI)) (ci := 1) (v := .int (nI en)) (C := RX1) (T := TX1) (N := 7) hx hb hts inX1 hown hK hP 0 rfl rfl 6 (by decide) (hts _ mw85) (fun _ h9 => h9) rfl dX1_drop_6 ?_
      refine n_ige (i + 1) en (tgt := 26) (hexec := hx) (hb := hb) dX1_drop_9 (by decide) (nI_1 i) rfl (by omega) (by omega) (fun c9 => ?_) (fun c9 => absurd c9 (by omega))
      refine lv_aload_n hx hb dX1_drop_26 rfl (lv_at hl 1 rfl) ?_
      refine lv_dup hx hb dX1_drop_27 rfl ?_
      refine va_get (D := (dC, dI)) (ci := 1) (v := .int (nI en)) (C := RX1) (T := TX1) (N := 7) hx hb hts inX1 hown hK hP 0 rfl rfl 6 (by decide) (hts _ mw85) (fun _ h9 => h9) rfl dX1_drop_28 ?_
      refine lv_iconst (v := 1) hx hb dX1_drop_31 (by decide) ?_
      refine lv_isub hx hb dX1_drop_32 ?_
      rw [n_dec (show 0 < en by omega)]
      refine n_put (ws' := [(e0, .inr (1, [.ref e1, .ref e2, .ref e3, .ref e4, .ref e5, .ref e6, .int (nI (en - 1))])), (e1, .inl (cL, 288, .inr (.inl vals1))), (e2, .inl (cL, 288, .inr (.inl msks1))), (e3, .inl (cI, 72, .inl pre1)), (e4, .inl (cI, 72, .inl pri1)), (e5, .inl (cI, 72, .inl act1)), (e6, .inl (cL, 72, .inr (.inl dat1)))]) (D := (dC, dI)) (ci := 1) (v := .int (nI (en - 1))) (ty := .int) (C := RX1) (T := TX1) (N := 7) hx hb hts inX1 tyX1 tyX1_ok nmX1 hown hK hP hD hS 0 rfl rfl 6 (by decide) (hts _ mw85) (fun _ h9 => h9) rfl rfl rfl rfl (Nat.le_of_ble_eq_true rfl) dX1_drop_33 rfl (fun H locs hP hD hS => ?_)
      exact wr_vret hx hb hr hlocks hP hS dX1_drop_36
    | succ n ih =>
      intro i vals1 msks1 pre1 pri1 act1 dat1 H locs hi hP hD hS ls hl
      refine lv_iload_n hx hb dX1_drop_2 rfl (lv_at hl 0 rfl) ?_
      refine lv_iconst (v := 1) hx hb dX1_drop_3 (by decide) ?_
      refine lv_iadd hx hb dX1_drop_4 ?_
      refine lv_aload_n hx hb dX1_drop_5 rfl (lv_at hl 1 rfl) ?_
      refine va_get (D := (dC, dI)) (ci := 1) (v := .int (nI en)) (C := RX1) (T := TX1) (N := 7) hx hb hts inX1 hown hK hP 0 rfl rfl 6 (by decide) (hts _ mw85) (fun _ h9 => h9) rfl dX1_drop_6 ?_
      refine n_ige (i + 1) en (tgt := 26) (hexec := hx) (hb := hb) dX1_drop_9 (by decide) (nI_1 i) rfl (by omega) (by omega) (fun c9 => absurd c9 (by omega)) (fun c9 => ?_)
      refine lv_aload_n hx hb dX1_drop_12 rfl (lv_at hl 1 rfl) ?_
      refine lv_iload_n hx hb dX1_drop_13 rfl (lv_at hl 0 rfl) ?_
      refine lv_iconst (v := 1) hx hb dX1_drop_14 (by decide) ?_
      refine lv_iadd hx hb dX1_drop_15 ?_
      rw [nI_1]
      refine lv_iload_n hx hb dX1_drop_16 rfl (lv_at hl 0 rfl) ?_
      refine wr_call (w := [(e0, .inr (1, [.ref e1, .ref e2, .ref e3, .ref e4, .ref e5, .ref e6, .int (nI en)])), (e1, .inl (cL, 288, .inr (.inl vals1))), (e2, .inl (cL, 288, .inr (.inl msks1))), (e3, .inl (cI, 72, .inl pre1)), (e4, .inl (cI, 72, .inl pri1)), (e5, .inl (cI, 72, .inl act1)), (e6, .inl (cL, 72, .inr (.inl dat1)))]) (w' := [(e0, .inr (1, [.ref e1, .ref e2, .ref e3, .ref e4, .ref e5, .ref e6, .int (nI en)])), (e1, .inl (cL, 288, .inr (.inl (cpRow (i + 1) i vals1 0 4)))), (e2, .inl (cL, 288, .inr (.inl (cpRow (i + 1) i msks1 0 4)))), (e3, .inl (cI, 72, .inl (upd pre1 i (pre1 (i + 1))))), (e4, .inl (cI, 72, .inl (upd pri1 i (pri1 (i + 1))))), (e5, .inl (cI, 72, .inl (upd act1 i (act1 (i + 1))))), (e6, .inl (cL, 72, .inr (.inl (vp_updL dat1 i (dat1 (i + 1))))))]) (wr := []) (ws' := [(e0, .inr (1, [.ref e1, .ref e2, .ref e3, .ref e4, .ref e5, .ref e6, .int (nI en)])), (e1, .inl (cL, 288, .inr (.inl (cpRow (i + 1) i vals1 0 4)))), (e2, .inl (cL, 288, .inr (.inl (cpRow (i + 1) i msks1 0 4)))), (e3, .inl (cI, 72, .inl (upd pre1 i (pre1 (i + 1))))), (e4, .inl (cI, 72, .inl (upd pri1 i (pri1 (i + 1))))), (e5, .inl (cI, 72, .inl (upd act1 i (act1 (i + 1))))), (e6, .inl (cL, 72, .inr (.inl (vp_updL dat1 i (dat1 (i + 1))))))]) (va_runV (As := [.int (nI (i + 1)), .int (nI i)]) (rest := []) ⟨hx, hb, hml, hown, hts⟩ (c_X1_copy l dC dI cI cL e0 e1 e2 e3 e4 e5 e6 vals1 msks1 pre1 pri1 act1 dat1 en (i + 1) i (by omega) (by omega)) (cwV 2 hts (gV mw427 mw429 mw8 mw24 mw430) rfl rfl rfl (by decide +kernel) ⟨Nat.le_of_ble_eq_true rfl, Nat.le_of_ble_eq_true rfl⟩) (wr_preV (hP.sub (ws' := [(e0, .inr (1, [.ref e1, .ref e2, .ref e3, .ref e4, .ref e5, .ref e6, .int (nI en)])), (e1, .inl (cL, 288, .inr (.inl vals1))), (e2, .inl (cL, 288, .inr (.inl msks1))), (e3, .inl (cI, 72, .inl pre1)), (e4, .inl (cI, 72, .inl pri1)), (e5, .inl (cI, 72, .inl act1)), (e6, .inl (cL, 72, .inr (.inl dat1)))]) [0, 1, 2, 3, 4, 5, 6] rfl) hK (hD.sub (ws' := [(e0, .inr (1, [.ref e1, .ref e2, .ref e3, .ref e4, .ref e5, .ref e6, .int (nI en)])), (e1, .inl (cL, 288, .inr (.inl vals1))), (e2, .inl (cL, 288, .inr (.inl msks1))), (e3, .inl (cI, 72, .inl pre1)), (e4, .inl (cI, 72, .inl pri1)), (e5, .inl (cI, 72, .inl act1)), (e6, .inl (cL, 72, .inr (.inl dat1)))]) [0, 1, 2, 3, 4, 5, 6] (by decide) rfl) (va_recv (ci := 1) hK hP rfl (q0 := 0) rfl)) rfl rfl hl.1 rfl (lv_room (Nat.le_of_ble_eq_true rfl)) dX1_drop_17 ⟨Nat.zero_le _, Nat.zero_le _⟩) hP hD hS [0, 1, 2, 3, 4, 5, 6] [] [0, 1, 2, 3, 4, 5, 6] rfl rfl (by decide) rfl rfl (fun H locs hP hD hS => ?_)
      refine lv_iinc (v := nI (i + 1)) (lv' := [(2, .int (nI (i + 1))), (0, .ref e0), (1, .int (nI q))]) hx hb dX1_drop_20 hl (k := 0) rfl (nI_1 i) (by decide) rfl (fun ls hl => ?_)
      refine lv_goto (tgt := 2) hx hb dX1_drop_23 (by decide) ?_
      exact ih (i + 1) _ _ _ _ _ _ _ _ (by omega) hP hD hS ls (lv_sub hl [0, 1, 2] rfl)
  exact loop (en - 1 - q) q vals msks pre pri act dat _ _ (by omega) hP hD hS ls (lv_sub hl [0, 1, 2] rfl)
