/-! mod1 -/
set_option maxHeartbeats 4000000 in
set_option maxRecDepth 100000 in
/-- thrown -/
theorem c_X4_thrown (l : Launch) (dC : Nat → ClassId) (dI : Nat → Nat → Nat) (cI cL : ClassId) (g : Nat → Nat) (th : Int32) (kn : Nat) (n9 w9 s9 : Int32) (en : Nat) (made : Bool) (wd kinds : Nat → Int32) (av am vals msks : Nat → Int64) (pri act : Nat → Int32) (dat : Nat → Int64) (inb : Nat → Int32) (lat : Int64) : Met l yX4_thrown wsX4_thrown ({ frames := 0, cells := 0, slots := 0, locals := 0 }) (rd_P (dC, dI) vwCl [(cI, .int), (cL, .long)] [(g 0, .inr (4, [.int th, .int (nI kn), .int n9, .int w9, .int s9, .int (nI en), .int (bI made), .ref (g 1), .ref (g 2), .ref (g 3), .ref (g 4), .ref (g 5), .ref (g 6), .ref (g 7), .ref (g 8), .ref (g 9), .ref (g 10), .long lat])), (g 1, .inl (cI, 4, .inl wd)), (g 2, .inl (cI, 4, .inl kinds)), (g 3, .inl (cL, 4, .inr (.inl av))), (g 4, .inl (cL, 4, .inr (.inl am))), (g 5, .inl (cL, 288, .inr (.inl vals))), (g 6, .inl (cL, 288, .inr (.inl msks))), (g 7, .inl (cI, 72, .inl pri)), (g 8, .inl (cI, 72, .inl act)), (g 9, .inl (cL, 72, .inr (.inl dat))), (g 10, .inl (cI, 16, .inl inb))] [.ref (g 0)]) (rd_Q (some (.int th))) 0 0 (fun _ => False) := by
  refine Met.ofW (cc := cX4_thrown) (maxL := 1) (ret := some .int) (by decide) rfl ?_
  intro p e s m args below meth c s₁ B hml hv
  obtain ⟨rfl, hP, hK⟩ := hv
  have hx := B.exec
  have hb := B.bytes
  have hr := B.returns
  have hts := fun w h => atoms_spec (ws := wsX4_thrown) B.pre w (List.mem_cons_of_mem _ h)
  have hown : s.vm.findClass RX4 = some m.cls := findClass_of_methodNamed B.named
  have hlocks := B.notSynchronized
  have hl := lv_entry ([.ref (g 0)]) (n := 1) (Nat.le_of_ble_eq_true rfl)
  rw [lg_entry_eq]
  generalize (lg_sl ([.ref (g 0)]) ++ List.replicate (1 - (lg_sl ([.ref (g 0)])).length) Slot.unset).toArray = ls at hl ⊢
  have hl : lv_has ls 1 [(0, .ref (g 0))] := hl
  refine lv_aload_n hx hb dX4_thrown_0 rfl (lv_at hl 0 rfl) ?_
  refine va_get (D := (dC, dI)) (ci := 4) (v := .int th) (C := RX4) (T := TX4) (N := 18) hx hb hts inX4 hown hK hP 0 rfl rfl 0 (by decide) (hts _ mw457) (fun _ h9 => h9) rfl dX4_thrown_1 ?_
  exact rd_iret hx hb hr hlocks dX4_thrown_4 rfl (rfl)

set_option maxHeartbeats 4000000 in
set_option maxRecDepth 100000 in
/-- has -/
theorem c_X4_has (l : Launch) (dC : Nat → ClassId) (dI : Nat → Nat → Nat) (cI cL : ClassId) (g : Nat → Nat) (th : Int32) (kn : Nat) (n9 w9 s9 : Int32) (en : Nat) (made : Bool) (wd kinds : Nat → Int32) (av am vals msks : Nat → Int64) (pri act : Nat → Int32) (dat : Nat → Int64) (inb : Nat → Int32) (lat : Int64) (kd : Int32) (hk : kn ≤ 4) : Met l yX4_has wsX4_has ({ frames := 0, cells := 0, slots := 0, locals := 0 }) (rd_P (dC, dI) vwCl [(cI, .int), (cL, .long)] [(g 0, .inr (4, [.int th, .int (nI kn), .int n9, .int w9, .int s9, .int (nI en), .int (bI made), .ref (g 1), .ref (g 2), .ref (g 3), .ref (g 4), .ref (g 5), .ref (g 6), .ref (g 7), .ref (g 8), .ref (g 9), .ref (g 10), .long lat])), (g 1, .inl (cI, 4, .inl wd)), (g 2, .inl (cI, 4, .inl kinds)), (g 3, .inl (cL, 4, .inr (.inl av))), (g 4, .inl (cL, 4, .inr (.inl am))), (g 5, .inl (cL, 288, .inr (.inl vals))), (g 6, .inl (cL, 288, .inr (.inl msks))), (g 7, .inl (cI, 72, .inl pri)), (g 8, .inl (cI, 72, .inl act)), (g 9, .inl (cL, 72, .inr (.inl dat))), (g 10, .inl (cI, 16, .inl inb))] [.ref (g 0), .int kd]) (rd_Q (some (.int (bI (kHave kinds kn kd))))) 0 0 (fun _ => False) := by
  refine Met.ofW (cc := cX4_has) (maxL := 3) (ret := some .boolean) (by decide) rfl ?_
  intro p e s m args below meth c s₁ B hml hv
  obtain ⟨rfl, hP, hK⟩ := hv
  have hx := B.exec
  have hb := B.bytes
  have hr := B.returns
  have hts := fun w h => atoms_spec (ws := wsX4_has) B.pre w (List.mem_cons_of_mem _ h)
  have hown : s.vm.findClass RX4 = some m.cls := findClass_of_methodNamed B.named
  have hlocks := B.notSynchronized
  have hl := lv_entry ([.ref (g 0), .int kd]) (n := 3) (Nat.le_of_ble_eq_true rfl)
  rw [lg_entry_eq]
  generalize (lg_sl ([.ref (g 0), .int kd]) ++ List.replicate (3 - (lg_sl ([.ref (g 0), .int kd])).length) Slot.unset).toArray = ls at hl ⊢
  have hl : lv_has ls 3 [(0, .ref (g 0)), (1, .int kd)] := hl
  refine lv_iconst (v := (nI 0)) hx hb dX4_has_0 (by decide) ?_
  refine lv_istore_n (lv' := [(2, .int (nI 0)), (0, .ref (g 0)), (1, .int kd)]) hx hb dX4_has_1 rfl hl (by decide) rfl (fun ls hl => ?_)
  have loop : ∀ (n i : Nat), i + n = kn → ∀ ls : Array Slot, lv_has ls 3 [(2, .int (nI i)), (0, .ref (g 0)), (1, .int kd)] → W p l e (headSpec wsX4_has ({ frames := 0, cells := 0, slots := 0, locals := 0 })).room s m ([.ref (g 0), .int kd]).toArray below meth c s.heap [] 0 0 (MQ below (rd_Q (some (.int (bI (anyF (fun k => decide (kinds k = kd)) i n))))) ([.ref (g 0), .int kd]).toArray s 0 0 (fun _ => False)) (F0 m 2 ls []) := by
    intro n
    induction n with
    | zero =>
      intro i hi ls hl
      refine lv_iload_n hx hb dX4_has_2 rfl (lv_at hl 0 rfl) ?_
      refine lv_aload_n hx hb dX4_has_3 rfl (lv_at hl 1 rfl) ?_
      refine va_get (D := (dC, dI)) (ci := 4) (v := .int (nI kn)) (C := RX4) (T := TX4) (N := 18) hx hb hts inX4 hown hK hP 0 rfl rfl 1 (by decide) (hts _ mw458) (fun _ h9 => h9) rfl dX4_has_4 ?_
      refine n_ige i kn (tgt := 28) (hexec := hx) (hb := hb) dX4_has_7 (by decide) rfl rfl (by omega) (by omega) (fun c7 => ?_) (fun c7 => absurd c7 (by omega))
      refine lv_iconst (v := 0) hx hb dX4_has_28 (by decide) ?_
      exact rd_iret hx hb hr hlocks dX4_has_29 rfl (rfl)
    | succ n ih =>
      intro i hi ls hl
      refine lv_iload_n hx hb dX4_has_2 rfl (lv_at hl 0 rfl) ?_
      refine lv_aload_n hx hb dX4_has_3 rfl (lv_at hl 1 rfl) ?_
      refine va_get (D := (dC, dI)) (ci := 4) (v := .int (nI kn)) (C := RX4) (T := TX4) (N := 18) hx hb hts inX4 hown hK hP 0 rfl rfl 1 (by decide) (hts _ mw458) (fun _ h9 => h9) rfl dX4_has_4 ?_
      refine n_ige i kn (tgt := 28) (hexec := hx) (hb := hb) dX4_has_7 (by decide) rfl rfl (by omega) (by omega) (fun c7 => absurd c7 (by omega)) (fun c7 => ?_)
      refine lv_aload_n hx hb dX4_has_10 rfl (lv_at hl 1 rfl) ?_
      refine va_get (D := (dC, dI)) (ci := 4) (v := .ref (g 2)) (C := RX4) (T := TX4) (N := 18) hx hb hts inX4 hown hK hP 0 rfl rfl 8 (by decide) (hts _ mw465) (fun _ h9 => h9) rfl dX4_has_11 ?_
      refine lv_iload_n hx hb dX4_has_14 rfl (lv_at hl 0 rfl) ?_
      refine n_iald hx hb hK hP 2 0 rfl rfl (k := i) rfl (by omega) (by omega) dX4_has_15 ?_
      refine lv_iload_n hx hb dX4_has_16 rfl (lv_at hl 2 rfl) ?_
      refine lv_icmp_ne (tgt := 22) hx hb dX4_has_17 (by decide) (fun c17 => ?_) (fun c17 => ?_)
      · rw [show anyF (fun k => decide (kinds k = kd)) i (n + 1) = anyF (fun k => decide (kinds k = kd)) (i + 1) n from anyF_f (decide_eq_false c17)]
        refine lv_iinc (v := nI (i + 1)) (lv' := [(2, .int (nI (i + 1))), (0, .ref (g 0)), (1, .int kd)]) hx hb dX4_has_22 hl (k := 0) rfl (nI_1 i) (by decide) rfl (fun ls hl => ?_)
        refine lv_goto (tgt := 2) hx hb dX4_has_25 (by decide) ?_
        exact ih (i + 1) (by omega) ls (lv_sub hl [0, 1, 2] rfl)
      · refine lv_iconst (v := 1) hx hb dX4_has_20 (by decide) ?_
        exact rd_iret hx hb hr hlocks dX4_has_21 rfl (by rw [show anyF (fun k => decide (kinds k = kd)) i (n + 1) = true from anyF_t (decide_eq_true c17)]; rfl)
  exact loop kn 0 (by omega) ls (lv_sub hl [0, 1, 2] rfl)

set_option maxHeartbeats 4000000 in
set_option maxRecDepth 100000 in
/-- hashed -/
theorem c_X4_hashed (l : Launch) (dC : Nat → ClassId) (dI : Nat → Nat → Nat) (cI cL : ClassId) (g : Nat → Nat) (th : Int32) (kn : Nat) (n9 w9 s9 : Int32) (en : Nat) (made : Bool) (wd kinds : Nat → Int32) (av am vals msks : Nat → Int64) (pri act : Nat → Int32) (dat : Nat → Int64) (inb : Nat → Int32) (lat : Int64) (hk : kn ≤ 4) : Met l yX4_hashed wsX4_hashed ({ frames := 1, cells := 0, slots := 0, locals := 22 }) (rd_P (dC, dI) vwCl [(cI, .int), (cL, .long)] [(g 0, .inr (4, [.int th, .int (nI kn), .int n9, .int w9, .int s9, .int (nI en), .int (bI made), .ref (g 1), .ref (g 2), .ref (g 3), .ref (g 4), .ref (g 5), .ref (g 6), .ref (g 7), .ref (g 8), .ref (g 9), .ref (g 10), .long lat])), (g 1, .inl (cI, 4, .inl wd)), (g 2, .inl (cI, 4, .inl kinds)), (g 3, .inl (cL, 4, .inr (.inl av))), (g 4, .inl (cL, 4, .inr (.inl am))), (g 5, .inl (cL, 288, .inr (.inl vals))), (g 6, .inl (cL, 288, .inr (.inl msks))), (g 7, .inl (cI, 72, .inl pri)), (g 8, .inl (cI, 72, .inl act)), (g 9, .inl (cL, 72, .inr (.inl dat))), (g 10, .inl (cI, 16, .inl inb))] [.ref (g 0)]) (rd_Q (some (.int (bI (kExact kinds kn))))) 0 0 (fun _ => False) := by
  refine Met.ofW (cc := cX4_hashed) (maxL := 1) (ret := some .boolean) (by decide) rfl ?_
  intro p e s m args below meth c s₁ B hml hv
  obtain ⟨rfl, hP, hK⟩ := hv
  have hx := B.exec
  have hb := B.bytes
  have hr := B.returns
  have hts := fun w h => atoms_spec (ws := wsX4_hashed) B.pre w (List.mem_cons_of_mem _ h)
  have hown : s.vm.findClass RX4 = some m.cls := findClass_of_methodNamed B.named
  have hlocks := B.notSynchronized
  have hl := lv_entry ([.ref (g 0)]) (n := 1) (Nat.le_of_ble_eq_true rfl)
  rw [lg_entry_eq]
  generalize (lg_sl ([.ref (g 0)]) ++ List.replicate (1 - (lg_sl ([.ref (g 0)])).length) Slot.unset).toArray = ls at hl ⊢
  have hl : lv_has ls 1 [(0, .ref (g 0))] := hl
  refine lv_aload_n hx hb dX4_hashed_0 rfl (lv_at hl 0 rfl) ?_
  refine lv_iconst (v := 1) hx hb dX4_hashed_1 (by decide) ?_
  refine rd_calli (r := (bI (kHave kinds kn 1))) (va_runV (As := [.int 1]) (rest := []) ⟨hx, hb, hml, hown, hts⟩ (c_X4_has l dC dI cI cL g th kn n9 w9 s9 en made wd kinds av am vals msks pri act dat inb lat 1 hk) (cwV 1 hts (gV mw524 mw526 mw10 mw26 mw527) rfl rfl rfl (by decide +kernel) ⟨Nat.le_of_ble_eq_true rfl, Nat.le_of_ble_eq_true rfl⟩) (rd_preV (hP.sub (ws' := [(g 0, .inr (4, [.int th, .int (nI kn), .int n9, .int w9, .int s9, .int (nI en), .int (bI made), .ref (g 1), .ref (g 2), .ref (g 3), .ref (g 4), .ref (g 5), .ref (g 6), .ref (g 7), .ref (g 8), .ref (g 9), .ref (g 10), .long lat])), (g 1, .inl (cI, 4, .inl wd)), (g 2, .inl (cI, 4, .inl kinds)), (g 3, .inl (cL, 4, .inr (.inl av))), (g 4, .inl (cL, 4, .inr (.inl am))), (g 5, .inl (cL, 288, .inr (.inl vals))), (g 6, .inl (cL, 288, .inr (.inl msks))), (g 7, .inl (cI, 72, .inl pri)), (g 8, .inl (cI, 72, .inl act)), (g 9, .inl (cL, 72, .inr (.inl dat))), (g 10, .inl (cI, 16, .inl inb))]) [0, 1, 2, 3, 4, 5, 6, 7, 8, 9, 10] rfl) hK (va_recv (ci := 4) hK hP rfl (q0 := 0) rfl)) rfl rfl hl.1 rfl (lv_room (Nat.le_of_ble_eq_true rfl)) dX4_hashed_2 ⟨Nat.zero_le _, Nat.zero_le _⟩) ?_
  refine lv_if_ne (tgt := 20) hx hb dX4_hashed_5 (by decide) (fun c5 => ?_) (fun c5 => ?_)
  · refine lv_iconst (v := 0) hx hb dX4_hashed_20 (by decide) ?_
    exact rd_iret hx hb hr hlocks dX4_hashed_21 rfl (by unfold kExact; rw [bI_ne c5]; rfl)
  · refine lv_aload_n hx hb dX4_hashed_8 rfl (lv_at hl 0 rfl) ?_
    refine lv_iconst (v := 2) hx hb dX4_hashed_9 (by decide) ?_
    refine rd_calli (r := (bI (kHave kinds kn 2))) (va_runV (As := [.int 2]) (rest := []) ⟨hx, hb, hml, hown, hts⟩ (c_X4_has l dC dI cI cL g th kn n9 w9 s9 en made wd kinds av am vals msks pri act dat inb lat 2 hk) (cwV 1 hts (gV mw524 mw526 mw10 mw26 mw527) rfl rfl rfl (by decide +kernel) ⟨Nat.le_of_ble_eq_true rfl, Nat.le_of_ble_eq_true rfl⟩) (rd_preV (hP.sub (ws' := [(g 0, .inr (4, [.int th, .int (nI kn), .int n9, .int w9, .int s9, .int (nI en), .int (bI made), .ref (g 1), .ref (g 2), .ref (g 3), .ref (g 4), .ref (g 5), .ref (g 6), .ref (g 7), .ref (g 8), .ref (g 9), .ref (g 10), .long lat])), (g 1, .inl (cI, 4, .inl wd)), (g 2, .inl (cI, 4, .inl kinds)), (g 3, .inl (cL, 4, .inr (.inl av))), (g 4, .inl (cL, 4, .inr (.inl am))), (g 5, .inl (cL, 288, .inr (.inl vals))), (g 6, .inl (cL, 288, .inr (.inl msks))), (g 7, .inl (cI, 72, .inl pri)), (g 8, .inl (cI, 72, .inl act)), (g 9, .inl (cL, 72, .inr (.inl dat))), (g 10, .inl (cI, 16, .inl inb))]) [0, 1, 2, 3, 4, 5, 6, 7, 8, 9, 10] rfl) hK (va_recv (ci := 4) hK hP rfl (q0 := 0) rfl)) rfl rfl hl.1 rfl (lv_room (Nat.le_of_ble_eq_true rfl)) dX4_hashed_10 ⟨Nat.zero_le _, Nat.zero_le _⟩) ?_
    refine lv_if_ne (tgt := 20) hx hb dX4_hashed_13 (by decide) (fun c13 => ?_) (fun c13 => ?_)
    · refine lv_iconst (v := 0) hx hb dX4_hashed_20 (by decide) ?_
      exact rd_iret hx hb hr hlocks dX4_hashed_21 rfl (by unfold kExact; rw [bI_eq c5, bI_ne c13]; rfl)
    · refine lv_iconst (v := 1) hx hb dX4_hashed_16 (by decide) ?_
      refine lv_goto (tgt := 21) hx hb dX4_hashed_17 (by decide) ?_
      exact rd_iret hx hb hr hlocks dX4_hashed_21 rfl (by unfold kExact; rw [bI_eq c5, bI_eq c13]; rfl)

set_option maxHeartbeats 4000000 in
set_option maxRecDepth 100000 in
/-- ones -/
theorem c_X4_ones (l : Launch) (dC : Nat → ClassId) (dI : Nat → Nat → Nat) (cI cL : ClassId) (g : Nat → Nat) (th : Int32) (kn : Nat) (n9 w9 s9 : Int32) (en : Nat) (made : Bool) (wd kinds : Nat → Int32) (av am vals msks : Nat → Int64) (pri act : Nat → Int32) (dat : Nat → Int64) (inb : Nat → Int32) (lat : Int64) (k : Nat) (hk : k < 4) : Met l yX4_ones wsX4_ones ({ frames := 0, cells := 0, slots := 0, locals := 0 }) (rd_P (dC, dI) vwCl [(cI, .int), (cL, .long)] [(g 0, .inr (4, [.int th, .int (nI kn), .int n9, .int w9, .int s9, .int (nI en), .int (bI made), .ref (g 1), .ref (g 2), .ref (g 3), .ref (g 4), .ref (g 5), .ref (g 6), .ref (g 7), .ref (g 8), .ref (g 9), .ref (g 10), .long lat])), (g 1, .inl (cI, 4, .inl wd)), (g 2, .inl (cI, 4, .inl kinds)), (g 3, .inl (cL, 4, .inr (.inl av))), (g 4, .inl (cL, 4, .inr (.inl am))), (g 5, .inl (cL, 288, .inr (.inl vals))), (g 6, .inl (cL, 288, .inr (.inl msks))), (g 7, .inl (cI, 72, .inl pri)), (g 8, .inl (cI, 72, .inl act)), (g 9, .inl (cL, 72, .inr (.inl dat))), (g 10, .inl (cI, 16, .inl inb))] [.ref (g 0), .int (nI k)]) (rd_Q (some (.long (mOne (wd k))))) 0 0 (fun _ => False) := by
  refine Met.ofW (cc := cX4_ones) (maxL := 2) (ret := some .long) (by decide) rfl ?_
  intro p e s m args below meth c s₁ B hml hv
  obtain ⟨rfl, hP, hK⟩ := hv
  have hx := B.exec
  have hb := B.bytes
  have hr := B.returns
  have hts := fun w h => atoms_spec (ws := wsX4_ones) B.pre w (List.mem_cons_of_mem _ h)
  have hown : s.vm.findClass RX4 = some m.cls := findClass_of_methodNamed B.named
  have hlocks := B.notSynchronized
  have hl := lv_entry ([.ref (g 0), .int (nI k)]) (n := 2) (Nat.le_of_ble_eq_true rfl)
  rw [lg_entry_eq]
  generalize (lg_sl ([.ref (g 0), .int (nI k)]) ++ List.replicate (2 - (lg_sl ([.ref (g 0), .int (nI k)])).length) Slot.unset).toArray = ls at hl ⊢
  have hl : lv_has ls 2 [(0, .ref (g 0)), (1, .int (nI k))] := hl
  refine lv_aload_n hx hb dX4_ones_0 rfl (lv_at hl 0 rfl) ?_
  refine va_get (D := (dC, dI)) (ci := 4) (v := .ref (g 1)) (C := RX4) (T := TX4) (N := 18) hx hb hts inX4 hown hK hP 0 rfl rfl 7 (by decide) (hts _ mw464) (fun _ h9 => h9) rfl dX4_ones_1 ?_
  refine lv_iload_n hx hb dX4_ones_4 rfl (lv_at hl 1 rfl) ?_
  refine n_iald hx hb hK hP 1 0 rfl rfl (k := k) rfl hk (by omega) dX4_ones_5 ?_
  refine lv_bipush (v := 64) hx hb dX4_ones_6 (by decide) ?_
  refine lv_icmp_ne (tgt := 17) hx hb dX4_ones_8 (by decide) (fun c8 => ?_) (fun c8 => ?_)
  · refine lv_lconst (v := 1) hx hb dX4_ones_17 (by decide) ?_
    refine lv_aload_n hx hb dX4_ones_18 rfl (lv_at hl 0 rfl) ?_
    refine va_get (D := (dC, dI)) (ci := 4) (v := .ref (g 1)) (C := RX4) (T := TX4) (N := 18) hx hb hts inX4 hown hK hP 0 rfl rfl 7 (by decide) (hts _ mw464) (fun _ h9 => h9) rfl dX4_ones_19 ?_
    refine lv_iload_n hx hb dX4_ones_22 rfl (lv_at hl 1 rfl) ?_
    refine n_iald hx hb hK hP 1 0 rfl rfl (k := k) rfl hk (by omega) dX4_ones_23 ?_
    refine lv_lshl (v := lsh 1 (wd k)) hx hb dX4_ones_24 rfl ?_
    refine lv_lconst (v := 1) hx hb dX4_ones_25 (by decide) ?_
    refine lv_lsub hx hb dX4_ones_26 ?_
    exact rd_lret hx hb hr hlocks dX4_ones_27 (by unfold mOne; rw [if_neg c8])
  · refine lv_ldc2 (v := (-1)) hx hb hown (hts _ mw552) dX4_ones_11 ?_
    refine lv_goto (tgt := 27) hx hb dX4_ones_14 (by decide) ?_
    exact rd_lret hx hb hr hlocks dX4_ones_27 (by unfold mOne; rw [if_pos c8])

set_option maxHeartbeats 4000000 in
set_option maxRecDepth 100000 in
/-- onesIn -/
theorem c_X4_onesIn (l : Launch) (dC : Nat → ClassId) (dI : Nat → Nat → Nat) (cI cL : ClassId) (x : Int64) : Met l yX4_onesIn wsX4_onesIn ({ frames := 0, cells := 0, slots := 0, locals := 0 }) (rd_P (dC, dI) vwCl [(cI, .int), (cL, .long)] [] [.long x]) (rd_Q (some (.int (onesN x)))) 0 0 (fun _ => False) := by
  refine Met.ofW (cc := cX4_onesIn) (maxL := 4) (ret := some .int) (by decide) rfl ?_
  intro p e s m args below meth c s₁ B hml hv
  obtain ⟨rfl, hP, hK⟩ := hv
  have hx := B.exec
  have hb := B.bytes
  have hr := B.returns
  have hts := fun w h => atoms_spec (ws := wsX4_onesIn) B.pre w (List.mem_cons_of_mem _ h)
  have hown : s.vm.findClass RX4 = some m.cls := findClass_of_methodNamed B.named
  have hlocks := B.notSynchronized
  have hl := lv_entry ([.long x]) (n := 4) (Nat.le_of_ble_eq_true rfl)
  rw [lg_entry_eq]
  generalize (lg_sl ([.long x]) ++ List.replicate (4 - (lg_sl ([.long x])).length) Slot.unset).toArray = ls at hl ⊢
  have hl : lv_has ls 4 [(0, .long x)] := hl
  refine lv_iconst (v := 0) hx hb dX4_onesIn_0 (by decide) ?_
  refine lv_istore_n (lv' := [(2, .int 0), (0, .long x)]) hx hb dX4_onesIn_1 rfl hl (by decide) rfl (fun ls hl => ?_)
  refine lv_iconst (v := (nI 0)) hx hb dX4_onesIn_2 (by decide) ?_
  refine lv_istore_n (lv' := [(3, .int (nI 0)), (2, .int 0), (0, .long x)]) hx hb dX4_onesIn_3 rfl hl (by decide) rfl (fun ls hl => ?_)
  have loop : ∀ (n i : Nat) (a : Int32), i + n = 64 → ∀ ls : Array Slot, lv_has ls 4 [(3, .int (nI i)), (2, .int a), (0, .long x)] → W p l e (headSpec wsX4_onesIn ({ frames := 0, cells := 0, slots := 0, locals := 0 })).room s m ([.long x]).toArray below meth c s.heap [] 0 0 (MQ below (rd_Q (some (.int (onF x a i n)))) ([.long x]).toArray s 0 0 (fun _ => False)) (F0 m 4 ls []) := by
    intro n
    induction n with
    | zero =>
      intro i a hi ls hl
      refine lv_iload_n hx hb dX4_onesIn_4 rfl (lv_at hl 0 rfl) ?_
      refine lv_bipush (v := 64) hx hb dX4_onesIn_5 (by decide) ?_
      refine n_ige i 64 (tgt := 29) (hexec := hx) (hb := hb) dX4_onesIn_7 (by decide) rfl rfl (by omega) (by omega) (fun c7 => ?_) (fun c7 => absurd c7 (by omega))
      refine lv_iload_n hx hb dX4_onesIn_29 rfl (lv_at hl 1 rfl) ?_
      exact rd_iret hx hb hr hlocks dX4_onesIn_30 rfl (rfl)
    | succ n ih =>
      intro i a hi ls hl
      refine lv_iload_n hx hb dX4_onesIn_4 rfl (lv_at hl 0 rfl) ?_
      refine lv_bipush (v := 64) hx hb dX4_onesIn_5 (by decide) ?_
      refine n_ige i 64 (tgt := 29) (hexec := hx) (hb := hb) dX4_onesIn_7 (by decide) rfl rfl (by omega) (by omega) (fun c7 => absurd c7 (by omega)) (fun c7 => ?_)
      refine lv_lload_n hx hb dX4_onesIn_10 rfl (lv_at hl 2 rfl) ?_
      refine lv_iload_n hx hb dX4_onesIn_11 rfl (lv_at hl 0 rfl) ?_
      refine lv_lushr (v := ush x (nI i)) hx hb dX4_onesIn_12 rfl ?_
      refine lv_lconst (v := 1) hx hb dX4_onesIn_13 (by decide) ?_
      refine lv_land hx hb dX4_onesIn_14 ?_
      refine lv_lconst (v := 1) hx hb dX4_onesIn_15 (by decide) ?_
      refine n_lne (tgt := 23) hx hb dX4_onesIn_16 dX4_onesIn_17 (by decide) (fun c16 => ?_) (fun c16 => ?_)
      · rw [show onF x a i (n + 1) = onF x a (i + 1) n from onF_f c16]
        refine lv_iinc (v := nI (i + 1)) (lv' := [(3, .int (nI (i + 1))), (2, .int a), (0, .long x)]) hx hb dX4_onesIn_23 hl (k := 0) rfl (nI_1 i) (by decide) rfl (fun ls hl => ?_)
        refine lv_goto (tgt := 4) hx hb dX4_onesIn_26 (by decide) ?_
        exact ih (i + 1) a (by omega) ls (lv_sub hl [0, 1, 2] rfl)
      · rw [show onF x a i (n + 1) = onF x (a + 1) (i + 1) n from onF_t c16]
        refine lv_iinc (v := (a + 1)) (lv' := [(2, .int (a + 1)), (3, .int (nI i)), (0, .long x)]) hx hb dX4_onesIn_20 hl (k := 1) rfl (rfl) (by decide) rfl (fun ls hl => ?_)
        refine lv_iinc (v := nI (i + 1)) (lv' := [(3, .int (nI (i + 1))), (2, .int (a + 1)), (0, .long x)]) hx hb dX4_onesIn_23 hl (k := 1) rfl (nI_1 i) (by decide) rfl (fun ls hl => ?_)
        refine lv_goto (tgt := 4) hx hb dX4_onesIn_26 (by decide) ?_
        exact ih (i + 1) (a + 1) (by omega) ls (lv_sub hl [0, 1, 2] rfl)
  exact loop 64 0 0 (by omega) ls (lv_sub hl [0, 1, 2] rfl)

set_option maxHeartbeats 4000000 in
set_option maxRecDepth 100000 in
/-- masksAreRight -/
theorem c_X4_masksAreRight (l : Launch) (dC : Nat → ClassId) (dI : Nat → Nat → Nat) (cI cL : ClassId) (g : Nat → Nat) (th : Int32) (kn : Nat) (n9 w9 s9 : Int32) (en : Nat) (made : Bool) (wd kinds : Nat → Int32) (av am vals msks : Nat → Int64) (pri act : Nat → Int32) (dat : Nat → Int64) (inb : Nat → Int32) (lat : Int64) (hk : kn ≤ 4) : Met l yX4_masksAreRight wsX4_masksAreRight ({ frames := 1, cells := 0, slots := 0, locals := 21 }) (rd_P (dC, dI) vwCl [(cI, .int), (cL, .long)] [(g 0, .inr (4, [.int th, .int (nI kn), .int n9, .int w9, .int s9, .int (nI en), .int (bI made), .ref (g 1), .ref (g 2), .ref (g 3), .ref (g 4), .ref (g 5), .ref (g 6), .ref (g 7), .ref (g 8), .ref (g 9), .ref (g 10), .long lat])), (g 1, .inl (cI, 4, .inl wd)), (g 2, .inl (cI, 4, .inl kinds)), (g 3, .inl (cL, 4, .inr (.inl av))), (g 4, .inl (cL, 4, .inr (.inl am))), (g 5, .inl (cL, 288, .inr (.inl vals))), (g 6, .inl (cL, 288, .inr (.inl msks))), (g 7, .inl (cI, 72, .inl pri)), (g 8, .inl (cI, 72, .inl act)), (g 9, .inl (cL, 72, .inr (.inl dat))), (g 10, .inl (cI, 16, .inl inb))] [.ref (g 0)]) (rd_Q (some (.int (bI (cTakeAll kinds (fun k => mOne (wd k)) am kn))))) 0 0 (fun _ => False) := by
  refine Met.ofW (cc := cX4_masksAreRight) (maxL := 8) (ret := some .boolean) (by decide) rfl ?_
  intro p e s m args below meth c s₁ B hml hv
  obtain ⟨rfl, hP, hK⟩ := hv
  have hx := B.exec
  have hb := B.bytes
  have hr := B.returns
  have hts := fun w h => atoms_spec (ws := wsX4_masksAreRight) B.pre w (List.mem_cons_of_mem _ h)
  have hown : s.vm.findClass RX4 = some m.cls := findClass_of_methodNamed B.named
  have hlocks := B.notSynchronized
  have hl := lv_entry ([.ref (g 0)]) (n := 8) (Nat.le_of_ble_eq_true rfl)
  rw [lg_entry_eq]
  generalize (lg_sl ([.ref (g 0)]) ++ List.replicate (8 - (lg_sl ([.ref (g 0)])).length) Slot.unset).toArray = ls at hl ⊢
  have hl : lv_has ls 8 [(0, .ref (g 0))] := hl
  refine lv_iconst (v := (nI 0)) hx hb dX4_masksAreRight_0 (by decide) ?_
  refine lv_istore_n (lv' := [(1, .int (nI 0)), (0, .ref (g 0))]) hx hb dX4_masksAreRight_1 rfl hl (by decide) rfl (fun ls hl => ?_)
  have loop : ∀ (n i : Nat), i + n = kn → ∀ ls : Array Slot, lv_has ls 8 [(1, .int (nI i)), (0, .ref (g 0))] → W p l e (headSpec wsX4_masksAreRight ({ frames := 1, cells := 0, slots := 0, locals := 21 })).room s m ([.ref (g 0)]).toArray below meth c s.heap [] 0 0 (MQ below (rd_Q (some (.int (bI (allF (fun k => kTake (kinds k) ((fun k => mOne (wd k)) k) (am k &&& (fun k => mOne (wd k)) k)) i n))))) ([.ref (g 0)]).toArray s 0 0 (fun _ => False)) (F0 m 2 ls []) := by
    intro n
    induction n with
    | zero =>
      intro i hi ls hl
      refine lv_iload_n hx hb dX4_masksAreRight_2 rfl (lv_at hl 0 rfl) ?_
      refine lv_aload_n hx hb dX4_masksAreRight_3 rfl (lv_at hl 1 rfl) ?_
      refine va_get (D := (dC, dI)) (ci := 4) (v := .int (nI kn)) (C := RX4) (T := TX4) (N := 18) hx hb hts inX4 hown hK hP 0 rfl rfl 1 (by decide) (hts _ mw458) (fun _ h9 => h9) rfl dX4_masksAreRight_4 ?_
      refine n_ige i kn (tgt := 84) (hexec := hx) (hb := hb) dX4_masksAreRight_7 (by decide) rfl rfl (by omega) (by omega) (fun c7 => ?_) (fun c7 => absurd c7 (by omega))
      refine lv_iconst (v := 1) hx hb dX4_masksAreRight_84 (by decide) ?_
      exact rd_iret hx hb hr hlocks dX4_masksAreRight_85 rfl (rfl)
    | succ n ih =>
      intro i hi ls hl
      refine lv_iload_n hx hb dX4_masksAreRight_2 rfl (lv_at hl 0 rfl) ?_
      refine lv_aload_n hx hb dX4_masksAreRight_3 rfl (lv_at hl 1 rfl) ?_
      refine va_get (D := (dC, dI)) (ci := 4) (v := .int (nI kn)) (C := RX4) (T := TX4) (N := 18) hx hb hts inX4 hown hK hP 0 rfl rfl 1 (by decide) (hts _ mw458) (fun _ h9 => h9) rfl dX4_masksAreRight_4 ?_
      refine n_ige i kn (tgt := 84) (hexec := hx) (hb := hb) dX4_masksAreRight_7 (by decide) rfl rfl (by omega) (by omega) (fun c7 => absurd c7 (by omega)) (fun c7 => ?_)
      refine lv_aload_n hx hb dX4_masksAreRight_10 rfl (lv_at hl 1 rfl) ?_
      refine lv_iload_n hx hb dX4_masksAreRight_11 rfl (lv_at hl 0 rfl) ?_
      refine rd_calll (r := (mOne (wd i))) (va_runV (As := [.int (nI i)]) (rest := []) ⟨hx, hb, hml, hown, hts⟩ (c_X4_ones l dC dI cI cL g th kn n9 w9 s9 en made wd kinds av am vals msks pri act dat inb lat i (by omega)) (cwV 1 hts (gV mw548 mw550 mw13 mw26 mw551) rfl rfl rfl (by decide +kernel) ⟨Nat.le_of_ble_eq_true rfl, Nat.le_of_ble_eq_true rfl⟩) (rd_preV (hP.sub (ws' := [(g 0, .inr (4, [.int th, .int (nI kn), .int n9, .int w9, .int s9, .int (nI en), .int (bI made), .ref (g 1), .ref (g 2), .ref (g 3), .ref (g 4), .ref (g 5), .ref (g 6), .ref (g 7), .ref (g 8), .ref (g 9), .ref (g 10), .long lat])), (g 1, .inl (cI, 4, .inl wd)), (g 2, .inl (cI, 4, .inl kinds)), (g 3, .inl (cL, 4, .inr (.inl av))), (g 4, .inl (cL, 4, .inr (.inl am))), (g 5, .inl (cL, 288, .inr (.inl vals))), (g 6, .inl (cL, 288, .inr (.inl msks))), (g 7, .inl (cI, 72, .inl pri)), (g 8, .inl (cI, 72, .inl act)), (g 9, .inl (cL, 72, .inr (.inl dat))), (g 10, .inl (cI, 16, .inl inb))]) [0, 1, 2, 3, 4, 5, 6, 7, 8, 9, 10] rfl) hK (va_recv (ci := 4) hK hP rfl (q0 := 0) rfl)) rfl rfl hl.1 rfl (lv_room (Nat.le_of_ble_eq_true rfl)) dX4_masksAreRight_12 ⟨Nat.zero_le _, Nat.zero_le _⟩) ?_
      refine lv_lstore_n (lv' := [(2, .long (mOne (wd i))), (1, .int (nI i)), (0, .ref (g 0))]) hx hb dX4_masksAreRight_15 rfl hl (by decide) rfl (fun ls hl => ?_)
      refine lv_aload_n hx hb dX4_masksAreRight_16 rfl (lv_at hl 2 rfl) ?_
      refine va_get (D := (dC, dI)) (ci := 4) (v := .ref (g 4)) (C := RX4) (T := TX4) (N := 18) hx hb hts inX4 hown hK hP 0 rfl rfl 10 (by decide) (hts _ mw467) (fun _ h9 => h9) rfl dX4_masksAreRight_17 ?_
      refine lv_iload_n hx hb dX4_masksAreRight_20 rfl (lv_at hl 1 rfl) ?_
      refine n_lald hx hb hK hP 4 1 rfl rfl (k := i) rfl (by omega) (by omega) dX4_masksAreRight_21 ?_
      refine lv_lload_n hx hb dX4_masksAreRight_22 rfl (lv_at hl 0 rfl) ?_
      refine lv_land hx hb dX4_masksAreRight_23 ?_
      refine lv_lstore (lv' := [(4, .long ((am i) &&& (mOne (wd i)))), (2, .long (mOne (wd i))), (1, .int (nI i)), (0, .ref (g 0))]) hx hb dX4_masksAreRight_24 hl (by decide) rfl (fun ls hl => ?_)
      refine lv_aload_n hx hb dX4_masksAreRight_26 rfl (lv_at hl 3 rfl) ?_
      refine va_get (D := (dC, dI)) (ci := 4) (v := .ref (g 2)) (C := RX4) (T := TX4) (N := 18) hx hb hts inX4 hown hK hP 0 rfl rfl 8 (by decide) (hts _ mw465) (fun _ h9 => h9) rfl dX4_masksAreRight_27 ?_
      refine lv_iload_n hx hb dX4_masksAreRight_30 rfl (lv_at hl 2 rfl) ?_
      refine n_iald hx hb hK hP 2 0 rfl rfl (k := i) rfl (by omega) (by omega) dX4_masksAreRight_31 ?_
      refine lv_if_ne (tgt := 44) hx hb dX4_masksAreRight_32 (by decide) (fun c32 => ?_) (fun c32 => ?_)
      · refine lv_lload_n hx hb dX4_masksAreRight_44 rfl (lv_at hl 1 rfl) ?_
        refine lv_lload hx hb dX4_masksAreRight_45 (lv_at hl 0 rfl) ?_
        refine lv_ldc2 (v := (-1)) hx hb hown (hts _ mw552) dX4_masksAreRight_47 ?_
        refine lv_lxor hx hb dX4_masksAreRight_50 ?_
        refine lv_land hx hb dX4_masksAreRight_51 ?_
        refine lv_lstore (lv' := [(6, .long ((mOne (wd i)) &&& (((am i) &&& (mOne (wd i))) ^^^ (-1)))), (4, .long ((am i) &&& (mOne (wd i)))), (2, .long (mOne (wd i))), (1, .int (nI i)), (0, .ref (g 0))]) hx hb dX4_masksAreRight_52 hl (by decide) rfl (fun ls hl => ?_)
        refine lv_aload_n hx hb dX4_masksAreRight_54 rfl (lv_at hl 4 rfl) ?_
        refine va_get (D := (dC, dI)) (ci := 4) (v := .ref (g 2)) (C := RX4) (T := TX4) (N := 18) hx hb hts inX4 hown hK hP 0 rfl rfl 8 (by decide) (hts _ mw465) (fun _ h9 => h9) rfl dX4_masksAreRight_55 ?_
        refine lv_iload_n hx hb dX4_masksAreRight_58 rfl (lv_at hl 3 rfl) ?_
        refine n_iald hx hb hK hP 2 0 rfl rfl (k := i) rfl (by omega) (by omega) dX4_masksAreRight_59 ?_
        refine lv_iconst (v := 1) hx hb dX4_masksAreRight_60 (by decide) ?_
        refine lv_icmp_ne (tgt := 78) hx hb dX4_masksAreRight_61 (by decide) (fun c61 => ?_) (fun c61 => ?_)
        · rw [show allF (fun k => kTake (kinds k) ((fun k => mOne (wd k)) k) (am k &&& (fun k => mOne (wd k)) k)) i (n + 1) = allF (fun k => kTake (kinds k) ((fun k => mOne (wd k)) k) (am k &&& (fun k => mOne (wd k)) k)) (i + 1) n from allF_t (by show kTake (kinds i) (mOne (wd i)) (am i &&& mOne (wd i)) = true; unfold kTake; rw [if_neg c32, if_neg c61])]
          refine lv_iinc (v := nI (i + 1)) (lv' := [(1, .int (nI (i + 1))), (6, .long ((mOne (wd i)) &&& (((am i) &&& (mOne (wd i))) ^^^ (-1)))), (4, .long ((am i) &&& (mOne (wd i)))), (2, .long (mOne (wd i))), (0, .ref (g 0))]) hx hb dX4_masksAreRight_78 hl (k := 3) rfl (nI_1 i) (by decide) rfl (fun ls hl => ?_)
          refine lv_goto (tgt := 2) hx hb dX4_masksAreRight_81 (by decide) ?_
          exact ih (i + 1) (by omega) ls (lv_sub hl [0, 4] rfl)
        · refine lv_lload hx hb dX4_masksAreRight_64 (lv_at hl 0 rfl) ?_
          refine lv_lload hx hb dX4_masksAreRight_66 (lv_at hl 0 rfl) ?_
          refine lv_lconst (v := 1) hx hb dX4_masksAreRight_68 (by decide) ?_
          refine lv_ladd hx hb dX4_masksAreRight_69 ?_
          refine lv_land hx hb dX4_masksAreRight_70 ?_
          refine lv_lconst (v := 0) hx hb dX4_masksAreRight_71 (by decide) ?_
          refine n_leq (tgt := 78) hx hb dX4_masksAreRight_72 dX4_masksAreRight_73 (by decide) (fun c72 => ?_) (fun c72 => ?_)
          · rw [show allF (fun k => kTake (kinds k) ((fun k => mOne (wd k)) k) (am k &&& (fun k => mOne (wd k)) k)) i (n + 1) = allF (fun k => kTake (kinds k) ((fun k => mOne (wd k)) k) (am k &&& (fun k => mOne (wd k)) k)) (i + 1) n from allF_t (by show kTake (kinds i) (mOne (wd i)) (am i &&& mOne (wd i)) = true; unfold kTake; rw [c61, if_neg (by decide), if_pos rfl, decide_eq_true c72])]
            refine lv_iinc (v := nI (i + 1)) (lv' := [(1, .int (nI (i + 1))), (6, .long ((mOne (wd i)) &&& (((am i) &&& (mOne (wd i))) ^^^ (-1)))), (4, .long ((am i) &&& (mOne (wd i)))), (2, .long (mOne (wd i))), (0, .ref (g 0))]) hx hb dX4_masksAreRight_78 hl (k := 3) rfl (nI_1 i) (by decide) rfl (fun ls hl => ?_)
            refine lv_goto (tgt := 2) hx hb dX4_masksAreRight_81 (by decide) ?_
            exact ih (i + 1) (by omega) ls (lv_sub hl [0, 4] rfl)
          · refine lv_iconst (v := 0) hx hb dX4_masksAreRight_76 (by decide) ?_
            exact rd_iret hx hb hr hlocks dX4_masksAreRight_77 rfl (by rw [show allF (fun k => kTake (kinds k) ((fun k => mOne (wd k)) k) (am k &&& (fun k => mOne (wd k)) k)) i (n + 1) = false from allF_f (by show kTake (kinds i) (mOne (wd i)) (am i &&& mOne (wd i)) = false; unfold kTake; rw [c61, if_neg (by decide), if_pos rfl, decide_eq_false c72])]; rfl)
      · refine lv_lload hx hb dX4_masksAreRight_35 (lv_at hl 0 rfl) ?_
        refine lv_lload_n hx hb dX4_masksAreRight_37 rfl (lv_at hl 1 rfl) ?_
        refine n_leq (tgt := 44) hx hb dX4_masksAreRight_38 dX4_masksAreRight_39 (by decide) (fun c38 => ?_) (fun c38 => ?_)
        · refine lv_lload_n hx hb dX4_masksAreRight_44 rfl (lv_at hl 1 rfl) ?_
          refine lv_lload hx hb dX4_masksAreRight_45 (lv_at hl 0 rfl) ?_
          refine lv_ldc2 (v := (-1)) hx hb hown (hts _ mw552) dX4_masksAreRight_47 ?_
          refine lv_lxor hx hb dX4_masksAreRight_50 ?_
          refine lv_land hx hb dX4_masksAreRight_51 ?_
          refine lv_lstore (lv' := [(6, .long ((mOne (wd i)) &&& (((am i) &&& (mOne (wd i))) ^^^ (-1)))), (4, .long ((am i) &&& (mOne (wd i)))), (2, .long (mOne (wd i))), (1, .int (nI i)), (0, .ref (g 0))]) hx hb dX4_masksAreRight_52 hl (by decide) rfl (fun ls hl => ?_)
          refine lv_aload_n hx hb dX4_masksAreRight_54 rfl (lv_at hl 4 rfl) ?_
          refine va_get (D := (dC, dI)) (ci := 4) (v := .ref (g 2)) (C := RX4) (T := TX4) (N := 18) hx hb hts inX4 hown hK hP 0 rfl rfl 8 (by decide) (hts _ mw465) (fun _ h9 => h9) rfl dX4_masksAreRight_55 ?_
          refine lv_iload_n hx hb dX4_masksAreRight_58 rfl (lv_at hl 3 rfl) ?_
          refine n_iald hx hb hK hP 2 0 rfl rfl (k := i) rfl (by omega) (by omega) dX4_masksAreRight_59 ?_
          refine lv_iconst (v := 1) hx hb dX4_masksAreRight_60 (by decide) ?_
          refine lv_icmp_ne (tgt := 78) hx hb dX4_masksAreRight_61 (by decide) (fun c61 => ?_) (fun c61 => absurd (c32.symm.trans c61) (by decide))
          rw [show allF (fun k => kTake (kinds k) ((fun k => mOne (wd k)) k) (am k &&& (fun k => mOne (wd k)) k)) i (n + 1) = allF (fun k => kTake (kinds k) ((fun k => mOne (wd k)) k) (am k &&& (fun k => mOne (wd k)) k)) (i + 1) n from allF_t (by show kTake (kinds i) (mOne (wd i)) (am i &&& mOne (wd i)) = true; unfold kTake; rw [if_pos c32, decide_eq_true ((t_ex _ _).mp c38)])]
          refine lv_iinc (v := nI (i + 1)) (lv' := [(1, .int (nI (i + 1))), (6, .long ((mOne (wd i)) &&& (((am i) &&& (mOne (wd i))) ^^^ (-1)))), (4, .long ((am i) &&& (mOne (wd i)))), (2, .long (mOne (wd i))), (0, .ref (g 0))]) hx hb dX4_masksAreRight_78 hl (k := 3) rfl (nI_1 i) (by decide) rfl (fun ls hl => ?_)
          refine lv_goto (tgt := 2) hx hb dX4_masksAreRight_81 (by decide) ?_
          exact ih (i + 1) (by omega) ls (lv_sub hl [0, 4] rfl)
        · refine lv_iconst (v := 0) hx hb dX4_masksAreRight_42 (by decide) ?_
          exact rd_iret hx hb hr hlocks dX4_masksAreRight_43 rfl (by rw [show allF (fun k => kTake (kinds k) ((fun k => mOne (wd k)) k) (am k &&& (fun k => mOne (wd k)) k)) i (n + 1) = false from allF_f (by show kTake (kinds i) (mOne (wd i)) (am i &&& mOne (wd i)) = false; unfold kTake; rw [if_pos c32, decide_eq_false (fun z => c38 ((t_ex _ _).mpr z))])]; rfl)
  exact loop kn 0 (by omega) ls (lv_sub hl [0, 1] rfl)

set_option maxHeartbeats 4000000 in
set_option maxRecDepth 100000 in
/-- matches -/
theorem c_X4_matches (l : Launch) (dC : Nat → ClassId) (dI : Nat → Nat → Nat) (cI cL : ClassId) (g : Nat → Nat) (th : Int32) (kn : Nat) (n9 w9 s9 : Int32) (en : Nat) (made : Bool) (wd kinds : Nat → Int32) (av am vals msks : Nat → Int64) (pri act : Nat → Int32) (dat : Nat → Int64) (inb : Nat → Int32) (lat : Int64) (q : Nat) (hk : kn ≤ 4) (hq : q < 72) : Met l yX4_matches wsX4_matches ({ frames := 0, cells := 0, slots := 0, locals := 0 }) (rd_P (dC, dI) vwCl [(cI, .int), (cL, .long)] [(g 0, .inr (4, [.int th, .int (nI kn), .int n9, .int w9, .int s9, .int (nI en), .int (bI made), .ref (g 1), .ref (g 2), .ref (g 3), .ref (g 4), .ref (g 5), .ref (g 6), .ref (g 7), .ref (g 8), .ref (g 9), .ref (g 10), .long lat])), (g 1, .inl (cI, 4, .inl wd)), (g 2, .inl (cI, 4, .inl kinds)), (g 3, .inl (cL, 4, .inr (.inl av))), (g 4, .inl (cL, 4, .inr (.inl am))), (g 5, .inl (cL, 288, .inr (.inl vals))), (g 6, .inl (cL, 288, .inr (.inl msks))), (g 7, .inl (cI, 72, .inl pri)), (g 8, .inl (cI, 72, .inl act)), (g 9, .inl (cL, 72, .inr (.inl dat))), (g 10, .inl (cI, 16, .inl inb))] [.ref (g 0), .int (nI q)]) (rd_Q (some (.int (bI (cFit av vals msks kn q))))) 0 0 (fun _ => False) := by
  refine Met.ofW (cc := cX4_matches) (maxL := 3) (ret := some .boolean) (by decide) rfl ?_
  intro p e s m args below meth c s₁ B hml hv
  obtain ⟨rfl, hP, hK⟩ := hv
  have hx := B.exec
  have hb := B.bytes
  have hr := B.returns
  have hts := fun w h => atoms_spec (ws := wsX4_matches) B.pre w (List.mem_cons_of_mem _ h)
  have hown : s.vm.findClass RX4 = some m.cls := findClass_of_methodNamed B.named
  have hlocks := B.notSynchronized
  have hl := lv_entry ([.ref (g 0), .int (nI q)]) (n := 3) (Nat.le_of_ble_eq_true rfl)
  rw [lg_entry_eq]
  generalize (lg_sl ([.ref (g 0), .int (nI q)]) ++ List.replicate (3 - (lg_sl ([.ref (g 0), .int (nI q)])).length) Slot.unset).toArray = ls at hl ⊢
  have hl : lv_has ls 3 [(0, .ref (g 0)), (1, .int (nI q))] := hl
  refine lv_iconst (v := (nI 0)) hx hb dX4_matches_0 (by decide) ?_
  refine lv_istore_n (lv' := [(2, .int (nI 0)), (0, .ref (g 0)), (1, .int (nI q))]) hx hb dX4_matches_1 rfl hl (by decide) rfl (fun ls hl => ?_)
  have loop : ∀ (n i : Nat), i + n = kn → ∀ ls : Array Slot, lv_has ls 3 [(2, .int (nI i)), (0, .ref (g 0)), (1, .int (nI q))] → W p l e (headSpec wsX4_matches ({ frames := 0, cells := 0, slots := 0, locals := 0 })).room s m ([.ref (g 0), .int (nI q)]).toArray below meth c s.heap [] 0 0 (MQ below (rd_Q (some (.int (bI (allF (cFitP av vals msks q) i n))))) ([.ref (g 0), .int (nI q)]).toArray s 0 0 (fun _ => False)) (F0 m 2 ls []) := by
    intro n
    induction n with
    | zero =>
      intro i hi ls hl
      refine lv_iload_n hx hb dX4_matches_2 rfl (lv_at hl 0 rfl) ?_
      refine lv_aload_n hx hb dX4_matches_3 rfl (lv_at hl 1 rfl) ?_
      refine va_get (D := (dC, dI)) (ci := 4) (v := .int (nI kn)) (C := RX4) (T := TX4) (N := 18) hx hb hts inX4 hown hK hP 0 rfl rfl 1 (by decide) (hts _ mw458) (fun _ h9 => h9) rfl dX4_matches_4 ?_
      refine n_ige i kn (tgt := 49) (hexec := hx) (hb := hb) dX4_matches_7 (by decide) rfl rfl (by omega) (by omega) (fun c7 => ?_) (fun c7 => absurd c7 (by omega))
      refine lv_iconst (v := 1) hx hb dX4_matches_49 (by decide) ?_
      exact rd_iret hx hb hr hlocks dX4_matches_50 rfl (rfl)
    | succ n ih =>
      intro i hi ls hl
      refine lv_iload_n hx hb dX4_matches_2 rfl (lv_at hl 0 rfl) ?_
      refine lv_aload_n hx hb dX4_matches_3 rfl (lv_at hl 1 rfl) ?_
      refine va_get (D := (dC, dI)) (ci := 4) (v := .int (nI kn)) (C := RX4) (T := TX4) (N := 18) hx hb hts inX4 hown hK hP 0 rfl rfl 1 (by decide) (hts _ mw458) (fun _ h9 => h9) rfl dX4_matches_4 ?_
      refine n_ige i kn (tgt := 49) (hexec := hx) (hb := hb) dX4_matches_7 (by decide) rfl rfl (by omega) (by omega) (fun c7 => absurd c7 (by omega)) (fun c7 => ?_)
      refine lv_aload_n hx hb dX4_matches_10 rfl (lv_at hl 1 rfl) ?_
      refine va_get (D := (dC, dI)) (ci := 4) (v := .ref (g 3)) (C := RX4) (T := TX4) (N := 18) hx hb hts inX4 hown hK hP 0 rfl rfl 9 (by decide) (hts _ mw466) (fun _ h9 => h9) rfl dX4_matches_11 ?_
      refine lv_iload_n hx hb dX4_matches_14 rfl (lv_at hl 0 rfl) ?_
      refine n_lald hx hb hK hP 3 1 rfl rfl (k := i) rfl (by omega) (by omega) dX4_matches_15 ?_
      refine lv_aload_n hx hb dX4_matches_16 rfl (lv_at hl 1 rfl) ?_
      refine va_get (D := (dC, dI)) (ci := 4) (v := .ref (g 6)) (C := RX4) (T := TX4) (N := 18) hx hb hts inX4 hown hK hP 0 rfl rfl 12 (by decide) (hts _ mw469) (fun _ h9 => h9) rfl dX4_matches_17 ?_
      refine lv_iconst (v := 4) hx hb dX4_matches_20 (by decide) ?_
      refine lv_iload_n hx hb dX4_matches_21 rfl (lv_at hl 2 rfl) ?_
      refine lv_imul hx hb dX4_matches_22 ?_
      refine lv_iload_n hx hb dX4_matches_23 rfl (lv_at hl 0 rfl) ?_
      refine lv_iadd hx hb dX4_matches_24 ?_
      refine n_lald hx hb hK hP 6 1 rfl rfl (k := q * 4 + i) (n_ix q i) (by omega) (by omega) dX4_matches_25 ?_
      refine lv_land hx hb dX4_matches_26 ?_
      refine lv_aload_n hx hb dX4_matches_27 rfl (lv_at hl 1 rfl) ?_
      refine va_get (D := (dC, dI)) (ci := 4) (v := .ref (g 5)) (C := RX4) (T := TX4) (N := 18) hx hb hts inX4 hown hK hP 0 rfl rfl 11 (by decide) (hts _ mw468) (fun _ h9 => h9) rfl dX4_matches_28 ?_
      refine lv_iconst (v := 4) hx hb dX4_matches_31 (by decide) ?_
      refine lv_iload_n hx hb dX4_matches_32 rfl (lv_at hl 2 rfl) ?_
      refine lv_imul hx hb dX4_matches_33 ?_
      refine lv_iload_n hx hb dX4_matches_34 rfl (lv_at hl 0 rfl) ?_
      refine lv_iadd hx hb dX4_matches_35 ?_
      refine n_lald hx hb hK hP 5 1 rfl rfl (k := q * 4 + i) (n_ix q i) (by omega) (by omega) dX4_matches_36 ?_
      refine n_leq (tgt := 43) hx hb dX4_matches_37 dX4_matches_38 (by decide) (fun c37 => ?_) (fun c37 => ?_)
      · rw [show allF (cFitP av vals msks q) i (n + 1) = allF (cFitP av vals msks q) (i + 1) n from allF_t (by simp [cFitP, c37])]
        refine lv_iinc (v := nI (i + 1)) (lv' := [(2, .int (nI (i + 1))), (0, .ref (g 0)), (1, .int (nI q))]) hx hb dX4_matches_43 hl (k := 0) rfl (nI_1 i) (by decide) rfl (fun ls hl => ?_)
        refine lv_goto (tgt := 2) hx hb dX4_matches_46 (by decide) ?_
        exact ih (i + 1) (by omega) ls (lv_sub hl [0, 1, 2] rfl)
      · refine lv_iconst (v := 0) hx hb dX4_matches_41 (by decide) ?_
        exact rd_iret hx hb hr hlocks dX4_matches_42 rfl (by rw [show allF (cFitP av vals msks q) i (n + 1) = false from allF_f (by simp [cFitP, c37])]; rfl)
  exact loop kn 0 (by omega) ls (lv_sub hl [0, 1, 2] rfl)

set_option maxHeartbeats 4000000 in
set_option maxRecDepth 100000 in
/-- prefixOnes -/
theorem c_X4_prefixOnes (l : Launch) (dC : Nat → ClassId) (dI : Nat → Nat → Nat) (cI cL : ClassId) (g : Nat → Nat) (th : Int32) (kn : Nat) (n9 w9 s9 : Int32) (en : Nat) (made : Bool) (wd kinds : Nat → Int32) (av am vals msks : Nat → Int64) (pri act : Nat → Int32) (dat : Nat → Int64) (inb : Nat → Int32) (lat : Int64) (q : Nat) (hk : kn ≤ 4) (hq : q < 72) : Met l yX4_prefixOnes wsX4_prefixOnes ({ frames := 1, cells := 0, slots := 0, locals := 23 }) (rd_P (dC, dI) vwCl [(cI, .int), (cL, .long)] [(g 0, .inr (4, [.int th, .int (nI kn), .int n9, .int w9, .int s9, .int (nI en), .int (bI made), .ref (g 1), .ref (g 2), .ref (g 3), .ref (g 4), .ref (g 5), .ref (g 6), .ref (g 7), .ref (g 8), .ref (g 9), .ref (g 10), .long lat])), (g 1, .inl (cI, 4, .inl wd)), (g 2, .inl (cI, 4, .inl kinds)), (g 3, .inl (cL, 4, .inr (.inl av))), (g 4, .inl (cL, 4, .inr (.inl am))), (g 5, .inl (cL, 288, .inr (.inl vals))), (g 6, .inl (cL, 288, .inr (.inl msks))), (g 7, .inl (cI, 72, .inl pri)), (g 8, .inl (cI, 72, .inl act)), (g 9, .inl (cL, 72, .inr (.inl dat))), (g 10, .inl (cI, 16, .inl inb))] [.ref (g 0), .int (nI q)]) (rd_Q (some (.int (mPre kinds msks kn q)))) 0 0 (fun _ => False) := by
  refine Met.ofW (cc := cX4_prefixOnes) (maxL := 3) (ret := some .int) (by decide) rfl ?_
  intro p e s m args below meth c s₁ B hml hv
  obtain ⟨rfl, hP, hK⟩ := hv
  have hx := B.exec
  have hb := B.bytes
  have hr := B.returns
  have hts := fun w h => atoms_spec (ws := wsX4_prefixOnes) B.pre w (List.mem_cons_of_mem _ h)
  have hown : s.vm.findClass RX4 = some m.cls := findClass_of_methodNamed B.named
  have hlocks := B.notSynchronized
  have hl := lv_entry ([.ref (g 0), .int (nI q)]) (n := 3) (Nat.le_of_ble_eq_true rfl)
  rw [lg_entry_eq]
  generalize (lg_sl ([.ref (g 0), .int (nI q)]) ++ List.replicate (3 - (lg_sl ([.ref (g 0), .int (nI q)])).length) Slot.unset).toArray = ls at hl ⊢
  have hl : lv_has ls 3 [(0, .ref (g 0)), (1, .int (nI q))] := hl
  refine lv_iconst (v := (nI 0)) hx hb dX4_prefixOnes_0 (by decide) ?_
  refine lv_istore_n (lv' := [(2, .int (nI 0)), (0, .ref (g 0)), (1, .int (nI q))]) hx hb dX4_prefixOnes_1 rfl hl (by decide) rfl (fun ls hl => ?_)
  have loop : ∀ (n i : Nat), i + n = kn → ∀ ls : Array Slot, lv_has ls 3 [(2, .int (nI i)), (0, .ref (g 0)), (1, .int (nI q))] → W p l e (headSpec wsX4_prefixOnes ({ frames := 1, cells := 0, slots := 0, locals := 23 })).room s m ([.ref (g 0), .int (nI q)]).toArray below meth c s.heap [] 0 0 (MQ below (rd_Q (some (.int (pFst kinds (fun k => msks (q * 4 + k)) i n)))) ([.ref (g 0), .int (nI q)]).toArray s 0 0 (fun _ => False)) (F0 m 2 ls []) := by
    intro n
    induction n with
    | zero =>
      intro i hi ls hl
      refine lv_iload_n hx hb dX4_prefixOnes_2 rfl (lv_at hl 0 rfl) ?_
      refine lv_aload_n hx hb dX4_prefixOnes_3 rfl (lv_at hl 1 rfl) ?_
      refine va_get (D := (dC, dI)) (ci := 4) (v := .int (nI kn)) (C := RX4) (T := TX4) (N := 18) hx hb hts inX4 hown hK hP 0 rfl rfl 1 (by decide) (hts _ mw458) (fun _ h9 => h9) rfl dX4_prefixOnes_4 ?_
      refine n_ige i kn (tgt := 40) (hexec := hx) (hb := hb) dX4_prefixOnes_7 (by decide) rfl rfl (by omega) (by omega) (fun c7 => ?_) (fun c7 => absurd c7 (by omega))
      refine lv_iconst (v := 0) hx hb dX4_prefixOnes_40 (by decide) ?_
      exact rd_iret hx hb hr hlocks dX4_prefixOnes_41 rfl (rfl)
    | succ n ih =>
      intro i hi ls hl
      refine lv_iload_n hx hb dX4_prefixOnes_2 rfl (lv_at hl 0 rfl) ?_
      refine lv_aload_n hx hb dX4_prefixOnes_3 rfl (lv_at hl 1 rfl) ?_
      refine va_get (D := (dC, dI)) (ci := 4) (v := .int (nI kn)) (C := RX4) (T := TX4) (N := 18) hx hb hts inX4 hown hK hP 0 rfl rfl 1 (by decide) (hts _ mw458) (fun _ h9 => h9) rfl dX4_prefixOnes_4 ?_
      refine n_ige i kn (tgt := 40) (hexec := hx) (hb := hb) dX4_prefixOnes_7 (by decide) rfl rfl (by omega) (by omega) (fun c7 => absurd c7 (by omega)) (fun c7 => ?_)
      refine lv_aload_n hx hb dX4_prefixOnes_10 rfl (lv_at hl 1 rfl) ?_
      refine va_get (D := (dC, dI)) (ci := 4) (v := .ref (g 2)) (C := RX4) (T := TX4) (N := 18) hx hb hts inX4 hown hK hP 0 rfl rfl 8 (by decide) (hts _ mw465) (fun _ h9 => h9) rfl dX4_prefixOnes_11 ?_
      refine lv_iload_n hx hb dX4_prefixOnes_14 rfl (lv_at hl 0 rfl) ?_
      refine n_iald hx hb hK hP 2 0 rfl rfl (k := i) rfl (by omega) (by omega) dX4_prefixOnes_15 ?_
      refine lv_iconst (v := 1) hx hb dX4_prefixOnes_16 (by decide) ?_
      refine lv_icmp_ne (tgt := 34) hx hb dX4_prefixOnes_17 (by decide) (fun c17 => ?_) (fun c17 => ?_)
      · rw [show pFst kinds (fun k => msks (q * 4 + k)) i (n + 1) = pFst kinds (fun k => msks (q * 4 + k)) (i + 1) n from if_neg c17]
        refine lv_iinc (v := nI (i + 1)) (lv' := [(2, .int (nI (i + 1))), (0, .ref (g 0)), (1, .int (nI q))]) hx hb dX4_prefixOnes_34 hl (k := 0) rfl (nI_1 i) (by decide) rfl (fun ls hl => ?_)
        refine lv_goto (tgt := 2) hx hb dX4_prefixOnes_37 (by decide) ?_
        exact ih (i + 1) (by omega) ls (lv_sub hl [0, 1, 2] rfl)
      · refine lv_aload_n hx hb dX4_prefixOnes_20 rfl (lv_at hl 1 rfl) ?_
        refine va_get (D := (dC, dI)) (ci := 4) (v := .ref (g 6)) (C := RX4) (T := TX4) (N := 18) hx hb hts inX4 hown hK hP 0 rfl rfl 12 (by decide) (hts _ mw469) (fun _ h9 => h9) rfl dX4_prefixOnes_21 ?_
        refine lv_iconst (v := 4) hx hb dX4_prefixOnes_24 (by decide) ?_
        refine lv_iload_n hx hb dX4_prefixOnes_25 rfl (lv_at hl 2 rfl) ?_
        refine lv_imul hx hb dX4_prefixOnes_26 ?_
        refine lv_iload_n hx hb dX4_prefixOnes_27 rfl (lv_at hl 0 rfl) ?_
        refine lv_iadd hx hb dX4_prefixOnes_28 ?_
        refine n_lald hx hb hK hP 6 1 rfl rfl (k := q * 4 + i) (n_ix q i) (by omega) (by omega) dX4_prefixOnes_29 ?_
        refine rd_calli (r := (onesN (msks (q * 4 + i)))) (va_runS (As := [.long (msks (q * 4 + i))]) (rest := []) ⟨hx, hb, hml, hown, hts⟩ (c_X4_onesIn l dC dI cI cL (msks (q * 4 + i))) (cwS 1 hts (gS mw594 mw595 mw26 mw596) rfl rfl rfl (by decide +kernel) ⟨Nat.le_of_ble_eq_true rfl, Nat.le_of_ble_eq_true rfl⟩) (rd_preS (hP.sub (ws' := []) [] rfl) hK) rfl rfl hl.1 rfl (lv_room (Nat.le_of_ble_eq_true rfl)) dX4_prefixOnes_30 ⟨Nat.zero_le _, Nat.zero_le _⟩) ?_
        exact rd_iret hx hb hr hlocks dX4_prefixOnes_33 rfl (by rw [show pFst kinds (fun k => msks (q * 4 + k)) i (n + 1) = onesN (msks (q * 4 + i)) from if_pos c17])
  exact loop kn 0 (by omega) ls (lv_sub hl [0, 1, 2] rfl)

set_option maxHeartbeats 4000000 in
set_option maxRecDepth 100000 in
/-- most -/
theorem c_X4_most (l : Launch) (dC : Nat → ClassId) (dI : Nat → Nat → Nat) (cI cL : ClassId) (g : Nat → Nat) (th : Int32) (kn : Nat) (n9 w9 s9 : Int32) (en : Nat) (made : Bool) (wd kinds : Nat → Int32) (av am vals msks : Nat → Int64) (pri act : Nat → Int32) (dat : Nat → Int64) (inb : Nat → Int32) (lat : Int64) (hk : kn ≤ 4) : Met l yX4_most wsX4_most ({ frames := 2, cells := 0, slots := 0, locals := 42 }) (rd_P (dC, dI) vwCl [(cI, .int), (cL, .long)] [(g 0, .inr (4, [.int th, .int (nI kn), .int n9, .int w9, .int s9, .int (nI en), .int (bI made), .ref (g 1), .ref (g 2), .ref (g 3), .ref (g 4), .ref (g 5), .ref (g 6), .ref (g 7), .ref (g 8), .ref (g 9), .ref (g 10), .long lat])), (g 1, .inl (cI, 4, .inl wd)), (g 2, .inl (cI, 4, .inl kinds)), (g 3, .inl (cL, 4, .inr (.inl av))), (g 4, .inl (cL, 4, .inr (.inl am))), (g 5, .inl (cL, 288, .inr (.inl vals))), (g 6, .inl (cL, 288, .inr (.inl msks))), (g 7, .inl (cI, 72, .inl pri)), (g 8, .inl (cI, 72, .inl act)), (g 9, .inl (cL, 72, .inr (.inl dat))), (g 10, .inl (cI, 16, .inl inb))] [.ref (g 0)]) (rd_Q (some (.int (mMost kinds kn n9 w9 s9)))) 0 0 (fun _ => False) := by
  refine Met.ofW (cc := cX4_most) (maxL := 1) (ret := some .int) (by decide) rfl ?_
  intro p e s m args below meth c s₁ B hml hv
  obtain ⟨rfl, hP, hK⟩ := hv
  have hx := B.exec
  have hb := B.bytes
  have hr := B.returns
  have hts := fun w h => atoms_spec (ws := wsX4_most) B.pre w (List.mem_cons_of_mem _ h)
  have hown : s.vm.findClass RX4 = some m.cls := findClass_of_methodNamed B.named
  have hlocks := B.notSynchronized
  have hl := lv_entry ([.ref (g 0)]) (n := 1) (Nat.le_of_ble_eq_true rfl)
  rw [lg_entry_eq]
  generalize (lg_sl ([.ref (g 0)]) ++ List.replicate (1 - (lg_sl ([.ref (g 0)])).length) Slot.unset).toArray = ls at hl ⊢
  have hl : lv_has ls 1 [(0, .ref (g 0))] := hl
  refine lv_aload_n hx hb dX4_most_0 rfl (lv_at hl 0 rfl) ?_
  refine rd_calli (r := (bI (kExact kinds kn))) (va_runV (As := []) (rest := []) ⟨hx, hb, hml, hown, hts⟩ (c_X4_hashed l dC dI cI cL g th kn n9 w9 s9 en made wd kinds av am vals msks pri act dat inb lat hk) (cwV 0 hts (gV mw532 mw534 mw11 mw26 mw535) rfl rfl rfl (by decide +kernel) ⟨Nat.le_of_ble_eq_true rfl, Nat.le_of_ble_eq_true rfl⟩) (rd_preV (hP.sub (ws' := [(g 0, .inr (4, [.int th, .int (nI kn), .int n9, .int w9, .int s9, .int (nI en), .int (bI made), .ref (g 1), .ref (g 2), .ref (g 3), .ref (g 4), .ref (g 5), .ref (g 6), .ref (g 7), .ref (g 8), .ref (g 9), .ref (g 10), .long lat])), (g 1, .inl (cI, 4, .inl wd)), (g 2, .inl (cI, 4, .inl kinds)), (g 3, .inl (cL, 4, .inr (.inl av))), (g 4, .inl (cL, 4, .inr (.inl am))), (g 5, .inl (cL, 288, .inr (.inl vals))), (g 6, .inl (cL, 288, .inr (.inl msks))), (g 7, .inl (cI, 72, .inl pri)), (g 8, .inl (cI, 72, .inl act)), (g 9, .inl (cL, 72, .inr (.inl dat))), (g 10, .inl (cI, 16, .inl inb))]) [0, 1, 2, 3, 4, 5, 6, 7, 8, 9, 10] rfl) hK (va_recv (ci := 4) hK hP rfl (q0 := 0) rfl)) rfl rfl hl.1 rfl (lv_room (Nat.le_of_ble_eq_true rfl)) dX4_most_1 ⟨Nat.zero_le _, Nat.zero_le _⟩) ?_
  refine lv_if_eq (tgt := 24) hx hb dX4_most_4 (by decide) (fun c4 => ?_) (fun c4 => ?_)
  · refine lv_aload_n hx hb dX4_most_24 rfl (lv_at hl 0 rfl) ?_
    refine va_get (D := (dC, dI)) (ci := 4) (v := .int n9) (C := RX4) (T := TX4) (N := 18) hx hb hts inX4 hown hK hP 0 rfl rfl 2 (by decide) (hts _ mw459) (fun _ h9 => h9) rfl dX4_most_25 ?_
    exact rd_iret hx hb hr hlocks dX4_most_28 rfl (by unfold mMost; rw [bI_eq c4]; rfl)
  · refine lv_aload_n hx hb dX4_most_7 rfl (lv_at hl 0 rfl) ?_
    refine va_get (D := (dC, dI)) (ci := 4) (v := .int n9) (C := RX4) (T := TX4) (N := 18) hx hb hts inX4 hown hK hP 0 rfl rfl 2 (by decide) (hts _ mw459) (fun _ h9 => h9) rfl dX4_most_8 ?_
    refine lv_aload_n hx hb dX4_most_11 rfl (lv_at hl 0 rfl) ?_
    refine va_get (D := (dC, dI)) (ci := 4) (v := .int w9) (C := RX4) (T := TX4) (N := 18) hx hb hts inX4 hown hK hP 0 rfl rfl 3 (by decide) (hts _ mw460) (fun _ h9 => h9) rfl dX4_most_12 ?_
    refine lv_imul hx hb dX4_most_15 ?_
    refine lv_aload_n hx hb dX4_most_16 rfl (lv_at hl 0 rfl) ?_
    refine va_get (D := (dC, dI)) (ci := 4) (v := .int s9) (C := RX4) (T := TX4) (N := 18) hx hb hts inX4 hown hK hP 0 rfl rfl 4 (by decide) (hts _ mw461) (fun _ h9 => h9) rfl dX4_most_17 ?_
    refine lv_iadd hx hb dX4_most_20 ?_
    refine lv_goto (tgt := 28) hx hb dX4_most_21 (by decide) ?_
    exact rd_iret hx hb hr hlocks dX4_most_28 rfl (by unfold mMost; rw [bI_ne c4]; rfl)

set_option maxHeartbeats 4000000 in
set_option maxRecDepth 100000 in
/-- there -/
theorem c_X4_there (l : Launch) (dC : Nat → ClassId) (dI : Nat → Nat → Nat) (cI cL : ClassId) (g : Nat → Nat) (th : Int32) (kn : Nat) (n9 w9 s9 : Int32) (en : Nat) (made : Bool) (wd kinds : Nat → Int32) (av am vals msks : Nat → Int64) (pri act : Nat → Int32) (dat : Nat → Int64) (inb : Nat → Int32) (lat : Int64) (hk : kn ≤ 4) (he : en ≤ 72) : Met l yX4_there wsX4_there ({ frames := 1, cells := 0, slots := 0, locals := 21 }) (rd_P (dC, dI) vwCl [(cI, .int), (cL, .long)] [(g 0, .inr (4, [.int th, .int (nI kn), .int n9, .int w9, .int s9, .int (nI en), .int (bI made), .ref (g 1), .ref (g 2), .ref (g 3), .ref (g 4), .ref (g 5), .ref (g 6), .ref (g 7), .ref (g 8), .ref (g 9), .ref (g 10), .long lat])), (g 1, .inl (cI, 4, .inl wd)), (g 2, .inl (cI, 4, .inl kinds)), (g 3, .inl (cL, 4, .inr (.inl av))), (g 4, .inl (cL, 4, .inr (.inl am))), (g 5, .inl (cL, 288, .inr (.inl vals))), (g 6, .inl (cL, 288, .inr (.inl msks))), (g 7, .inl (cI, 72, .inl pri)), (g 8, .inl (cI, 72, .inl act)), (g 9, .inl (cL, 72, .inr (.inl dat))), (g 10, .inl (cI, 16, .inl inb))] [.ref (g 0)]) (rd_Q (some (.int (cFind (fun k => mOne (wd k)) av am vals msks kn en)))) 0 0 (fun _ => False) := by
  refine Met.ofW (cc := cX4_there) (maxL := 6) (ret := some .int) (by decide) rfl ?_
  intro p e s m args below meth c s₁ B hml hv
  obtain ⟨rfl, hP, hK⟩ := hv
  have hx := B.exec
  have hb := B.bytes
  have hr := B.returns
  have hts := fun w h => atoms_spec (ws := wsX4_there) B.pre w (List.mem_cons_of_mem _ h)
  have hown : s.vm.findClass RX4 = some m.cls := findClass_of_methodNamed B.named
  have hlocks := B.notSynchronized
  have hl := lv_entry ([.ref (g 0)]) (n := 6) (Nat.le_of_ble_eq_true rfl)
  rw [lg_entry_eq]
  generalize (lg_sl ([.ref (g 0)]) ++ List.replicate (6 - (lg_sl ([.ref (g 0)])).length) Slot.unset).toArray = ls at hl ⊢
  have hl : lv_has ls 6 [(0, .ref (g 0))] := hl
  refine lv_iconst (v := (nI 0)) hx hb dX4_there_0 (by decide) ?_
  refine lv_istore_n (lv' := [(1, .int (nI 0)), (0, .ref (g 0))]) hx hb dX4_there_1 rfl hl (by decide) rfl (fun ls hl => ?_)
  have loop : ∀ (n i : Nat), i + n = en → ∀ ls : Array Slot, lv_has ls 6 [(1, .int (nI i)), (0, .ref (g 0))] → W p l e (headSpec wsX4_there ({ frames := 1, cells := 0, slots := 0, locals := 21 })).room s m ([.ref (g 0)]).toArray below meth c s.heap [] 0 0 (MQ below (rd_Q (some (.int (findF (cAsk (fun k => mOne (wd k)) av am vals msks kn) i n)))) ([.ref (g 0)]).toArray s 0 0 (fun _ => False)) (F0 m 2 ls []) := by
    intro n
    induction n with
    | zero =>
      intro i hi ls hl
      refine lv_iload_n hx hb dX4_there_2 rfl (lv_at hl 0 rfl) ?_
      refine lv_aload_n hx hb dX4_there_3 rfl (lv_at hl 1 rfl) ?_
      refine va_get (D := (dC, dI)) (ci := 4) (v := .int (nI en)) (C := RX4) (T := TX4) (N := 18) hx hb hts inX4 hown hK hP 0 rfl rfl 5 (by decide) (hts _ mw462) (fun _ h9 => h9) rfl dX4_there_4 ?_
      refine n_ige i en (tgt := 95) (hexec := hx) (hb := hb) dX4_there_7 (by decide) rfl rfl (by omega) (by omega) (fun c7 => ?_) (fun c7 => absurd c7 (by omega))
      refine lv_iconst (v := (-1)) hx hb dX4_there_95 (by decide) ?_
      exact rd_iret hx hb hr hlocks dX4_there_96 rfl (rfl)
    | succ n ih =>
      intro i hi ls hl
      refine lv_iload_n hx hb dX4_there_2 rfl (lv_at hl 0 rfl) ?_
      refine lv_aload_n hx hb dX4_there_3 rfl (lv_at hl 1 rfl) ?_
      refine va_get (D := (dC, dI)) (ci := 4) (v := .int (nI en)) (C := RX4) (T := TX4) (N := 18) hx hb hts inX4 hown hK hP 0 rfl rfl 5 (by decide) (hts _ mw462) (fun _ h9 => h9) rfl dX4_there_4 ?_
      refine n_ige i en (tgt := 95) (hexec := hx) (hb := hb) dX4_there_7 (by decide) rfl rfl (by omega) (by omega) (fun c7 => absurd c7 (by omega)) (fun c7 => ?_)
      refine lv_iconst (v := (bI true)) hx hb dX4_there_10 (by decide) ?_
      refine lv_istore_n (lv' := [(2, .int (bI true)), (1, .int (nI i)), (0, .ref (g 0))]) hx hb dX4_there_11 rfl hl (by decide) rfl (fun ls hl => ?_)
      refine lv_iconst (v := (nI 0)) hx hb dX4_there_12 (by decide) ?_
      refine lv_istore_n (lv' := [(3, .int (nI 0)), (2, .int (bI true)), (1, .int (nI i)), (0, .ref (g 0))]) hx hb dX4_there_13 rfl hl (by decide) rfl (fun ls hl => ?_)
      have inner : ∀ (n2 j : Nat) (b : Bool), j + n2 = kn → (∀ ls : Array Slot, lv_has ls 6 [(2, .int (bI (b && allF (cAskP (fun k => mOne (wd k)) av am vals msks i) j n2))), (1, .int (nI i)), (0, .ref (g 0))] → W p l e (headSpec wsX4_there ({ frames := 1, cells := 0, slots := 0, locals := 21 })).room s m ([.ref (g 0)]).toArray below meth c s.heap [] 0 0 (MQ below (rd_Q (some (.int (findF (cAsk (fun k => mOne (wd k)) av am vals msks kn) i (n + 1))))) ([.ref (g 0)]).toArray s 0 0 (fun _ => False)) (F0 m 83 ls [])) → ∀ ls : Array Slot, lv_has ls 6 [(3, .int (nI j)), (2, .int (bI b)), (1, .int (nI i)), (0, .ref (g 0))] → W p l e (headSpec wsX4_there ({ frames := 1, cells := 0, slots := 0, locals := 21 })).room s m ([.ref (g 0)]).toArray below meth c s.heap [] 0 0 (MQ below (rd_Q (some (.int (findF (cAsk (fun k => mOne (wd k)) av am vals msks kn) i (n + 1))))) ([.ref (g 0)]).toArray s 0 0 (fun _ => False)) (F0 m 14 ls []) := by
        intro n2
        induction n2 with
        | zero =>
          intro j b hj kk ls hl
          refine lv_iload_n hx hb dX4_there_14 rfl (lv_at hl 0 rfl) ?_
          refine lv_aload_n hx hb dX4_there_15 rfl (lv_at hl 3 rfl) ?_
          refine va_get (D := (dC, dI)) (ci := 4) (v := .int (nI kn)) (C := RX4) (T := TX4) (N := 18) hx hb hts inX4 hown hK hP 0 rfl rfl 1 (by decide) (hts _ mw458) (fun _ h9 => h9) rfl dX4_there_16 ?_
          refine n_ige j kn (tgt := 83) (hexec := hx) (hb := hb) dX4_there_19 (by decide) rfl rfl (by omega) (by omega) (fun c19 => ?_) (fun c19 => absurd c19 (by omega))
          exact kk ls (lv_sub hl [1, 2, 3] (by simp [lv_pick, allF]))
        | succ n2 ih2 =>
          intro j b hj kk ls hl
          refine lv_iload_n hx hb dX4_there_14 rfl (lv_at hl 0 rfl) ?_
          refine lv_aload_n hx hb dX4_there_15 rfl (lv_at hl 3 rfl) ?_
          refine va_get (D := (dC, dI)) (ci := 4) (v := .int (nI kn)) (C := RX4) (T := TX4) (N := 18) hx hb hts inX4 hown hK hP 0 rfl rfl 1 (by decide) (hts _ mw458) (fun _ h9 => h9) rfl dX4_there_16 ?_
          refine n_ige j kn (tgt := 83) (hexec := hx) (hb := hb) dX4_there_19 (by decide) rfl rfl (by omega) (by omega) (fun c19 => absurd c19 (by omega)) (fun c19 => ?_)
          refine lv_aload_n hx hb dX4_there_22 rfl (lv_at hl 3 rfl) ?_
          refine va_get (D := (dC, dI)) (ci := 4) (v := .ref (g 4)) (C := RX4) (T := TX4) (N := 18) hx hb hts inX4 hown hK hP 0 rfl rfl 10 (by decide) (hts _ mw467) (fun _ h9 => h9) rfl dX4_there_23 ?_
          refine lv_iload_n hx hb dX4_there_26 rfl (lv_at hl 0 rfl) ?_
          refine n_lald hx hb hK hP 4 1 rfl rfl (k := j) rfl (by omega) (by omega) dX4_there_27 ?_
          refine lv_aload_n hx hb dX4_there_28 rfl (lv_at hl 3 rfl) ?_
          refine lv_iload_n hx hb dX4_there_29 rfl (lv_at hl 0 rfl) ?_
          refine rd_calll (r := (mOne (wd j))) (va_runV (As := [.int (nI j)]) (rest := [.long (am j)]) ⟨hx, hb, hml, hown, hts⟩ (c_X4_ones l dC dI cI cL g th kn n9 w9 s9 en made wd kinds av am vals msks pri act dat inb lat j (by omega)) (cwV 1 hts (gV mw548 mw550 mw13 mw26 mw551) rfl rfl rfl (by decide +kernel) ⟨Nat.le_of_ble_eq_true rfl, Nat.le_of_ble_eq_true rfl⟩) (rd_preV (hP.sub (ws' := [(g 0, .inr (4, [.int th, .int (nI kn), .int n9, .int w9, .int s9, .int (nI en), .int (bI made), .ref (g 1), .ref (g 2), .ref (g 3), .ref (g 4), .ref (g 5), .ref (g 6), .ref (g 7), .ref (g 8), .ref (g 9), .ref (g 10), .long lat])), (g 1, .inl (cI, 4, .inl wd)), (g 2, .inl (cI, 4, .inl kinds)), (g 3, .inl (cL, 4, .inr (.inl av))), (g 4, .inl (cL, 4, .inr (.inl am))), (g 5, .inl (cL, 288, .inr (.inl vals))), (g 6, .inl (cL, 288, .inr (.inl msks))), (g 7, .inl (cI, 72, .inl pri)), (g 8, .inl (cI, 72, .inl act)), (g 9, .inl (cL, 72, .inr (.inl dat))), (g 10, .inl (cI, 16, .inl inb))]) [0, 1, 2, 3, 4, 5, 6, 7, 8, 9, 10] rfl) hK (va_recv (ci := 4) hK hP rfl (q0 := 0) rfl)) rfl rfl hl.1 rfl (lv_room (Nat.le_of_ble_eq_true rfl)) dX4_there_30 ⟨Nat.zero_le _, Nat.zero_le _⟩) ?_
          refine lv_land hx hb dX4_there_33 ?_
          refine lv_lstore (lv' := [(4, .long ((am j) &&& (mOne (wd j)))), (3, .int (nI j)), (2, .int (bI b)), (1, .int (nI i)), (0, .ref (g 0))]) hx hb dX4_there_34 hl (by decide) rfl (fun ls hl => ?_)
          refine lv_aload_n hx hb dX4_there_36 rfl (lv_at hl 4 rfl) ?_
          refine va_get (D := (dC, dI)) (ci := 4) (v := .ref (g 6)) (C := RX4) (T := TX4) (N := 18) hx hb hts inX4 hown hK hP 0 rfl rfl 12 (by decide) (hts _ mw469) (fun _ h9 => h9) rfl dX4_there_37 ?_
          refine lv_iconst (v := 4) hx hb dX4_there_40 (by decide) ?_
          refine lv_iload_n hx hb dX4_there_41 rfl (lv_at hl 3 rfl) ?_
          refine lv_imul hx hb dX4_there_42 ?_
          refine lv_iload_n hx hb dX4_there_43 rfl (lv_at hl 1 rfl) ?_
          refine lv_iadd hx hb dX4_there_44 ?_
          refine n_lald hx hb hK hP 6 1 rfl rfl (k := i * 4 + j) (n_ix i j) (by omega) (by omega) dX4_there_45 ?_
          refine lv_lload hx hb dX4_there_46 (lv_at hl 0 rfl) ?_
          refine n_lne (tgt := 75) hx hb dX4_there_48 dX4_there_49 (by decide) (fun c48 => ?_) (fun c48 => ?_)
          · refine lv_iconst (v := (bI false)) hx hb dX4_there_75 (by decide) ?_
            refine lv_istore_n (lv' := [(2, .int (bI false)), (4, .long ((am j) &&& (mOne (wd j)))), (3, .int (nI j)), (1, .int (nI i)), (0, .ref (g 0))]) hx hb dX4_there_76 rfl hl (by decide) rfl (fun ls hl => ?_)
            refine lv_iinc (v := nI (j + 1)) (lv' := [(3, .int (nI (j + 1))), (2, .int (bI false)), (4, .long ((am j) &&& (mOne (wd j)))), (1, .int (nI i)), (0, .ref (g 0))]) hx hb dX4_there_77 hl (k := 2) rfl (nI_1 j) (by decide) rfl (fun ls hl => ?_)
            refine lv_goto (tgt := 14) hx hb dX4_there_80 (by decide) ?_
            exact ih2 (j + 1) false (by omega) (by rw [show (false && allF (cAskP (fun k => mOne (wd k)) av am vals msks i) (j + 1) n2) = (b && allF (cAskP (fun k => mOne (wd k)) av am vals msks i) j (n2 + 1)) from by rw [allF_f (by simp [cAskP, c48]), Bool.and_false]; rfl]; exact kk) ls (lv_sub hl [0, 1, 3, 4] rfl)
          · refine lv_aload_n hx hb dX4_there_52 rfl (lv_at hl 4 rfl) ?_
            refine va_get (D := (dC, dI)) (ci := 4) (v := .ref (g 5)) (C := RX4) (T := TX4) (N := 18) hx hb hts inX4 hown hK hP 0 rfl rfl 11 (by decide) (hts _ mw468) (fun _ h9 => h9) rfl dX4_there_53 ?_
            refine lv_iconst (v := 4) hx hb dX4_there_56 (by decide) ?_
            refine lv_iload_n hx hb dX4_there_57 rfl (lv_at hl 3 rfl) ?_
            refine lv_imul hx hb dX4_there_58 ?_
            refine lv_iload_n hx hb dX4_there_59 rfl (lv_at hl 1 rfl) ?_
            refine lv_iadd hx hb dX4_there_60 ?_
            refine n_lald hx hb hK hP 5 1 rfl rfl (k := i * 4 + j) (n_ix i j) (by omega) (by omega) dX4_there_61 ?_
            refine lv_aload_n hx hb dX4_there_62 rfl (lv_at hl 4 rfl) ?_
            refine va_get (D := (dC, dI)) (ci := 4) (v := .ref (g 3)) (C := RX4) (T := TX4) (N := 18) hx hb hts inX4 hown hK hP 0 rfl rfl 9 (by decide) (hts _ mw466) (fun _ h9 => h9) rfl dX4_there_63 ?_
            refine lv_iload_n hx hb dX4_there_66 rfl (lv_at hl 1 rfl) ?_
            refine n_lald hx hb hK hP 3 1 rfl rfl (k := j) rfl (by omega) (by omega) dX4_there_67 ?_
            refine lv_lload hx hb dX4_there_68 (lv_at hl 0 rfl) ?_
            refine lv_land hx hb dX4_there_70 ?_
            refine n_leq (tgt := 77) hx hb dX4_there_71 dX4_there_72 (by decide) (fun c71 => ?_) (fun c71 => ?_)
            · refine lv_iinc (v := nI (j + 1)) (lv' := [(3, .int (nI (j + 1))), (4, .long ((am j) &&& (mOne (wd j)))), (2, .int (bI b)), (1, .int (nI i)), (0, .ref (g 0))]) hx hb dX4_there_77 hl (k := 1) rfl (nI_1 j) (by decide) rfl (fun ls hl => ?_)
              refine lv_goto (tgt := 14) hx hb dX4_there_80 (by decide) ?_
              exact ih2 (j + 1) b (by omega) (by rw [show (b && allF (cAskP (fun k => mOne (wd k)) av am vals msks i) (j + 1) n2) = (b && allF (cAskP (fun k => mOne (wd k)) av am vals msks i) j (n2 + 1)) from by rw [allF_t (by simp [cAskP, c48, c71])]]; exact kk) ls (lv_sub hl [0, 2, 3, 4] rfl)
            · refine lv_iconst (v := (bI false)) hx hb dX4_there_75 (by decide) ?_
              refine lv_istore_n (lv' := [(2, .int (bI false)), (4, .long ((am j) &&& (mOne (wd j)))), (3, .int (nI j)), (1, .int (nI i)), (0, .ref (g 0))]) hx hb dX4_there_76 rfl hl (by decide) rfl (fun ls hl => ?_)
              refine lv_iinc (v := nI (j + 1)) (lv' := [(3, .int (nI (j + 1))), (2, .int (bI false)), (4, .long ((am j) &&& (mOne (wd j)))), (1, .int (nI i)), (0, .ref (g 0))]) hx hb dX4_there_77 hl (k := 2) rfl (nI_1 j) (by decide) rfl (fun ls hl => ?_)
              refine lv_goto (tgt := 14) hx hb dX4_there_80 (by decide) ?_
              exact ih2 (j + 1) false (by omega) (by rw [show (false && allF (cAskP (fun k => mOne (wd k)) av am vals msks i) (j + 1) n2) = (b && allF (cAskP (fun k => mOne (wd k)) av am vals msks i) j (n2 + 1)) from by rw [allF_f (by simp [cAskP, c71]), Bool.and_false]; rfl]; exact kk) ls (lv_sub hl [0, 1, 3, 4] rfl)
      refine inner kn 0 true (by omega) (fun ls hl => ?_) ls (lv_sub hl [0, 1, 2, 3] rfl)
      rw [Bool.true_and] at hl
      refine lv_iload_n hx hb dX4_there_83 rfl (lv_at hl 0 rfl) ?_
      refine lv_if_eq (tgt := 89) hx hb dX4_there_84 (by decide) (fun c84 => ?_) (fun c84 => ?_)
      · rw [show findF (cAsk (fun k => mOne (wd k)) av am vals msks kn) i (n + 1) = findF (cAsk (fun k => mOne (wd k)) av am vals msks kn) (i + 1) n from findF_f (bI_eq c84)]
        refine lv_iinc (v := nI (i + 1)) (lv' := [(1, .int (nI (i + 1))), (2, .int (bI (allF (cAskP (fun k => mOne (wd k)) av am vals msks i) 0 kn))), (0, .ref (g 0))]) hx hb dX4_there_89 hl (k := 1) rfl (nI_1 i) (by decide) rfl (fun ls hl => ?_)
        refine lv_goto (tgt := 2) hx hb dX4_there_92 (by decide) ?_
        exact ih (i + 1) (by omega) ls (lv_sub hl [0, 2] rfl)
      · refine lv_iload_n hx hb dX4_there_87 rfl (lv_at hl 1 rfl) ?_
        exact rd_iret hx hb hr hlocks dX4_there_88 rfl (by rw [show findF (cAsk (fun k => mOne (wd k)) av am vals msks kn) i (n + 1) = nI i from findF_t (bI_ne c84)])
  exact loop en 0 (by omega) ls (lv_sub hl [0, 1] rfl)

set_option maxHeartbeats 4000000 in
set_option maxRecDepth 100000 in
/-- bucketOf -/
theorem c_X4_bucketOf_v (l : Launch) (dC : Nat → ClassId) (dI : Nat → Nat → Nat) (cI cL : ClassId) (g : Nat → Nat) (th : Int32) (kn : Nat) (n9 w9 s9 : Int32) (en : Nat) (made : Bool) (wd kinds : Nat → Int32) (av am vals msks : Nat → Int64) (pri act : Nat → Int32) (dat : Nat → Int64) (inb : Nat → Int32) (lat : Int64) (hk : kn ≤ 4) : Met l yX4_bucketOf wsX4_bucketOf ({ frames := 1, cells := 0, slots := 0, locals := 21 }) (rd_P (dC, dI) vwCl [(cI, .int), (cL, .long)] [(g 0, .inr (4, [.int th, .int (nI kn), .int n9, .int w9, .int s9, .int (nI en), .int (bI made), .ref (g 1), .ref (g 2), .ref (g 3), .ref (g 4), .ref (g 5), .ref (g 6), .ref (g 7), .ref (g 8), .ref (g 9), .ref (g 10), .long lat])), (g 1, .inl (cI, 4, .inl wd)), (g 2, .inl (cI, 4, .inl kinds)), (g 3, .inl (cL, 4, .inr (.inl av))), (g 4, .inl (cL, 4, .inr (.inl am))), (g 5, .inl (cL, 288, .inr (.inl vals))), (g 6, .inl (cL, 288, .inr (.inl msks))), (g 7, .inl (cI, 72, .inl pri)), (g 8, .inl (cI, 72, .inl act)), (g 9, .inl (cL, 72, .inr (.inl dat))), (g 10, .inl (cI, 16, .inl inb))] [.ref (g 0), .ref (g 3), .int (nI 0)]) (rd_Q (some (.int (mIdx n9 (hMix (hashF (fun k => av k &&& mOne (wd k)) 0 0 kn)))))) 0 0 (fun _ => False) := by
  refine Met.ofW (cc := cX4_bucketOf) (maxL := 8) (ret := some .int) (by decide) rfl ?_
  intro p e s m args below meth c s₁ B hml hv
  obtain ⟨rfl, hP, hK⟩ := hv
  have hx := B.exec
  have hb := B.bytes
  have hr := B.returns
  have hts := fun w h => atoms_spec (ws := wsX4_bucketOf) B.pre w (List.mem_cons_of_mem _ h)
  have hown : s.vm.findClass RX4 = some m.cls := findClass_of_methodNamed B.named
  have hlocks := B.notSynchronized
  have hl := lv_entry ([.ref (g 0), .ref (g 3), .int (nI 0)]) (n := 8) (Nat.le_of_ble_eq_true rfl)
  rw [lg_entry_eq]
  generalize (lg_sl ([.ref (g 0), .ref (g 3), .int (nI 0)]) ++ List.replicate (8 - (lg_sl ([.ref (g 0), .ref (g 3), .int (nI 0)])).length) Slot.unset).toArray = ls at hl ⊢
  have hl : lv_has ls 8 [(0, .ref (g 0)), (1, .ref (g 3)), (2, .int (nI 0))] := hl
  refine lv_lconst (v := 0) hx hb dX4_bucketOf_0 (by decide) ?_
  refine lv_lstore_n (lv' := [(3, .long 0), (0, .ref (g 0)), (1, .ref (g 3)), (2, .int (nI 0))]) hx hb dX4_bucketOf_1 rfl hl (by decide) rfl (fun ls hl => ?_)
  refine lv_iconst (v := (nI 0)) hx hb dX4_bucketOf_2 (by decide) ?_
  refine lv_istore (lv' := [(5, .int (nI 0)), (3, .long 0), (0, .ref (g 0)), (1, .ref (g 3)), (2, .int (nI 0))]) hx hb dX4_bucketOf_3 hl (by decide) rfl (fun ls hl => ?_)
  have loop : ∀ (n i : Nat) (x : Int64), i + n = kn → ∀ ls : Array Slot, lv_has ls 8 [(5, .int (nI i)), (3, .long x), (0, .ref (g 0)), (1, .ref (g 3)), (2, .int (nI 0))] → W p l e (headSpec wsX4_bucketOf ({ frames := 1, cells := 0, slots := 0, locals := 21 })).room s m ([.ref (g 0), .ref (g 3), .int (nI 0)]).toArray below meth c s.heap [] 0 0 (MQ below (rd_Q (some (.int (mIdx n9 (hMix (hashF (fun k => av k &&& mOne (wd k)) x i n)))))) ([.ref (g 0), .ref (g 3), .int (nI 0)]).toArray s 0 0 (fun _ => False)) (F0 m 5 ls []) := by
    intro n
    induction n with
    | zero =>
      intro i x hi ls hl
      refine lv_iload hx hb dX4_bucketOf_5 (lv_at hl 0 rfl) ?_
      refine lv_aload_n hx hb dX4_bucketOf_7 rfl (lv_at hl 2 rfl) ?_
      refine va_get (D := (dC, dI)) (ci := 4) (v := .int (nI kn)) (C := RX4) (T := TX4) (N := 18) hx hb hts inX4 hown hK hP 0 rfl rfl 1 (by decide) (hts _ mw458) (fun _ h9 => h9) rfl dX4_bucketOf_8 ?_
      refine n_ige i kn (tgt := 56) (hexec := hx) (hb := hb) dX4_bucketOf_11 (by decide) rfl rfl (by omega) (by omega) (fun c11 => ?_) (fun c11 => absurd c11 (by omega))
      refine lv_lload_n hx hb dX4_bucketOf_56 rfl (lv_at hl 1 rfl) ?_
      refine lv_lload_n hx hb dX4_bucketOf_57 rfl (lv_at hl 1 rfl) ?_
      refine lv_bipush (v := 20) hx hb dX4_bucketOf_58 (by decide) ?_
      refine lv_lushr (v := ush x 20) hx hb dX4_bucketOf_60 rfl ?_
      refine lv_lxor hx hb dX4_bucketOf_61 ?_
      refine lv_lload_n hx hb dX4_bucketOf_62 rfl (lv_at hl 1 rfl) ?_
      refine lv_bipush (v := 7) hx hb dX4_bucketOf_63 (by decide) ?_
      refine lv_lushr (v := ush x 7) hx hb dX4_bucketOf_65 rfl ?_
      refine lv_lxor hx hb dX4_bucketOf_66 ?_
      refine lv_aload_n hx hb dX4_bucketOf_67 rfl (lv_at hl 2 rfl) ?_
      refine va_get (D := (dC, dI)) (ci := 4) (v := .int n9) (C := RX4) (T := TX4) (N := 18) hx hb hts inX4 hown hK hP 0 rfl rfl 2 (by decide) (hts _ mw459) (fun _ h9 => h9) rfl dX4_bucketOf_68 ?_
      refine lv_iconst (v := 1) hx hb dX4_bucketOf_71 (by decide) ?_
      refine lv_isub hx hb dX4_bucketOf_72 ?_
      refine lv_i2l (v := (n9 - 1).toInt64) hx hb dX4_bucketOf_73 rfl ?_
      refine lv_land hx hb dX4_bucketOf_74 ?_
      refine lv_l2i (v := (((x ^^^ (ush x 20)) ^^^ (ush x 7)) &&& ((n9 - 1).toInt64)).toInt32) hx hb dX4_bucketOf_75 rfl ?_
      exact rd_iret hx hb hr hlocks dX4_bucketOf_76 rfl (rfl)
    | succ n ih =>
      intro i x hi ls hl
      refine lv_iload hx hb dX4_bucketOf_5 (lv_at hl 0 rfl) ?_
      refine lv_aload_n hx hb dX4_bucketOf_7 rfl (lv_at hl 2 rfl) ?_
      refine va_get (D := (dC, dI)) (ci := 4) (v := .int (nI kn)) (C := RX4) (T := TX4) (N := 18) hx hb hts inX4 hown hK hP 0 rfl rfl 1 (by decide) (hts _ mw458) (fun _ h9 => h9) rfl dX4_bucketOf_8 ?_
      refine n_ige i kn (tgt := 56) (hexec := hx) (hb := hb) dX4_bucketOf_11 (by decide) rfl rfl (by omega) (by omega) (fun c11 => absurd c11 (by omega)) (fun c11 => ?_)
      refine lv_aload_n hx hb dX4_bucketOf_14 rfl (lv_at hl 3 rfl) ?_
      refine lv_iload_n hx hb dX4_bucketOf_15 rfl (lv_at hl 4 rfl) ?_
      refine lv_iload hx hb dX4_bucketOf_16 (lv_at hl 0 rfl) ?_
      refine lv_iadd hx hb dX4_bucketOf_18 ?_
      refine n_lald hx hb hK hP 3 1 rfl rfl (k := i) (by rw [nI_add, Nat.zero_add]) (by omega) (by omega) dX4_bucketOf_19 ?_
      refine lv_aload_n hx hb dX4_bucketOf_20 rfl (lv_at hl 2 rfl) ?_
      refine lv_iload hx hb dX4_bucketOf_21 (lv_at hl 0 rfl) ?_
      refine rd_calll (r := (mOne (wd i))) (va_runV (As := [.int (nI i)]) (rest := [.long (av i)]) ⟨hx, hb, hml, hown, hts⟩ (c_X4_ones l dC dI cI cL g th kn n9 w9 s9 en made wd kinds av am vals msks pri act dat inb lat i (by omega)) (cwV 1 hts (gV mw548 mw550 mw13 mw26 mw551) rfl rfl rfl (by decide +kernel) ⟨Nat.le_of_ble_eq_true rfl, Nat.le_of_ble_eq_true rfl⟩) (rd_preV (hP.sub (ws' := [(g 0, .inr (4, [.int th, .int (nI kn), .int n9, .int w9, .int s9, .int (nI en), .int (bI made), .ref (g 1), .ref (g 2), .ref (g 3), .ref (g 4), .ref (g 5), .ref (g 6), .ref (g 7), .ref (g 8), .ref (g 9), .ref (g 10), .long lat])), (g 1, .inl (cI, 4, .inl wd)), (g 2, .inl (cI, 4, .inl kinds)), (g 3, .inl (cL, 4, .inr (.inl av))), (g 4, .inl (cL, 4, .inr (.inl am))), (g 5, .inl (cL, 288, .inr (.inl vals))), (g 6, .inl (cL, 288, .inr (.inl msks))), (g 7, .inl (cI, 72, .inl pri)), (g 8, .inl (cI, 72, .inl act)), (g 9, .inl (cL, 72, .inr (.inl dat))), (g 10, .inl (cI, 16, .inl inb))]) [0, 1, 2, 3, 4, 5, 6, 7, 8, 9, 10] rfl) hK (va_recv (ci := 4) hK hP rfl (q0 := 0) rfl)) rfl rfl hl.1 rfl (lv_room (Nat.le_of_ble_eq_true rfl)) dX4_bucketOf_23 ⟨Nat.zero_le _, Nat.zero_le _⟩) ?_
      refine lv_land hx hb dX4_bucketOf_26 ?_
      refine lv_lstore (lv' := [(6, .long ((av i) &&& (mOne (wd i)))), (5, .int (nI i)), (3, .long x), (0, .ref (g 0)), (1, .ref (g 3)), (2, .int (nI 0))]) hx hb dX4_bucketOf_27 hl (by decide) rfl (fun ls hl => ?_)
      refine lv_ldc2 (v := 31) hx hb hown (hts _ mw573) dX4_bucketOf_29 ?_
      refine lv_lload_n hx hb dX4_bucketOf_32 rfl (lv_at hl 2 rfl) ?_
      refine lv_lmul hx hb dX4_bucketOf_33 ?_
      refine lv_lload hx hb dX4_bucketOf_34 (lv_at hl 0 rfl) ?_
      refine lv_lload hx hb dX4_bucketOf_36 (lv_at hl 0 rfl) ?_
      refine lv_bipush (v := 32) hx hb dX4_bucketOf_38 (by decide) ?_
      refine lv_lushr (v := ush ((av i) &&& (mOne (wd i))) 32) hx hb dX4_bucketOf_40 rfl ?_
      refine lv_lxor hx hb dX4_bucketOf_41 ?_
      refine lv_lload hx hb dX4_bucketOf_42 (lv_at hl 0 rfl) ?_
      refine lv_bipush (v := 17) hx hb dX4_bucketOf_44 (by decide) ?_
      refine lv_lushr (v := ush ((av i) &&& (mOne (wd i))) 17) hx hb dX4_bucketOf_46 rfl ?_
      refine lv_lxor hx hb dX4_bucketOf_47 ?_
      refine lv_ladd hx hb dX4_bucketOf_48 ?_
      refine lv_lstore_n (lv' := [(3, .long (hStep x (av i &&& mOne (wd i)))), (6, .long ((av i) &&& (mOne (wd i)))), (5, .int (nI i)), (0, .ref (g 0)), (1, .ref (g 3)), (2, .int (nI 0))]) hx hb dX4_bucketOf_49 rfl hl (by decide) rfl (fun ls hl => ?_)
      refine lv_iinc (v := nI (i + 1)) (lv' := [(5, .int (nI (i + 1))), (3, .long (hStep x (av i &&& mOne (wd i)))), (6, .long ((av i) &&& (mOne (wd i)))), (0, .ref (g 0)), (1, .ref (g 3)), (2, .int (nI 0))]) hx hb dX4_bucketOf_50 hl (k := 2) rfl (nI_1 i) (by decide) rfl (fun ls hl => ?_)
      refine lv_goto (tgt := 5) hx hb dX4_bucketOf_53 (by decide) ?_
      exact ih (i + 1) _ (by omega) ls (lv_sub hl [0, 1, 3, 4, 5] rfl)
  exact loop kn 0 0 (by omega) ls (lv_sub hl [0, 1, 2, 3, 4] rfl)

set_option maxHeartbeats 4000000 in
set_option maxRecDepth 100000 in
/-- bucketOf -/
theorem c_X4_bucketOf_e (l : Launch) (dC : Nat → ClassId) (dI : Nat → Nat → Nat) (cI cL : ClassId) (g : Nat → Nat) (th : Int32) (kn : Nat) (n9 w9 s9 : Int32) (en : Nat) (made : Bool) (wd kinds : Nat → Int32) (av am vals msks : Nat → Int64) (pri act : Nat → Int32) (dat : Nat → Int64) (inb : Nat → Int32) (lat : Int64) (q : Nat) (hk : kn ≤ 4) (hq : q < 72) : Met l yX4_bucketOf wsX4_bucketOf ({ frames := 1, cells := 0, slots := 0, locals := 21 }) (rd_P (dC, dI) vwCl [(cI, .int), (cL, .long)] [(g 0, .inr (4, [.int th, .int (nI kn), .int n9, .int w9, .int s9, .int (nI en), .int (bI made), .ref (g 1), .ref (g 2), .ref (g 3), .ref (g 4), .ref (g 5), .ref (g 6), .ref (g 7), .ref (g 8), .ref (g 9), .ref (g 10), .long lat])), (g 1, .inl (cI, 4, .inl wd)), (g 2, .inl (cI, 4, .inl kinds)), (g 3, .inl (cL, 4, .inr (.inl av))), (g 4, .inl (cL, 4, .inr (.inl am))), (g 5, .inl (cL, 288, .inr (.inl vals))), (g 6, .inl (cL, 288, .inr (.inl msks))), (g 7, .inl (cI, 72, .inl pri)), (g 8, .inl (cI, 72, .inl act)), (g 9, .inl (cL, 72, .inr (.inl dat))), (g 10, .inl (cI, 16, .inl inb))] [.ref (g 0), .ref (g 5), .int (nI (q * 4))]) (rd_Q (some (.int (mIdx n9 (hMix (hashF (fun k => vals (q * 4 + k) &&& mOne (wd k)) 0 0 kn)))))) 0 0 (fun _ => False) := by
  refine Met.ofW (cc := cX4_bucketOf) (maxL := 8) (ret := some .int) (by decide) rfl ?_
  intro p e s m args below meth c s₁ B hml hv
  obtain ⟨rfl, hP, hK⟩ := hv
  have hx := B.exec
  have hb := B.bytes
  have hr := B.returns
  have hts := fun w h => atoms_spec (ws := wsX4_bucketOf) B.pre w (List.mem_cons_of_mem _ h)
  have hown : s.vm.findClass RX4 = some m.cls := findClass_of_methodNamed B.named
  have hlocks := B.notSynchronized
  have hl := lv_entry ([.ref (g 0), .ref (g 5), .int (nI (q * 4))]) (n := 8) (Nat.le_of_ble_eq_true rfl)
  rw [lg_entry_eq]
  generalize (lg_sl ([.ref (g 0), .ref (g 5), .int (nI (q * 4))]) ++ List.replicate (8 - (lg_sl ([.ref (g 0), .ref (g 5), .int (nI (q * 4))])).length) Slot.unset).toArray = ls at hl ⊢
  have hl : lv_has ls 8 [(0, .ref (g 0)), (1, .ref (g 5)), (2, .int (nI (q * 4)))] := hl
  refine lv_lconst (v := 0) hx hb dX4_bucketOf_0 (by decide) ?_
  refine lv_lstore_n (lv' := [(3, .long 0), (0, .ref (g 0)), (1, .ref (g 5)), (2, .int (nI (q * 4)))]) hx hb dX4_bucketOf_1 rfl hl (by decide) rfl (fun ls hl => ?_)
  refine lv_iconst (v := (nI 0)) hx hb dX4_bucketOf_2 (by decide) ?_
  refine lv_istore (lv' := [(5, .int (nI 0)), (3, .long 0), (0, .ref (g 0)), (1, .ref (g 5)), (2, .int (nI (q * 4)))]) hx hb dX4_bucketOf_3 hl (by decide) rfl (fun ls hl => ?_)
  have loop : ∀ (n i : Nat) (x : Int64), i + n = kn → ∀ ls : Array Slot, lv_has ls 8 [(5, .int (nI i)), (3, .long x), (0, .ref (g 0)), (1, .ref (g 5)), (2, .int (nI (q * 4)))] → W p l e (headSpec wsX4_bucketOf ({ frames := 1, cells := 0, slots := 0, locals := 21 })).room s m ([.ref (g 0), .ref (g 5), .int (nI (q * 4))]).toArray below meth c s.heap [] 0 0 (MQ below (rd_Q (some (.int (mIdx n9 (hMix (hashF (fun k => vals (q * 4 + k) &&& mOne (wd k)) x i n)))))) ([.ref (g 0), .ref (g 5), .int (nI (q * 4))]).toArray s 0 0 (fun _ => False)) (F0 m 5 ls []) := by
    intro n
    induction n with
    | zero =>
      intro i x hi ls hl
      refine lv_iload hx hb dX4_bucketOf_5 (lv_at hl 0 rfl) ?_
      refine lv_aload_n hx hb dX4_bucketOf_7 rfl (lv_at hl 2 rfl) ?_
      refine va_get (D := (dC, dI)) (ci := 4) (v := .int (nI kn)) (C := RX4) (T := TX4) (N := 18) hx hb hts inX4 hown hK hP 0 rfl rfl 1 (by decide) (hts _ mw458) (fun _ h9 => h9) rfl dX4_bucketOf_8 ?_
      refine n_ige i kn (tgt := 56) (hexec := hx) (hb := hb) dX4_bucketOf_11 (by decide) rfl rfl (by omega) (by omega) (fun c11 => ?_) (fun c11 => absurd c11 (by omega))
      refine lv_lload_n hx hb dX4_bucketOf_56 rfl (lv_at hl 1 rfl) ?_
      refine lv_lload_n hx hb dX4_bucketOf_57 rfl (lv_at hl 1 rfl) ?_
      refine lv_bipush (v := 20) hx hb dX4_bucketOf_58 (by decide) ?_
      refine lv_lushr (v := ush x 20) hx hb dX4_bucketOf_60 rfl ?_
      refine lv_lxor hx hb dX4_bucketOf_61 ?_
      refine lv_lload_n hx hb dX4_bucketOf_62 rfl (lv_at hl 1 rfl) ?_
      refine lv_bipush (v := 7) hx hb dX4_bucketOf_63 (by decide) ?_
      refine lv_lushr (v := ush x 7) hx hb dX4_bucketOf_65 rfl ?_
      refine lv_lxor hx hb dX4_bucketOf_66 ?_
      refine lv_aload_n hx hb dX4_bucketOf_67 rfl (lv_at hl 2 rfl) ?_
      refine va_get (D := (dC, dI)) (ci := 4) (v := .int n9) (C := RX4) (T := TX4) (N := 18) hx hb hts inX4 hown hK hP 0 rfl rfl 2 (by decide) (hts _ mw459) (fun _ h9 => h9) rfl dX4_bucketOf_68 ?_
      refine lv_iconst (v := 1) hx hb dX4_bucketOf_71 (by decide) ?_
      refine lv_isub hx hb dX4_bucketOf_72 ?_
      refine lv_i2l (v := (n9 - 1).toInt64) hx hb dX4_bucketOf_73 rfl ?_
      refine lv_land hx hb dX4_bucketOf_74 ?_
      refine lv_l2i (v := (((x ^^^ (ush x 20)) ^^^ (ush x 7)) &&& ((n9 - 1).toInt64)).toInt32) hx hb dX4_bucketOf_75 rfl ?_
      exact rd_iret hx hb hr hlocks dX4_bucketOf_76 rfl (rfl)
    | succ n ih =>
      intro i x hi ls hl
      refine lv_iload hx hb dX4_bucketOf_5 (lv_at hl 0 rfl) ?_
      refine lv_aload_n hx hb dX4_bucketOf_7 rfl (lv_at hl 2 rfl) ?_
      refine va_get (D := (dC, dI)) (ci := 4) (v := .int (nI kn)) (C := RX4) (T := TX4) (N := 18) hx hb hts inX4 hown hK hP 0 rfl rfl 1 (by decide) (hts _ mw458) (fun _ h9 => h9) rfl dX4_bucketOf_8 ?_
      refine n_ige i kn (tgt := 56) (hexec := hx) (hb := hb) dX4_bucketOf_11 (by decide) rfl rfl (by omega) (by omega) (fun c11 => absurd c11 (by omega)) (fun c11 => ?_)
      refine lv_aload_n hx hb dX4_bucketOf_14 rfl (lv_at hl 3 rfl) ?_
      refine lv_iload_n hx hb dX4_bucketOf_15 rfl (lv_at hl 4 rfl) ?_
      refine lv_iload hx hb dX4_bucketOf_16 (lv_at hl 0 rfl) ?_
      refine lv_iadd hx hb dX4_bucketOf_18 ?_
      refine n_lald hx hb hK hP 5 1 rfl rfl (k := q * 4 + i) (nI_add _ _) (by omega) (by omega) dX4_bucketOf_19 ?_
      refine lv_aload_n hx hb dX4_bucketOf_20 rfl (lv_at hl 2 rfl) ?_
      refine lv_iload hx hb dX4_bucketOf_21 (lv_at hl 0 rfl) ?_
      refine rd_calll (r := (mOne (wd i))) (va_runV (As := [.int (nI i)]) (rest := [.long (vals (q * 4 + i))]) ⟨hx, hb, hml, hown, hts⟩ (c_X4_ones l dC dI cI cL g th kn n9 w9 s9 en made wd kinds av am vals msks pri act dat inb lat i (by omega)) (cwV 1 hts (gV mw548 mw550 mw13 mw26 mw551) rfl rfl rfl (by decide +kernel) ⟨Nat.le_of_ble_eq_true rfl, Nat.le_of_ble_eq_true rfl⟩) (rd_preV (hP.sub (ws' := [(g 0, .inr (4, [.int th, .int (nI kn), .int n9, .int w9, .int s9, .int (nI en), .int (bI made), .ref (g 1), .ref (g 2), .ref (g 3), .ref (g 4), .ref (g 5), .ref (g 6), .ref (g 7), .ref (g 8), .ref (g 9), .ref (g 10), .long lat])), (g 1, .inl (cI, 4, .inl wd)), (g 2, .inl (cI, 4, .inl kinds)), (g 3, .inl (cL, 4, .inr (.inl av))), (g 4, .inl (cL, 4, .inr (.inl am))), (g 5, .inl (cL, 288, .inr (.inl vals))), (g 6, .inl (cL, 288, .inr (.inl msks))), (g 7, .inl (cI, 72, .inl pri)), (g 8, .inl (cI, 72, .inl act)), (g 9, .inl (cL, 72, .inr (.inl dat))), (g 10, .inl (cI, 16, .inl inb))]) [0, 1, 2, 3, 4, 5, 6, 7, 8, 9, 10] rfl) hK (va_recv (ci := 4) hK hP rfl (q0 := 0) rfl)) rfl rfl hl.1 rfl (lv_room (Nat.le_of_ble_eq_true rfl)) dX4_bucketOf_23 ⟨Nat.zero_le _, Nat.zero_le _⟩) ?_
      refine lv_land hx hb dX4_bucketOf_26 ?_
      refine lv_lstore (lv' := [(6, .long ((vals (q * 4 + i)) &&& (mOne (wd i)))), (5, .int (nI i)), (3, .long x), (0, .ref (g 0)), (1, .ref (g 5)), (2, .int (nI (q * 4)))]) hx hb dX4_bucketOf_27 hl (by decide) rfl (fun ls hl => ?_)
      refine lv_ldc2 (v := 31) hx hb hown (hts _ mw573) dX4_bucketOf_29 ?_
      refine lv_lload_n hx hb dX4_bucketOf_32 rfl (lv_at hl 2 rfl) ?_
      refine lv_lmul hx hb dX4_bucketOf_33 ?_
      refine lv_lload hx hb dX4_bucketOf_34 (lv_at hl 0 rfl) ?_
      refine lv_lload hx hb dX4_bucketOf_36 (lv_at hl 0 rfl) ?_
      refine lv_bipush (v := 32) hx hb dX4_bucketOf_38 (by decide) ?_
      refine lv_lushr (v := ush ((vals (q * 4 + i)) &&& (mOne (wd i))) 32) hx hb dX4_bucketOf_40 rfl ?_
      refine lv_lxor hx hb dX4_bucketOf_41 ?_
      refine lv_lload hx hb dX4_bucketOf_42 (lv_at hl 0 rfl) ?_
      refine lv_bipush (v := 17) hx hb dX4_bucketOf_44 (by decide) ?_
      refine lv_lushr (v := ush ((vals (q * 4 + i)) &&& (mOne (wd i))) 17) hx hb dX4_bucketOf_46 rfl ?_
      refine lv_lxor hx hb dX4_bucketOf_47 ?_
      refine lv_ladd hx hb dX4_bucketOf_48 ?_
      refine lv_lstore_n (lv' := [(3, .long (hStep x (vals (q * 4 + i) &&& mOne (wd i)))), (6, .long ((vals (q * 4 + i)) &&& (mOne (wd i)))), (5, .int (nI i)), (0, .ref (g 0)), (1, .ref (g 5)), (2, .int (nI (q * 4)))]) hx hb dX4_bucketOf_49 rfl hl (by decide) rfl (fun ls hl => ?_)
      refine lv_iinc (v := nI (i + 1)) (lv' := [(5, .int (nI (i + 1))), (3, .long (hStep x (vals (q * 4 + i) &&& mOne (wd i)))), (6, .long ((vals (q * 4 + i)) &&& (mOne (wd i)))), (0, .ref (g 0)), (1, .ref (g 5)), (2, .int (nI (q * 4)))]) hx hb dX4_bucketOf_50 hl (k := 2) rfl (nI_1 i) (by decide) rfl (fun ls hl => ?_)
      refine lv_goto (tgt := 5) hx hb dX4_bucketOf_53 (by decide) ?_
      exact ih (i + 1) _ (by omega) ls (lv_sub hl [0, 1, 3, 4, 5] rfl)
  exact loop kn 0 0 (by omega) ls (lv_sub hl [0, 1, 2, 3, 4] rfl)
