/-! mod5 -/
set_option maxHeartbeats 4000000 in
set_option maxRecDepth 100000 in
/-- match without a table -/
theorem c_X4_match_x (l : Launch) (dC : Nat → ClassId) (dI : Nat → Nat → Nat) (cI cL : ClassId) (g : Nat → Nat) (th : Int32) (kn : Nat) (n9 w9 s9 : Int32) (en : Nat) (made : Bool) (wd kinds : Nat → Int32) (av am vals msks : Nat → Int64) (pri act : Nat → Int32) (dat : Nat → Int64) (inb : Nat → Int32) (lat : Int64) (hm : made = false) : Met l yX4_match wsX4_match ({ frames := 2, cells := 0, slots := 0, locals := 45 }) (wr_P (dC, dI) vwCl [(cI, .int), (cL, .long)] [(g 0, .inr (4, [.int th, .int (nI kn), .int n9, .int w9, .int s9, .int (nI en), .int (bI made), .ref (g 1), .ref (g 2), .ref (g 3), .ref (g 4), .ref (g 5), .ref (g 6), .ref (g 7), .ref (g 8), .ref (g 9), .ref (g 10), .long lat])), (g 1, .inl (cI, 4, .inl wd)), (g 2, .inl (cI, 4, .inl kinds)), (g 3, .inl (cL, 4, .inr (.inl av))), (g 4, .inl (cL, 4, .inr (.inl am))), (g 5, .inl (cL, 288, .inr (.inl vals))), (g 6, .inl (cL, 288, .inr (.inl msks))), (g 7, .inl (cI, 72, .inl pri)), (g 8, .inl (cI, 72, .inl act)), (g 9, .inl (cL, 72, .inr (.inl dat))), (g 10, .inl (cI, 16, .inl inb))] [.ref (g 0)]) (wr_Q (dC, dI) vwCl (some (.int 0)) [(g 0, .inr (4, [.int th, .int (nI kn), .int n9, .int w9, .int s9, .int (nI en), .int (bI made), .ref (g 1), .ref (g 2), .ref (g 3), .ref (g 4), .ref (g 5), .ref (g 6), .ref (g 7), .ref (g 8), .ref (g 9), .ref (g 10), .long lat])), (g 1, .inl (cI, 4, .inl wd)), (g 2, .inl (cI, 4, .inl kinds)), (g 3, .inl (cL, 4, .inr (.inl av))), (g 4, .inl (cL, 4, .inr (.inl am))), (g 5, .inl (cL, 288, .inr (.inl vals))), (g 6, .inl (cL, 288, .inr (.inl msks))), (g 7, .inl (cI, 72, .inl pri)), (g 8, .inl (cI, 72, .inl act)), (g 9, .inl (cL, 72, .inr (.inl dat))), (g 10, .inl (cI, 16, .inl inb))] [(g 0, .inr (4, [.int 1, .int (nI kn), .int n9, .int w9, .int s9, .int (nI en), .int (bI made), .ref (g 1), .ref (g 2), .ref (g 3), .ref (g 4), .ref (g 5), .ref (g 6), .ref (g 7), .ref (g 8), .ref (g 9), .ref (g 10), .long lat])), (g 1, .inl (cI, 4, .inl wd)), (g 2, .inl (cI, 4, .inl kinds)), (g 3, .inl (cL, 4, .inr (.inl av))), (g 4, .inl (cL, 4, .inr (.inl am))), (g 5, .inl (cL, 288, .inr (.inl vals))), (g 6, .inl (cL, 288, .inr (.inl msks))), (g 7, .inl (cI, 72, .inl pri)), (g 8, .inl (cI, 72, .inl act)), (g 9, .inl (cL, 72, .inr (.inl dat))), (g 10, .inl (cI, 16, .inl inb))]) 0 0 (wr_I [(g 0, .inr (4, [.int th, .int (nI kn), .int n9, .int w9, .int s9, .int (nI en), .int (bI made), .ref (g 1), .ref (g 2), .ref (g 3), .ref (g 4), .ref (g 5), .ref (g 6), .ref (g 7), .ref (g 8), .ref (g 9), .ref (g 10), .long lat])), (g 1, .inl (cI, 4, .inl wd)), (g 2, .inl (cI, 4, .inl kinds)), (g 3, .inl (cL, 4, .inr (.inl av))), (g 4, .inl (cL, 4, .inr (.inl am))), (g 5, .inl (cL, 288, .inr (.inl vals))), (g 6, .inl (cL, 288, .inr (.inl msks))), (g 7, .inl (cI, 72, .inl pri)), (g 8, .inl (cI, 72, .inl act)), (g 9, .inl (cL, 72, .inr (.inl dat))), (g 10, .inl (cI, 16, .inl inb))]) := by
  refine Met.ofW (cc := cX4_match) (maxL := 4) (ret := some .int) (by decide) rfl ?_
  intro p e s m args below meth c s₁ B hml hv
  obtain ⟨rfl, hP, hK, hD0⟩ := hv
  have hx := B.exec
  have hb := B.bytes
  have hr := B.returns
  have hts := fun w h => atoms_spec (ws := wsX4_match) B.pre w (List.mem_cons_of_mem _ h)
  have hown : s.vm.findClass RX4 = some m.cls := findClass_of_methodNamed B.named
  have hlocks := B.notSynchronized
  have hD := wr_self hD0
  have hS : va_S (wr_I [(g 0, .inr (4, [.int th, .int (nI kn), .int n9, .int w9, .int s9, .int (nI en), .int (bI made), .ref (g 1), .ref (g 2), .ref (g 3), .ref (g 4), .ref (g 5), .ref (g 6), .ref (g 7), .ref (g 8), .ref (g 9), .ref (g 10), .long lat])), (g 1, .inl (cI, 4, .inl wd)), (g 2, .inl (cI, 4, .inl kinds)), (g 3, .inl (cL, 4, .inr (.inl av))), (g 4, .inl (cL, 4, .inr (.inl am))), (g 5, .inl (cL, 288, .inr (.inl vals))), (g 6, .inl (cL, 288, .inr (.inl msks))), (g 7, .inl (cI, 72, .inl pri)), (g 8, .inl (cI, 72, .inl act)), (g 9, .inl (cL, 72, .inr (.inl dat))), (g 10, .inl (cI, 16, .inl inb))]) s.heap s.heap [] := va_S.rf
  have hl := lv_entry ([.ref (g 0)]) (n := 4) (Nat.le_of_ble_eq_true rfl)
  rw [lg_entry_eq]
  generalize (lg_sl ([.ref (g 0)]) ++ List.replicate (4 - (lg_sl ([.ref (g 0)])).length) Slot.unset).toArray = ls at hl ⊢
  have hl : lv_has ls 4 [(0, .ref (g 0))] := hl
  refine lv_aload_n hx hb dX4_match_0 rfl (lv_at hl 0 rfl) ?_
  refine lv_aload_n hx hb dX4_match_1 rfl (lv_at hl 0 rfl) ?_
  refine va_get (D := (dC, dI)) (ci := 4) (v := .int (bI made)) (C := RX4) (T := TX4) (N := 18) hx hb hts inX4 hown hK hP 0 rfl rfl 6 (by decide) (hts _ mw463) (fun _ h9 => h9) rfl dX4_match_2 ?_
  refine lv_if_eq (tgt := 12) hx hb dX4_match_5 (by decide) (fun c5 => ?_) (fun c5 => absurd (by rw [hm]; rfl) c5)
  refine lv_iconst (v := 1) hx hb dX4_match_12 (by decide) ?_
  refine n_put (ws' := [(g 0, .inr (4, [.int 1, .int (nI kn), .int n9, .int w9, .int s9, .int (nI en), .int (bI made), .ref (g 1), .ref (g 2), .ref (g 3), .ref (g 4), .ref (g 5), .ref (g 6), .ref (g 7), .ref (g 8), .ref (g 9), .ref (g 10), .long lat])), (g 1, .inl (cI, 4, .inl wd)), (g 2, .inl (cI, 4, .inl kinds)), (g 3, .inl (cL, 4, .inr (.inl av))), (g 4, .inl (cL, 4, .inr (.inl am))), (g 5, .inl (cL, 288, .inr (.inl vals))), (g 6, .inl (cL, 288, .inr (.inl msks))), (g 7, .inl (cI, 72, .inl pri)), (g 8, .inl (cI, 72, .inl act)), (g 9, .inl (cL, 72, .inr (.inl dat))), (g 10, .inl (cI, 16, .inl inb))]) (D := (dC, dI)) (ci := 4) (v := .int 1) (ty := .int) (C := RX4) (T := TX4) (N := 18) hx hb hts inX4 tyX4 tyX4_ok nmX4 hown hK hP hD hS 0 rfl rfl 0 (by decide) (hts _ mw457) (fun _ h9 => h9) rfl rfl rfl rfl (Nat.le_of_ble_eq_true rfl) dX4_match_13 rfl (fun H locs hP hD hS => ?_)
  refine lv_aload_n hx hb dX4_match_16 rfl (lv_at hl 0 rfl) ?_
  refine va_get (D := (dC, dI)) (ci := 4) (v := .int 1) (C := RX4) (T := TX4) (N := 18) hx hb hts inX4 hown hK hP 0 rfl rfl 0 (by decide) (hts _ mw457) (fun _ h9 => h9) rfl dX4_match_17 ?_
  refine lv_if_eq (tgt := 25) hx hb dX4_match_20 (by decide) (fun c20 => absurd c20 (by decide)) (fun c20 => ?_)
  refine lv_iconst (v := 0) hx hb dX4_match_23 (by decide) ?_
  exact wr_iret hx hb hr hlocks hP hS dX4_match_24 rfl (rfl)

set_option maxHeartbeats 4000000 in
set_option maxRecDepth 100000 in
/-- match -/
theorem c_X4_match (l : Launch) (dC : Nat → ClassId) (dI : Nat → Nat → Nat) (cI cL : ClassId) (g : Nat → Nat) (th : Int32) (kn : Nat) (n9 w9 s9 : Int32) (en : Nat) (made : Bool) (wd kinds : Nat → Int32) (av am vals msks : Nat → Int64) (pri act : Nat → Int32) (dat : Nat → Int64) (inb : Nat → Int32) (lat : Int64) (hm : made = true) (hk : kn ≤ 4) (he : en ≤ 72) (hp : ∀ i, ∃ j, j ≤ 64 ∧ mPre kinds msks kn i = nI j) : Met l yX4_match wsX4_match ({ frames := 2, cells := 0, slots := 0, locals := 45 }) (wr_P (dC, dI) vwCl [(cI, .int), (cL, .long)] [(g 0, .inr (4, [.int th, .int (nI kn), .int n9, .int w9, .int s9, .int (nI en), .int (bI made), .ref (g 1), .ref (g 2), .ref (g 3), .ref (g 4), .ref (g 5), .ref (g 6), .ref (g 7), .ref (g 8), .ref (g 9), .ref (g 10), .long lat])), (g 1, .inl (cI, 4, .inl wd)), (g 2, .inl (cI, 4, .inl kinds)), (g 3, .inl (cL, 4, .inr (.inl av))), (g 4, .inl (cL, 4, .inr (.inl am))), (g 5, .inl (cL, 288, .inr (.inl vals))), (g 6, .inl (cL, 288, .inr (.inl msks))), (g 7, .inl (cI, 72, .inl pri)), (g 8, .inl (cI, 72, .inl act)), (g 9, .inl (cL, 72, .inr (.inl dat))), (g 10, .inl (cI, 16, .inl inb))] [.ref (g 0)]) (wr_Q (dC, dI) vwCl (some (.int (mAct act (cBest av vals msks kn (mPre kinds msks kn) pri none 0 en)))) [(g 0, .inr (4, [.int th, .int (nI kn), .int n9, .int w9, .int s9, .int (nI en), .int (bI made), .ref (g 1), .ref (g 2), .ref (g 3), .ref (g 4), .ref (g 5), .ref (g 6), .ref (g 7), .ref (g 8), .ref (g 9), .ref (g 10), .long lat])), (g 1, .inl (cI, 4, .inl wd)), (g 2, .inl (cI, 4, .inl kinds)), (g 3, .inl (cL, 4, .inr (.inl av))), (g 4, .inl (cL, 4, .inr (.inl am))), (g 5, .inl (cL, 288, .inr (.inl vals))), (g 6, .inl (cL, 288, .inr (.inl msks))), (g 7, .inl (cI, 72, .inl pri)), (g 8, .inl (cI, 72, .inl act)), (g 9, .inl (cL, 72, .inr (.inl dat))), (g 10, .inl (cI, 16, .inl inb))] [(g 0, .inr (4, [.int 0, .int (nI kn), .int n9, .int w9, .int s9, .int (nI en), .int (bI made), .ref (g 1), .ref (g 2), .ref (g 3), .ref (g 4), .ref (g 5), .ref (g 6), .ref (g 7), .ref (g 8), .ref (g 9), .ref (g 10), .long (mDat dat (cBest av vals msks kn (mPre kinds msks kn) pri none 0 en))])), (g 1, .inl (cI, 4, .inl wd)), (g 2, .inl (cI, 4, .inl kinds)), (g 3, .inl (cL, 4, .inr (.inl av))), (g 4, .inl (cL, 4, .inr (.inl am))), (g 5, .inl (cL, 288, .inr (.inl vals))), (g 6, .inl (cL, 288, .inr (.inl msks))), (g 7, .inl (cI, 72, .inl pri)), (g 8, .inl (cI, 72, .inl act)), (g 9, .inl (cL, 72, .inr (.inl dat))), (g 10, .inl (cI, 16, .inl inb))]) 0 0 (wr_I [(g 0, .inr (4, [.int th, .int (nI kn), .int n9, .int w9, .int s9, .int (nI en), .int (bI made), .ref (g 1), .ref (g 2), .ref (g 3), .ref (g 4), .ref (g 5), .ref (g 6), .ref (g 7), .ref (g 8), .ref (g 9), .ref (g 10), .long lat])), (g 1, .inl (cI, 4, .inl wd)), (g 2, .inl (cI, 4, .inl kinds)), (g 3, .inl (cL, 4, .inr (.inl av))), (g 4, .inl (cL, 4, .inr (.inl am))), (g 5, .inl (cL, 288, .inr (.inl vals))), (g 6, .inl (cL, 288, .inr (.inl msks))), (g 7, .inl (cI, 72, .inl pri)), (g 8, .inl (cI, 72, .inl act)), (g 9, .inl (cL, 72, .inr (.inl dat))), (g 10, .inl (cI, 16, .inl inb))]) := by
  refine Met.ofW (cc := cX4_match) (maxL := 4) (ret := some .int) (by decide) rfl ?_
  intro p e s m args below meth c s₁ B hml hv
  obtain ⟨rfl, hP, hK, hD0⟩ := hv
  have hx := B.exec
  have hb := B.bytes
  have hr := B.returns
  have hts := fun w h => atoms_spec (ws := wsX4_match) B.pre w (List.mem_cons_of_mem _ h)
  have hown : s.vm.findClass RX4 = some m.cls := findClass_of_methodNamed B.named
  have hlocks := B.notSynchronized
  have hD := wr_self hD0
  have hS : va_S (wr_I [(g 0, .inr (4, [.int th, .int (nI kn), .int n9, .int w9, .int s9, .int (nI en), .int (bI made), .ref (g 1), .ref (g 2), .ref (g 3), .ref (g 4), .ref (g 5), .ref (g 6), .ref (g 7), .ref (g 8), .ref (g 9), .ref (g 10), .long lat])), (g 1, .inl (cI, 4, .inl wd)), (g 2, .inl (cI, 4, .inl kinds)), (g 3, .inl (cL, 4, .inr (.inl av))), (g 4, .inl (cL, 4, .inr (.inl am))), (g 5, .inl (cL, 288, .inr (.inl vals))), (g 6, .inl (cL, 288, .inr (.inl msks))), (g 7, .inl (cI, 72, .inl pri)), (g 8, .inl (cI, 72, .inl act)), (g 9, .inl (cL, 72, .inr (.inl dat))), (g 10, .inl (cI, 16, .inl inb))]) s.heap s.heap [] := va_S.rf
  have hl := lv_entry ([.ref (g 0)]) (n := 4) (Nat.le_of_ble_eq_true rfl)
  rw [lg_entry_eq]
  generalize (lg_sl ([.ref (g 0)]) ++ List.replicate (4 - (lg_sl ([.ref (g 0)])).length) Slot.unset).toArray = ls at hl ⊢
  have hl : lv_has ls 4 [(0, .ref (g 0))] := hl
  refine lv_aload_n hx hb dX4_match_0 rfl (lv_at hl 0 rfl) ?_
  refine lv_aload_n hx hb dX4_match_1 rfl (lv_at hl 0 rfl) ?_
  refine va_get (D := (dC, dI)) (ci := 4) (v := .int (bI made)) (C := RX4) (T := TX4) (N := 18) hx hb hts inX4 hown hK hP 0 rfl rfl 6 (by decide) (hts _ mw463) (fun _ h9 => h9) rfl dX4_match_2 ?_
  refine lv_if_eq (tgt := 12) hx hb dX4_match_5 (by decide) (fun c5 => absurd c5 (by rw [hm]; decide)) (fun c5 => ?_)
  refine lv_iconst (v := 0) hx hb dX4_match_8 (by decide) ?_
  refine lv_goto (tgt := 13) hx hb dX4_match_9 (by decide) ?_
  refine n_put (ws' := [(g 0, .inr (4, [.int 0, .int (nI kn), .int n9, .int w9, .int s9, .int (nI en), .int (bI made), .ref (g 1), .ref (g 2), .ref (g 3), .ref (g 4), .ref (g 5), .ref (g 6), .ref (g 7), .ref (g 8), .ref (g 9), .ref (g 10), .long lat])), (g 1, .inl (cI, 4, .inl wd)), (g 2, .inl (cI, 4, .inl kinds)), (g 3, .inl (cL, 4, .inr (.inl av))), (g 4, .inl (cL, 4, .inr (.inl am))), (g 5, .inl (cL, 288, .inr (.inl vals))), (g 6, .inl (cL, 288, .inr (.inl msks))), (g 7, .inl (cI, 72, .inl pri)), (g 8, .inl (cI, 72, .inl act)), (g 9, .inl (cL, 72, .inr (.inl dat))), (g 10, .inl (cI, 16, .inl inb))]) (D := (dC, dI)) (ci := 4) (v := .int 0) (ty := .int) (C := RX4) (T := TX4) (N := 18) hx hb hts inX4 tyX4 tyX4_ok nmX4 hown hK hP hD hS 0 rfl rfl 0 (by decide) (hts _ mw457) (fun _ h9 => h9) rfl rfl rfl rfl (Nat.le_of_ble_eq_true rfl) dX4_match_13 rfl (fun H locs hP hD hS => ?_)
  refine lv_aload_n hx hb dX4_match_16 rfl (lv_at hl 0 rfl) ?_
  refine va_get (D := (dC, dI)) (ci := 4) (v := .int 0) (C := RX4) (T := TX4) (N := 18) hx hb hts inX4 hown hK hP 0 rfl rfl 0 (by decide) (hts _ mw457) (fun _ h9 => h9) rfl dX4_match_17 ?_
  refine lv_if_eq (tgt := 25) hx hb dX4_match_20 (by decide) (fun c20 => ?_) (fun c20 => absurd rfl c20)
  refine lv_iconst (v := (oI none)) hx hb dX4_match_25 (by decide) ?_
  refine lv_istore_n (lv' := [(1, .int (oI none)), (0, .ref (g 0))]) hx hb dX4_match_26 rfl hl (by decide) rfl (fun ls hl => ?_)
  refine lv_iconst (v := (nI 0)) hx hb dX4_match_27 (by decide) ?_
  refine lv_istore_n (lv' := [(2, .int (nI 0)), (1, .int (oI none)), (0, .ref (g 0))]) hx hb dX4_match_28 rfl hl (by decide) rfl (fun ls hl => ?_)
  have loop : ∀ (n i : Nat) (b : Option Nat), i + n = en → (∀ j, b = some j → j < en) → ∀ ls : Array Slot, lv_has ls 4 [(2, .int (nI i)), (1, .int (oI b)), (0, .ref (g 0))] → W p l e (headSpec wsX4_match ({ frames := 2, cells := 0, slots := 0, locals := 45 })).room s m ([.ref (g 0)]).toArray below meth c H locs 0 0 (MQ below (wr_Q (dC, dI) vwCl (some (.int (mAct act (cBest av vals msks kn (mPre kinds msks kn) pri b i n)))) [(g 0, .inr (4, [.int th, .int (nI kn), .int n9, .int w9, .int s9, .int (nI en), .int (bI made), .ref (g 1), .ref (g 2), .ref (g 3), .ref (g 4), .ref (g 5), .ref (g 6), .ref (g 7), .ref (g 8), .ref (g 9), .ref (g 10), .long lat])), (g 1, .inl (cI, 4, .inl wd)), (g 2, .inl (cI, 4, .inl kinds)), (g 3, .inl (cL, 4, .inr (.inl av))), (g 4, .inl (cL, 4, .inr (.inl am))), (g 5, .inl (cL, 288, .inr (.inl vals))), (g 6, .inl (cL, 288, .inr (.inl msks))), (g 7, .inl (cI, 72, .inl pri)), (g 8, .inl (cI, 72, .inl act)), (g 9, .inl (cL, 72, .inr (.inl dat))), (g 10, .inl (cI, 16, .inl inb))] [(g 0, .inr (4, [.int 0, .int (nI kn), .int n9, .int w9, .int s9, .int (nI en), .int (bI made), .ref (g 1), .ref (g 2), .ref (g 3), .ref (g 4), .ref (g 5), .ref (g 6), .ref (g 7), .ref (g 8), .ref (g 9), .ref (g 10), .long (mDat dat (cBest av vals msks kn (mPre kinds msks kn) pri b i n))])), (g 1, .inl (cI, 4, .inl wd)), (g 2, .inl (cI, 4, .inl kinds)), (g 3, .inl (cL, 4, .inr (.inl av))), (g 4, .inl (cL, 4, .inr (.inl am))), (g 5, .inl (cL, 288, .inr (.inl vals))), (g 6, .inl (cL, 288, .inr (.inl msks))), (g 7, .inl (cI, 72, .inl pri)), (g 8, .inl (cI, 72, .inl act)), (g 9, .inl (cL, 72, .inr (.inl dat))), (g 10, .inl (cI, 16, .inl inb))]) ([.ref (g 0)]).toArray s 0 0 (wr_I [(g 0, .inr (4, [.int th, .int (nI kn), .int n9, .int w9, .int s9, .int (nI en), .int (bI made), .ref (g 1), .ref (g 2), .ref (g 3), .ref (g 4), .ref (g 5), .ref (g 6), .ref (g 7), .ref (g 8), .ref (g 9), .ref (g 10), .long lat])), (g 1, .inl (cI, 4, .inl wd)), (g 2, .inl (cI, 4, .inl kinds)), (g 3, .inl (cL, 4, .inr (.inl av))), (g 4, .inl (cL, 4, .inr (.inl am))), (g 5, .inl (cL, 288, .inr (.inl vals))), (g 6, .inl (cL, 288, .inr (.inl msks))), (g 7, .inl (cI, 72, .inl pri)), (g 8, .inl (cI, 72, .inl act)), (g 9, .inl (cL, 72, .inr (.inl dat))), (g 10, .inl (cI, 16, .inl inb))])) (F0 m 29 ls []) := by
    intro n
    induction n with
    | zero =>
      intro i b hi hj ls hl
      cases b with
      | none =>
        refine lv_iload_n hx hb dX4_match_29 rfl (lv_at hl 0 rfl) ?_
        refine lv_aload_n hx hb dX4_match_30 rfl (lv_at hl 2 rfl) ?_
        refine va_get (D := (dC, dI)) (ci := 4) (v := .int (nI en)) (C := RX4) (T := TX4) (N := 18) hx hb hts inX4 hown hK hP 0 rfl rfl 5 (by decide) (hts _ mw462) (fun _ h9 => h9) rfl dX4_match_31 ?_
        refine n_ige i en (tgt := 97) (hexec := hx) (hb := hb) dX4_match_34 (by decide) rfl rfl (by omega) (by omega) (fun c34 => ?_) (fun c34 => absurd c34 (by omega))
        refine lv_aload_n hx hb dX4_match_97 rfl (lv_at hl 2 rfl) ?_
        refine lv_iload_n hx hb dX4_match_98 rfl (lv_at hl 1 rfl) ?_
        refine lv_iconst (v := (-1)) hx hb dX4_match_99 (by decide) ?_
        refine lv_icmp_ne (tgt := 107) hx hb dX4_match_100 (by decide) (fun c100 => absurd rfl c100) (fun c100 => ?_)
        refine lv_lconst (v := 0) hx hb dX4_match_103 (by decide) ?_
        refine lv_goto (tgt := 113) hx hb dX4_match_104 (by decide) ?_
        refine n_put (ws' := [(g 0, .inr (4, [.int 0, .int (nI kn), .int n9, .int w9, .int s9, .int (nI en), .int (bI made), .ref (g 1), .ref (g 2), .ref (g 3), .ref (g 4), .ref (g 5), .ref (g 6), .ref (g 7), .ref (g 8), .ref (g 9), .ref (g 10), .long 0])), (g 1, .inl (cI, 4, .inl wd)), (g 2, .inl (cI, 4, .inl kinds)), (g 3, .inl (cL, 4, .inr (.inl av))), (g 4, .inl (cL, 4, .inr (.inl am))), (g 5, .inl (cL, 288, .inr (.inl vals))), (g 6, .inl (cL, 288, .inr (.inl msks))), (g 7, .inl (cI, 72, .inl pri)), (g 8, .inl (cI, 72, .inl act)), (g 9, .inl (cL, 72, .inr (.inl dat))), (g 10, .inl (cI, 16, .inl inb))]) (D := (dC, dI)) (ci := 4) (v := .long 0) (ty := .long) (C := RX4) (T := TX4) (N := 18) hx hb hts inX4 tyX4 tyX4_ok nmX4 hown hK hP hD hS 0 rfl rfl 17 (by decide) (hts _ mw474) (fun _ h9 => h9) rfl rfl rfl rfl (Nat.le_of_ble_eq_true rfl) dX4_match_113 rfl (fun H locs hP hD hS => ?_)
        refine lv_iload_n hx hb dX4_match_116 rfl (lv_at hl 1 rfl) ?_
        refine lv_iconst (v := (-1)) hx hb dX4_match_117 (by decide) ?_
        refine lv_icmp_ne (tgt := 125) hx hb dX4_match_118 (by decide) (fun c118 => absurd rfl c118) (fun c118 => ?_)
        refine lv_iconst (v := (-1)) hx hb dX4_match_121 (by decide) ?_
        refine lv_goto (tgt := 131) hx hb dX4_match_122 (by decide) ?_
        exact wr_iret hx hb hr hlocks hP hS dX4_match_131 rfl (rfl)
      | some j =>
        have hj := hj j rfl
        have hl : lv_has ls 4 [(2, .int (nI i)), (1, .int (nI j)), (0, .ref (g 0))] := hl
        refine lv_iload_n hx hb dX4_match_29 rfl (lv_at hl 0 rfl) ?_
        refine lv_aload_n hx hb dX4_match_30 rfl (lv_at hl 2 rfl) ?_
        refine va_get (D := (dC, dI)) (ci := 4) (v := .int (nI en)) (C := RX4) (T := TX4) (N := 18) hx hb hts inX4 hown hK hP 0 rfl rfl 5 (by decide) (hts _ mw462) (fun _ h9 => h9) rfl dX4_match_31 ?_
        refine n_ige i en (tgt := 97) (hexec := hx) (hb := hb) dX4_match_34 (by decide) rfl rfl (by omega) (by omega) (fun c34 => ?_) (fun c34 => absurd c34 (by omega))
        refine lv_aload_n hx hb dX4_match_97 rfl (lv_at hl 2 rfl) ?_
        refine lv_iload_n hx hb dX4_match_98 rfl (lv_at hl 1 rfl) ?_
        refine lv_iconst (v := (-1)) hx hb dX4_match_99 (by decide) ?_
        refine lv_icmp_ne (tgt := 107) hx hb dX4_match_100 (by decide) (fun c100 => ?_) (fun c100 => absurd c100 (n_ne9 (by omega)))
        refine lv_aload_n hx hb dX4_match_107 rfl (lv_at hl 2 rfl) ?_
        refine va_get (D := (dC, dI)) (ci := 4) (v := .ref (g 9)) (C := RX4) (T := TX4) (N := 18) hx hb hts inX4 hown hK hP 0 rfl rfl 15 (by decide) (hts _ mw472) (fun _ h9 => h9) rfl dX4_match_108 ?_
        refine lv_iload_n hx hb dX4_match_111 rfl (lv_at hl 1 rfl) ?_
        refine n_lald hx hb hK hP 9 1 rfl rfl (k := j) rfl (by omega) (by omega) dX4_match_112 ?_
        refine n_put (ws' := [(g 0, .inr (4, [.int 0, .int (nI kn), .int n9, .int w9, .int s9, .int (nI en), .int (bI made), .ref (g 1), .ref (g 2), .ref (g 3), .ref (g 4), .ref (g 5), .ref (g 6), .ref (g 7), .ref (g 8), .ref (g 9), .ref (g 10), .long (dat j)])), (g 1, .inl (cI, 4, .inl wd)), (g 2, .inl (cI, 4, .inl kinds)), (g 3, .inl (cL, 4, .inr (.inl av))), (g 4, .inl (cL, 4, .inr (.inl am))), (g 5, .inl (cL, 288, .inr (.inl vals))), (g 6, .inl (cL, 288, .inr (.inl msks))), (g 7, .inl (cI, 72, .inl pri)), (g 8, .inl (cI, 72, .inl act)), (g 9, .inl (cL, 72, .inr (.inl dat))), (g 10, .inl (cI, 16, .inl inb))]) (D := (dC, dI)) (ci := 4) (v := .long (dat j)) (ty := .long) (C := RX4) (T := TX4) (N := 18) hx hb hts inX4 tyX4 tyX4_ok nmX4 hown hK hP hD hS 0 rfl rfl 17 (by decide) (hts _ mw474) (fun _ h9 => h9) rfl rfl rfl rfl (Nat.le_of_ble_eq_true rfl) dX4_match_113 rfl (fun H locs hP hD hS => ?_)
        refine lv_iload_n hx hb dX4_match_116 rfl (lv_at hl 1 rfl) ?_
        refine lv_iconst (v := (-1)) hx hb dX4_match_117 (by decide) ?_
        refine lv_icmp_ne (tgt := 125) hx hb dX4_match_118 (by decide) (fun c118 => ?_) (fun c118 => absurd c118 (n_ne9 (by omega)))
        refine lv_aload_n hx hb dX4_match_125 rfl (lv_at hl 2 rfl) ?_
        refine va_get (D := (dC, dI)) (ci := 4) (v := .ref (g 8)) (C := RX4) (T := TX4) (N := 18) hx hb hts inX4 hown hK hP 0 rfl rfl 14 (by decide) (hts _ mw471) (fun _ h9 => h9) rfl dX4_match_126 ?_
        refine lv_iload_n hx hb dX4_match_129 rfl (lv_at hl 1 rfl) ?_
        refine n_iald hx hb hK hP 8 0 rfl rfl (k := j) rfl (by omega) (by omega) dX4_match_130 ?_
        exact wr_iret hx hb hr hlocks hP hS dX4_match_131 rfl (rfl)
    | succ n ih =>
      intro i b hi hj ls hl
      cases b with
      | none =>
        refine lv_iload_n hx hb dX4_match_29 rfl (lv_at hl 0 rfl) ?_
        refine lv_aload_n hx hb dX4_match_30 rfl (lv_at hl 2 rfl) ?_
        refine va_get (D := (dC, dI)) (ci := 4) (v := .int (nI en)) (C := RX4) (T := TX4) (N := 18) hx hb hts inX4 hown hK hP 0 rfl rfl 5 (by decide) (hts _ mw462) (fun _ h9 => h9) rfl dX4_match_31 ?_
        refine n_ige i en (tgt := 97) (hexec := hx) (hb := hb) dX4_match_34 (by decide) rfl rfl (by omega) (by omega) (fun c34 => absurd c34 (by omega)) (fun c34 => ?_)
        refine lv_aload_n hx hb dX4_match_37 rfl (lv_at hl 2 rfl) ?_
        refine lv_iload_n hx hb dX4_match_38 rfl (lv_at hl 0 rfl) ?_
        refine rd_calli (r := (bI (cFit av vals msks kn i))) (va_runV (As := [.int (nI i)]) (rest := []) ⟨hx, hb, hml, hown, hts⟩ (c_X4_matches l dC dI cI cL g 0 kn n9 w9 s9 en made wd kinds av am vals msks pri act dat inb lat i hk (by omega)) (cwV 1 hts (gV mw586 mw588 mw19 mw26 mw589) rfl rfl rfl (by decide +kernel) ⟨Nat.le_of_ble_eq_true rfl, Nat.le_of_ble_eq_true rfl⟩) (rd_preV (hP.sub (ws' := [(g 0, .inr (4, [.int 0, .int (nI kn), .int n9, .int w9, .int s9, .int (nI en), .int (bI made), .ref (g 1), .ref (g 2), .ref (g 3), .ref (g 4), .ref (g 5), .ref (g 6), .ref (g 7), .ref (g 8), .ref (g 9), .ref (g 10), .long lat])), (g 1, .inl (cI, 4, .inl wd)), (g 2, .inl (cI, 4, .inl kinds)), (g 3, .inl (cL, 4, .inr (.inl av))), (g 4, .inl (cL, 4, .inr (.inl am))), (g 5, .inl (cL, 288, .inr (.inl vals))), (g 6, .inl (cL, 288, .inr (.inl msks))), (g 7, .inl (cI, 72, .inl pri)), (g 8, .inl (cI, 72, .inl act)), (g 9, .inl (cL, 72, .inr (.inl dat))), (g 10, .inl (cI, 16, .inl inb))]) [0, 1, 2, 3, 4, 5, 6, 7, 8, 9, 10] rfl) hK (va_recv (ci := 4) hK hP rfl (q0 := 0) rfl)) rfl rfl hl.1 rfl (lv_room (Nat.le_of_ble_eq_true rfl)) dX4_match_39 ⟨Nat.zero_le _, Nat.zero_le _⟩) ?_
        refine lv_if_eq (tgt := 91) hx hb dX4_match_42 (by decide) (fun c42 => ?_) (fun c42 => ?_)
        · rw [show cBest av vals msks kn (mPre kinds msks kn) pri none i (n + 1) = cBest av vals msks kn (mPre kinds msks kn) pri none (i + 1) n from cBest_n (bI_eq c42)]
          refine lv_iinc (v := nI (i + 1)) (lv' := [(2, .int (nI (i + 1))), (1, .int (oI none)), (0, .ref (g 0))]) hx hb dX4_match_91 hl (k := 0) rfl (nI_1 i) (by decide) rfl (fun ls hl => ?_)
          refine lv_goto (tgt := 29) hx hb dX4_match_94 (by decide) ?_
          exact ih (i + 1) none (by omega) (fun k hk9 => nomatch hk9) ls (lv_sub hl [0, 1, 2] rfl)
        · rw [show cBest av vals msks kn (mPre kinds msks kn) pri none i (n + 1) = cBest av vals msks kn (mPre kinds msks kn) pri (some i) (i + 1) n from cBest_0 (bI_ne c42)]
          refine lv_iload_n hx hb dX4_match_45 rfl (lv_at hl 1 rfl) ?_
          refine lv_iconst (v := (-1)) hx hb dX4_match_46 (by decide) ?_
          refine lv_icmp_ne (tgt := 54) hx hb dX4_match_47 (by decide) (fun c47 => absurd rfl c47) (fun c47 => ?_)
          refine lv_iconst (v := 1) hx hb dX4_match_50 (by decide) ?_
          refine lv_goto (tgt := 65) hx hb dX4_match_51 (by decide) ?_
          refine lv_istore_n (lv' := [(3, .int 1), (2, .int (nI i)), (1, .int (oI none)), (0, .ref (g 0))]) hx hb dX4_match_65 rfl hl (by decide) rfl (fun ls hl => ?_)
          refine lv_iload_n hx hb dX4_match_66 rfl (lv_at hl 0 rfl) ?_
          refine lv_if_gt (tgt := 89) hx hb dX4_match_67 (by decide) (fun c67 => ?_) (fun c67 => absurd (by decide) c67)
          refine lv_iload_n hx hb dX4_match_89 rfl (lv_at hl 1 rfl) ?_
          refine lv_istore_n (lv' := [(1, .int (nI i)), (3, .int 1), (2, .int (nI i)), (0, .ref (g 0))]) hx hb dX4_match_90 rfl hl (by decide) rfl (fun ls hl => ?_)
          refine lv_iinc (v := nI (i + 1)) (lv' := [(2, .int (nI (i + 1))), (1, .int (nI i)), (3, .int 1), (0, .ref (g 0))]) hx hb dX4_match_91 hl (k := 2) rfl (nI_1 i) (by decide) rfl (fun ls hl => ?_)
          refine lv_goto (tgt := 29) hx hb dX4_match_94 (by decide) ?_
          exact ih (i + 1) (some i) (by omega) (fun k hk9 => by cases hk9; omega) ls (lv_sub hl [0, 1, 3] rfl)
      | some j =>
        have hj := hj j rfl
        have hl : lv_has ls 4 [(2, .int (nI i)), (1, .int (nI j)), (0, .ref (g 0))] := hl
        obtain ⟨p1, hp1, ep1⟩ := hp i
        obtain ⟨p2, hp2, ep2⟩ := hp j
        refine lv_iload_n hx hb dX4_match_29 rfl (lv_at hl 0 rfl) ?_
        refine lv_aload_n hx hb dX4_match_30 rfl (lv_at hl 2 rfl) ?_
        refine va_get (D := (dC, dI)) (ci := 4) (v := .int (nI en)) (C := RX4) (T := TX4) (N := 18) hx hb hts inX4 hown hK hP 0 rfl rfl 5 (by decide) (hts _ mw462) (fun _ h9 => h9) rfl dX4_match_31 ?_
        refine n_ige i en (tgt := 97) (hexec := hx) (hb := hb) dX4_match_34 (by decide) rfl rfl (by omega) (by omega) (fun c34 => absurd c34 (by omega)) (fun c34 => ?_)
        refine lv_aload_n hx hb dX4_match_37 rfl (lv_at hl 2 rfl) ?_
        refine lv_iload_n hx hb dX4_match_38 rfl (lv_at hl 0 rfl) ?_
        refine rd_calli (r := (bI (cFit av vals msks kn i))) (va_runV (As := [.int (nI i)]) (rest := []) ⟨hx, hb, hml, hown, hts⟩ (c_X4_matches l dC dI cI cL g 0 kn n9 w9 s9 en made wd kinds av am vals msks pri act dat inb lat i hk (by omega)) (cwV 1 hts (gV mw586 mw588 mw19 mw26 mw589) rfl rfl rfl (by decide +kernel) ⟨Nat.le_of_ble_eq_true rfl, Nat.le_of_ble_eq_true rfl⟩) (rd_preV (hP.sub (ws' := [(g 0, .inr (4, [.int 0, .int (nI kn), .int n9, .int w9, .int s9, .int (nI en), .int (bI made), .ref (g 1), .ref (g 2), .ref (g 3), .ref (g 4), .ref (g 5), .ref (g 6), .ref (g 7), .ref (g 8), .ref (g 9), .ref (g 10), .long lat])), (g 1, .inl (cI, 4, .inl wd)), (g 2, .inl (cI, 4, .inl kinds)), (g 3, .inl (cL, 4, .inr (.inl av))), (g 4, .inl (cL, 4, .inr (.inl am))), (g 5, .inl (cL, 288, .inr (.inl vals))), (g 6, .inl (cL, 288, .inr (.inl msks))), (g 7, .inl (cI, 72, .inl pri)), (g 8, .inl (cI, 72, .inl act)), (g 9, .inl (cL, 72, .inr (.inl dat))), (g 10, .inl (cI, 16, .inl inb))]) [0, 1, 2, 3, 4, 5, 6, 7, 8, 9, 10] rfl) hK (va_recv (ci := 4) hK hP rfl (q0 := 0) rfl)) rfl rfl hl.1 rfl (lv_room (Nat.le_of_ble_eq_true rfl)) dX4_match_39 ⟨Nat.zero_le _, Nat.zero_le _⟩) ?_
        refine lv_if_eq (tgt := 91) hx hb dX4_match_42 (by decide) (fun c42 => ?_) (fun c42 => ?_)
        · rw [show cBest av vals msks kn (mPre kinds msks kn) pri (some j) i (n + 1) = cBest av vals msks kn (mPre kinds msks kn) pri (some j) (i + 1) n from cBest_n (bI_eq c42)]
          refine lv_iinc (v := nI (i + 1)) (lv' := [(2, .int (nI (i + 1))), (1, .int (nI j)), (0, .ref (g 0))]) hx hb dX4_match_91 hl (k := 0) rfl (nI_1 i) (by decide) rfl (fun ls hl => ?_)
          refine lv_goto (tgt := 29) hx hb dX4_match_94 (by decide) ?_
          exact ih (i + 1) (some j) (by omega) (fun k hk9 => by cases hk9; omega) ls (lv_sub hl [0, 1, 2] rfl)
        · refine lv_iload_n hx hb dX4_match_45 rfl (lv_at hl 1 rfl) ?_
          refine lv_iconst (v := (-1)) hx hb dX4_match_46 (by decide) ?_
          refine lv_icmp_ne (tgt := 54) hx hb dX4_match_47 (by decide) (fun c47 => ?_) (fun c47 => absurd c47 (n_ne9 (by omega)))
          refine lv_aload_n hx hb dX4_match_54 rfl (lv_at hl 2 rfl) ?_
          refine lv_iload_n hx hb dX4_match_55 rfl (lv_at hl 0 rfl) ?_
          refine rd_calli (r := (mPre kinds msks kn i)) (va_runV (As := [.int (nI i)]) (rest := []) ⟨hx, hb, hml, hown, hts⟩ (c_X4_prefixOnes l dC dI cI cL g 0 kn n9 w9 s9 en made wd kinds av am vals msks pri act dat inb lat i hk (by omega)) (cwV 1 hts (gV mw590 mw592 mw20 mw26 mw593) rfl rfl rfl (by decide +kernel) ⟨Nat.le_of_ble_eq_true rfl, Nat.le_of_ble_eq_true rfl⟩) (rd_preV (hP.sub (ws' := [(g 0, .inr (4, [.int 0, .int (nI kn), .int n9, .int w9, .int s9, .int (nI en), .int (bI made), .ref (g 1), .ref (g 2), .ref (g 3), .ref (g 4), .ref (g 5), .ref (g 6), .ref (g 7), .ref (g 8), .ref (g 9), .ref (g 10), .long lat])), (g 1, .inl (cI, 4, .inl wd)), (g 2, .inl (cI, 4, .inl kinds)), (g 3, .inl (cL, 4, .inr (.inl av))), (g 4, .inl (cL, 4, .inr (.inl am))), (g 5, .inl (cL, 288, .inr (.inl vals))), (g 6, .inl (cL, 288, .inr (.inl msks))), (g 7, .inl (cI, 72, .inl pri)), (g 8, .inl (cI, 72, .inl act)), (g 9, .inl (cL, 72, .inr (.inl dat))), (g 10, .inl (cI, 16, .inl inb))]) [0, 1, 2, 3, 4, 5, 6, 7, 8, 9, 10] rfl) hK (va_recv (ci := 4) hK hP rfl (q0 := 0) rfl)) rfl rfl hl.1 rfl (lv_room (Nat.le_of_ble_eq_true rfl)) dX4_match_56 ⟨Nat.zero_le _, Nat.zero_le _⟩) ?_
          refine lv_aload_n hx hb dX4_match_59 rfl (lv_at hl 2 rfl) ?_
          refine lv_iload_n hx hb dX4_match_60 rfl (lv_at hl 1 rfl) ?_
          refine rd_calli (r := (mPre kinds msks kn j)) (va_runV (As := [.int (nI j)]) (rest := [.int (mPre kinds msks kn i)]) ⟨hx, hb, hml, hown, hts⟩ (c_X4_prefixOnes l dC dI cI cL g 0 kn n9 w9 s9 en made wd kinds av am vals msks pri act dat inb lat j hk (by omega)) (cwV 1 hts (gV mw590 mw592 mw20 mw26 mw593) rfl rfl rfl (by decide +kernel) ⟨Nat.le_of_ble_eq_true rfl, Nat.le_of_ble_eq_true rfl⟩) (rd_preV (hP.sub (ws' := [(g 0, .inr (4, [.int 0, .int (nI kn), .int n9, .int w9, .int s9, .int (nI en), .int (bI made), .ref (g 1), .ref (g 2), .ref (g 3), .ref (g 4), .ref (g 5), .ref (g 6), .ref (g 7), .ref (g 8), .ref (g 9), .ref (g 10), .long lat])), (g 1, .inl (cI, 4, .inl wd)), (g 2, .inl (cI, 4, .inl kinds)), (g 3, .inl (cL, 4, .inr (.inl av))), (g 4, .inl (cL, 4, .inr (.inl am))), (g 5, .inl (cL, 288, .inr (.inl vals))), (g 6, .inl (cL, 288, .inr (.inl msks))), (g 7, .inl (cI, 72, .inl pri)), (g 8, .inl (cI, 72, .inl act)), (g 9, .inl (cL, 72, .inr (.inl dat))), (g 10, .inl (cI, 16, .inl inb))]) [0, 1, 2, 3, 4, 5, 6, 7, 8, 9, 10] rfl) hK (va_recv (ci := 4) hK hP rfl (q0 := 0) rfl)) rfl rfl hl.1 rfl (lv_room (Nat.le_of_ble_eq_true rfl)) dX4_match_61 ⟨Nat.zero_le _, Nat.zero_le _⟩) ?_
          refine lv_isub hx hb dX4_match_64 ?_
          refine lv_istore_n (lv' := [(3, .int ((mPre kinds msks kn i) - (mPre kinds msks kn j))), (2, .int (nI i)), (1, .int (nI j)), (0, .ref (g 0))]) hx hb dX4_match_65 rfl hl (by decide) rfl (fun ls hl => ?_)
          refine lv_iload_n hx hb dX4_match_66 rfl (lv_at hl 0 rfl) ?_
          refine lv_if_gt (tgt := 89) hx hb dX4_match_67 (by decide) (fun c67 => ?_) (fun c67 => ?_)
          · rw [show cBest av vals msks kn (mPre kinds msks kn) pri (some j) i (n + 1) = cBest av vals msks kn (mPre kinds msks kn) pri (some i) (i + 1) n from cBest_y (bI_ne c42) (m_more1 ep1 ep2 hp1 hp2 c67)]
            refine lv_iload_n hx hb dX4_match_89 rfl (lv_at hl 1 rfl) ?_
            refine lv_istore_n (lv' := [(1, .int (nI i)), (3, .int ((mPre kinds msks kn i) - (mPre kinds msks kn j))), (2, .int (nI i)), (0, .ref (g 0))]) hx hb dX4_match_90 rfl hl (by decide) rfl (fun ls hl => ?_)
            refine lv_iinc (v := nI (i + 1)) (lv' := [(2, .int (nI (i + 1))), (1, .int (nI i)), (3, .int ((mPre kinds msks kn i) - (mPre kinds msks kn j))), (0, .ref (g 0))]) hx hb dX4_match_91 hl (k := 2) rfl (nI_1 i) (by decide) rfl (fun ls hl => ?_)
            refine lv_goto (tgt := 29) hx hb dX4_match_94 (by decide) ?_
            exact ih (i + 1) (some i) (by omega) (fun k hk9 => by cases hk9; omega) ls (lv_sub hl [0, 1, 3] rfl)
          · refine lv_iload_n hx hb dX4_match_70 rfl (lv_at hl 0 rfl) ?_
            refine lv_if_ne (tgt := 91) hx hb dX4_match_71 (by decide) (fun c71 => ?_) (fun c71 => ?_)
            · rw [show cBest av vals msks kn (mPre kinds msks kn) pri (some j) i (n + 1) = cBest av vals msks kn (mPre kinds msks kn) pri (some j) (i + 1) n from cBest_k (m_more2 ep1 ep2 hp1 hp2 c67 c71)]
              refine lv_iinc (v := nI (i + 1)) (lv' := [(2, .int (nI (i + 1))), (3, .int ((mPre kinds msks kn i) - (mPre kinds msks kn j))), (1, .int (nI j)), (0, .ref (g 0))]) hx hb dX4_match_91 hl (k := 1) rfl (nI_1 i) (by decide) rfl (fun ls hl => ?_)
              refine lv_goto (tgt := 29) hx hb dX4_match_94 (by decide) ?_
              exact ih (i + 1) (some j) (by omega) (fun k hk9 => by cases hk9; omega) ls (lv_sub hl [0, 2, 3] rfl)
            · refine lv_aload_n hx hb dX4_match_74 rfl (lv_at hl 3 rfl) ?_
              refine va_get (D := (dC, dI)) (ci := 4) (v := .ref (g 7)) (C := RX4) (T := TX4) (N := 18) hx hb hts inX4 hown hK hP 0 rfl rfl 13 (by decide) (hts _ mw470) (fun _ h9 => h9) rfl dX4_match_75 ?_
              refine lv_iload_n hx hb dX4_match_78 rfl (lv_at hl 1 rfl) ?_
              refine n_iald hx hb hK hP 7 0 rfl rfl (k := i) rfl (by omega) (by omega) dX4_match_79 ?_
              refine lv_aload_n hx hb dX4_match_80 rfl (lv_at hl 3 rfl) ?_
              refine va_get (D := (dC, dI)) (ci := 4) (v := .ref (g 7)) (C := RX4) (T := TX4) (N := 18) hx hb hts inX4 hown hK hP 0 rfl rfl 13 (by decide) (hts _ mw470) (fun _ h9 => h9) rfl dX4_match_81 ?_
              refine lv_iload_n hx hb dX4_match_84 rfl (lv_at hl 2 rfl) ?_
              refine n_iald hx hb hK hP 7 0 rfl rfl (k := j) rfl (by omega) (by omega) dX4_match_85 ?_
              refine lv_icmp_le (tgt := 91) hx hb dX4_match_86 (by decide) (fun c86 => ?_) (fun c86 => ?_)
              · rw [show cBest av vals msks kn (mPre kinds msks kn) pri (some j) i (n + 1) = cBest av vals msks kn (mPre kinds msks kn) pri (some j) (i + 1) n from cBest_k (m_more3 c71 ep1 ep2 hp1 hp2 c86)]
                refine lv_iinc (v := nI (i + 1)) (lv' := [(2, .int (nI (i + 1))), (3, .int ((mPre kinds msks kn i) - (mPre kinds msks kn j))), (1, .int (nI j)), (0, .ref (g 0))]) hx hb dX4_match_91 hl (k := 1) rfl (nI_1 i) (by decide) rfl (fun ls hl => ?_)
                refine lv_goto (tgt := 29) hx hb dX4_match_94 (by decide) ?_
                exact ih (i + 1) (some j) (by omega) (fun k hk9 => by cases hk9; omega) ls (lv_sub hl [0, 2, 3] rfl)
              · rw [show cBest av vals msks kn (mPre kinds msks kn) pri (some j) i (n + 1) = cBest av vals msks kn (mPre kinds msks kn) pri (some i) (i + 1) n from cBest_y (bI_ne c42) (m_more4 c71 ep1 ep2 hp1 hp2 c86)]
                refine lv_iload_n hx hb dX4_match_89 rfl (lv_at hl 1 rfl) ?_
                refine lv_istore_n (lv' := [(1, .int (nI i)), (3, .int ((mPre kinds msks kn i) - (mPre kinds msks kn j))), (2, .int (nI i)), (0, .ref (g 0))]) hx hb dX4_match_90 rfl hl (by decide) rfl (fun ls hl => ?_)
                refine lv_iinc (v := nI (i + 1)) (lv' := [(2, .int (nI (i + 1))), (1, .int (nI i)), (3, .int ((mPre kinds msks kn i) - (mPre kinds msks kn j))), (0, .ref (g 0))]) hx hb dX4_match_91 hl (k := 2) rfl (nI_1 i) (by decide) rfl (fun ls hl => ?_)
                refine lv_goto (tgt := 29) hx hb dX4_match_94 (by decide) ?_
                exact ih (i + 1) (some i) (by omega) (fun k hk9 => by cases hk9; omega) ls (lv_sub hl [0, 1, 3] rfl)
  exact loop en 0 none (by omega) (fun k hk9 => nomatch hk9) ls (lv_sub hl [0, 1, 2] rfl)

set_option maxHeartbeats 4000000 in
set_option maxRecDepth 100000 in
/-- count -/
theorem c_X4_count (l : Launch) (dC : Nat → ClassId) (dI : Nat → Nat → Nat) (cI cL : ClassId) (g : Nat → Nat) (th : Int32) (kn : Nat) (n9 w9 s9 : Int32) (en : Nat) (made : Bool) (wd kinds : Nat → Int32) (av am vals msks : Nat → Int64) (pri act : Nat → Int32) (dat : Nat → Int64) (inb : Nat → Int32) (lat : Int64) (what : Int32) (hk : kn ≤ 4) (h1 : ¬ (what = 1 ∧ made = true ∧ kExact kinds kn = true)) : Met l yX4_count wsX4_count ({ frames := 3, cells := 0, slots := 0, locals := 71 }) (wr_P (dC, dI) vwCl [(cI, .int), (cL, .long)] [(g 0, .inr (4, [.int th, .int (nI kn), .int n9, .int w9, .int s9, .int (nI en), .int (bI made), .ref (g 1), .ref (g 2), .ref (g 3), .ref (g 4), .ref (g 5), .ref (g 6), .ref (g 7), .ref (g 8), .ref (g 9), .ref (g 10), .long lat])), (g 1, .inl (cI, 4, .inl wd)), (g 2, .inl (cI, 4, .inl kinds)), (g 3, .inl (cL, 4, .inr (.inl av))), (g 4, .inl (cL, 4, .inr (.inl am))), (g 5, .inl (cL, 288, .inr (.inl vals))), (g 6, .inl (cL, 288, .inr (.inl msks))), (g 7, .inl (cI, 72, .inl pri)), (g 8, .inl (cI, 72, .inl act)), (g 9, .inl (cL, 72, .inr (.inl dat))), (g 10, .inl (cI, 16, .inl inb))] [.ref (g 0), .int what]) (wr_Q (dC, dI) vwCl (some (.int (mCount kinds kn en n9 w9 s9 made what))) [(g 0, .inr (4, [.int th, .int (nI kn), .int n9, .int w9, .int s9, .int (nI en), .int (bI made), .ref (g 1), .ref (g 2), .ref (g 3), .ref (g 4), .ref (g 5), .ref (g 6), .ref (g 7), .ref (g 8), .ref (g 9), .ref (g 10), .long lat])), (g 1, .inl (cI, 4, .inl wd)), (g 2, .inl (cI, 4, .inl kinds)), (g 3, .inl (cL, 4, .inr (.inl av))), (g 4, .inl (cL, 4, .inr (.inl am))), (g 5, .inl (cL, 288, .inr (.inl vals))), (g 6, .inl (cL, 288, .inr (.inl msks))), (g 7, .inl (cI, 72, .inl pri)), (g 8, .inl (cI, 72, .inl act)), (g 9, .inl (cL, 72, .inr (.inl dat))), (g 10, .inl (cI, 16, .inl inb))] [(g 0, .inr (4, [.int 0, .int (nI kn), .int n9, .int w9, .int s9, .int (nI en), .int (bI made), .ref (g 1), .ref (g 2), .ref (g 3), .ref (g 4), .ref (g 5), .ref (g 6), .ref (g 7), .ref (g 8), .ref (g 9), .ref (g 10), .long lat])), (g 1, .inl (cI, 4, .inl wd)), (g 2, .inl (cI, 4, .inl kinds)), (g 3, .inl (cL, 4, .inr (.inl av))), (g 4, .inl (cL, 4, .inr (.inl am))), (g 5, .inl (cL, 288, .inr (.inl vals))), (g 6, .inl (cL, 288, .inr (.inl msks))), (g 7, .inl (cI, 72, .inl pri)), (g 8, .inl (cI, 72, .inl act)), (g 9, .inl (cL, 72, .inr (.inl dat))), (g 10, .inl (cI, 16, .inl inb))]) 0 0 (wr_I [(g 0, .inr (4, [.int th, .int (nI kn), .int n9, .int w9, .int s9, .int (nI en), .int (bI made), .ref (g 1), .ref (g 2), .ref (g 3), .ref (g 4), .ref (g 5), .ref (g 6), .ref (g 7), .ref (g 8), .ref (g 9), .ref (g 10), .long lat])), (g 1, .inl (cI, 4, .inl wd)), (g 2, .inl (cI, 4, .inl kinds)), (g 3, .inl (cL, 4, .inr (.inl av))), (g 4, .inl (cL, 4, .inr (.inl am))), (g 5, .inl (cL, 288, .inr (.inl vals))), (g 6, .inl (cL, 288, .inr (.inl msks))), (g 7, .inl (cI, 72, .inl pri)), (g 8, .inl (cI, 72, .inl act)), (g 9, .inl (cL, 72, .inr (.inl dat))), (g 10, .inl (cI, 16, .inl inb))]) := by
  refine Met.ofW (cc := cX4_count) (maxL := 2) (ret := some .int) (by decide) rfl ?_
  intro p e s m args below meth c s₁ B hml hv
  obtain ⟨rfl, hP, hK, hD0⟩ := hv
  have hx := B.exec
  have hb := B.bytes
  have hr := B.returns
  have hts := fun w h => atoms_spec (ws := wsX4_count) B.pre w (List.mem_cons_of_mem _ h)
  have hown : s.vm.findClass RX4 = some m.cls := findClass_of_methodNamed B.named
  have hlocks := B.notSynchronized
  have hD := wr_self hD0
  have hS : va_S (wr_I [(g 0, .inr (4, [.int th, .int (nI kn), .int n9, .int w9, .int s9, .int (nI en), .int (bI made), .ref (g 1), .ref (g 2), .ref (g 3), .ref (g 4), .ref (g 5), .ref (g 6), .ref (g 7), .ref (g 8), .ref (g 9), .ref (g 10), .long lat])), (g 1, .inl (cI, 4, .inl wd)), (g 2, .inl (cI, 4, .inl kinds)), (g 3, .inl (cL, 4, .inr (.inl av))), (g 4, .inl (cL, 4, .inr (.inl am))), (g 5, .inl (cL, 288, .inr (.inl vals))), (g 6, .inl (cL, 288, .inr (.inl msks))), (g 7, .inl (cI, 72, .inl pri)), (g 8, .inl (cI, 72, .inl act)), (g 9, .inl (cL, 72, .inr (.inl dat))), (g 10, .inl (cI, 16, .inl inb))]) s.heap s.heap [] := va_S.rf
  have hl := lv_entry ([.ref (g 0), .int what]) (n := 2) (Nat.le_of_ble_eq_true rfl)
  rw [lg_entry_eq]
  generalize (lg_sl ([.ref (g 0), .int what]) ++ List.replicate (2 - (lg_sl ([.ref (g 0), .int what])).length) Slot.unset).toArray = ls at hl ⊢
  have hl : lv_has ls 2 [(0, .ref (g 0)), (1, .int what)] := hl
  refine lv_aload_n hx hb dX4_count_0 rfl (lv_at hl 0 rfl) ?_
  refine lv_iconst (v := 0) hx hb dX4_count_1 (by decide) ?_
  refine n_put (ws' := [(g 0, .inr (4, [.int 0, .int (nI kn), .int n9, .int w9, .int s9, .int (nI en), .int (bI made), .ref (g 1), .ref (g 2), .ref (g 3), .ref (g 4), .ref (g 5), .ref (g 6), .ref (g 7), .ref (g 8), .ref (g 9), .ref (g 10), .long lat])), (g 1, .inl (cI, 4, .inl wd)), (g 2, .inl (cI, 4, .inl kinds)), (g 3, .inl (cL, 4, .inr (.inl av))), (g 4, .inl (cL, 4, .inr (.inl am))), (g 5, .inl (cL, 288, .inr (.inl vals))), (g 6, .inl (cL, 288, .inr (.inl msks))), (g 7, .inl (cI, 72, .inl pri)), (g 8, .inl (cI, 72, .inl act)), (g 9, .inl (cL, 72, .inr (.inl dat))), (g 10, .inl (cI, 16, .inl inb))]) (D := (dC, dI)) (ci := 4) (v := .int 0) (ty := .int) (C := RX4) (T := TX4) (N := 18) hx hb hts inX4 tyX4 tyX4_ok nmX4 hown hK hP hD hS 0 rfl rfl 0 (by decide) (hts _ mw457) (fun _ h9 => h9) rfl rfl rfl rfl (Nat.le_of_ble_eq_true rfl) dX4_count_2 rfl (fun H locs hP hD hS => ?_)
  refine lv_iload_n hx hb dX4_count_5 rfl (lv_at hl 1 rfl) ?_
  refine lv_iconst (v := 2) hx hb dX4_count_6 (by decide) ?_
  refine lv_icmp_ne (tgt := 15) hx hb dX4_count_7 (by decide) (fun c7 => ?_) (fun c7 => ?_)
  · refine lv_aload_n hx hb dX4_count_15 rfl (lv_at hl 0 rfl) ?_
    refine va_get (D := (dC, dI)) (ci := 4) (v := .int (bI made)) (C := RX4) (T := TX4) (N := 18) hx hb hts inX4 hown hK hP 0 rfl rfl 6 (by decide) (hts _ mw463) (fun _ h9 => h9) rfl dX4_count_16 ?_
    refine lv_if_eq (tgt := 31) hx hb dX4_count_19 (by decide) (fun c19 => ?_) (fun c19 => ?_)
    · refine lv_iconst (v := (-1)) hx hb dX4_count_31 (by decide) ?_
      exact wr_iret hx hb hr hlocks hP hS dX4_count_32 rfl (by unfold mCount; rw [if_neg c7, bI_eq c19]; rfl)
    · refine lv_iload_n hx hb dX4_count_22 rfl (lv_at hl 1 rfl) ?_
      refine lv_if_lt (tgt := 31) hx hb dX4_count_23 (by decide) (fun c23 => ?_) (fun c23 => ?_)
      · refine lv_iconst (v := (-1)) hx hb dX4_count_31 (by decide) ?_
        exact wr_iret hx hb hr hlocks hP hS dX4_count_32 rfl (by unfold mCount; rw [if_neg c7, if_t (bI_ne c19), if_neg (fun z => absurd c23 (by rw [z]; decide)), if_neg (fun z => absurd c23 (by rw [z]; decide)), if_neg (fun z => absurd c23 (by rw [z]; decide))])
      · refine lv_iload_n hx hb dX4_count_26 rfl (lv_at hl 1 rfl) ?_
        refine lv_iconst (v := 3) hx hb dX4_count_27 (by decide) ?_
        refine lv_icmp_le (tgt := 33) hx hb dX4_count_28 (by decide) (fun c28 => ?_) (fun c28 => ?_)
        · refine lv_iload_n hx hb dX4_count_33 rfl (lv_at hl 1 rfl) ?_
          refine lv_if_ne (tgt := 42) hx hb dX4_count_34 (by decide) (fun c34 => ?_) (fun c34 => ?_)
          · refine lv_iload_n hx hb dX4_count_42 rfl (lv_at hl 1 rfl) ?_
            refine lv_iconst (v := 3) hx hb dX4_count_43 (by decide) ?_
            refine lv_icmp_ne (tgt := 54) hx hb dX4_count_44 (by decide) (fun c44 => ?_) (fun c44 => ?_)
            · refine lv_aload_n hx hb dX4_count_54 rfl (lv_at hl 0 rfl) ?_
              refine rd_calli (r := (bI (kExact kinds kn))) (va_runV (As := []) (rest := []) ⟨hx, hb, hml, hown, hts⟩ (c_X4_hashed l dC dI cI cL g 0 kn n9 w9 s9 en made wd kinds av am vals msks pri act dat inb lat hk) (cwV 0 hts (gV mw532 mw534 mw11 mw26 mw535) rfl rfl rfl (by decide +kernel) ⟨Nat.le_of_ble_eq_true rfl, Nat.le_of_ble_eq_true rfl⟩) (rd_preV (hP.sub (ws' := [(g 0, .inr (4, [.int 0, .int (nI kn), .int n9, .int w9, .int s9, .int (nI en), .int (bI made), .ref (g 1), .ref (g 2), .ref (g 3), .ref (g 4), .ref (g 5), .ref (g 6), .ref (g 7), .ref (g 8), .ref (g 9), .ref (g 10), .long lat])), (g 1, .inl (cI, 4, .inl wd)), (g 2, .inl (cI, 4, .inl kinds)), (g 3, .inl (cL, 4, .inr (.inl av))), (g 4, .inl (cL, 4, .inr (.inl am))), (g 5, .inl (cL, 288, .inr (.inl vals))), (g 6, .inl (cL, 288, .inr (.inl msks))), (g 7, .inl (cI, 72, .inl pri)), (g 8, .inl (cI, 72, .inl act)), (g 9, .inl (cL, 72, .inr (.inl dat))), (g 10, .inl (cI, 16, .inl inb))]) [0, 1, 2, 3, 4, 5, 6, 7, 8, 9, 10] rfl) hK (va_recv (ci := 4) hK hP rfl (q0 := 0) rfl)) rfl rfl hl.1 rfl (lv_room (Nat.le_of_ble_eq_true rfl)) dX4_count_55 ⟨Nat.zero_le _, Nat.zero_le _⟩) ?_
              refine lv_if_eq (tgt := 68) hx hb dX4_count_58 (by decide) (fun c58 => ?_) (fun c58 => ?_)
              · refine lv_iconst (v := 0) hx hb dX4_count_68 (by decide) ?_
                exact wr_iret hx hb hr hlocks hP hS dX4_count_69 rfl (by unfold mCount; rw [if_neg c7, if_t (bI_ne c19), if_neg c34, if_neg c44, if_pos (m_w1 c23 c28 c7 c34 c44)])
              · exact absurd ⟨m_w1 c23 c28 c7 c34 c44, bI_ne c19, bI_ne c58⟩ h1
            · refine lv_aload_n hx hb dX4_count_47 rfl (lv_at hl 0 rfl) ?_
              refine rd_calli (r := (mMost kinds kn n9 w9 s9)) (va_runV (As := []) (rest := []) ⟨hx, hb, hml, hown, hts⟩ (c_X4_most l dC dI cI cL g 0 kn n9 w9 s9 en made wd kinds av am vals msks pri act dat inb lat hk) (cwV 0 hts (gV mw557 mw559 mw15 mw26 mw560) rfl rfl rfl (by decide +kernel) ⟨Nat.le_of_ble_eq_true rfl, Nat.le_of_ble_eq_true rfl⟩) (rd_preV (hP.sub (ws' := [(g 0, .inr (4, [.int 0, .int (nI kn), .int n9, .int w9, .int s9, .int (nI en), .int (bI made), .ref (g 1), .ref (g 2), .ref (g 3), .ref (g 4), .ref (g 5), .ref (g 6), .ref (g 7), .ref (g 8), .ref (g 9), .ref (g 10), .long lat])), (g 1, .inl (cI, 4, .inl wd)), (g 2, .inl (cI, 4, .inl kinds)), (g 3, .inl (cL, 4, .inr (.inl av))), (g 4, .inl (cL, 4, .inr (.inl am))), (g 5, .inl (cL, 288, .inr (.inl vals))), (g 6, .inl (cL, 288, .inr (.inl msks))), (g 7, .inl (cI, 72, .inl pri)), (g 8, .inl (cI, 72, .inl act)), (g 9, .inl (cL, 72, .inr (.inl dat))), (g 10, .inl (cI, 16, .inl inb))]) [0, 1, 2, 3, 4, 5, 6, 7, 8, 9, 10] rfl) hK (va_recv (ci := 4) hK hP rfl (q0 := 0) rfl)) rfl rfl hl.1 rfl (lv_room (Nat.le_of_ble_eq_true rfl)) dX4_count_48 ⟨Nat.zero_le _, Nat.zero_le _⟩) ?_
              refine lv_goto (tgt := 69) hx hb dX4_count_51 (by decide) ?_
              exact wr_iret hx hb hr hlocks hP hS dX4_count_69 rfl (by unfold mCount; rw [if_neg c7, if_t (bI_ne c19), if_neg c34, if_pos c44])
          · refine lv_aload_n hx hb dX4_count_37 rfl (lv_at hl 0 rfl) ?_
            refine va_get (D := (dC, dI)) (ci := 4) (v := .int (nI en)) (C := RX4) (T := TX4) (N := 18) hx hb hts inX4 hown hK hP 0 rfl rfl 5 (by decide) (hts _ mw462) (fun _ h9 => h9) rfl dX4_count_38 ?_
            exact wr_iret hx hb hr hlocks hP hS dX4_count_41 rfl (by unfold mCount; rw [if_neg c7, if_t (bI_ne c19), if_pos c34])
        · refine lv_iconst (v := (-1)) hx hb dX4_count_31 (by decide) ?_
          exact wr_iret hx hb hr hlocks hP hS dX4_count_32 rfl (by unfold mCount; rw [if_neg c7, if_t (bI_ne c19), if_neg (fun z => absurd (by rw [z]; decide) c28), if_neg (fun z => absurd (by rw [z]; decide) c28), if_neg (fun z => absurd (by rw [z]; decide) c28)])
  · refine lv_aload_n hx hb dX4_count_10 rfl (lv_at hl 0 rfl) ?_
    refine va_get (D := (dC, dI)) (ci := 4) (v := .int (nI kn)) (C := RX4) (T := TX4) (N := 18) hx hb hts inX4 hown hK hP 0 rfl rfl 1 (by decide) (hts _ mw458) (fun _ h9 => h9) rfl dX4_count_11 ?_
    exact wr_iret hx hb hr hlocks hP hS dX4_count_14 rfl (by unfold mCount; rw [if_pos c7])

set_option maxHeartbeats 4000000 in
set_option maxRecDepth 100000 in
/-- count of those above -/
theorem c_X4_count_a (l : Launch) (dC : Nat → ClassId) (dI : Nat → Nat → Nat) (cI cL : ClassId) (g : Nat → Nat) (th : Int32) (kn : Nat) (n9 w9 s9 : Int32) (en : Nat) (made : Bool) (wd kinds : Nat → Int32) (av am vals msks : Nat → Int64) (pri act : Nat → Int32) (dat : Nat → Int64) (inb : Nat → Int32) (lat : Int64) (bk : Nat → Nat) (hk : kn ≤ 4) (he : en ≤ 72) (hm : made = true) (hx9 : kExact kinds kn = true) (hbk : ∀ i, i < en → mBk vals wd kn n9 i = nI (bk i) ∧ bk i < 16) : Met l yX4_count wsX4_count ({ frames := 3, cells := 0, slots := 0, locals := 71 }) (wr_P (dC, dI) vwCl [(cI, .int), (cL, .long)] [(g 0, .inr (4, [.int th, .int (nI kn), .int n9, .int w9, .int s9, .int (nI en), .int (bI made), .ref (g 1), .ref (g 2), .ref (g 3), .ref (g 4), .ref (g 5), .ref (g 6), .ref (g 7), .ref (g 8), .ref (g 9), .ref (g 10), .long lat])), (g 1, .inl (cI, 4, .inl wd)), (g 2, .inl (cI, 4, .inl kinds)), (g 3, .inl (cL, 4, .inr (.inl av))), (g 4, .inl (cL, 4, .inr (.inl am))), (g 5, .inl (cL, 288, .inr (.inl vals))), (g 6, .inl (cL, 288, .inr (.inl msks))), (g 7, .inl (cI, 72, .inl pri)), (g 8, .inl (cI, 72, .inl act)), (g 9, .inl (cL, 72, .inr (.inl dat))), (g 10, .inl (cI, 16, .inl inb))] [.ref (g 0), .int 1]) (wr_Q (dC, dI) vwCl (some (.int ((abF bk w9 (fillI 0 inb 0 16) 0 0 en).2))) [(g 0, .inr (4, [.int th, .int (nI kn), .int n9, .int w9, .int s9, .int (nI en), .int (bI made), .ref (g 1), .ref (g 2), .ref (g 3), .ref (g 4), .ref (g 5), .ref (g 6), .ref (g 7), .ref (g 8), .ref (g 9), .ref (g 10), .long lat])), (g 1, .inl (cI, 4, .inl wd)), (g 2, .inl (cI, 4, .inl kinds)), (g 3, .inl (cL, 4, .inr (.inl av))), (g 4, .inl (cL, 4, .inr (.inl am))), (g 5, .inl (cL, 288, .inr (.inl vals))), (g 6, .inl (cL, 288, .inr (.inl msks))), (g 7, .inl (cI, 72, .inl pri)), (g 8, .inl (cI, 72, .inl act)), (g 9, .inl (cL, 72, .inr (.inl dat))), (g 10, .inl (cI, 16, .inl inb))] [(g 0, .inr (4, [.int 0, .int (nI kn), .int n9, .int w9, .int s9, .int (nI en), .int (bI made), .ref (g 1), .ref (g 2), .ref (g 3), .ref (g 4), .ref (g 5), .ref (g 6), .ref (g 7), .ref (g 8), .ref (g 9), .ref (g 10), .long lat])), (g 1, .inl (cI, 4, .inl wd)), (g 2, .inl (cI, 4, .inl kinds)), (g 3, .inl (cL, 4, .inr (.inl av))), (g 4, .inl (cL, 4, .inr (.inl am))), (g 5, .inl (cL, 288, .inr (.inl vals))), (g 6, .inl (cL, 288, .inr (.inl msks))), (g 7, .inl (cI, 72, .inl pri)), (g 8, .inl (cI, 72, .inl act)), (g 9, .inl (cL, 72, .inr (.inl dat))), (g 10, .inl (cI, 16, .inl ((abF bk w9 (fillI 0 inb 0 16) 0 0 en).1)))]) 0 0 (wr_I [(g 0, .inr (4, [.int th, .int (nI kn), .int n9, .int w9, .int s9, .int (nI en), .int (bI made), .ref (g 1), .ref (g 2), .ref (g 3), .ref (g 4), .ref (g 5), .ref (g 6), .ref (g 7), .ref (g 8), .ref (g 9), .ref (g 10), .long lat])), (g 1, .inl (cI, 4, .inl wd)), (g 2, .inl (cI, 4, .inl kinds)), (g 3, .inl (cL, 4, .inr (.inl av))), (g 4, .inl (cL, 4, .inr (.inl am))), (g 5, .inl (cL, 288, .inr (.inl vals))), (g 6, .inl (cL, 288, .inr (.inl msks))), (g 7, .inl (cI, 72, .inl pri)), (g 8, .inl (cI, 72, .inl act)), (g 9, .inl (cL, 72, .inr (.inl dat))), (g 10, .inl (cI, 16, .inl inb))]) := by
  refine Met.ofW (cc := cX4_count) (maxL := 2) (ret := some .int) (by decide) rfl ?_
  intro p e s m args below meth c s₁ B hml hv
  obtain ⟨rfl, hP, hK, hD0⟩ := hv
  have hx := B.exec
  have hb := B.bytes
  have hr := B.returns
  have hts := fun w h => atoms_spec (ws := wsX4_count) B.pre w (List.mem_cons_of_mem _ h)
  have hown : s.vm.findClass RX4 = some m.cls := findClass_of_methodNamed B.named
  have hlocks := B.notSynchronized
  have hD := wr_self hD0
  have hS : va_S (wr_I [(g 0, .inr (4, [.int th, .int (nI kn), .int n9, .int w9, .int s9, .int (nI en), .int (bI made), .ref (g 1), .ref (g 2), .ref (g 3), .ref (g 4), .ref (g 5), .ref (g 6), .ref (g 7), .ref (g 8), .ref (g 9), .ref (g 10), .long lat])), (g 1, .inl (cI, 4, .inl wd)), (g 2, .inl (cI, 4, .inl kinds)), (g 3, .inl (cL, 4, .inr (.inl av))), (g 4, .inl (cL, 4, .inr (.inl am))), (g 5, .inl (cL, 288, .inr (.inl vals))), (g 6, .inl (cL, 288, .inr (.inl msks))), (g 7, .inl (cI, 72, .inl pri)), (g 8, .inl (cI, 72, .inl act)), (g 9, .inl (cL, 72, .inr (.inl dat))), (g 10, .inl (cI, 16, .inl inb))]) s.heap s.heap [] := va_S.rf
  have hl := lv_entry ([.ref (g 0), .int 1]) (n := 2) (Nat.le_of_ble_eq_true rfl)
  rw [lg_entry_eq]
  generalize (lg_sl ([.ref (g 0), .int 1]) ++ List.replicate (2 - (lg_sl ([.ref (g 0), .int 1])).length) Slot.unset).toArray = ls at hl ⊢
  have hl : lv_has ls 2 [(0, .ref (g 0)), (1, .int 1)] := hl
  refine lv_aload_n hx hb dX4_count_0 rfl (lv_at hl 0 rfl) ?_
  refine lv_iconst (v := 0) hx hb dX4_count_1 (by decide) ?_
  refine n_put (ws' := [(g 0, .inr (4, [.int 0, .int (nI kn), .int n9, .int w9, .int s9, .int (nI en), .int (bI made), .ref (g 1), .ref (g 2), .ref (g 3), .ref (g 4), .ref (g 5), .ref (g 6), .ref (g 7), .ref (g 8), .ref (g 9), .ref (g 10), .long lat])), (g 1, .inl (cI, 4, .inl wd)), (g 2, .inl (cI, 4, .inl kinds)), (g 3, .inl (cL, 4, .inr (.inl av))), (g 4, .inl (cL, 4, .inr (.inl am))), (g 5, .inl (cL, 288, .inr (.inl vals))), (g 6, .inl (cL, 288, .inr (.inl msks))), (g 7, .inl (cI, 72, .inl pri)), (g 8, .inl (cI, 72, .inl act)), (g 9, .inl (cL, 72, .inr (.inl dat))), (g 10, .inl (cI, 16, .inl inb))]) (D := (dC, dI)) (ci := 4) (v := .int 0) (ty := .int) (C := RX4) (T := TX4) (N := 18) hx hb hts inX4 tyX4 tyX4_ok nmX4 hown hK hP hD hS 0 rfl rfl 0 (by decide) (hts _ mw457) (fun _ h9 => h9) rfl rfl rfl rfl (Nat.le_of_ble_eq_true rfl) dX4_count_2 rfl (fun H locs hP hD hS => ?_)
  refine lv_iload_n hx hb dX4_count_5 rfl (lv_at hl 1 rfl) ?_
  refine lv_iconst (v := 2) hx hb dX4_count_6 (by decide) ?_
  refine lv_icmp_ne (tgt := 15) hx hb dX4_count_7 (by decide) (fun c7 => ?_) (fun c7 => absurd c7 (by decide))
  refine lv_aload_n hx hb dX4_count_15 rfl (lv_at hl 0 rfl) ?_
  refine va_get (D := (dC, dI)) (ci := 4) (v := .int (bI made)) (C := RX4) (T := TX4) (N := 18) hx hb hts inX4 hown hK hP 0 rfl rfl 6 (by decide) (hts _ mw463) (fun _ h9 => h9) rfl dX4_count_16 ?_
  refine lv_if_eq (tgt := 31) hx hb dX4_count_19 (by decide) (fun c19 => absurd c19 (by rw [hm]; decide)) (fun c19 => ?_)
  refine lv_iload_n hx hb dX4_count_22 rfl (lv_at hl 1 rfl) ?_
  refine lv_if_lt (tgt := 31) hx hb dX4_count_23 (by decide) (fun c23 => absurd c23 (by decide)) (fun c23 => ?_)
  refine lv_iload_n hx hb dX4_count_26 rfl (lv_at hl 1 rfl) ?_
  refine lv_iconst (v := 3) hx hb dX4_count_27 (by decide) ?_
  refine lv_icmp_le (tgt := 33) hx hb dX4_count_28 (by decide) (fun c28 => ?_) (fun c28 => absurd (by decide) c28)
  refine lv_iload_n hx hb dX4_count_33 rfl (lv_at hl 1 rfl) ?_
  refine lv_if_ne (tgt := 42) hx hb dX4_count_34 (by decide) (fun c34 => ?_) (fun c34 => absurd c34 (by decide))
  refine lv_iload_n hx hb dX4_count_42 rfl (lv_at hl 1 rfl) ?_
  refine lv_iconst (v := 3) hx hb dX4_count_43 (by decide) ?_
  refine lv_icmp_ne (tgt := 54) hx hb dX4_count_44 (by decide) (fun c44 => ?_) (fun c44 => absurd c44 (by decide))
  refine lv_aload_n hx hb dX4_count_54 rfl (lv_at hl 0 rfl) ?_
  refine rd_calli (r := (bI (kExact kinds kn))) (va_runV (As := []) (rest := []) ⟨hx, hb, hml, hown, hts⟩ (c_X4_hashed l dC dI cI cL g 0 kn n9 w9 s9 en made wd kinds av am vals msks pri act dat inb lat hk) (cwV 0 hts (gV mw532 mw534 mw11 mw26 mw535) rfl rfl rfl (by decide +kernel) ⟨Nat.le_of_ble_eq_true rfl, Nat.le_of_ble_eq_true rfl⟩) (rd_preV (hP.sub (ws' := [(g 0, .inr (4, [.int 0, .int (nI kn), .int n9, .int w9, .int s9, .int (nI en), .int (bI made), .ref (g 1), .ref (g 2), .ref (g 3), .ref (g 4), .ref (g 5), .ref (g 6), .ref (g 7), .ref (g 8), .ref (g 9), .ref (g 10), .long lat])), (g 1, .inl (cI, 4, .inl wd)), (g 2, .inl (cI, 4, .inl kinds)), (g 3, .inl (cL, 4, .inr (.inl av))), (g 4, .inl (cL, 4, .inr (.inl am))), (g 5, .inl (cL, 288, .inr (.inl vals))), (g 6, .inl (cL, 288, .inr (.inl msks))), (g 7, .inl (cI, 72, .inl pri)), (g 8, .inl (cI, 72, .inl act)), (g 9, .inl (cL, 72, .inr (.inl dat))), (g 10, .inl (cI, 16, .inl inb))]) [0, 1, 2, 3, 4, 5, 6, 7, 8, 9, 10] rfl) hK (va_recv (ci := 4) hK hP rfl (q0 := 0) rfl)) rfl rfl hl.1 rfl (lv_room (Nat.le_of_ble_eq_true rfl)) dX4_count_55 ⟨Nat.zero_le _, Nat.zero_le _⟩) ?_
  refine lv_if_eq (tgt := 68) hx hb dX4_count_58 (by decide) (fun c58 => absurd c58 (by rw [hx9]; decide)) (fun c58 => ?_)
  refine lv_aload_n hx hb dX4_count_61 rfl (lv_at hl 0 rfl) ?_
  refine wr_call (w := [(g 0, .inr (4, [.int 0, .int (nI kn), .int n9, .int w9, .int s9, .int (nI en), .int (bI made), .ref (g 1), .ref (g 2), .ref (g 3), .ref (g 4), .ref (g 5), .ref (g 6), .ref (g 7), .ref (g 8), .ref (g 9), .ref (g 10), .long lat])), (g 1, .inl (cI, 4, .inl wd)), (g 2, .inl (cI, 4, .inl kinds)), (g 3, .inl (cL, 4, .inr (.inl av))), (g 4, .inl (cL, 4, .inr (.inl am))), (g 5, .inl (cL, 288, .inr (.inl vals))), (g 6, .inl (cL, 288, .inr (.inl msks))), (g 7, .inl (cI, 72, .inl pri)), (g 8, .inl (cI, 72, .inl act)), (g 9, .inl (cL, 72, .inr (.inl dat))), (g 10, .inl (cI, 16, .inl inb))]) (w' := [(g 0, .inr (4, [.int 0, .int (nI kn), .int n9, .int w9, .int s9, .int (nI en), .int (bI made), .ref (g 1), .ref (g 2), .ref (g 3), .ref (g 4), .ref (g 5), .ref (g 6), .ref (g 7), .ref (g 8), .ref (g 9), .ref (g 10), .long lat])), (g 1, .inl (cI, 4, .inl wd)), (g 2, .inl (cI, 4, .inl kinds)), (g 3, .inl (cL, 4, .inr (.inl av))), (g 4, .inl (cL, 4, .inr (.inl am))), (g 5, .inl (cL, 288, .inr (.inl vals))), (g 6, .inl (cL, 288, .inr (.inl msks))), (g 7, .inl (cI, 72, .inl pri)), (g 8, .inl (cI, 72, .inl act)), (g 9, .inl (cL, 72, .inr (.inl dat))), (g 10, .inl (cI, 16, .inl ((abF bk w9 (fillI 0 inb 0 16) 0 0 en).1)))]) (wr := []) (ws' := [(g 0, .inr (4, [.int 0, .int (nI kn), .int n9, .int w9, .int s9, .int (nI en), .int (bI made), .ref (g 1), .ref (g 2), .ref (g 3), .ref (g 4), .ref (g 5), .ref (g 6), .ref (g 7), .ref (g 8), .ref (g 9), .ref (g 10), .long lat])), (g 1, .inl (cI, 4, .inl wd)), (g 2, .inl (cI, 4, .inl kinds)), (g 3, .inl (cL, 4, .inr (.inl av))), (g 4, .inl (cL, 4, .inr (.inl am))), (g 5, .inl (cL, 288, .inr (.inl vals))), (g 6, .inl (cL, 288, .inr (.inl msks))), (g 7, .inl (cI, 72, .inl pri)), (g 8, .inl (cI, 72, .inl act)), (g 9, .inl (cL, 72, .inr (.inl dat))), (g 10, .inl (cI, 16, .inl ((abF bk w9 (fillI 0 inb 0 16) 0 0 en).1)))]) (va_runV (As := []) (rest := []) ⟨hx, hb, hml, hown, hts⟩ (c_X4_above l dC dI cI cL g 0 kn n9 w9 s9 en made wd kinds av am vals msks pri act dat inb lat bk hk he hbk) (cwV 0 hts (gV mw565 mw567 mw17 mw26 mw568) rfl rfl rfl (by decide +kernel) ⟨Nat.le_of_ble_eq_true rfl, Nat.le_of_ble_eq_true rfl⟩) (wr_preV (hP.sub (ws' := [(g 0, .inr (4, [.int 0, .int (nI kn), .int n9, .int w9, .int s9, .int (nI en), .int (bI made), .ref (g 1), .ref (g 2), .ref (g 3), .ref (g 4), .ref (g 5), .ref (g 6), .ref (g 7), .ref (g 8), .ref (g 9), .ref (g 10), .long lat])), (g 1, .inl (cI, 4, .inl wd)), (g 2, .inl (cI, 4, .inl kinds)), (g 3, .inl (cL, 4, .inr (.inl av))), (g 4, .inl (cL, 4, .inr (.inl am))), (g 5, .inl (cL, 288, .inr (.inl vals))), (g 6, .inl (cL, 288, .inr (.inl msks))), (g 7, .inl (cI, 72, .inl pri)), (g 8, .inl (cI, 72, .inl act)), (g 9, .inl (cL, 72, .inr (.inl dat))), (g 10, .inl (cI, 16, .inl inb))]) [0, 1, 2, 3, 4, 5, 6, 7, 8, 9, 10] rfl) hK (hD.sub (ws' := [(g 0, .inr (4, [.int 0, .int (nI kn), .int n9, .int w9, .int s9, .int (nI en), .int (bI made), .ref (g 1), .ref (g 2), .ref (g 3), .ref (g 4), .ref (g 5), .ref (g 6), .ref (g 7), .ref (g 8), .ref (g 9), .ref (g 10), .long lat])), (g 1, .inl (cI, 4, .inl wd)), (g 2, .inl (cI, 4, .inl kinds)), (g 3, .inl (cL, 4, .inr (.inl av))), (g 4, .inl (cL, 4, .inr (.inl am))), (g 5, .inl (cL, 288, .inr (.inl vals))), (g 6, .inl (cL, 288, .inr (.inl msks))), (g 7, .inl (cI, 72, .inl pri)), (g 8, .inl (cI, 72, .inl act)), (g 9, .inl (cL, 72, .inr (.inl dat))), (g 10, .inl (cI, 16, .inl inb))]) [0, 1, 2, 3, 4, 5, 6, 7, 8, 9, 10] (by decide) rfl) (va_recv (ci := 4) hK hP rfl (q0 := 0) rfl)) rfl rfl hl.1 rfl (lv_room (Nat.le_of_ble_eq_true rfl)) dX4_count_62 ⟨Nat.zero_le _, Nat.zero_le _⟩) hP hD hS [0, 1, 2, 3, 4, 5, 6, 7, 8, 9, 10] [] [0, 1, 2, 3, 4, 5, 6, 7, 8, 9, 10] rfl rfl (by decide) rfl rfl (fun H locs hP hD hS => ?_)
  refine lv_goto (tgt := 69) hx hb dX4_count_65 (by decide) ?_
  exact wr_iret hx hb hr hlocks hP hS dX4_count_69 rfl (rfl)
