/-! wt -/
set_option maxHeartbeats 4000000 in
set_option maxRecDepth 100000 in
/-- datum -/
theorem c_X3_datum (l : Launch) (dC : Nat → ClassId) (dI : Nat → Nat → Nat) (cI cL : ClassId) (h : Nat → Nat) (kinds : Nat → Int32) (ones : Nat → Int64) (kn : Nat) (av am : Nat → Int64) (vals msks : Nat → Int64) (pre pri act : Nat → Int32) (dat : Nat → Int64) (en : Nat) (held : Nat → Int32) (bn : Nat) (wy stt : Int32) (made hashed : Bool) (cap : Int32) (lat : Int64) : Met l yX3_datum wsX3_datum ({ frames := 0, cells := 0, slots := 0, locals := 0 }) (rd_P (dC, dI) vwCl [(cI, .int), (cL, .long)] [(h 0, .inr (3, [.ref (h 1), .ref (h 2), .ref (h 3), .ref (h 4), .ref (h 5), .int (bI made), .int (bI hashed), .int cap, .long lat])), (h 1, .inr (2, [.ref (h 6), .ref (h 7), .int (nI kn)])), (h 2, .inr (1, [.ref (h 8), .ref (h 9), .ref (h 10), .ref (h 11), .ref (h 12), .ref (h 13), .int (nI en)])), (h 3, .inr (0, [.ref (h 14), .int (nI bn), .int wy, .int stt])), (h 4, .inl (cL, 4, .inr (.inl av))), (h 5, .inl (cL, 4, .inr (.inl am))), (h 6, .inl (cI, 4, .inl kinds)), (h 7, .inl (cL, 4, .inr (.inl ones))), (h 8, .inl (cL, 288, .inr (.inl vals))), (h 9, .inl (cL, 288, .inr (.inl msks))), (h 10, .inl (cI, 72, .inl pre)), (h 11, .inl (cI, 72, .inl pri)), (h 12, .inl (cI, 72, .inl act)), (h 13, .inl (cL, 72, .inr (.inl dat))), (h 14, .inl (cI, 16, .inl held))] [.ref (h 0)]) (rd_Q (some (.long lat))) 0 0 (fun _ => False) := by
  refine Met.ofW (cc := cX3_datum) (maxL := 1) (ret := some .long) (by decide) rfl ?_
  intro p e s m args below meth c s₁ B hml hv
  obtain ⟨rfl, hP, hK⟩ := hv
  have hx := B.exec
  have hb := B.bytes
  have hr := B.returns
  have hts := fun w h => atoms_spec (ws := wsX3_datum) B.pre w (List.mem_cons_of_mem _ h)
  have hown : s.vm.findClass RX3 = some m.cls := findClass_of_methodNamed B.named
  have hlocks := B.notSynchronized
  have hl := lv_entry ([.ref (h 0)]) (n := 1) (Nat.le_of_ble_eq_true rfl)
  rw [lg_entry_eq]
  generalize (lg_sl ([.ref (h 0)]) ++ List.replicate (1 - (lg_sl ([.ref (h 0)])).length) Slot.unset).toArray = ls at hl ⊢
  have hl : lv_has ls 1 [(0, .ref (h 0))] := hl
  refine lv_aload_n hx hb dX3_datum_0 rfl (lv_at hl 0 rfl) ?_
  refine va_get (D := (dC, dI)) (ci := 3) (v := .long lat) (C := RX3) (T := TX3) (N := 9) hx hb hts inX3 hown hK hP 0 rfl rfl 8 (by decide) (hts _ mw128) (fun _ h9 => h9) rfl dX3_datum_1 ?_
  exact rd_lret hx hb hr hlocks dX3_datum_4 (rfl)

set_option maxHeartbeats 4000000 in
set_option maxRecDepth 100000 in
/-- askedMask -/
theorem c_X3_askedMask (l : Launch) (dC : Nat → ClassId) (dI : Nat → Nat → Nat) (cI cL : ClassId) (h : Nat → Nat) (kinds : Nat → Int32) (ones : Nat → Int64) (kn : Nat) (av am : Nat → Int64) (vals msks : Nat → Int64) (pre pri act : Nat → Int32) (dat : Nat → Int64) (en : Nat) (held : Nat → Int32) (bn : Nat) (wy stt : Int32) (made hashed : Bool) (cap : Int32) (lat : Int64) (k : Nat) (hk : k < 4) : Met l yX3_askedMask wsX3_askedMask ({ frames := 0, cells := 0, slots := 0, locals := 0 }) (rd_P (dC, dI) vwCl [(cI, .int), (cL, .long)] [(h 0, .inr (3, [.ref (h 1), .ref (h 2), .ref (h 3), .ref (h 4), .ref (h 5), .int (bI made), .int (bI hashed), .int cap, .long lat])), (h 1, .inr (2, [.ref (h 6), .ref (h 7), .int (nI kn)])), (h 2, .inr (1, [.ref (h 8), .ref (h 9), .ref (h 10), .ref (h 11), .ref (h 12), .ref (h 13), .int (nI en)])), (h 3, .inr (0, [.ref (h 14), .int (nI bn), .int wy, .int stt])), (h 4, .inl (cL, 4, .inr (.inl av))), (h 5, .inl (cL, 4, .inr (.inl am))), (h 6, .inl (cI, 4, .inl kinds)), (h 7, .inl (cL, 4, .inr (.inl ones))), (h 8, .inl (cL, 288, .inr (.inl vals))), (h 9, .inl (cL, 288, .inr (.inl msks))), (h 10, .inl (cI, 72, .inl pre)), (h 11, .inl (cI, 72, .inl pri)), (h 12, .inl (cI, 72, .inl act)), (h 13, .inl (cL, 72, .inr (.inl dat))), (h 14, .inl (cI, 16, .inl held))] [.ref (h 0), .int (nI k)]) (rd_Q (some (.long (am k &&& ones k)))) 0 0 (fun _ => False) := by
  refine Met.ofW (cc := cX3_askedMask) (maxL := 2) (ret := some .long) (by decide) rfl ?_
  intro p e s m args below meth c s₁ B hml hv
  obtain ⟨rfl, hP, hK⟩ := hv
  have hx := B.exec
  have hb := B.bytes
  have hr := B.returns
  have hts := fun w h => atoms_spec (ws := wsX3_askedMask) B.pre w (List.mem_cons_of_mem _ h)
  have hown : s.vm.findClass RX3 = some m.cls := findClass_of_methodNamed B.named
  have hlocks := B.notSynchronized
  have hl := lv_entry ([.ref (h 0), .int (nI k)]) (n := 2) (Nat.le_of_ble_eq_true rfl)
  rw [lg_entry_eq]
  generalize (lg_sl ([.ref (h 0), .int (nI k)]) ++ List.replicate (2 - (lg_sl ([.ref (h 0), .int (nI k)])).length) Slot.unset).toArray = ls at hl ⊢
  have hl : lv_has ls 2 [(0, .ref (h 0)), (1, .int (nI k))] := hl
  refine lv_aload_n hx hb dX3_askedMask_0 rfl (lv_at hl 0 rfl) ?_
  refine va_get (D := (dC, dI)) (ci := 3) (v := .ref (h 5)) (C := RX3) (T := TX3) (N := 9) hx hb hts inX3 hown hK hP 0 rfl rfl 4 (by decide) (hts _ mw124) (fun _ h9 => h9) rfl dX3_askedMask_1 ?_
  refine lv_iload_n hx hb dX3_askedMask_4 rfl (lv_at hl 1 rfl) ?_
  refine n_lald hx hb hK hP 5 1 rfl rfl (k := k) rfl hk (by omega) dX3_askedMask_5 ?_
  refine lv_aload_n hx hb dX3_askedMask_6 rfl (lv_at hl 0 rfl) ?_
  refine va_get (D := (dC, dI)) (ci := 3) (v := .ref (h 1)) (C := RX3) (T := TX3) (N := 9) hx hb hts inX3 hown hK hP 0 rfl rfl 0 (by decide) (hts _ mw120) (fun _ h9 => h9) rfl dX3_askedMask_7 ?_
  refine va_get (D := (dC, dI)) (ci := 2) (v := .ref (h 7)) (C := RX2) (T := TX2) (N := 3) hx hb hts inX2 hown hK hP 1 rfl rfl 1 (by decide) (hts _ mw54) (fun _ h9 => h9) rfl dX3_askedMask_10 ?_
  refine lv_iload_n hx hb dX3_askedMask_13 rfl (lv_at hl 1 rfl) ?_
  refine n_lald hx hb hK hP 7 1 rfl rfl (k := k) rfl hk (by omega) dX3_askedMask_14 ?_
  refine lv_land hx hb dX3_askedMask_15 ?_
  exact rd_lret hx hb hr hlocks dX3_askedMask_16 (rfl)

set_option maxHeartbeats 4000000 in
set_option maxRecDepth 100000 in
/-- isHashedShape -/
theorem c_X3_isHashedShape (l : Launch) (dC : Nat → ClassId) (dI : Nat → Nat → Nat) (cI cL : ClassId) (n w t : Int32) : Met l yX3_isHashedShape wsX3_isHashedShape ({ frames := 1, cells := 0, slots := 0, locals := 20 }) (rd_P (dC, dI) vwCl [(cI, .int), (cL, .long)] [] [.int n, .int w, .int t]) (rd_Q (some (.int (bI (hShape n w t))))) 0 0 (fun _ => False) := by
  refine Met.ofW (cc := cX3_isHashedShape) (maxL := 3) (ret := some .boolean) (by decide) rfl ?_
  intro p e s m args below meth c s₁ B hml hv
  obtain ⟨rfl, hP, hK⟩ := hv
  have hx := B.exec
  have hb := B.bytes
  have hr := B.returns
  have hts := fun w h => atoms_spec (ws := wsX3_isHashedShape) B.pre w (List.mem_cons_of_mem _ h)
  have hown : s.vm.findClass RX3 = some m.cls := findClass_of_methodNamed B.named
  have hlocks := B.notSynchronized
  have hl := lv_entry ([.int n, .int w, .int t]) (n := 3) (Nat.le_of_ble_eq_true rfl)
  rw [lg_entry_eq]
  generalize (lg_sl ([.int n, .int w, .int t]) ++ List.replicate (3 - (lg_sl ([.int n, .int w, .int t])).length) Slot.unset).toArray = ls at hl ⊢
  have hl : lv_has ls 3 [(0, .int n), (1, .int w), (2, .int t)] := hl
  refine lv_iload_n hx hb dX3_isHashedShape_0 rfl (lv_at hl 0 rfl) ?_
  refine lv_iconst (v := 1) hx hb dX3_isHashedShape_1 (by decide) ?_
  refine lv_icmp_lt (tgt := 43) hx hb dX3_isHashedShape_2 (by decide) (fun c2 => ?_) (fun c2 => ?_)
  · refine lv_iconst (v := 0) hx hb dX3_isHashedShape_43 (by decide) ?_
    exact rd_iret hx hb hr hlocks dX3_isHashedShape_44 rfl (by simp [hShape, bI, c2])
  · refine lv_iload_n hx hb dX3_isHashedShape_5 rfl (lv_at hl 0 rfl) ?_
    refine lv_bipush (v := 16) hx hb dX3_isHashedShape_6 (by decide) ?_
    refine lv_icmp_gt (tgt := 43) hx hb dX3_isHashedShape_8 (by decide) (fun c8 => ?_) (fun c8 => ?_)
    · refine lv_iconst (v := 0) hx hb dX3_isHashedShape_43 (by decide) ?_
      exact rd_iret hx hb hr hlocks dX3_isHashedShape_44 rfl (by simp [hShape, bI, c2, c8])
    · refine lv_iload_n hx hb dX3_isHashedShape_11 rfl (lv_at hl 0 rfl) ?_
      refine rd_calli (r := (bc32 n)) (va_runS (As := [.int n]) (rest := []) ⟨hx, hb, hml, hown, hts⟩ (c_J6_bitCount l dC dI cI cL n) (va_cwS 1 hts (gSo mw309 mw310 mw33 mw311) rfl rfl rfl (by decide +kernel) ⟨Nat.le_of_ble_eq_true rfl, Nat.le_of_ble_eq_true rfl⟩) (rd_preS (hP.sub (ws' := []) [] rfl) hK) rfl rfl hl.1 rfl (lv_room (Nat.le_of_ble_eq_true rfl)) dX3_isHashedShape_12 ⟨Nat.zero_le _, Nat.zero_le _⟩) ?_
      refine lv_iconst (v := 1) hx hb dX3_isHashedShape_15 (by decide) ?_
      refine lv_icmp_ne (tgt := 43) hx hb dX3_isHashedShape_16 (by decide) (fun c16 => ?_) (fun c16 => ?_)
      · refine lv_iconst (v := 0) hx hb dX3_isHashedShape_43 (by decide) ?_
        exact rd_iret hx hb hr hlocks dX3_isHashedShape_44 rfl (by simp [hShape, bI, c2, c8, c16])
      · refine lv_iload_n hx hb dX3_isHashedShape_19 rfl (lv_at hl 1 rfl) ?_
        refine lv_iconst (v := 1) hx hb dX3_isHashedShape_20 (by decide) ?_
        refine lv_icmp_lt (tgt := 43) hx hb dX3_isHashedShape_21 (by decide) (fun c21 => ?_) (fun c21 => ?_)
        · refine lv_iconst (v := 0) hx hb dX3_isHashedShape_43 (by decide) ?_
          exact rd_iret hx hb hr hlocks dX3_isHashedShape_44 rfl (by simp [hShape, bI, c2, c8, c16, c21])
        · refine lv_iload_n hx hb dX3_isHashedShape_24 rfl (lv_at hl 1 rfl) ?_
          refine lv_iconst (v := 4) hx hb dX3_isHashedShape_25 (by decide) ?_
          refine lv_icmp_gt (tgt := 43) hx hb dX3_isHashedShape_26 (by decide) (fun c26 => ?_) (fun c26 => ?_)
          · refine lv_iconst (v := 0) hx hb dX3_isHashedShape_43 (by decide) ?_
            exact rd_iret hx hb hr hlocks dX3_isHashedShape_44 rfl (by simp [hShape, bI, c2, c8, c16, c21, c26])
          · refine lv_iload_n hx hb dX3_isHashedShape_29 rfl (lv_at hl 2 rfl) ?_
            refine lv_if_lt (tgt := 43) hx hb dX3_isHashedShape_30 (by decide) (fun c30 => ?_) (fun c30 => ?_)
            · refine lv_iconst (v := 0) hx hb dX3_isHashedShape_43 (by decide) ?_
              exact rd_iret hx hb hr hlocks dX3_isHashedShape_44 rfl (by simp [hShape, bI, c2, c8, c16, c21, c26, c30])
            · refine lv_iload_n hx hb dX3_isHashedShape_33 rfl (lv_at hl 2 rfl) ?_
              refine lv_bipush (v := 8) hx hb dX3_isHashedShape_34 (by decide) ?_
              refine lv_icmp_gt (tgt := 43) hx hb dX3_isHashedShape_36 (by decide) (fun c36 => ?_) (fun c36 => ?_)
              · refine lv_iconst (v := 0) hx hb dX3_isHashedShape_43 (by decide) ?_
                exact rd_iret hx hb hr hlocks dX3_isHashedShape_44 rfl (by simp [hShape, bI, c2, c8, c16, c21, c26, c30, c36])
              · refine lv_iconst (v := 1) hx hb dX3_isHashedShape_39 (by decide) ?_
                refine lv_goto (tgt := 44) hx hb dX3_isHashedShape_40 (by decide) ?_
                exact rd_iret hx hb hr hlocks dX3_isHashedShape_44 rfl (by simp [hShape, bI, c2, c8, c16, c21, c26, c30, c36])

set_option maxHeartbeats 4000000 in
set_option maxRecDepth 100000 in
/-- isListedShape -/
theorem c_X3_isListedShape (l : Launch) (dC : Nat → ClassId) (dI : Nat → Nat → Nat) (cI cL : ClassId) (n : Int32) : Met l yX3_isListedShape wsX3_isListedShape ({ frames := 0, cells := 0, slots := 0, locals := 0 }) (rd_P (dC, dI) vwCl [(cI, .int), (cL, .long)] [] [.int n]) (rd_Q (some (.int (bI (lShape n))))) 0 0 (fun _ => False) := by
  refine Met.ofW (cc := cX3_isListedShape) (maxL := 1) (ret := some .boolean) (by decide) rfl ?_
  intro p e s m args below meth c s₁ B hml hv
  obtain ⟨rfl, hP, hK⟩ := hv
  have hx := B.exec
  have hb := B.bytes
  have hr := B.returns
  have hts := fun w h => atoms_spec (ws := wsX3_isListedShape) B.pre w (List.mem_cons_of_mem _ h)
  have hown : s.vm.findClass RX3 = some m.cls := findClass_of_methodNamed B.named
  have hlocks := B.notSynchronized
  have hl := lv_entry ([.int n]) (n := 1) (Nat.le_of_ble_eq_true rfl)
  rw [lg_entry_eq]
  generalize (lg_sl ([.int n]) ++ List.replicate (1 - (lg_sl ([.int n])).length) Slot.unset).toArray = ls at hl ⊢
  have hl : lv_has ls 1 [(0, .int n)] := hl
  refine lv_iload_n hx hb dX3_isListedShape_0 rfl (lv_at hl 0 rfl) ?_
  refine lv_iconst (v := 1) hx hb dX3_isListedShape_1 (by decide) ?_
  refine lv_icmp_lt (tgt := 15) hx hb dX3_isListedShape_2 (by decide) (fun c2 => ?_) (fun c2 => ?_)
  · refine lv_iconst (v := 0) hx hb dX3_isListedShape_15 (by decide) ?_
    exact rd_iret hx hb hr hlocks dX3_isListedShape_16 rfl (by simp [lShape, bI, c2])
  · refine lv_iload_n hx hb dX3_isListedShape_5 rfl (lv_at hl 0 rfl) ?_
    refine lv_bipush (v := 32) hx hb dX3_isListedShape_6 (by decide) ?_
    refine lv_icmp_gt (tgt := 15) hx hb dX3_isListedShape_8 (by decide) (fun c8 => ?_) (fun c8 => ?_)
    · refine lv_iconst (v := 0) hx hb dX3_isListedShape_15 (by decide) ?_
      exact rd_iret hx hb hr hlocks dX3_isListedShape_16 rfl (by simp [lShape, bI, c2, c8])
    · refine lv_iconst (v := 1) hx hb dX3_isListedShape_11 (by decide) ?_
      refine lv_goto (tgt := 16) hx hb dX3_isListedShape_12 (by decide) ?_
      exact rd_iret hx hb hr hlocks dX3_isListedShape_16 rfl (by simp [lShape, bI, c2, c8])

set_option maxHeartbeats 4000000 in
set_option maxRecDepth 100000 in
/-- isAction -/
theorem c_X3_isAction (l : Launch) (dC : Nat → ClassId) (dI : Nat → Nat → Nat) (cI cL : ClassId) (a : Int32) : Met l yX3_isAction wsX3_isAction ({ frames := 0, cells := 0, slots := 0, locals := 0 }) (rd_P (dC, dI) vwCl [(cI, .int), (cL, .long)] [] [.int a]) (rd_Q (some (.int (bI (cAct a))))) 0 0 (fun _ => False) := by
  refine Met.ofW (cc := cX3_isAction) (maxL := 1) (ret := some .boolean) (by decide) rfl ?_
  intro p e s m args below meth c s₁ B hml hv
  obtain ⟨rfl, hP, hK⟩ := hv
  have hx := B.exec
  have hb := B.bytes
  have hr := B.returns
  have hts := fun w h => atoms_spec (ws := wsX3_isAction) B.pre w (List.mem_cons_of_mem _ h)
  have hown : s.vm.findClass RX3 = some m.cls := findClass_of_methodNamed B.named
  have hlocks := B.notSynchronized
  have hl := lv_entry ([.int a]) (n := 1) (Nat.le_of_ble_eq_true rfl)
  rw [lg_entry_eq]
  generalize (lg_sl ([.int a]) ++ List.replicate (1 - (lg_sl ([.int a])).length) Slot.unset).toArray = ls at hl ⊢
  have hl : lv_has ls 1 [(0, .int a)] := hl
  refine lv_iload_n hx hb dX3_isAction_0 rfl (lv_at hl 0 rfl) ?_
  refine lv_if_lt (tgt := 14) hx hb dX3_isAction_1 (by decide) (fun c1 => ?_) (fun c1 => ?_)
  · refine lv_iconst (v := 0) hx hb dX3_isAction_14 (by decide) ?_
    exact rd_iret hx hb hr hlocks dX3_isAction_15 rfl (by simp [cAct, bI, c1])
  · refine lv_iload_n hx hb dX3_isAction_4 rfl (lv_at hl 0 rfl) ?_
    refine lv_bipush (v := 7) hx hb dX3_isAction_5 (by decide) ?_
    refine lv_icmp_gt (tgt := 14) hx hb dX3_isAction_7 (by decide) (fun c7 => ?_) (fun c7 => ?_)
    · refine lv_iconst (v := 0) hx hb dX3_isAction_14 (by decide) ?_
      exact rd_iret hx hb hr hlocks dX3_isAction_15 rfl (by simp [cAct, bI, c1, c7])
    · refine lv_iconst (v := 1) hx hb dX3_isAction_10 (by decide) ?_
      refine lv_goto (tgt := 15) hx hb dX3_isAction_11 (by decide) ?_
      exact rd_iret hx hb hr hlocks dX3_isAction_15 rfl (by simp [cAct, bI, c1, c7])

set_option maxHeartbeats 4000000 in
set_option maxRecDepth 100000 in
/-- areMasksRight -/
theorem c_X3_areMasksRight (l : Launch) (dC : Nat → ClassId) (dI : Nat → Nat → Nat) (cI cL : ClassId) (h : Nat → Nat) (kinds : Nat → Int32) (ones : Nat → Int64) (kn : Nat) (av am : Nat → Int64) (vals msks : Nat → Int64) (pre pri act : Nat → Int32) (dat : Nat → Int64) (en : Nat) (held : Nat → Int32) (bn : Nat) (wy stt : Int32) (made hashed : Bool) (cap : Int32) (lat : Int64) (hk : kn ≤ 4) : Met l yX3_areMasksRight wsX3_areMasksRight ({ frames := 1, cells := 0, slots := 0, locals := 25 }) (rd_P (dC, dI) vwCl [(cI, .int), (cL, .long)] [(h 0, .inr (3, [.ref (h 1), .ref (h 2), .ref (h 3), .ref (h 4), .ref (h 5), .int (bI made), .int (bI hashed), .int cap, .long lat])), (h 1, .inr (2, [.ref (h 6), .ref (h 7), .int (nI kn)])), (h 2, .inr (1, [.ref (h 8), .ref (h 9), .ref (h 10), .ref (h 11), .ref (h 12), .ref (h 13), .int (nI en)])), (h 3, .inr (0, [.ref (h 14), .int (nI bn), .int wy, .int stt])), (h 4, .inl (cL, 4, .inr (.inl av))), (h 5, .inl (cL, 4, .inr (.inl am))), (h 6, .inl (cI, 4, .inl kinds)), (h 7, .inl (cL, 4, .inr (.inl ones))), (h 8, .inl (cL, 288, .inr (.inl vals))), (h 9, .inl (cL, 288, .inr (.inl msks))), (h 10, .inl (cI, 72, .inl pre)), (h 11, .inl (cI, 72, .inl pri)), (h 12, .inl (cI, 72, .inl act)), (h 13, .inl (cL, 72, .inr (.inl dat))), (h 14, .inl (cI, 16, .inl held))] [.ref (h 0)]) (rd_Q (some (.int (bI (cTakeAll kinds ones am kn))))) 0 0 (fun _ => False) := by
  refine Met.ofW (cc := cX3_areMasksRight) (maxL := 2) (ret := some .boolean) (by decide) rfl ?_
  intro p e s m args below meth c s₁ B hml hv
  obtain ⟨rfl, hP, hK⟩ := hv
  have hx := B.exec
  have hb := B.bytes
  have hr := B.returns
  have hts := fun w h => atoms_spec (ws := wsX3_areMasksRight) B.pre w (List.mem_cons_of_mem _ h)
  have hown : s.vm.findClass RX3 = some m.cls := findClass_of_methodNamed B.named
  have hlocks := B.notSynchronized
  have hl := lv_entry ([.ref (h 0)]) (n := 2) (Nat.le_of_ble_eq_true rfl)
  rw [lg_entry_eq]
  generalize (lg_sl ([.ref (h 0)]) ++ List.replicate (2 - (lg_sl ([.ref (h 0)])).length) Slot.unset).toArray = ls at hl ⊢
  have hl : lv_has ls 2 [(0, .ref (h 0))] := hl
  refine lv_iconst (v := (nI 0)) hx hb dX3_areMasksRight_0 (by decide) ?_
  refine lv_istore_n (lv' := [(1, .int (nI 0)), (0, .ref (h 0))]) hx hb dX3_areMasksRight_1 rfl hl (by decide) rfl (fun ls hl => ?_)
  have loop : ∀ (n i : Nat), i + n = kn → ∀ ls : Array Slot, lv_has ls 2 [(1, .int (nI i)), (0, .ref (h 0))] → W p l e (headSpec wsX3_areMasksRight ({ frames := 1, cells := 0, slots := 0, locals := 25 })).room s m ([.ref (h 0)]).toArray below meth c s.heap [] 0 0 (MQ below (rd_Q (some (.int (bI (allF (fun k => kTake (kinds k) (ones k) (am k &&& ones k)) i n))))) ([.ref (h 0)]).toArray s 0 0 (fun _ => False)) (F0 m 2 ls []) := by
    intro n
    induction n with
    | zero =>
      intro i hi ls hl
      refine lv_iload_n hx hb dX3_areMasksRight_2 rfl (lv_at hl 0 rfl) ?_
      refine lv_aload_n hx hb dX3_areMasksRight_3 rfl (lv_at hl 1 rfl) ?_
      refine va_get (D := (dC, dI)) (ci := 3) (v := .ref (h 1)) (C := RX3) (T := TX3) (N := 9) hx hb hts inX3 hown hK hP 0 rfl rfl 0 (by decide) (hts _ mw120) (fun _ h9 => h9) rfl dX3_areMasksRight_4 ?_
      refine va_get (D := (dC, dI)) (ci := 2) (v := .int (nI kn)) (C := RX2) (T := TX2) (N := 3) hx hb hts inX2 hown hK hP 1 rfl rfl 2 (by decide) (hts _ mw56) (fun _ h9 => h9) rfl dX3_areMasksRight_7 ?_
      refine n_ige i kn (tgt := 37) (hexec := hx) (hb := hb) dX3_areMasksRight_10 (by decide) rfl rfl (by omega) (by omega) (fun c10 => ?_) (fun c10 => absurd c10 (by omega))
      refine lv_iconst (v := 1) hx hb dX3_areMasksRight_37 (by decide) ?_
      exact rd_iret hx hb hr hlocks dX3_areMasksRight_38 rfl (rfl)
    | succ n ih =>
      intro i hi ls hl
      refine lv_iload_n hx hb dX3_areMasksRight_2 rfl (lv_at hl 0 rfl) ?_
      refine lv_aload_n hx hb dX3_areMasksRight_3 rfl (lv_at hl 1 rfl) ?_
      refine va_get (D := (dC, dI)) (ci := 3) (v := .ref (h 1)) (C := RX3) (T := TX3) (N := 9) hx hb hts inX3 hown hK hP 0 rfl rfl 0 (by decide) (hts _ mw120) (fun _ h9 => h9) rfl dX3_areMasksRight_4 ?_
      refine va_get (D := (dC, dI)) (ci := 2) (v := .int (nI kn)) (C := RX2) (T := TX2) (N := 3) hx hb hts inX2 hown hK hP 1 rfl rfl 2 (by decide) (hts _ mw56) (fun _ h9 => h9) rfl dX3_areMasksRight_7 ?_
      refine n_ige i kn (tgt := 37) (hexec := hx) (hb := hb) dX3_areMasksRight_10 (by decide) rfl rfl (by omega) (by omega) (fun c10 => absurd c10 (by omega)) (fun c10 => ?_)
      refine lv_aload_n hx hb dX3_areMasksRight_13 rfl (lv_at hl 1 rfl) ?_
      refine va_get (D := (dC, dI)) (ci := 3) (v := .ref (h 1)) (C := RX3) (T := TX3) (N := 9) hx hb hts inX3 hown hK hP 0 rfl rfl 0 (by decide) (hts _ mw120) (fun _ h9 => h9) rfl dX3_areMasksRight_14 ?_
      refine lv_iload_n hx hb dX3_areMasksRight_17 rfl (lv_at hl 0 rfl) ?_
      refine lv_aload_n hx hb dX3_areMasksRight_18 rfl (lv_at hl 1 rfl) ?_
      refine lv_iload_n hx hb dX3_areMasksRight_19 rfl (lv_at hl 0 rfl) ?_
      refine rd_calll (r := (am i &&& ones i)) (va_runV (As := [.int (nI i)]) (rest := [.int (nI i), .ref (h 1)]) ⟨hx, hb, hml, hown, hts⟩ (c_X3_askedMask l dC dI cI cL h kinds ones kn av am vals msks pre pri act dat en held bn wy stt made hashed cap lat i (by omega)) (cwV 1 hts (gV mw362 mw364 mw3 mw22 mw365) rfl rfl rfl (by decide +kernel) ⟨Nat.le_of_ble_eq_true rfl, Nat.le_of_ble_eq_true rfl⟩) (rd_preV (hP.sub (ws' := [(h 0, .inr (3, [.ref (h 1), .ref (h 2), .ref (h 3), .ref (h 4), .ref (h 5), .int (bI made), .int (bI hashed), .int cap, .long lat])), (h 1, .inr (2, [.ref (h 6), .ref (h 7), .int (nI kn)])), (h 2, .inr (1, [.ref (h 8), .ref (h 9), .ref (h 10), .ref (h 11), .ref (h 12), .ref (h 13), .int (nI en)])), (h 3, .inr (0, [.ref (h 14), .int (nI bn), .int wy, .int stt])), (h 4, .inl (cL, 4, .inr (.inl av))), (h 5, .inl (cL, 4, .inr (.inl am))), (h 6, .inl (cI, 4, .inl kinds)), (h 7, .inl (cL, 4, .inr (.inl ones))), (h 8, .inl (cL, 288, .inr (.inl vals))), (h 9, .inl (cL, 288, .inr (.inl msks))), (h 10, .inl (cI, 72, .inl pre)), (h 11, .inl (cI, 72, .inl pri)), (h 12, .inl (cI, 72, .inl act)), (h 13, .inl (cL, 72, .inr (.inl dat))), (h 14, .inl (cI, 16, .inl held))]) [0, 1, 2, 3, 4, 5, 6, 7, 8, 9, 10, 11, 12, 13, 14] rfl) hK (va_recv (ci := 3) hK hP rfl (q0 := 0) rfl)) rfl rfl hl.1 rfl (lv_room (Nat.le_of_ble_eq_true rfl)) dX3_areMasksRight_20 ⟨Nat.zero_le _, Nat.zero_le _⟩) ?_
      refine rd_calli (r := (bI (kTake (kinds i) (ones i) (am i &&& ones i)))) (va_runV (As := [.int (nI i), .long (am i &&& ones i)]) (rest := []) ⟨hx, hb, hml, hown, hts⟩ (c_X2_takeMask l dC dI cI cL (h 1) (h 6) (h 7) kinds ones kn i (am i &&& ones i) hk (by omega)) (cwV 2 hts (gV mw366 mw367 mw368 mw23 mw369) rfl rfl rfl (by decide +kernel) ⟨Nat.le_of_ble_eq_true rfl, Nat.le_of_ble_eq_true rfl⟩) (rd_preV (hP.sub (ws' := [(h 1, .inr (2, [.ref (h 6), .ref (h 7), .int (nI kn)])), (h 6, .inl (cI, 4, .inl kinds)), (h 7, .inl (cL, 4, .inr (.inl ones)))]) [1, 6, 7] rfl) hK (va_recv (ci := 2) hK hP rfl (q0 := 1) rfl)) rfl rfl hl.1 rfl (lv_room (Nat.le_of_ble_eq_true rfl)) dX3_areMasksRight_23 ⟨Nat.zero_le _, Nat.zero_le _⟩) ?_
      refine lv_if_ne (tgt := 31) hx hb dX3_areMasksRight_26 (by decide) (fun c26 => ?_) (fun c26 => ?_)
      · rw [show allF (fun k => kTake (kinds k) (ones k) (am k &&& ones k)) i (n + 1) = allF (fun k => kTake (kinds k) (ones k) (am k &&& ones k)) (i + 1) n from allF_t (bI_ne c26)]
        refine lv_iinc (v := nI (i + 1)) (lv' := [(1, .int (nI (i + 1))), (0, .ref (h 0))]) hx hb dX3_areMasksRight_31 hl (k := 0) rfl (nI_1 i) (by decide) rfl (fun ls hl => ?_)
        refine lv_goto (tgt := 2) hx hb dX3_areMasksRight_34 (by decide) ?_
        exact ih (i + 1) (by omega) ls (lv_sub hl [0, 1] rfl)
      · refine lv_iconst (v := 0) hx hb dX3_areMasksRight_29 (by decide) ?_
        exact rd_iret hx hb hr hlocks dX3_areMasksRight_30 rfl (by rw [show allF (fun k => kTake (kinds k) (ones k) (am k &&& ones k)) i (n + 1) = false from allF_f (bI_eq c26)]; rfl)
  exact loop kn 0 (by omega) ls (lv_sub hl [0, 1] rfl)

set_option maxHeartbeats 4000000 in
set_option maxRecDepth 100000 in
/-- isAsked -/
theorem c_X3_isAsked (l : Launch) (dC : Nat → ClassId) (dI : Nat → Nat → Nat) (cI cL : ClassId) (h : Nat → Nat) (kinds : Nat → Int32) (ones : Nat → Int64) (kn : Nat) (av am : Nat → Int64) (vals msks : Nat → Int64) (pre pri act : Nat → Int32) (dat : Nat → Int64) (en : Nat) (held : Nat → Int32) (bn : Nat) (wy stt : Int32) (made hashed : Bool) (cap : Int32) (lat : Int64) (q : Nat) (hk : kn ≤ 4) (hq : q < 72) : Met l yX3_isAsked wsX3_isAsked ({ frames := 1, cells := 0, slots := 0, locals := 21 }) (rd_P (dC, dI) vwCl [(cI, .int), (cL, .long)] [(h 0, .inr (3, [.ref (h 1), .ref (h 2), .ref (h 3), .ref (h 4), .ref (h 5), .int (bI made), .int (bI hashed), .int cap, .long lat])), (h 1, .inr (2, [.ref (h 6), .ref (h 7), .int (nI kn)])), (h 2, .inr (1, [.ref (h 8), .ref (h 9), .ref (h 10), .ref (h 11), .ref (h 12), .ref (h 13), .int (nI en)])), (h 3, .inr (0, [.ref (h 14), .int (nI bn), .int wy, .int stt])), (h 4, .inl (cL, 4, .inr (.inl av))), (h 5, .inl (cL, 4, .inr (.inl am))), (h 6, .inl (cI, 4, .inl kinds)), (h 7, .inl (cL, 4, .inr (.inl ones))), (h 8, .inl (cL, 288, .inr (.inl vals))), (h 9, .inl (cL, 288, .inr (.inl msks))), (h 10, .inl (cI, 72, .inl pre)), (h 11, .inl (cI, 72, .inl pri)), (h 12, .inl (cI, 72, .inl act)), (h 13, .inl (cL, 72, .inr (.inl dat))), (h 14, .inl (cI, 16, .inl held))] [.ref (h 0), .int (nI q)]) (rd_Q (some (.int (bI (cAsk ones av am vals msks kn q))))) 0 0 (fun _ => False) := by
  refine Met.ofW (cc := cX3_isAsked) (maxL := 6) (ret := some .boolean) (by decide) rfl ?_
  intro p e s m args below meth c s₁ B hml hv
  obtain ⟨rfl, hP, hK⟩ := hv
  have hx := B.exec
  have hb := B.bytes
  have hr := B.returns
  have hts := fun w h => atoms_spec (ws := wsX3_isAsked) B.pre w (List.mem_cons_of_mem _ h)
  have hown : s.vm.findClass RX3 = some m.cls := findClass_of_methodNamed B.named
  have hlocks := B.notSynchronized
  have hl := lv_entry ([.ref (h 0), .int (nI q)]) (n := 6) (Nat.le_of_ble_eq_true rfl)
  rw [lg_entry_eq]
  generalize (lg_sl ([.ref (h 0), .int (nI q)]) ++ List.replicate (6 - (lg_sl ([.ref (h 0), .int (nI q)])).length) Slot.unset).toArray = ls at hl ⊢
  have hl : lv_has ls 6 [(0, .ref (h 0)), (1, .int (nI q))] := hl
  refine lv_iconst (v := (nI 0)) hx hb dX3_isAsked_0 (by decide) ?_
  refine lv_istore_n (lv' := [(2, .int (nI 0)), (0, .ref (h 0)), (1, .int (nI q))]) hx hb dX3_isAsked_1 rfl hl (by decide) rfl (fun ls hl => ?_)
  have loop : ∀ (n i : Nat), i + n = kn → ∀ ls : Array Slot, lv_has ls 6 [(2, .int (nI i)), (0, .ref (h 0)), (1, .int (nI q))] → W p l e (headSpec wsX3_isAsked ({ frames := 1, cells := 0, slots := 0, locals := 21 })).room s m ([.ref (h 0), .int (nI q)]).toArray below meth c s.heap [] 0 0 (MQ below (rd_Q (some (.int (bI (allF (cAskP ones av am vals msks q) i n))))) ([.ref (h 0), .int (nI q)]).toArray s 0 0 (fun _ => False)) (F0 m 2 ls []) := by
    intro n
    induction n with
    | zero =>
      intro i hi ls hl
      refine lv_iload_n hx hb dX3_isAsked_2 rfl (lv_at hl 0 rfl) ?_
      refine lv_aload_n hx hb dX3_isAsked_3 rfl (lv_at hl 1 rfl) ?_
      refine va_get (D := (dC, dI)) (ci := 3) (v := .ref (h 1)) (C := RX3) (T := TX3) (N := 9) hx hb hts inX3 hown hK hP 0 rfl rfl 0 (by decide) (hts _ mw120) (fun _ h9 => h9) rfl dX3_isAsked_4 ?_
      refine va_get (D := (dC, dI)) (ci := 2) (v := .int (nI kn)) (C := RX2) (T := TX2) (N := 3) hx hb hts inX2 hown hK hP 1 rfl rfl 2 (by decide) (hts _ mw56) (fun _ h9 => h9) rfl dX3_isAsked_7 ?_
      refine n_ige i kn (tgt := 71) (hexec := hx) (hb := hb) dX3_isAsked_10 (by decide) rfl rfl (by omega) (by omega) (fun c10 => ?_) (fun c10 => absurd c10 (by omega))
      refine lv_iconst (v := 1) hx hb dX3_isAsked_71 (by decide) ?_
      exact rd_iret hx hb hr hlocks dX3_isAsked_72 rfl (rfl)
    | succ n ih =>
      intro i hi ls hl
      refine lv_iload_n hx hb dX3_isAsked_2 rfl (lv_at hl 0 rfl) ?_
      refine lv_aload_n hx hb dX3_isAsked_3 rfl (lv_at hl 1 rfl) ?_
      refine va_get (D := (dC, dI)) (ci := 3) (v := .ref (h 1)) (C := RX3) (T := TX3) (N := 9) hx hb hts inX3 hown hK hP 0 rfl rfl 0 (by decide) (hts _ mw120) (fun _ h9 => h9) rfl dX3_isAsked_4 ?_
      refine va_get (D := (dC, dI)) (ci := 2) (v := .int (nI kn)) (C := RX2) (T := TX2) (N := 3) hx hb hts inX2 hown hK hP 1 rfl rfl 2 (by decide) (hts _ mw56) (fun _ h9 => h9) rfl dX3_isAsked_7 ?_
      refine n_ige i kn (tgt := 71) (hexec := hx) (hb := hb) dX3_isAsked_10 (by decide) rfl rfl (by omega) (by omega) (fun c10 => absurd c10 (by omega)) (fun c10 => ?_)
      refine lv_iload_n hx hb dX3_isAsked_13 rfl (lv_at hl 2 rfl) ?_
      refine lv_iload_n hx hb dX3_isAsked_14 rfl (lv_at hl 0 rfl) ?_
      refine rd_calli (r := (nI (q * 4 + i))) (va_runS (As := [.int (nI q), .int (nI i)]) (rest := []) ⟨hx, hb, hml, hown, hts⟩ (c_X1_place l dC dI cI cL q i) (va_cwS 2 hts (gSo mw378 mw379 mw24 mw380) rfl rfl rfl (by decide +kernel) ⟨Nat.le_of_ble_eq_true rfl, Nat.le_of_ble_eq_true rfl⟩) (rd_preS (hP.sub (ws' := []) [] rfl) hK) rfl rfl hl.1 rfl (lv_room (Nat.le_of_ble_eq_true rfl)) dX3_isAsked_15 ⟨Nat.zero_le _, Nat.zero_le _⟩) ?_
      refine lv_istore_n (lv' := [(3, .int (nI (q * 4 + i))), (2, .int (nI i)), (0, .ref (h 0)), (1, .int (nI q))]) hx hb dX3_isAsked_18 rfl hl (by decide) rfl (fun ls hl => ?_)
      refine lv_aload_n hx hb dX3_isAsked_19 rfl (lv_at hl 2 rfl) ?_
      refine lv_iload_n hx hb dX3_isAsked_20 rfl (lv_at hl 1 rfl) ?_
      refine rd_calll (r := (am i &&& ones i)) (va_runV (As := [.int (nI i)]) (rest := []) ⟨hx, hb, hml, hown, hts⟩ (c_X3_askedMask l dC dI cI cL h kinds ones kn av am vals msks pre pri act dat en held bn wy stt made hashed cap lat i (by omega)) (cwV 1 hts (gV mw362 mw364 mw3 mw22 mw365) rfl rfl rfl (by decide +kernel) ⟨Nat.le_of_ble_eq_true rfl, Nat.le_of_ble_eq_true rfl⟩) (rd_preV (hP.sub (ws' := [(h 0, .inr (3, [.ref (h 1), .ref (h 2), .ref (h 3), .ref (h 4), .ref (h 5), .int (bI made), .int (bI hashed), .int cap, .long lat])), (h 1, .inr (2, [.ref (h 6), .ref (h 7), .int (nI kn)])), (h 2, .inr (1, [.ref (h 8), .ref (h 9), .ref (h 10), .ref (h 11), .ref (h 12), .ref (h 13), .int (nI en)])), (h 3, .inr (0, [.ref (h 14), .int (nI bn), .int wy, .int stt])), (h 4, .inl (cL, 4, .inr (.inl av))), (h 5, .inl (cL, 4, .inr (.inl am))), (h 6, .inl (cI, 4, .inl kinds)), (h 7, .inl (cL, 4, .inr (.inl ones))), (h 8, .inl (cL, 288, .inr (.inl vals))), (h 9, .inl (cL, 288, .inr (.inl msks))), (h 10, .inl (cI, 72, .inl pre)), (h 11, .inl (cI, 72, .inl pri)), (h 12, .inl (cI, 72, .inl act)), (h 13, .inl (cL, 72, .inr (.inl dat))), (h 14, .inl (cI, 16, .inl held))]) [0, 1, 2, 3, 4, 5, 6, 7, 8, 9, 10, 11, 12, 13, 14] rfl) hK (va_recv (ci := 3) hK hP rfl (q0 := 0) rfl)) rfl rfl hl.1 rfl (lv_room (Nat.le_of_ble_eq_true rfl)) dX3_isAsked_21 ⟨Nat.zero_le _, Nat.zero_le _⟩) ?_
      refine lv_lstore (lv' := [(4, .long (am i &&& ones i)), (3, .int (nI (q * 4 + i))), (2, .int (nI i)), (0, .ref (h 0)), (1, .int (nI q))]) hx hb dX3_isAsked_24 hl (by decide) rfl (fun ls hl => ?_)
      refine lv_aload_n hx hb dX3_isAsked_26 rfl (lv_at hl 3 rfl) ?_
      refine va_get (D := (dC, dI)) (ci := 3) (v := .ref (h 2)) (C := RX3) (T := TX3) (N := 9) hx hb hts inX3 hown hK hP 0 rfl rfl 1 (by decide) (hts _ mw121) (fun _ h9 => h9) rfl dX3_isAsked_27 ?_
      refine va_get (D := (dC, dI)) (ci := 1) (v := .ref (h 9)) (C := RX1) (T := TX1) (N := 7) hx hb hts inX1 hown hK hP 2 rfl rfl 1 (by decide) (hts _ mw75) (fun _ h9 => h9) rfl dX3_isAsked_30 ?_
      refine lv_iload_n hx hb dX3_isAsked_33 rfl (lv_at hl 1 rfl) ?_
      refine n_lald hx hb hK hP 9 1 rfl rfl (k := q * 4 + i) rfl (by omega) (by omega) dX3_isAsked_34 ?_
      refine lv_lload hx hb dX3_isAsked_35 (lv_at hl 0 rfl) ?_
      refine n_lne (tgt := 63) hx hb dX3_isAsked_37 dX3_isAsked_38 (by decide) (fun c37 => ?_) (fun c37 => ?_)
      · refine lv_iconst (v := 0) hx hb dX3_isAsked_63 (by decide) ?_
        exact rd_iret hx hb hr hlocks dX3_isAsked_64 rfl (by rw [show allF (cAskP ones av am vals msks q) i (n + 1) = false from allF_f (by simp [cAskP, c37])]; rfl)
      · refine lv_aload_n hx hb dX3_isAsked_41 rfl (lv_at hl 3 rfl) ?_
        refine va_get (D := (dC, dI)) (ci := 3) (v := .ref (h 2)) (C := RX3) (T := TX3) (N := 9) hx hb hts inX3 hown hK hP 0 rfl rfl 1 (by decide) (hts _ mw121) (fun _ h9 => h9) rfl dX3_isAsked_42 ?_
        refine va_get (D := (dC, dI)) (ci := 1) (v := .ref (h 8)) (C := RX1) (T := TX1) (N := 7) hx hb hts inX1 hown hK hP 2 rfl rfl 0 (by decide) (hts _ mw73) (fun _ h9 => h9) rfl dX3_isAsked_45 ?_
        refine lv_iload_n hx hb dX3_isAsked_48 rfl (lv_at hl 1 rfl) ?_
        refine n_lald hx hb hK hP 8 1 rfl rfl (k := q * 4 + i) rfl (by omega) (by omega) dX3_isAsked_49 ?_
        refine lv_aload_n hx hb dX3_isAsked_50 rfl (lv_at hl 3 rfl) ?_
        refine va_get (D := (dC, dI)) (ci := 3) (v := .ref (h 4)) (C := RX3) (T := TX3) (N := 9) hx hb hts inX3 hown hK hP 0 rfl rfl 3 (by decide) (hts _ mw123) (fun _ h9 => h9) rfl dX3_isAsked_51 ?_
        refine lv_iload_n hx hb dX3_isAsked_54 rfl (lv_at hl 2 rfl) ?_
        refine n_lald hx hb hK hP 4 1 rfl rfl (k := i) rfl (by omega) (by omega) dX3_isAsked_55 ?_
        refine lv_lload hx hb dX3_isAsked_56 (lv_at hl 0 rfl) ?_
        refine lv_land hx hb dX3_isAsked_58 ?_
        refine n_leq (tgt := 65) hx hb dX3_isAsked_59 dX3_isAsked_60 (by decide) (fun c59 => ?_) (fun c59 => ?_)
        · rw [show allF (cAskP ones av am vals msks q) i (n + 1) = allF (cAskP ones av am vals msks q) (i + 1) n from allF_t (by simp [cAskP, c37, c59])]
          refine lv_iinc (v := nI (i + 1)) (lv' := [(2, .int (nI (i + 1))), (4, .long (am i &&& ones i)), (3, .int (nI (q * 4 + i))), (0, .ref (h 0)), (1, .int (nI q))]) hx hb dX3_isAsked_65 hl (k := 2) rfl (nI_1 i) (by decide) rfl (fun ls hl => ?_)
          refine lv_goto (tgt := 2) hx hb dX3_isAsked_68 (by decide) ?_
          exact ih (i + 1) (by omega) ls (lv_sub hl [0, 3, 4] rfl)
        · refine lv_iconst (v := 0) hx hb dX3_isAsked_63 (by decide) ?_
          exact rd_iret hx hb hr hlocks dX3_isAsked_64 rfl (by rw [show allF (cAskP ones av am vals msks q) i (n + 1) = false from allF_f (by simp [cAskP, c59])]; rfl)
  exact loop kn 0 (by omega) ls (lv_sub hl [0, 1, 2] rfl)

set_option maxHeartbeats 4000000 in
set_option maxRecDepth 100000 in
/-- fitsAsked -/
theorem c_X3_fitsAsked (l : Launch) (dC : Nat → ClassId) (dI : Nat → Nat → Nat) (cI cL : ClassId) (h : Nat → Nat) (kinds : Nat → Int32) (ones : Nat → Int64) (kn : Nat) (av am : Nat → Int64) (vals msks : Nat → Int64) (pre pri act : Nat → Int32) (dat : Nat → Int64) (en : Nat) (held : Nat → Int32) (bn : Nat) (wy stt : Int32) (made hashed : Bool) (cap : Int32) (lat : Int64) (q : Nat) (hk : kn ≤ 4) (hq : q < 72) : Met l yX3_fitsAsked wsX3_fitsAsked ({ frames := 1, cells := 0, slots := 0, locals := 21 }) (rd_P (dC, dI) vwCl [(cI, .int), (cL, .long)] [(h 0, .inr (3, [.ref (h 1), .ref (h 2), .ref (h 3), .ref (h 4), .ref (h 5), .int (bI made), .int (bI hashed), .int cap, .long lat])), (h 1, .inr (2, [.ref (h 6), .ref (h 7), .int (nI kn)])), (h 2, .inr (1, [.ref (h 8), .ref (h 9), .ref (h 10), .ref (h 11), .ref (h 12), .ref (h 13), .int (nI en)])), (h 3, .inr (0, [.ref (h 14), .int (nI bn), .int wy, .int stt])), (h 4, .inl (cL, 4, .inr (.inl av))), (h 5, .inl (cL, 4, .inr (.inl am))), (h 6, .inl (cI, 4, .inl kinds)), (h 7, .inl (cL, 4, .inr (.inl ones))), (h 8, .inl (cL, 288, .inr (.inl vals))), (h 9, .inl (cL, 288, .inr (.inl msks))), (h 10, .inl (cI, 72, .inl pre)), (h 11, .inl (cI, 72, .inl pri)), (h 12, .inl (cI, 72, .inl act)), (h 13, .inl (cL, 72, .inr (.inl dat))), (h 14, .inl (cI, 16, .inl held))] [.ref (h 0), .int (nI q)]) (rd_Q (some (.int (bI (cFit av vals msks kn q))))) 0 0 (fun _ => False) := by
  refine Met.ofW (cc := cX3_fitsAsked) (maxL := 4) (ret := some .boolean) (by decide) rfl ?_
  intro p e s m args below meth c s₁ B hml hv
  obtain ⟨rfl, hP, hK⟩ := hv
  have hx := B.exec
  have hb := B.bytes
  have hr := B.returns
  have hts := fun w h => atoms_spec (ws := wsX3_fitsAsked) B.pre w (List.mem_cons_of_mem _ h)
  have hown : s.vm.findClass RX3 = some m.cls := findClass_of_methodNamed B.named
  have hlocks := B.notSynchronized
  have hl := lv_entry ([.ref (h 0), .int (nI q)]) (n := 4) (Nat.le_of_ble_eq_true rfl)
  rw [lg_entry_eq]
  generalize (lg_sl ([.ref (h 0), .int (nI q)]) ++ List.replicate (4 - (lg_sl ([.ref (h 0), .int (nI q)])).length) Slot.unset).toArray = ls at hl ⊢
  have hl : lv_has ls 4 [(0, .ref (h 0)), (1, .int (nI q))] := hl
  refine lv_iconst (v := (nI 0)) hx hb dX3_fitsAsked_0 (by decide) ?_
  refine lv_istore_n (lv' := [(2, .int (nI 0)), (0, .ref (h 0)), (1, .int (nI q))]) hx hb dX3_fitsAsked_1 rfl hl (by decide) rfl (fun ls hl => ?_)
  have loop : ∀ (n i : Nat), i + n = kn → ∀ ls : Array Slot, lv_has ls 4 [(2, .int (nI i)), (0, .ref (h 0)), (1, .int (nI q))] → W p l e (headSpec wsX3_fitsAsked ({ frames := 1, cells := 0, slots := 0, locals := 21 })).room s m ([.ref (h 0), .int (nI q)]).toArray below meth c s.heap [] 0 0 (MQ below (rd_Q (some (.int (bI (allF (cFitP av vals msks q) i n))))) ([.ref (h 0), .int (nI q)]).toArray s 0 0 (fun _ => False)) (F0 m 2 ls []) := by
    intro n
    induction n with
    | zero =>
      intro i hi ls hl
      refine lv_iload_n hx hb dX3_fitsAsked_2 rfl (lv_at hl 0 rfl) ?_
      refine lv_aload_n hx hb dX3_fitsAsked_3 rfl (lv_at hl 1 rfl) ?_
      refine va_get (D := (dC, dI)) (ci := 3) (v := .ref (h 1)) (C := RX3) (T := TX3) (N := 9) hx hb hts inX3 hown hK hP 0 rfl rfl 0 (by decide) (hts _ mw120) (fun _ h9 => h9) rfl dX3_fitsAsked_4 ?_
      refine va_get (D := (dC, dI)) (ci := 2) (v := .int (nI kn)) (C := RX2) (T := TX2) (N := 3) hx hb hts inX2 hown hK hP 1 rfl rfl 2 (by decide) (hts _ mw56) (fun _ h9 => h9) rfl dX3_fitsAsked_7 ?_
      refine n_ige i kn (tgt := 56) (hexec := hx) (hb := hb) dX3_fitsAsked_10 (by decide) rfl rfl (by omega) (by omega) (fun c10 => ?_) (fun c10 => absurd c10 (by omega))
      refine lv_iconst (v := 1) hx hb dX3_fitsAsked_56 (by decide) ?_
      exact rd_iret hx hb hr hlocks dX3_fitsAsked_57 rfl (rfl)
    | succ n ih =>
      intro i hi ls hl
      refine lv_iload_n hx hb dX3_fitsAsked_2 rfl (lv_at hl 0 rfl) ?_
      refine lv_aload_n hx hb dX3_fitsAsked_3 rfl (lv_at hl 1 rfl) ?_
      refine va_get (D := (dC, dI)) (ci := 3) (v := .ref (h 1)) (C := RX3) (T := TX3) (N := 9) hx hb hts inX3 hown hK hP 0 rfl rfl 0 (by decide) (hts _ mw120) (fun _ h9 => h9) rfl dX3_fitsAsked_4 ?_
      refine va_get (D := (dC, dI)) (ci := 2) (v := .int (nI kn)) (C := RX2) (T := TX2) (N := 3) hx hb hts inX2 hown hK hP 1 rfl rfl 2 (by decide) (hts _ mw56) (fun _ h9 => h9) rfl dX3_fitsAsked_7 ?_
      refine n_ige i kn (tgt := 56) (hexec := hx) (hb := hb) dX3_fitsAsked_10 (by decide) rfl rfl (by omega) (by omega) (fun c10 => absurd c10 (by omega)) (fun c10 => ?_)
      refine lv_iload_n hx hb dX3_fitsAsked_13 rfl (lv_at hl 2 rfl) ?_
      refine lv_iload_n hx hb dX3_fitsAsked_14 rfl (lv_at hl 0 rfl) ?_
      refine rd_calli (r := (nI (q * 4 + i))) (va_runS (As := [.int (nI q), .int (nI i)]) (rest := []) ⟨hx, hb, hml, hown, hts⟩ (c_X1_place l dC dI cI cL q i) (va_cwS 2 hts (gSo mw378 mw379 mw24 mw380) rfl rfl rfl (by decide +kernel) ⟨Nat.le_of_ble_eq_true rfl, Nat.le_of_ble_eq_true rfl⟩) (rd_preS (hP.sub (ws' := []) [] rfl) hK) rfl rfl hl.1 rfl (lv_room (Nat.le_of_ble_eq_true rfl)) dX3_fitsAsked_15 ⟨Nat.zero_le _, Nat.zero_le _⟩) ?_
      refine lv_istore_n (lv' := [(3, .int (nI (q * 4 + i))), (2, .int (nI i)), (0, .ref (h 0)), (1, .int (nI q))]) hx hb dX3_fitsAsked_18 rfl hl (by decide) rfl (fun ls hl => ?_)
      refine lv_aload_n hx hb dX3_fitsAsked_19 rfl (lv_at hl 2 rfl) ?_
      refine va_get (D := (dC, dI)) (ci := 3) (v := .ref (h 4)) (C := RX3) (T := TX3) (N := 9) hx hb hts inX3 hown hK hP 0 rfl rfl 3 (by decide) (hts _ mw123) (fun _ h9 => h9) rfl dX3_fitsAsked_20 ?_
      refine lv_iload_n hx hb dX3_fitsAsked_23 rfl (lv_at hl 1 rfl) ?_
      refine n_lald hx hb hK hP 4 1 rfl rfl (k := i) rfl (by omega) (by omega) dX3_fitsAsked_24 ?_
      refine lv_aload_n hx hb dX3_fitsAsked_25 rfl (lv_at hl 2 rfl) ?_
      refine va_get (D := (dC, dI)) (ci := 3) (v := .ref (h 2)) (C := RX3) (T := TX3) (N := 9) hx hb hts inX3 hown hK hP 0 rfl rfl 1 (by decide) (hts _ mw121) (fun _ h9 => h9) rfl dX3_fitsAsked_26 ?_
      refine va_get (D := (dC, dI)) (ci := 1) (v := .ref (h 9)) (C := RX1) (T := TX1) (N := 7) hx hb hts inX1 hown hK hP 2 rfl rfl 1 (by decide) (hts _ mw75) (fun _ h9 => h9) rfl dX3_fitsAsked_29 ?_
      refine lv_iload_n hx hb dX3_fitsAsked_32 rfl (lv_at hl 0 rfl) ?_
      refine n_lald hx hb hK hP 9 1 rfl rfl (k := q * 4 + i) rfl (by omega) (by omega) dX3_fitsAsked_33 ?_
      refine lv_land hx hb dX3_fitsAsked_34 ?_
      refine lv_aload_n hx hb dX3_fitsAsked_35 rfl (lv_at hl 2 rfl) ?_
      refine va_get (D := (dC, dI)) (ci := 3) (v := .ref (h 2)) (C := RX3) (T := TX3) (N := 9) hx hb hts inX3 hown hK hP 0 rfl rfl 1 (by decide) (hts _ mw121) (fun _ h9 => h9) rfl dX3_fitsAsked_36 ?_
      refine va_get (D := (dC, dI)) (ci := 1) (v := .ref (h 8)) (C := RX1) (T := TX1) (N := 7) hx hb hts inX1 hown hK hP 2 rfl rfl 0 (by decide) (hts _ mw73) (fun _ h9 => h9) rfl dX3_fitsAsked_39 ?_
      refine lv_iload_n hx hb dX3_fitsAsked_42 rfl (lv_at hl 0 rfl) ?_
      refine n_lald hx hb hK hP 8 1 rfl rfl (k := q * 4 + i) rfl (by omega) (by omega) dX3_fitsAsked_43 ?_
      refine n_leq (tgt := 50) hx hb dX3_fitsAsked_44 dX3_fitsAsked_45 (by decide) (fun c44 => ?_) (fun c44 => ?_)
      · rw [show allF (cFitP av vals msks q) i (n + 1) = allF (cFitP av vals msks q) (i + 1) n from allF_t (by simp [cFitP, c44])]
        refine lv_iinc (v := nI (i + 1)) (lv' := [(2, .int (nI (i + 1))), (3, .int (nI (q * 4 + i))), (0, .ref (h 0)), (1, .int (nI q))]) hx hb dX3_fitsAsked_50 hl (k := 1) rfl (nI_1 i) (by decide) rfl (fun ls hl => ?_)
        refine lv_goto (tgt := 2) hx hb dX3_fitsAsked_53 (by decide) ?_
        exact ih (i + 1) (by omega) ls (lv_sub hl [0, 2, 3] rfl)
      · refine lv_iconst (v := 0) hx hb dX3_fitsAsked_48 (by decide) ?_
        exact rd_iret hx hb hr hlocks dX3_fitsAsked_49 rfl (by rw [show allF (cFitP av vals msks q) i (n + 1) = false from allF_f (by simp [cFitP, c44])]; rfl)
  exact loop kn 0 (by omega) ls (lv_sub hl [0, 1, 2] rfl)

set_option maxHeartbeats 4000000 in
set_option maxRecDepth 100000 in
/-- findAsked -/
theorem c_X3_findAsked (l : Launch) (dC : Nat → ClassId) (dI : Nat → Nat → Nat) (cI cL : ClassId) (h : Nat → Nat) (kinds : Nat → Int32) (ones : Nat → Int64) (kn : Nat) (av am : Nat → Int64) (vals msks : Nat → Int64) (pre pri act : Nat → Int32) (dat : Nat → Int64) (en : Nat) (held : Nat → Int32) (bn : Nat) (wy stt : Int32) (made hashed : Bool) (cap : Int32) (lat : Int64) (hk : kn ≤ 4) (he : en ≤ 72) : Met l yX3_findAsked wsX3_findAsked ({ frames := 2, cells := 0, slots := 0, locals := 46 }) (rd_P (dC, dI) vwCl [(cI, .int), (cL, .long)] [(h 0, .inr (3, [.ref (h 1), .ref (h 2), .ref (h 3), .ref (h 4), .ref (h 5), .int (bI made), .int (bI hashed), .int cap, .long lat])), (h 1, .inr (2, [.ref (h 6), .ref (h 7), .int (nI kn)])), (h 2, .inr (1, [.ref (h 8), .ref (h 9), .ref (h 10), .ref (h 11), .ref (h 12), .ref (h 13), .int (nI en)])), (h 3, .inr (0, [.ref (h 14), .int (nI bn), .int wy, .int stt])), (h 4, .inl (cL, 4, .inr (.inl av))), (h 5, .inl (cL, 4, .inr (.inl am))), (h 6, .inl (cI, 4, .inl kinds)), (h 7, .inl (cL, 4, .inr (.inl ones))), (h 8, .inl (cL, 288, .inr (.inl vals))), (h 9, .inl (cL, 288, .inr (.inl msks))), (h 10, .inl (cI, 72, .inl pre)), (h 11, .inl (cI, 72, .inl pri)), (h 12, .inl (cI, 72, .inl act)), (h 13, .inl (cL, 72, .inr (.inl dat))), (h 14, .inl (cI, 16, .inl held))] [.ref (h 0)]) (rd_Q (some (.int (cFind ones av am vals msks kn en)))) 0 0 (fun _ => False) := by
  refine Met.ofW (cc := cX3_findAsked) (maxL := 2) (ret := some .int) (by decide) rfl ?_
  intro p e s m args below meth c s₁ B hml hv
  obtain ⟨rfl, hP, hK⟩ := hv
  have hx := B.exec
  have hb := B.bytes
  have hr := B.returns
  have hts := fun w h => atoms_spec (ws := wsX3_findAsked) B.pre w (List.mem_cons_of_mem _ h)
  have hown : s.vm.findClass RX3 = some m.cls := findClass_of_methodNamed B.named
  have hlocks := B.notSynchronized
  have hl := lv_entry ([.ref (h 0)]) (n := 2) (Nat.le_of_ble_eq_true rfl)
  rw [lg_entry_eq]
  generalize (lg_sl ([.ref (h 0)]) ++ List.replicate (2 - (lg_sl ([.ref (h 0)])).length) Slot.unset).toArray = ls at hl ⊢
  have hl : lv_has ls 2 [(0, .ref (h 0))] := hl
  refine lv_iconst (v := (nI 0)) hx hb dX3_findAsked_0 (by decide) ?_
  refine lv_istore_n (lv' := [(1, .int (nI 0)), (0, .ref (h 0))]) hx hb dX3_findAsked_1 rfl hl (by decide) rfl (fun ls hl => ?_)
  have loop : ∀ (n i : Nat), i + n = en → ∀ ls : Array Slot, lv_has ls 2 [(1, .int (nI i)), (0, .ref (h 0))] → W p l e (headSpec wsX3_findAsked ({ frames := 2, cells := 0, slots := 0, locals := 46 })).room s m ([.ref (h 0)]).toArray below meth c s.heap [] 0 0 (MQ below (rd_Q (some (.int (findF (cAsk ones av am vals msks kn) i n)))) ([.ref (h 0)]).toArray s 0 0 (fun _ => False)) (F0 m 2 ls []) := by
    intro n
    induction n with
    | zero =>
      intro i hi ls hl
      refine lv_iload_n hx hb dX3_findAsked_2 rfl (lv_at hl 0 rfl) ?_
      refine lv_aload_n hx hb dX3_findAsked_3 rfl (lv_at hl 1 rfl) ?_
      refine va_get (D := (dC, dI)) (ci := 3) (v := .ref (h 2)) (C := RX3) (T := TX3) (N := 9) hx hb hts inX3 hown hK hP 0 rfl rfl 1 (by decide) (hts _ mw121) (fun _ h9 => h9) rfl dX3_findAsked_4 ?_
      refine va_get (D := (dC, dI)) (ci := 1) (v := .int (nI en)) (C := RX1) (T := TX1) (N := 7) hx hb hts inX1 hown hK hP 2 rfl rfl 6 (by decide) (hts _ mw84) (fun _ h9 => h9) rfl dX3_findAsked_7 ?_
      refine n_ige i en (tgt := 29) (hexec := hx) (hb := hb) dX3_findAsked_10 (by decide) rfl rfl (by omega) (by omega) (fun c10 => ?_) (fun c10 => absurd c10 (by omega))
      refine lv_iconst (v := (-1)) hx hb dX3_findAsked_29 (by decide) ?_
      exact rd_iret hx hb hr hlocks dX3_findAsked_30 rfl (rfl)
    | succ n ih =>
      intro i hi ls hl
      refine lv_iload_n hx hb dX3_findAsked_2 rfl (lv_at hl 0 rfl) ?_
      refine lv_aload_n hx hb dX3_findAsked_3 rfl (lv_at hl 1 rfl) ?_
      refine va_get (D := (dC, dI)) (ci := 3) (v := .ref (h 2)) (C := RX3) (T := TX3) (N := 9) hx hb hts inX3 hown hK hP 0 rfl rfl 1 (by decide) (hts _ mw121) (fun _ h9 => h9) rfl dX3_findAsked_4 ?_
      refine va_get (D := (dC, dI)) (ci := 1) (v := .int (nI en)) (C := RX1) (T := TX1) (N := 7) hx hb hts inX1 hown hK hP 2 rfl rfl 6 (by decide) (hts _ mw84) (fun _ h9 => h9) rfl dX3_findAsked_7 ?_
      refine n_ige i en (tgt := 29) (hexec := hx) (hb := hb) dX3_findAsked_10 (by decide) rfl rfl (by omega) (by omega) (fun c10 => absurd c10 (by omega)) (fun c10 => ?_)
      refine lv_aload_n hx hb dX3_findAsked_13 rfl (lv_at hl 1 rfl) ?_
      refine lv_iload_n hx hb dX3_findAsked_14 rfl (lv_at hl 0 rfl) ?_
      refine rd_calli (r := (bI (cAsk ones av am vals msks kn i))) (va_runV (As := [.int (nI i)]) (rest := []) ⟨hx, hb, hml, hown, hts⟩ (c_X3_isAsked l dC dI cI cL h kinds ones kn av am vals msks pre pri act dat en held bn wy stt made hashed cap lat i hk (by omega)) (cwV 1 hts (gV mw374 mw376 mw5 mw22 mw377) rfl rfl rfl (by decide +kernel) ⟨Nat.le_of_ble_eq_true rfl, Nat.le_of_ble_eq_true rfl⟩) (rd_preV (hP.sub (ws' := [(h 0, .inr (3, [.ref (h 1), .ref (h 2), .ref (h 3), .ref (h 4), .ref (h 5), .int (bI made), .int (bI hashed), .int cap, .long lat])), (h 1, .inr (2, [.ref (h 6), .ref (h 7), .int (nI kn)])), (h 2, .inr (1, [.ref (h 8), .ref (h 9), .ref (h 10), .ref (h 11), .ref (h 12), .ref (h 13), .int (nI en)])), (h 3, .inr (0, [.ref (h 14), .int (nI bn), .int wy, .int stt])), (h 4, .inl (cL, 4, .inr (.inl av))), (h 5, .inl (cL, 4, .inr (.inl am))), (h 6, .inl (cI, 4, .inl kinds)), (h 7, .inl (cL, 4, .inr (.inl ones))), (h 8, .inl (cL, 288, .inr (.inl vals))), (h 9, .inl (cL, 288, .inr (.inl msks))), (h 10, .inl (cI, 72, .inl pre)), (h 11, .inl (cI, 72, .inl pri)), (h 12, .inl (cI, 72, .inl act)), (h 13, .inl (cL, 72, .inr (.inl dat))), (h 14, .inl (cI, 16, .inl held))]) [0, 1, 2, 3, 4, 5, 6, 7, 8, 9, 10, 11, 12, 13, 14] rfl) hK (va_recv (ci := 3) hK hP rfl (q0 := 0) rfl)) rfl rfl hl.1 rfl (lv_room (Nat.le_of_ble_eq_true rfl)) dX3_findAsked_15 ⟨Nat.zero_le _, Nat.zero_le _⟩) ?_
      refine lv_if_eq (tgt := 23) hx hb dX3_findAsked_18 (by decide) (fun c18 => ?_) (fun c18 => ?_)
      · rw [show findF (cAsk ones av am vals msks kn) i (n + 1) = findF (cAsk ones av am vals msks kn) (i + 1) n from findF_f (bI_eq c18)]
        refine lv_iinc (v := nI (i + 1)) (lv' := [(1, .int (nI (i + 1))), (0, .ref (h 0))]) hx hb dX3_findAsked_23 hl (k := 0) rfl (nI_1 i) (by decide) rfl (fun ls hl => ?_)
        refine lv_goto (tgt := 2) hx hb dX3_findAsked_26 (by decide) ?_
        exact ih (i + 1) (by omega) ls (lv_sub hl [0, 1] rfl)
      · refine lv_iload_n hx hb dX3_findAsked_21 rfl (lv_at hl 0 rfl) ?_
        exact rd_iret hx hb hr hlocks dX3_findAsked_22 rfl (by rw [show findF (cAsk ones av am vals msks kn) i (n + 1) = nI i from findF_t (bI_ne c18)])
  exact loop en 0 (by omega) ls (lv_sub hl [0, 1] rfl)

set_option maxHeartbeats 4000000 in
set_option maxRecDepth 100000 in
/-- bucket -/
theorem c_X3_bucket (l : Launch) (dC : Nat → ClassId) (dI : Nat → Nat → Nat) (cI cL : ClassId) (h : Nat → Nat) (kinds : Nat → Int32) (ones : Nat → Int64) (kn : Nat) (av am : Nat → Int64) (vals msks : Nat → Int64) (pre pri act : Nat → Int32) (dat : Nat → Int64) (en : Nat) (held : Nat → Int32) (bn : Nat) (wy stt : Int32) (made hashed : Bool) (cap : Int32) (lat : Int64) (hk : kn ≤ 4) (hbn : bn ≤ 16) : Met l yX3_bucket wsX3_bucket ({ frames := 1, cells := 0, slots := 0, locals := 22 }) (rd_P (dC, dI) vwCl [(cI, .int), (cL, .long)] [(h 0, .inr (3, [.ref (h 1), .ref (h 2), .ref (h 3), .ref (h 4), .ref (h 5), .int (bI made), .int (bI hashed), .int cap, .long lat])), (h 1, .inr (2, [.ref (h 6), .ref (h 7), .int (nI kn)])), (h 2, .inr (1, [.ref (h 8), .ref (h 9), .ref (h 10), .ref (h 11), .ref (h 12), .ref (h 13), .int (nI en)])), (h 3, .inr (0, [.ref (h 14), .int (nI bn), .int wy, .int stt])), (h 4, .inl (cL, 4, .inr (.inl av))), (h 5, .inl (cL, 4, .inr (.inl am))), (h 6, .inl (cI, 4, .inl kinds)), (h 7, .inl (cL, 4, .inr (.inl ones))), (h 8, .inl (cL, 288, .inr (.inl vals))), (h 9, .inl (cL, 288, .inr (.inl msks))), (h 10, .inl (cI, 72, .inl pre)), (h 11, .inl (cI, 72, .inl pri)), (h 12, .inl (cI, 72, .inl act)), (h 13, .inl (cL, 72, .inr (.inl dat))), (h 14, .inl (cI, 16, .inl held))] [.ref (h 0)]) (rd_Q (some (.int (cBucket ones av kn bn hashed)))) 0 0 (fun _ => False) := by
  refine Met.ofW (cc := cX3_bucket) (maxL := 6) (ret := some .int) (by decide) rfl ?_
  intro p e s m args below meth c s₁ B hml hv
  obtain ⟨rfl, hP, hK⟩ := hv
  have hx := B.exec
  have hb := B.bytes
  have hr := B.returns
  have hts := fun w h => atoms_spec (ws := wsX3_bucket) B.pre w (List.mem_cons_of_mem _ h)
  have hown : s.vm.findClass RX3 = some m.cls := findClass_of_methodNamed B.named
  have hlocks := B.notSynchronized
  have hl := lv_entry ([.ref (h 0)]) (n := 6) (Nat.le_of_ble_eq_true rfl)
  rw [lg_entry_eq]
  generalize (lg_sl ([.ref (h 0)]) ++ List.replicate (6 - (lg_sl ([.ref (h 0)])).length) Slot.unset).toArray = ls at hl ⊢
  have hl : lv_has ls 6 [(0, .ref (h 0))] := hl
  refine lv_aload_n hx hb dX3_bucket_0 rfl (lv_at hl 0 rfl) ?_
  refine va_get (D := (dC, dI)) (ci := 3) (v := .int (bI hashed)) (C := RX3) (T := TX3) (N := 9) hx hb hts inX3 hown hK hP 0 rfl rfl 6 (by decide) (hts _ mw126) (fun _ h9 => h9) rfl dX3_bucket_1 ?_
  refine lv_if_ne (tgt := 9) hx hb dX3_bucket_4 (by decide) (fun c4 => ?_) (fun c4 => ?_)
  · refine lv_lconst (v := 0) hx hb dX3_bucket_9 (by decide) ?_
    refine lv_lstore_n (lv' := [(1, .long 0), (0, .ref (h 0))]) hx hb dX3_bucket_10 rfl hl (by decide) rfl (fun ls hl => ?_)
    refine lv_iconst (v := (nI 0)) hx hb dX3_bucket_11 (by decide) ?_
    refine lv_istore_n (lv' := [(3, .int (nI 0)), (1, .long 0), (0, .ref (h 0))]) hx hb dX3_bucket_12 rfl hl (by decide) rfl (fun ls hl => ?_)
    have loop : ∀ (n i : Nat) (x : Int64), i + n = kn → ∀ ls : Array Slot, lv_has ls 6 [(3, .int (nI i)), (1, .long x), (0, .ref (h 0))] → W p l e (headSpec wsX3_bucket ({ frames := 1, cells := 0, slots := 0, locals := 22 })).room s m ([.ref (h 0)]).toArray below meth c s.heap [] 0 0 (MQ below (rd_Q (some (.int (bIndex bn (hMix (hashF (fun k => av k &&& ones k) x i n)))))) ([.ref (h 0)]).toArray s 0 0 (fun _ => False)) (F0 m 13 ls []) := by
      intro n
      induction n with
      | zero =>
        intro i x hi ls hl
        refine lv_iload_n hx hb dX3_bucket_13 rfl (lv_at hl 0 rfl) ?_
        refine lv_aload_n hx hb dX3_bucket_14 rfl (lv_at hl 2 rfl) ?_
        refine va_get (D := (dC, dI)) (ci := 3) (v := .ref (h 1)) (C := RX3) (T := TX3) (N := 9) hx hb hts inX3 hown hK hP 0 rfl rfl 0 (by decide) (hts _ mw120) (fun _ h9 => h9) rfl dX3_bucket_15 ?_
        refine va_get (D := (dC, dI)) (ci := 2) (v := .int (nI kn)) (C := RX2) (T := TX2) (N := 3) hx hb hts inX2 hown hK hP 1 rfl rfl 2 (by decide) (hts _ mw56) (fun _ h9 => h9) rfl dX3_bucket_18 ?_
        refine n_ige i kn (tgt := 69) (hexec := hx) (hb := hb) dX3_bucket_21 (by decide) rfl rfl (by omega) (by omega) (fun c21 => ?_) (fun c21 => absurd c21 (by omega))
        refine lv_aload_n hx hb dX3_bucket_69 rfl (lv_at hl 2 rfl) ?_
        refine va_get (D := (dC, dI)) (ci := 3) (v := .ref (h 3)) (C := RX3) (T := TX3) (N := 9) hx hb hts inX3 hown hK hP 0 rfl rfl 2 (by decide) (hts _ mw122) (fun _ h9 => h9) rfl dX3_bucket_70 ?_
        refine lv_lload_n hx hb dX3_bucket_73 rfl (lv_at hl 1 rfl) ?_
        refine lv_lload_n hx hb dX3_bucket_74 rfl (lv_at hl 1 rfl) ?_
        refine lv_bipush (v := 20) hx hb dX3_bucket_75 (by decide) ?_
        refine lv_lushr (v := ush x 20) hx hb dX3_bucket_77 rfl ?_
        refine lv_lxor hx hb dX3_bucket_78 ?_
        refine lv_lload_n hx hb dX3_bucket_79 rfl (lv_at hl 1 rfl) ?_
        refine lv_bipush (v := 7) hx hb dX3_bucket_80 (by decide) ?_
        refine lv_lushr (v := ush x 7) hx hb dX3_bucket_82 rfl ?_
        refine lv_lxor hx hb dX3_bucket_83 ?_
        refine rd_calli (r := (bIndex bn (hMix x))) (va_runV (As := [.long ((x ^^^ (ush x 20)) ^^^ (ush x 7))]) (rest := []) ⟨hx, hb, hml, hown, hts⟩ (c_X0_indexOf l dC dI cI cL (h 3) (h 14) held bn wy stt (hMix x) hbn) (cwV 1 hts (gV mw171 mw172 mw173 mw25 mw174) rfl rfl rfl (by decide +kernel) ⟨Nat.le_of_ble_eq_true rfl, Nat.le_of_ble_eq_true rfl⟩) (rd_preV (hP.sub (ws' := [(h 3, .inr (0, [.ref (h 14), .int (nI bn), .int wy, .int stt])), (h 14, .inl (cI, 16, .inl held))]) [3, 14] rfl) hK (va_recv (ci := 0) hK hP rfl (q0 := 3) rfl)) rfl rfl hl.1 rfl (lv_room (Nat.le_of_ble_eq_true rfl)) dX3_bucket_84 ⟨Nat.zero_le _, Nat.zero_le _⟩) ?_
        exact rd_iret hx hb hr hlocks dX3_bucket_87 rfl (rfl)
      | succ n ih =>
        intro i x hi ls hl
        refine lv_iload_n hx hb dX3_bucket_13 rfl (lv_at hl 0 rfl) ?_
        refine lv_aload_n hx hb dX3_bucket_14 rfl (lv_at hl 2 rfl) ?_
        refine va_get (D := (dC, dI)) (ci := 3) (v := .ref (h 1)) (C := RX3) (T := TX3) (N := 9) hx hb hts inX3 hown hK hP 0 rfl rfl 0 (by decide) (hts _ mw120) (fun _ h9 => h9) rfl dX3_bucket_15 ?_
        refine va_get (D := (dC, dI)) (ci := 2) (v := .int (nI kn)) (C := RX2) (T := TX2) (N := 3) hx hb hts inX2 hown hK hP 1 rfl rfl 2 (by decide) (hts _ mw56) (fun _ h9 => h9) rfl dX3_bucket_18 ?_
        refine n_ige i kn (tgt := 69) (hexec := hx) (hb := hb) dX3_bucket_21 (by decide) rfl rfl (by omega) (by omega) (fun c21 => absurd c21 (by omega)) (fun c21 => ?_)
        refine lv_aload_n hx hb dX3_bucket_24 rfl (lv_at hl 2 rfl) ?_
        refine va_get (D := (dC, dI)) (ci := 3) (v := .ref (h 4)) (C := RX3) (T := TX3) (N := 9) hx hb hts inX3 hown hK hP 0 rfl rfl 3 (by decide) (hts _ mw123) (fun _ h9 => h9) rfl dX3_bucket_25 ?_
        refine lv_iload_n hx hb dX3_bucket_28 rfl (lv_at hl 0 rfl) ?_
        refine n_lald hx hb hK hP 4 1 rfl rfl (k := i) rfl (by omega) (by omega) dX3_bucket_29 ?_
        refine lv_aload_n hx hb dX3_bucket_30 rfl (lv_at hl 2 rfl) ?_
        refine va_get (D := (dC, dI)) (ci := 3) (v := .ref (h 1)) (C := RX3) (T := TX3) (N := 9) hx hb hts inX3 hown hK hP 0 rfl rfl 0 (by decide) (hts _ mw120) (fun _ h9 => h9) rfl dX3_bucket_31 ?_
        refine va_get (D := (dC, dI)) (ci := 2) (v := .ref (h 7)) (C := RX2) (T := TX2) (N := 3) hx hb hts inX2 hown hK hP 1 rfl rfl 1 (by decide) (hts _ mw54) (fun _ h9 => h9) rfl dX3_bucket_34 ?_
        refine lv_iload_n hx hb dX3_bucket_37 rfl (lv_at hl 0 rfl) ?_
        refine n_lald hx hb hK hP 7 1 rfl rfl (k := i) rfl (by omega) (by omega) dX3_bucket_38 ?_
        refine lv_land hx hb dX3_bucket_39 ?_
        refine lv_lstore (lv' := [(4, .long ((av i) &&& (ones i))), (3, .int (nI i)), (1, .long x), (0, .ref (h 0))]) hx hb dX3_bucket_40 hl (by decide) rfl (fun ls hl => ?_)
        refine lv_ldc2 (v := 31) hx hb hown (hts _ mw170) dX3_bucket_42 ?_
        refine lv_lload_n hx hb dX3_bucket_45 rfl (lv_at hl 2 rfl) ?_
        refine lv_lmul hx hb dX3_bucket_46 ?_
        refine lv_lload hx hb dX3_bucket_47 (lv_at hl 0 rfl) ?_
        refine lv_lload hx hb dX3_bucket_49 (lv_at hl 0 rfl) ?_
        refine lv_bipush (v := 32) hx hb dX3_bucket_51 (by decide) ?_
        refine lv_lushr (v := ush ((av i) &&& (ones i)) 32) hx hb dX3_bucket_53 rfl ?_
        refine lv_lxor hx hb dX3_bucket_54 ?_
        refine lv_lload hx hb dX3_bucket_55 (lv_at hl 0 rfl) ?_
        refine lv_bipush (v := 17) hx hb dX3_bucket_57 (by decide) ?_
        refine lv_lushr (v := ush ((av i) &&& (ones i)) 17) hx hb dX3_bucket_59 rfl ?_
        refine lv_lxor hx hb dX3_bucket_60 ?_
        refine lv_ladd hx hb dX3_bucket_61 ?_
        refine lv_lstore_n (lv' := [(1, .long (hStep x (av i &&& ones i))), (4, .long ((av i) &&& (ones i))), (3, .int (nI i)), (0, .ref (h 0))]) hx hb dX3_bucket_62 rfl hl (by decide) rfl (fun ls hl => ?_)
        refine lv_iinc (v := nI (i + 1)) (lv' := [(3, .int (nI (i + 1))), (1, .long (hStep x (av i &&& ones i))), (4, .long ((av i) &&& (ones i))), (0, .ref (h 0))]) hx hb dX3_bucket_63 hl (k := 2) rfl (nI_1 i) (by decide) rfl (fun ls hl => ?_)
        refine lv_goto (tgt := 13) hx hb dX3_bucket_66 (by decide) ?_
        exact ih (i + 1) _ (by omega) ls (lv_sub hl [0, 1, 3] rfl)
    rw [show cBucket ones av kn bn hashed = bIndex bn (hMix (hashF (fun k => av k &&& ones k) 0 0 kn)) from by unfold cBucket; rw [bI_ne c4]; rfl]
    exact loop kn 0 0 (by omega) ls (lv_sub hl [0, 1, 2] rfl)
  · refine lv_iconst (v := (-1)) hx hb dX3_bucket_7 (by decide) ?_
    exact rd_iret hx hb hr hlocks dX3_bucket_8 rfl (by unfold cBucket; rw [bI_eq c4]; rfl)

set_option maxHeartbeats 4000000 in
set_option maxRecDepth 100000 in
/-- hasRoom -/
theorem c_X3_hasRoom (l : Launch) (dC : Nat → ClassId) (dI : Nat → Nat → Nat) (cI cL : ClassId) (h : Nat → Nat) (kinds : Nat → Int32) (ones : Nat → Int64) (kn : Nat) (av am : Nat → Int64) (vals msks : Nat → Int64) (pre pri act : Nat → Int32) (dat : Nat → Int64) (en : Nat) (held : Nat → Int32) (bn : Nat) (wy stt : Int32) (made hashed : Bool) (cap : Int32) (lat : Int64) (hk : kn ≤ 4) (hbn : bn ≤ 16) : Met l yX3_hasRoom wsX3_hasRoom ({ frames := 3, cells := 0, slots := 0, locals := 59 }) (rd_P (dC, dI) vwCl [(cI, .int), (cL, .long)] [(h 0, .inr (3, [.ref (h 1), .ref (h 2), .ref (h 3), .ref (h 4), .ref (h 5), .int (bI made), .int (bI hashed), .int cap, .long lat])), (h 1, .inr (2, [.ref (h 6), .ref (h 7), .int (nI kn)])), (h 2, .inr (1, [.ref (h 8), .ref (h 9), .ref (h 10), .ref (h 11), .ref (h 12), .ref (h 13), .int (nI en)])), (h 3, .inr (0, [.ref (h 14), .int (nI bn), .int wy, .int stt])), (h 4, .inl (cL, 4, .inr (.inl av))), (h 5, .inl (cL, 4, .inr (.inl am))), (h 6, .inl (cI, 4, .inl kinds)), (h 7, .inl (cL, 4, .inr (.inl ones))), (h 8, .inl (cL, 288, .inr (.inl vals))), (h 9, .inl (cL, 288, .inr (.inl msks))), (h 10, .inl (cI, 72, .inl pre)), (h 11, .inl (cI, 72, .inl pri)), (h 12, .inl (cI, 72, .inl act)), (h 13, .inl (cL, 72, .inr (.inl dat))), (h 14, .inl (cI, 16, .inl held))] [.ref (h 0)]) (rd_Q (some (.int (bI (cRoom ones av kn en held bn wy stt hashed cap))))) 0 0 (fun _ => False) := by
  refine Met.ofW (cc := cX3_hasRoom) (maxL := 1) (ret := some .boolean) (by decide) rfl ?_
  intro p e s m args below meth c s₁ B hml hv
  obtain ⟨rfl, hP, hK⟩ := hv
  have hx := B.exec
  have hb := B.bytes
  have hr := B.returns
  have hts := fun w h => atoms_spec (ws := wsX3_hasRoom) B.pre w (List.mem_cons_of_mem _ h)
  have hown : s.vm.findClass RX3 = some m.cls := findClass_of_methodNamed B.named
  have hlocks := B.notSynchronized
  have hl := lv_entry ([.ref (h 0)]) (n := 1) (Nat.le_of_ble_eq_true rfl)
  rw [lg_entry_eq]
  generalize (lg_sl ([.ref (h 0)]) ++ List.replicate (1 - (lg_sl ([.ref (h 0)])).length) Slot.unset).toArray = ls at hl ⊢
  have hl : lv_has ls 1 [(0, .ref (h 0))] := hl
  refine lv_aload_n hx hb dX3_hasRoom_0 rfl (lv_at hl 0 rfl) ?_
  refine va_get (D := (dC, dI)) (ci := 3) (v := .ref (h 2)) (C := RX3) (T := TX3) (N := 9) hx hb hts inX3 hown hK hP 0 rfl rfl 1 (by decide) (hts _ mw121) (fun _ h9 => h9) rfl dX3_hasRoom_1 ?_
  refine va_get (D := (dC, dI)) (ci := 1) (v := .int (nI en)) (C := RX1) (T := TX1) (N := 7) hx hb hts inX1 hown hK hP 2 rfl rfl 6 (by decide) (hts _ mw84) (fun _ h9 => h9) rfl dX3_hasRoom_4 ?_
  refine lv_aload_n hx hb dX3_hasRoom_7 rfl (lv_at hl 0 rfl) ?_
  refine va_get (D := (dC, dI)) (ci := 3) (v := .int cap) (C := RX3) (T := TX3) (N := 9) hx hb hts inX3 hown hK hP 0 rfl rfl 7 (by decide) (hts _ mw127) (fun _ h9 => h9) rfl dX3_hasRoom_8 ?_
  refine lv_icmp_ge (tgt := 39) hx hb dX3_hasRoom_11 (by decide) (fun c11 => ?_) (fun c11 => ?_)
  · refine lv_iconst (v := 0) hx hb dX3_hasRoom_39 (by decide) ?_
    exact rd_iret hx hb hr hlocks dX3_hasRoom_40 rfl (by unfold cRoom; rw [decide_eq_false (Int32.not_lt.mpr c11)]; rfl)
  · refine lv_aload_n hx hb dX3_hasRoom_14 rfl (lv_at hl 0 rfl) ?_
    refine va_get (D := (dC, dI)) (ci := 3) (v := .int (bI hashed)) (C := RX3) (T := TX3) (N := 9) hx hb hts inX3 hown hK hP 0 rfl rfl 6 (by decide) (hts _ mw126) (fun _ h9 => h9) rfl dX3_hasRoom_15 ?_
    refine lv_if_eq (tgt := 35) hx hb dX3_hasRoom_18 (by decide) (fun c18 => ?_) (fun c18 => ?_)
    · refine lv_iconst (v := 1) hx hb dX3_hasRoom_35 (by decide) ?_
      refine lv_goto (tgt := 40) hx hb dX3_hasRoom_36 (by decide) ?_
      exact rd_iret hx hb hr hlocks dX3_hasRoom_40 rfl (by unfold cRoom; rw [decide_eq_true (Int32.not_le.mp c11), bI_eq c18]; rfl)
    · refine lv_aload_n hx hb dX3_hasRoom_21 rfl (lv_at hl 0 rfl) ?_
      refine va_get (D := (dC, dI)) (ci := 3) (v := .ref (h 3)) (C := RX3) (T := TX3) (N := 9) hx hb hts inX3 hown hK hP 0 rfl rfl 2 (by decide) (hts _ mw122) (fun _ h9 => h9) rfl dX3_hasRoom_22 ?_
      refine lv_aload_n hx hb dX3_hasRoom_25 rfl (lv_at hl 0 rfl) ?_
      refine rd_calli (r := (cBucket ones av kn bn hashed)) (va_runV (As := []) (rest := [.ref (h 3)]) ⟨hx, hb, hml, hown, hts⟩ (c_X3_bucket l dC dI cI cL h kinds ones kn av am vals msks pre pri act dat en held bn wy stt made hashed cap lat hk hbn) (cwV 0 hts (gV mw385 mw167 mw168 mw22 mw169) rfl rfl rfl (by decide +kernel) ⟨Nat.le_of_ble_eq_true rfl, Nat.le_of_ble_eq_true rfl⟩) (rd_preV (hP.sub (ws' := [(h 0, .inr (3, [.ref (h 1), .ref (h 2), .ref (h 3), .ref (h 4), .ref (h 5), .int (bI made), .int (bI hashed), .int cap, .long lat])), (h 1, .inr (2, [.ref (h 6), .ref (h 7), .int (nI kn)])), (h 2, .inr (1, [.ref (h 8), .ref (h 9), .ref (h 10), .ref (h 11), .ref (h 12), .ref (h 13), .int (nI en)])), (h 3, .inr (0, [.ref (h 14), .int (nI bn), .int wy, .int stt])), (h 4, .inl (cL, 4, .inr (.inl av))), (h 5, .inl (cL, 4, .inr (.inl am))), (h 6, .inl (cI, 4, .inl kinds)), (h 7, .inl (cL, 4, .inr (.inl ones))), (h 8, .inl (cL, 288, .inr (.inl vals))), (h 9, .inl (cL, 288, .inr (.inl msks))), (h 10, .inl (cI, 72, .inl pre)), (h 11, .inl (cI, 72, .inl pri)), (h 12, .inl (cI, 72, .inl act)), (h 13, .inl (cL, 72, .inr (.inl dat))), (h 14, .inl (cI, 16, .inl held))]) [0, 1, 2, 3, 4, 5, 6, 7, 8, 9, 10, 11, 12, 13, 14] rfl) hK (va_recv (ci := 3) hK hP rfl (q0 := 0) rfl)) rfl rfl hl.1 rfl (lv_room (Nat.le_of_ble_eq_true rfl)) dX3_hasRoom_26 ⟨Nat.zero_le _, Nat.zero_le _⟩) ?_
      refine rd_calli (r := (bI (bRoom held bn wy stt (cBucket ones av kn bn hashed)))) (va_runV (As := [.int (cBucket ones av kn bn hashed)]) (rest := []) ⟨hx, hb, hml, hown, hts⟩ (c_X0_haveRoom l dC dI cI cL (h 3) (h 14) held bn wy stt (cBucket ones av kn bn hashed) hbn) (cwV 1 hts (gV mw386 mw387 mw388 mw25 mw389) rfl rfl rfl (by decide +kernel) ⟨Nat.le_of_ble_eq_true rfl, Nat.le_of_ble_eq_true rfl⟩) (rd_preV (hP.sub (ws' := [(h 3, .inr (0, [.ref (h 14), .int (nI bn), .int wy, .int stt])), (h 14, .inl (cI, 16, .inl held))]) [3, 14] rfl) hK (va_recv (ci := 0) hK hP rfl (q0 := 3) rfl)) rfl rfl hl.1 rfl (lv_room (Nat.le_of_ble_eq_true rfl)) dX3_hasRoom_29 ⟨Nat.zero_le _, Nat.zero_le _⟩) ?_
      refine lv_if_eq (tgt := 39) hx hb dX3_hasRoom_32 (by decide) (fun c32 => ?_) (fun c32 => ?_)
      · refine lv_iconst (v := 0) hx hb dX3_hasRoom_39 (by decide) ?_
        exact rd_iret hx hb hr hlocks dX3_hasRoom_40 rfl (by unfold cRoom; rw [bI_eq c32, bI_ne c18, decide_eq_true (Int32.not_le.mp c11)]; rfl)
      · refine lv_iconst (v := 1) hx hb dX3_hasRoom_35 (by decide) ?_
        refine lv_goto (tgt := 40) hx hb dX3_hasRoom_36 (by decide) ?_
        exact rd_iret hx hb hr hlocks dX3_hasRoom_40 rfl (by unfold cRoom; rw [bI_ne c32, decide_eq_true (Int32.not_le.mp c11), Bool.or_true]; rfl)
