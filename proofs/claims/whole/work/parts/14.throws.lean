/-! throws -/
set_option maxHeartbeats 4000000 in
set_option maxRecDepth 100000 in
/-- no table is made -/
theorem x_X3_requireTable (l : Launch) (hl9 : l.stackTraces = false) (dC : Nat → ClassId) (dI : Nat → Nat → Nat) (cI cL : ClassId) (h : Nat → Nat) (kinds : Nat → Int32) (ones : Nat → Int64) (kn : Nat) (av am : Nat → Int64) (vals msks : Nat → Int64) (pre pri act : Nat → Int32) (dat : Nat → Int64) (en : Nat) (held : Nat → Int32) (bn : Nat) (wy stt : Int32) (made hashed : Bool) (cap : Int32) (lat : Int64) (hm : made = false) : vx_Met l yX3_requireTable wsX3_requireTable ({ frames := 6, cells := 1, slots := 6, locals := 82 }) (xP (dC, dI) vwCl [(cI, .int), (cL, .long)] [(h 0, .inr (3, [.ref (h 1), .ref (h 2), .ref (h 3), .ref (h 4), .ref (h 5), .int (bI made), .int (bI hashed), .int cap, .long lat])), (h 1, .inr (2, [.ref (h 6), .ref (h 7), .int (nI kn)])), (h 2, .inr (1, [.ref (h 8), .ref (h 9), .ref (h 10), .ref (h 11), .ref (h 12), .ref (h 13), .int (nI en)])), (h 3, .inr (0, [.ref (h 14), .int (nI bn), .int wy, .int stt])), (h 4, .inl (cL, 4, .inr (.inl av))), (h 5, .inl (cL, 4, .inr (.inl am))), (h 6, .inl (cI, 4, .inl kinds)), (h 7, .inl (cL, 4, .inr (.inl ones))), (h 8, .inl (cL, 288, .inr (.inl vals))), (h 9, .inl (cL, 288, .inr (.inl msks))), (h 10, .inl (cI, 72, .inl pre)), (h 11, .inl (cI, 72, .inl pri)), (h 12, .inl (cI, 72, .inl act)), (h 13, .inl (cL, 72, .inr (.inl dat))), (h 14, .inl (cI, 16, .inl held))] [.ref (h 0)]) xQ (xT "java/lang/IllegalStateException") 1 6 (fun _ => False) := by
  refine vx_ofW (cc := cX3_requireTable) (maxL := 1) (ret := none) (by decide) rfl ?_
  intro p e s m args below meth c s₁ B hml hTb hv
  obtain ⟨rfl, hP, hK, hX⟩ := hv
  have hx := B.exec
  have hb := B.bytes
  have hr := B.returns
  have hts := fun w h => atoms_spec (ws := wsX3_requireTable) B.pre w (List.mem_cons_of_mem _ h)
  have hown : s.vm.findClass RX3 = some m.cls := findClass_of_methodNamed B.named
  have hlocks := B.notSynchronized
  have hl := lv_entry ([.ref (h 0)]) (n := 1) (Nat.le_of_ble_eq_true rfl)
  rw [lg_entry_eq]
  generalize (lg_sl ([.ref (h 0)]) ++ List.replicate (1 - (lg_sl ([.ref (h 0)])).length) Slot.unset).toArray = ls at hl ⊢
  have hl : lv_has ls 1 [(0, .ref (h 0))] := hl
  refine lv_aload_n hx hb dX3_requireTable_0 rfl (lv_at hl 0 rfl) ?_
  refine va_get (D := (dC, dI)) (ci := 3) (v := .int (bI made)) (C := RX3) (T := TX3) (N := 9) hx hb hts inX3 hown hK hP 0 rfl rfl 5 (by decide) (hts _ mw125) (fun _ h9 => h9) rfl dX3_requireTable_1 ?_
  refine lv_if_ne (tgt := 17) hx hb dX3_requireTable_4 (by decide) (fun c4 => absurd (by rw [hm]; rfl) c4) (fun c4 => ?_)
  exact x_thr_ISE hx hb hl9 hown hts hX hX.s166 (hl.1.trans hml.symm) dX3_requireTable_7 dX3_requireTable_10 dX3_requireTable_11 dX3_requireTable_13 dX3_requireTable_16 hTb (Nat.le_of_ble_eq_true rfl) (Nat.le_of_ble_eq_true rfl) (Nat.le_refl _) (Nat.le_refl _) hlocks

set_option maxHeartbeats 4000000 in
set_option maxRecDepth 100000 in
/-- key: no such width or kind -/
theorem x_X3_key_1 (l : Launch) (hl9 : l.stackTraces = false) (dC : Nat → ClassId) (dI : Nat → Nat → Nat) (cI cL : ClassId) (h : Nat → Nat) (kinds : Nat → Int32) (ones : Nat → Int64) (kn : Nat) (av am : Nat → Int64) (vals msks : Nat → Int64) (pre pri act : Nat → Int32) (dat : Nat → Int64) (en : Nat) (held : Nat → Int32) (bn : Nat) (wy stt : Int32) (made hashed : Bool) (cap : Int32) (lat : Int64) (w kind : Int32) (h1 : w < 1 ∨ 64 < w ∨ kind < 0 ∨ 2 < kind) : vx_Met l yX3_key wsX3_key ({ frames := 7, cells := 1, slots := 6, locals := 110 }) (xP (dC, dI) vwCl [(cI, .int), (cL, .long)] [(h 0, .inr (3, [.ref (h 1), .ref (h 2), .ref (h 3), .ref (h 4), .ref (h 5), .int (bI made), .int (bI hashed), .int cap, .long lat])), (h 1, .inr (2, [.ref (h 6), .ref (h 7), .int (nI kn)])), (h 2, .inr (1, [.ref (h 8), .ref (h 9), .ref (h 10), .ref (h 11), .ref (h 12), .ref (h 13), .int (nI en)])), (h 3, .inr (0, [.ref (h 14), .int (nI bn), .int wy, .int stt])), (h 4, .inl (cL, 4, .inr (.inl av))), (h 5, .inl (cL, 4, .inr (.inl am))), (h 6, .inl (cI, 4, .inl kinds)), (h 7, .inl (cL, 4, .inr (.inl ones))), (h 8, .inl (cL, 288, .inr (.inl vals))), (h 9, .inl (cL, 288, .inr (.inl msks))), (h 10, .inl (cI, 72, .inl pre)), (h 11, .inl (cI, 72, .inl pri)), (h 12, .inl (cI, 72, .inl act)), (h 13, .inl (cL, 72, .inr (.inl dat))), (h 14, .inl (cI, 16, .inl held))] [.ref (h 0), .int w, .int kind]) xQ (xT "java/lang/IllegalArgumentException") 1 6 (fun _ => False) := by
  refine vx_ofW (cc := cX3_key) (maxL := 3) (ret := some .int) (by decide) rfl ?_
  intro p e s m args below meth c s₁ B hml hTb hv
  obtain ⟨rfl, hP, hK, hX⟩ := hv
  have hx := B.exec
  have hb := B.bytes
  have hr := B.returns
  have hts := fun w h => atoms_spec (ws := wsX3_key) B.pre w (List.mem_cons_of_mem _ h)
  have hown : s.vm.findClass RX3 = some m.cls := findClass_of_methodNamed B.named
  have hlocks := B.notSynchronized
  have hl := lv_entry ([.ref (h 0), .int w, .int kind]) (n := 3) (Nat.le_of_ble_eq_true rfl)
  rw [lg_entry_eq]
  generalize (lg_sl ([.ref (h 0), .int w, .int kind]) ++ List.replicate (3 - (lg_sl ([.ref (h 0), .int w, .int kind])).length) Slot.unset).toArray = ls at hl ⊢
  have hl : lv_has ls 3 [(0, .ref (h 0)), (1, .int w), (2, .int kind)] := hl
  refine lv_iload_n hx hb dX3_key_0 rfl (lv_at hl 1 rfl) ?_
  refine lv_iconst (v := 1) hx hb dX3_key_1 (by decide) ?_
  refine lv_icmp_lt (tgt := 20) hx hb dX3_key_2 (by decide) (fun c2 => ?_) (fun c2 => ?_)
  · exact x_thr_IAE hx hb hl9 hown hts hX hX.s68 (hl.1.trans hml.symm) dX3_key_20 dX3_key_23 dX3_key_24 dX3_key_26 dX3_key_29 hTb (Nat.le_of_ble_eq_true rfl) (Nat.le_of_ble_eq_true rfl) (Nat.le_refl _) (Nat.le_refl _) hlocks
  · refine lv_iload_n hx hb dX3_key_5 rfl (lv_at hl 1 rfl) ?_
    refine lv_bipush (v := 64) hx hb dX3_key_6 (by decide) ?_
    refine lv_icmp_gt (tgt := 20) hx hb dX3_key_8 (by decide) (fun c8 => ?_) (fun c8 => ?_)
    · exact x_thr_IAE hx hb hl9 hown hts hX hX.s68 (hl.1.trans hml.symm) dX3_key_20 dX3_key_23 dX3_key_24 dX3_key_26 dX3_key_29 hTb (Nat.le_of_ble_eq_true rfl) (Nat.le_of_ble_eq_true rfl) (Nat.le_refl _) (Nat.le_refl _) hlocks
    · refine lv_iload_n hx hb dX3_key_11 rfl (lv_at hl 2 rfl) ?_
      refine lv_if_lt (tgt := 20) hx hb dX3_key_12 (by decide) (fun c12 => ?_) (fun c12 => ?_)
      · exact x_thr_IAE hx hb hl9 hown hts hX hX.s68 (hl.1.trans hml.symm) dX3_key_20 dX3_key_23 dX3_key_24 dX3_key_26 dX3_key_29 hTb (Nat.le_of_ble_eq_true rfl) (Nat.le_of_ble_eq_true rfl) (Nat.le_refl _) (Nat.le_refl _) hlocks
      · refine lv_iload_n hx hb dX3_key_15 rfl (lv_at hl 2 rfl) ?_
        refine lv_iconst (v := 2) hx hb dX3_key_16 (by decide) ?_
        refine lv_icmp_le (tgt := 30) hx hb dX3_key_17 (by decide) (fun c17 => ?_) (fun c17 => ?_)
        · exact absurd h1 (fun z => z.elim c2 (fun z => z.elim c8 (fun z => z.elim c12 (fun z => absurd c17 (Int32.not_le.mpr z)))))
        · exact x_thr_IAE hx hb hl9 hown hts hX hX.s68 (hl.1.trans hml.symm) dX3_key_20 dX3_key_23 dX3_key_24 dX3_key_26 dX3_key_29 hTb (Nat.le_of_ble_eq_true rfl) (Nat.le_of_ble_eq_true rfl) (Nat.le_refl _) (Nat.le_refl _) hlocks

set_option maxHeartbeats 4000000 in
set_option maxRecDepth 100000 in
/-- key: made, or four keys -/
theorem x_X3_key_2 (l : Launch) (hl9 : l.stackTraces = false) (dC : Nat → ClassId) (dI : Nat → Nat → Nat) (cI cL : ClassId) (h : Nat → Nat) (kinds : Nat → Int32) (ones : Nat → Int64) (kn : Nat) (av am : Nat → Int64) (vals msks : Nat → Int64) (pre pri act : Nat → Int32) (dat : Nat → Int64) (en : Nat) (held : Nat → Int32) (bn : Nat) (wy stt : Int32) (made hashed : Bool) (cap : Int32) (lat : Int64) (w kind : Int32) (h1 : ¬ w < 1) (h2 : ¬ 64 < w) (h3 : ¬ kind < 0) (h4 : kind ≤ 2) (h5 : made = true ∨ nI 4 ≤ nI kn) : vx_Met l yX3_key wsX3_key ({ frames := 7, cells := 1, slots := 6, locals := 110 }) (xP (dC, dI) vwCl [(cI, .int), (cL, .long)] [(h 0, .inr (3, [.ref (h 1), .ref (h 2), .ref (h 3), .ref (h 4), .ref (h 5), .int (bI made), .int (bI hashed), .int cap, .long lat])), (h 1, .inr (2, [.ref (h 6), .ref (h 7), .int (nI kn)])), (h 2, .inr (1, [.ref (h 8), .ref (h 9), .ref (h 10), .ref (h 11), .ref (h 12), .ref (h 13), .int (nI en)])), (h 3, .inr (0, [.ref (h 14), .int (nI bn), .int wy, .int stt])), (h 4, .inl (cL, 4, .inr (.inl av))), (h 5, .inl (cL, 4, .inr (.inl am))), (h 6, .inl (cI, 4, .inl kinds)), (h 7, .inl (cL, 4, .inr (.inl ones))), (h 8, .inl (cL, 288, .inr (.inl vals))), (h 9, .inl (cL, 288, .inr (.inl msks))), (h 10, .inl (cI, 72, .inl pre)), (h 11, .inl (cI, 72, .inl pri)), (h 12, .inl (cI, 72, .inl act)), (h 13, .inl (cL, 72, .inr (.inl dat))), (h 14, .inl (cI, 16, .inl held))] [.ref (h 0), .int w, .int kind]) xQ (xT "java/lang/IllegalStateException") 1 6 (fun _ => False) := by
  refine vx_ofW (cc := cX3_key) (maxL := 3) (ret := some .int) (by decide) rfl ?_
  intro p e s m args below meth c s₁ B hml hTb hv
  obtain ⟨rfl, hP, hK, hX⟩ := hv
  have hx := B.exec
  have hb := B.bytes
  have hr := B.returns
  have hts := fun w h => atoms_spec (ws := wsX3_key) B.pre w (List.mem_cons_of_mem _ h)
  have hown : s.vm.findClass RX3 = some m.cls := findClass_of_methodNamed B.named
  have hlocks := B.notSynchronized
  have hl := lv_entry ([.ref (h 0), .int w, .int kind]) (n := 3) (Nat.le_of_ble_eq_true rfl)
  rw [lg_entry_eq]
  generalize (lg_sl ([.ref (h 0), .int w, .int kind]) ++ List.replicate (3 - (lg_sl ([.ref (h 0), .int w, .int kind])).length) Slot.unset).toArray = ls at hl ⊢
  have hl : lv_has ls 3 [(0, .ref (h 0)), (1, .int w), (2, .int kind)] := hl
  refine lv_iload_n hx hb dX3_key_0 rfl (lv_at hl 1 rfl) ?_
  refine lv_iconst (v := 1) hx hb dX3_key_1 (by decide) ?_
  refine lv_icmp_lt (tgt := 20) hx hb dX3_key_2 (by decide) (fun c2 => absurd c2 h1) (fun c2 => ?_)
  refine lv_iload_n hx hb dX3_key_5 rfl (lv_at hl 1 rfl) ?_
  refine lv_bipush (v := 64) hx hb dX3_key_6 (by decide) ?_
  refine lv_icmp_gt (tgt := 20) hx hb dX3_key_8 (by decide) (fun c8 => absurd c8 h2) (fun c8 => ?_)
  refine lv_iload_n hx hb dX3_key_11 rfl (lv_at hl 2 rfl) ?_
  refine lv_if_lt (tgt := 20) hx hb dX3_key_12 (by decide) (fun c12 => absurd c12 h3) (fun c12 => ?_)
  refine lv_iload_n hx hb dX3_key_15 rfl (lv_at hl 2 rfl) ?_
  refine lv_iconst (v := 2) hx hb dX3_key_16 (by decide) ?_
  refine lv_icmp_le (tgt := 30) hx hb dX3_key_17 (by decide) (fun c17 => ?_) (fun c17 => absurd h4 c17)
  refine lv_aload_n hx hb dX3_key_30 rfl (lv_at hl 0 rfl) ?_
  refine va_get (D := (dC, dI)) (ci := 3) (v := .int (bI made)) (C := RX3) (T := TX3) (N := 9) hx hb hts inX3 hown hK hP 0 rfl rfl 5 (by decide) (hts _ mw125) (fun _ h9 => h9) rfl dX3_key_31 ?_
  refine lv_if_ne (tgt := 48) hx hb dX3_key_34 (by decide) (fun c34 => ?_) (fun c34 => ?_)
  · exact x_thr_ISE hx hb hl9 hown hts hX hX.s75 (hl.1.trans hml.symm) dX3_key_48 dX3_key_51 dX3_key_52 dX3_key_54 dX3_key_57 hTb (Nat.le_of_ble_eq_true rfl) (Nat.le_of_ble_eq_true rfl) (Nat.le_refl _) (Nat.le_refl _) hlocks
  · refine lv_aload_n hx hb dX3_key_37 rfl (lv_at hl 0 rfl) ?_
    refine va_get (D := (dC, dI)) (ci := 3) (v := .ref (h 1)) (C := RX3) (T := TX3) (N := 9) hx hb hts inX3 hown hK hP 0 rfl rfl 0 (by decide) (hts _ mw120) (fun _ h9 => h9) rfl dX3_key_38 ?_
    refine va_get (D := (dC, dI)) (ci := 2) (v := .int (nI kn)) (C := RX2) (T := TX2) (N := 3) hx hb hts inX2 hown hK hP 1 rfl rfl 2 (by decide) (hts _ mw56) (fun _ h9 => h9) rfl dX3_key_41 ?_
    refine lv_iconst (v := 4) hx hb dX3_key_44 (by decide) ?_
    refine lv_icmp_lt (tgt := 58) hx hb dX3_key_45 (by decide) (fun c45 => ?_) (fun c45 => ?_)
    · exact absurd h5 (fun z => z.elim (fun z => absurd c34 (by rw [z]; decide)) (fun z => absurd c45 (Int32.not_lt.mpr z)))
    · exact x_thr_ISE hx hb hl9 hown hts hX hX.s75 (hl.1.trans hml.symm) dX3_key_48 dX3_key_51 dX3_key_52 dX3_key_54 dX3_key_57 hTb (Nat.le_of_ble_eq_true rfl) (Nat.le_of_ble_eq_true rfl) (Nat.le_refl _) (Nat.le_refl _) hlocks

set_option maxHeartbeats 4000000 in
set_option maxRecDepth 100000 in
/-- key: a kind that may not be -/
theorem x_X3_key_3 (l : Launch) (hl9 : l.stackTraces = false) (dC : Nat → ClassId) (dI : Nat → Nat → Nat) (cI cL : ClassId) (h : Nat → Nat) (kinds : Nat → Int32) (ones : Nat → Int64) (kn : Nat) (av am : Nat → Int64) (vals msks : Nat → Int64) (pre pri act : Nat → Int32) (dat : Nat → Int64) (en : Nat) (held : Nat → Int32) (bn : Nat) (wy stt : Int32) (made hashed : Bool) (cap : Int32) (lat : Int64) (w kind : Int32) (h1 : ¬ w < 1) (h2 : ¬ 64 < w) (h3 : ¬ kind < 0) (h4 : kind ≤ 2) (hm : made = false) (hk : kn < 4) (h5 : kAllow kinds kn kind = false) : vx_Met l yX3_key wsX3_key ({ frames := 7, cells := 1, slots := 6, locals := 110 }) (xP (dC, dI) vwCl [(cI, .int), (cL, .long)] [(h 0, .inr (3, [.ref (h 1), .ref (h 2), .ref (h 3), .ref (h 4), .ref (h 5), .int (bI made), .int (bI hashed), .int cap, .long lat])), (h 1, .inr (2, [.ref (h 6), .ref (h 7), .int (nI kn)])), (h 2, .inr (1, [.ref (h 8), .ref (h 9), .ref (h 10), .ref (h 11), .ref (h 12), .ref (h 13), .int (nI en)])), (h 3, .inr (0, [.ref (h 14), .int (nI bn), .int wy, .int stt])), (h 4, .inl (cL, 4, .inr (.inl av))), (h 5, .inl (cL, 4, .inr (.inl am))), (h 6, .inl (cI, 4, .inl kinds)), (h 7, .inl (cL, 4, .inr (.inl ones))), (h 8, .inl (cL, 288, .inr (.inl vals))), (h 9, .inl (cL, 288, .inr (.inl msks))), (h 10, .inl (cI, 72, .inl pre)), (h 11, .inl (cI, 72, .inl pri)), (h 12, .inl (cI, 72, .inl act)), (h 13, .inl (cL, 72, .inr (.inl dat))), (h 14, .inl (cI, 16, .inl held))] [.ref (h 0), .int w, .int kind]) xQ (xT "java/lang/IllegalArgumentException") 1 6 (fun _ => False) := by
  refine vx_ofW (cc := cX3_key) (maxL := 3) (ret := some .int) (by decide) rfl ?_
  intro p e s m args below meth c s₁ B hml hTb hv
  obtain ⟨rfl, hP, hK, hX⟩ := hv
  have hx := B.exec
  have hb := B.bytes
  have hr := B.returns
  have hts := fun w h => atoms_spec (ws := wsX3_key) B.pre w (List.mem_cons_of_mem _ h)
  have hown : s.vm.findClass RX3 = some m.cls := findClass_of_methodNamed B.named
  have hlocks := B.notSynchronized
  have hl := lv_entry ([.ref (h 0), .int w, .int kind]) (n := 3) (Nat.le_of_ble_eq_true rfl)
  rw [lg_entry_eq]
  generalize (lg_sl ([.ref (h 0), .int w, .int kind]) ++ List.replicate (3 - (lg_sl ([.ref (h 0), .int w, .int kind])).length) Slot.unset).toArray = ls at hl ⊢
  have hl : lv_has ls 3 [(0, .ref (h 0)), (1, .int w), (2, .int kind)] := hl
  refine lv_iload_n hx hb dX3_key_0 rfl (lv_at hl 1 rfl) ?_
  refine lv_iconst (v := 1) hx hb dX3_key_1 (by decide) ?_
  refine lv_icmp_lt (tgt := 20) hx hb dX3_key_2 (by decide) (fun c2 => absurd c2 h1) (fun c2 => ?_)
  refine lv_iload_n hx hb dX3_key_5 rfl (lv_at hl 1 rfl) ?_
  refine lv_bipush (v := 64) hx hb dX3_key_6 (by decide) ?_
  refine lv_icmp_gt (tgt := 20) hx hb dX3_key_8 (by decide) (fun c8 => absurd c8 h2) (fun c8 => ?_)
  refine lv_iload_n hx hb dX3_key_11 rfl (lv_at hl 2 rfl) ?_
  refine lv_if_lt (tgt := 20) hx hb dX3_key_12 (by decide) (fun c12 => absurd c12 h3) (fun c12 => ?_)
  refine lv_iload_n hx hb dX3_key_15 rfl (lv_at hl 2 rfl) ?_
  refine lv_iconst (v := 2) hx hb dX3_key_16 (by decide) ?_
  refine lv_icmp_le (tgt := 30) hx hb dX3_key_17 (by decide) (fun c17 => ?_) (fun c17 => absurd h4 c17)
  refine lv_aload_n hx hb dX3_key_30 rfl (lv_at hl 0 rfl) ?_
  refine va_get (D := (dC, dI)) (ci := 3) (v := .int (bI made)) (C := RX3) (T := TX3) (N := 9) hx hb hts inX3 hown hK hP 0 rfl rfl 5 (by decide) (hts _ mw125) (fun _ h9 => h9) rfl dX3_key_31 ?_
  refine lv_if_ne (tgt := 48) hx hb dX3_key_34 (by decide) (fun c34 => absurd (by rw [hm]; rfl) c34) (fun c34 => ?_)
  refine lv_aload_n hx hb dX3_key_37 rfl (lv_at hl 0 rfl) ?_
  refine va_get (D := (dC, dI)) (ci := 3) (v := .ref (h 1)) (C := RX3) (T := TX3) (N := 9) hx hb hts inX3 hown hK hP 0 rfl rfl 0 (by decide) (hts _ mw120) (fun _ h9 => h9) rfl dX3_key_38 ?_
  refine va_get (D := (dC, dI)) (ci := 2) (v := .int (nI kn)) (C := RX2) (T := TX2) (N := 3) hx hb hts inX2 hown hK hP 1 rfl rfl 2 (by decide) (hts _ mw56) (fun _ h9 => h9) rfl dX3_key_41 ?_
  refine lv_iconst (v := 4) hx hb dX3_key_44 (by decide) ?_
  refine lv_icmp_lt (tgt := 58) hx hb dX3_key_45 (by decide) (fun c45 => ?_) (fun c45 => absurd ((nI_ltI (by omega) (by decide)).mpr hk : nI kn < nI 4) c45)
  refine lv_aload_n hx hb dX3_key_58 rfl (lv_at hl 0 rfl) ?_
  refine va_get (D := (dC, dI)) (ci := 3) (v := .ref (h 1)) (C := RX3) (T := TX3) (N := 9) hx hb hts inX3 hown hK hP 0 rfl rfl 0 (by decide) (hts _ mw120) (fun _ h9 => h9) rfl dX3_key_59 ?_
  refine lv_iload_n hx hb dX3_key_62 rfl (lv_at hl 2 rfl) ?_
  refine rd_calli (r := (bI (kAllow kinds kn kind))) (va_runV (As := [.int kind]) (rest := []) ⟨hx, hb, hml, hown, hts⟩ (c_X2_allow l dC dI cI cL (h 1) (h 6) (h 7) kinds ones kn kind (by omega)) (cwV 1 hts (gV mw279 mw280 mw281 mw23 mw282) rfl rfl rfl (by decide +kernel) ⟨Nat.le_of_ble_eq_true rfl, Nat.le_of_ble_eq_true rfl⟩) (rd_preV (hP.sub (ws' := [(h 1, .inr (2, [.ref (h 6), .ref (h 7), .int (nI kn)])), (h 6, .inl (cI, 4, .inl kinds)), (h 7, .inl (cL, 4, .inr (.inl ones)))]) [1, 6, 7] rfl) hK (va_recv (ci := 2) hK hP rfl (q0 := 1) rfl)) rfl rfl hl.1 rfl (lv_room (Nat.le_of_ble_eq_true rfl)) dX3_key_63 ⟨Nat.zero_le _, Nat.zero_le _⟩) ?_
  refine lv_if_ne (tgt := 79) hx hb dX3_key_66 (by decide) (fun c66 => absurd (by rw [h5]; rfl) c66) (fun c66 => ?_)
  exact x_thr_IAE hx hb hl9 hown hts hX hX.s82 (hl.1.trans hml.symm) dX3_key_69 dX3_key_72 dX3_key_73 dX3_key_75 dX3_key_78 hTb (Nat.le_of_ble_eq_true rfl) (Nat.le_of_ble_eq_true rfl) (Nat.le_refl _) (Nat.le_refl _) hlocks

set_option maxHeartbeats 4000000 in
set_option maxRecDepth 100000 in
/-- make: made, or no key -/
theorem x_X3_make_2 (l : Launch) (hl9 : l.stackTraces = false) (dC : Nat → ClassId) (dI : Nat → Nat → Nat) (cI cL : ClassId) (h : Nat → Nat) (kinds : Nat → Int32) (ones : Nat → Int64) (kn : Nat) (av am : Nat → Int64) (vals msks : Nat → Int64) (pre pri act : Nat → Int32) (dat : Nat → Int64) (en : Nat) (held : Nat → Int32) (bn : Nat) (wy stt : Int32) (made hashed : Bool) (cap : Int32) (lat : Int64) (n w t : Int32) (h1 : made = true ∨ kn = 0) : vx_Met l yX3_make wsX3_make ({ frames := 7, cells := 1, slots := 6, locals := 110 }) (xP (dC, dI) vwCl [(cI, .int), (cL, .long)] [(h 0, .inr (3, [.ref (h 1), .ref (h 2), .ref (h 3), .ref (h 4), .ref (h 5), .int (bI made), .int (bI hashed), .int cap, .long lat])), (h 1, .inr (2, [.ref (h 6), .ref (h 7), .int (nI kn)])), (h 2, .inr (1, [.ref (h 8), .ref (h 9), .ref (h 10), .ref (h 11), .ref (h 12), .ref (h 13), .int (nI en)])), (h 3, .inr (0, [.ref (h 14), .int (nI bn), .int wy, .int stt])), (h 4, .inl (cL, 4, .inr (.inl av))), (h 5, .inl (cL, 4, .inr (.inl am))), (h 6, .inl (cI, 4, .inl kinds)), (h 7, .inl (cL, 4, .inr (.inl ones))), (h 8, .inl (cL, 288, .inr (.inl vals))), (h 9, .inl (cL, 288, .inr (.inl msks))), (h 10, .inl (cI, 72, .inl pre)), (h 11, .inl (cI, 72, .inl pri)), (h 12, .inl (cI, 72, .inl act)), (h 13, .inl (cL, 72, .inr (.inl dat))), (h 14, .inl (cI, 16, .inl held))] [.ref (h 0), .int n, .int w, .int t]) xQ (xT "java/lang/IllegalStateException") 1 6 (fun _ => False) := by
  refine vx_ofW (cc := cX3_make) (maxL := 5) (ret := none) (by decide) rfl ?_
  intro p e s m args below meth c s₁ B hml hTb hv
  obtain ⟨rfl, hP, hK, hX⟩ := hv
  have hx := B.exec
  have hb := B.bytes
  have hr := B.returns
  have hts := fun w h => atoms_spec (ws := wsX3_make) B.pre w (List.mem_cons_of_mem _ h)
  have hown : s.vm.findClass RX3 = some m.cls := findClass_of_methodNamed B.named
  have hlocks := B.notSynchronized
  have hl := lv_entry ([.ref (h 0), .int n, .int w, .int t]) (n := 5) (Nat.le_of_ble_eq_true rfl)
  rw [lg_entry_eq]
  generalize (lg_sl ([.ref (h 0), .int n, .int w, .int t]) ++ List.replicate (5 - (lg_sl ([.ref (h 0), .int n, .int w, .int t])).length) Slot.unset).toArray = ls at hl ⊢
  have hl : lv_has ls 5 [(0, .ref (h 0)), (1, .int n), (2, .int w), (3, .int t)] := hl
  refine lv_aload_n hx hb dX3_make_0 rfl (lv_at hl 0 rfl) ?_
  refine va_get (D := (dC, dI)) (ci := 3) (v := .int (bI made)) (C := RX3) (T := TX3) (N := 9) hx hb hts inX3 hown hK hP 0 rfl rfl 5 (by decide) (hts _ mw125) (fun _ h9 => h9) rfl dX3_make_1 ?_
  refine lv_if_ne (tgt := 17) hx hb dX3_make_4 (by decide) (fun c4 => ?_) (fun c4 => ?_)
  · exact x_thr_ISE hx hb hl9 hown hts hX hX.s88 (hl.1.trans hml.symm) dX3_make_17 dX3_make_20 dX3_make_21 dX3_make_23 dX3_make_26 hTb (Nat.le_of_ble_eq_true rfl) (Nat.le_of_ble_eq_true rfl) (Nat.le_refl _) (Nat.le_refl _) hlocks
  · refine lv_aload_n hx hb dX3_make_7 rfl (lv_at hl 0 rfl) ?_
    refine va_get (D := (dC, dI)) (ci := 3) (v := .ref (h 1)) (C := RX3) (T := TX3) (N := 9) hx hb hts inX3 hown hK hP 0 rfl rfl 0 (by decide) (hts _ mw120) (fun _ h9 => h9) rfl dX3_make_8 ?_
    refine va_get (D := (dC, dI)) (ci := 2) (v := .int (nI kn)) (C := RX2) (T := TX2) (N := 3) hx hb hts inX2 hown hK hP 1 rfl rfl 2 (by decide) (hts _ mw56) (fun _ h9 => h9) rfl dX3_make_11 ?_
    refine lv_if_ne (tgt := 27) hx hb dX3_make_14 (by decide) (fun c14 => ?_) (fun c14 => ?_)
    · exact absurd h1 (fun z => z.elim (fun z => absurd c4 (by rw [z]; decide)) (fun z => absurd (by rw [z]; rfl) c14))
    · exact x_thr_ISE hx hb hl9 hown hts hX hX.s88 (hl.1.trans hml.symm) dX3_make_17 dX3_make_20 dX3_make_21 dX3_make_23 dX3_make_26 hTb (Nat.le_of_ble_eq_true rfl) (Nat.le_of_ble_eq_true rfl) (Nat.le_refl _) (Nat.le_refl _) hlocks

set_option maxHeartbeats 4000000 in
set_option maxRecDepth 100000 in
/-- make: no such table -/
theorem x_X3_make_1 (l : Launch) (hl9 : l.stackTraces = false) (dC : Nat → ClassId) (dI : Nat → Nat → Nat) (cI cL : ClassId) (h : Nat → Nat) (kinds : Nat → Int32) (ones : Nat → Int64) (kn : Nat) (av am : Nat → Int64) (vals msks : Nat → Int64) (pre pri act : Nat → Int32) (dat : Nat → Int64) (en : Nat) (held : Nat → Int32) (bn : Nat) (wy stt : Int32) (made hashed : Bool) (cap : Int32) (lat : Int64) (n w t : Int32) (hm : made = false) (h0 : 0 < kn) (hk : kn ≤ 4) (h1 : (if kExact kinds kn then hShape n w t else lShape n) = false) : vx_Met l yX3_make wsX3_make ({ frames := 7, cells := 1, slots := 6, locals := 110 }) (xP (dC, dI) vwCl [(cI, .int), (cL, .long)] [(h 0, .inr (3, [.ref (h 1), .ref (h 2), .ref (h 3), .ref (h 4), .ref (h 5), .int (bI made), .int (bI hashed), .int cap, .long lat])), (h 1, .inr (2, [.ref (h 6), .ref (h 7), .int (nI kn)])), (h 2, .inr (1, [.ref (h 8), .ref (h 9), .ref (h 10), .ref (h 11), .ref (h 12), .ref (h 13), .int (nI en)])), (h 3, .inr (0, [.ref (h 14), .int (nI bn), .int wy, .int stt])), (h 4, .inl (cL, 4, .inr (.inl av))), (h 5, .inl (cL, 4, .inr (.inl am))), (h 6, .inl (cI, 4, .inl kinds)), (h 7, .inl (cL, 4, .inr (.inl ones))), (h 8, .inl (cL, 288, .inr (.inl vals))), (h 9, .inl (cL, 288, .inr (.inl msks))), (h 10, .inl (cI, 72, .inl pre)), (h 11, .inl (cI, 72, .inl pri)), (h 12, .inl (cI, 72, .inl act)), (h 13, .inl (cL, 72, .inr (.inl dat))), (h 14, .inl (cI, 16, .inl held))] [.ref (h 0), .int n, .int w, .int t]) xQ (xT "java/lang/IllegalArgumentException") 1 6 (fun _ => False) := by
  refine vx_ofW (cc := cX3_make) (maxL := 5) (ret := none) (by decide) rfl ?_
  intro p e s m args below meth c s₁ B hml hTb hv
  obtain ⟨rfl, hP, hK, hX⟩ := hv
  have hx := B.exec
  have hb := B.bytes
  have hr := B.returns
  have hts := fun w h => atoms_spec (ws := wsX3_make) B.pre w (List.mem_cons_of_mem _ h)
  have hown : s.vm.findClass RX3 = some m.cls := findClass_of_methodNamed B.named
  have hlocks := B.notSynchronized
  have hl := lv_entry ([.ref (h 0), .int n, .int w, .int t]) (n := 5) (Nat.le_of_ble_eq_true rfl)
  rw [lg_entry_eq]
  generalize (lg_sl ([.ref (h 0), .int n, .int w, .int t]) ++ List.replicate (5 - (lg_sl ([.ref (h 0), .int n, .int w, .int t])).length) Slot.unset).toArray = ls at hl ⊢
  have hl : lv_has ls 5 [(0, .ref (h 0)), (1, .int n), (2, .int w), (3, .int t)] := hl
  refine lv_aload_n hx hb dX3_make_0 rfl (lv_at hl 0 rfl) ?_
  refine va_get (D := (dC, dI)) (ci := 3) (v := .int (bI made)) (C := RX3) (T := TX3) (N := 9) hx hb hts inX3 hown hK hP 0 rfl rfl 5 (by decide) (hts _ mw125) (fun _ h9 => h9) rfl dX3_make_1 ?_
  refine lv_if_ne (tgt := 17) hx hb dX3_make_4 (by decide) (fun c4 => absurd (by rw [hm]; rfl) c4) (fun c4 => ?_)
  refine lv_aload_n hx hb dX3_make_7 rfl (lv_at hl 0 rfl) ?_
  refine va_get (D := (dC, dI)) (ci := 3) (v := .ref (h 1)) (C := RX3) (T := TX3) (N := 9) hx hb hts inX3 hown hK hP 0 rfl rfl 0 (by decide) (hts _ mw120) (fun _ h9 => h9) rfl dX3_make_8 ?_
  refine va_get (D := (dC, dI)) (ci := 2) (v := .int (nI kn)) (C := RX2) (T := TX2) (N := 3) hx hb hts inX2 hown hK hP 1 rfl rfl 2 (by decide) (hts _ mw56) (fun _ h9 => h9) rfl dX3_make_11 ?_
  refine lv_if_ne (tgt := 27) hx hb dX3_make_14 (by decide) (fun c14 => ?_) (fun c14 => absurd c14 (nI_ne0 h0 (by omega)))
  refine lv_aload_n hx hb dX3_make_27 rfl (lv_at hl 0 rfl) ?_
  refine va_get (D := (dC, dI)) (ci := 3) (v := .ref (h 1)) (C := RX3) (T := TX3) (N := 9) hx hb hts inX3 hown hK hP 0 rfl rfl 0 (by decide) (hts _ mw120) (fun _ h9 => h9) rfl dX3_make_28 ?_
  refine rd_calli (r := (bI (kExact kinds kn))) (va_runV (As := []) (rest := []) ⟨hx, hb, hml, hown, hts⟩ (c_X2_areExact l dC dI cI cL (h 1) (h 6) (h 7) kinds ones kn (by omega)) (cwV 0 hts (gV mw305 mw284 mw285 mw23 mw286) rfl rfl rfl (by decide +kernel) ⟨Nat.le_of_ble_eq_true rfl, Nat.le_of_ble_eq_true rfl⟩) (rd_preV (hP.sub (ws' := [(h 1, .inr (2, [.ref (h 6), .ref (h 7), .int (nI kn)])), (h 6, .inl (cI, 4, .inl kinds)), (h 7, .inl (cL, 4, .inr (.inl ones)))]) [1, 6, 7] rfl) hK (va_recv (ci := 2) hK hP rfl (q0 := 1) rfl)) rfl rfl hl.1 rfl (lv_room (Nat.le_of_ble_eq_true rfl)) dX3_make_31 ⟨Nat.zero_le _, Nat.zero_le _⟩) ?_
  refine lv_istore (lv' := [(4, .int (bI (kExact kinds kn))), (0, .ref (h 0)), (1, .int n), (2, .int w), (3, .int t)]) hx hb dX3_make_34 hl (by decide) rfl (fun ls hl => ?_)
  refine lv_iload hx hb dX3_make_36 (lv_at hl 0 rfl) ?_
  refine lv_if_eq (tgt := 53) hx hb dX3_make_38 (by decide) (fun c38 => ?_) (fun c38 => ?_)
  · refine lv_iload_n hx hb dX3_make_53 rfl (lv_at hl 2 rfl) ?_
    refine rd_calli (r := (bI (lShape n))) (va_runS (As := [.int n]) (rest := []) ⟨hx, hb, hml, hown, hts⟩ (c_X3_isListedShape l dC dI cI cL n) (cwS 1 hts (gS mw315 mw316 mw22 mw317) rfl rfl rfl (by decide +kernel) ⟨Nat.le_of_ble_eq_true rfl, Nat.le_of_ble_eq_true rfl⟩) (rd_preS (hP.sub (ws' := []) [] rfl) hK) rfl rfl hl.1 rfl (lv_room (Nat.le_of_ble_eq_true rfl)) dX3_make_54 ⟨Nat.zero_le _, Nat.zero_le _⟩) ?_
    refine lv_if_ne (tgt := 70) hx hb dX3_make_57 (by decide) (fun c57 => absurd (by rw [bI_eq c38] at h1; rw [show lShape n = false from h1]; rfl) c57) (fun c57 => ?_)
    exact x_thr_IAE hx hb hl9 hown hts hX hX.s101 (hl.1.trans hml.symm) dX3_make_60 dX3_make_63 dX3_make_64 dX3_make_66 dX3_make_69 hTb (Nat.le_of_ble_eq_true rfl) (Nat.le_of_ble_eq_true rfl) (Nat.le_refl _) (Nat.le_refl _) hlocks
  · refine lv_iload_n hx hb dX3_make_41 rfl (lv_at hl 2 rfl) ?_
    refine lv_iload_n hx hb dX3_make_42 rfl (lv_at hl 3 rfl) ?_
    refine lv_iload_n hx hb dX3_make_43 rfl (lv_at hl 4 rfl) ?_
    refine rd_calli (r := (bI (hShape n w t))) (va_runS (As := [.int n, .int w, .int t]) (rest := []) ⟨hx, hb, hml, hown, hts⟩ (c_X3_isHashedShape l dC dI cI cL n w t) (cwS 3 hts (gS mw306 mw307 mw22 mw308) rfl rfl rfl (by decide +kernel) ⟨Nat.le_of_ble_eq_true rfl, Nat.le_of_ble_eq_true rfl⟩) (rd_preS (hP.sub (ws' := []) [] rfl) hK) rfl rfl hl.1 rfl (lv_room (Nat.le_of_ble_eq_true rfl)) dX3_make_44 ⟨Nat.zero_le _, Nat.zero_le _⟩) ?_
    refine lv_if_ne (tgt := 70) hx hb dX3_make_47 (by decide) (fun c47 => absurd (by rw [bI_ne c38] at h1; rw [show hShape n w t = false from h1]; rfl) c47) (fun c47 => ?_)
    refine lv_goto (tgt := 60) hx hb dX3_make_50 (by decide) ?_
    exact x_thr_IAE hx hb hl9 hown hts hX hX.s101 (hl.1.trans hml.symm) dX3_make_60 dX3_make_63 dX3_make_64 dX3_make_66 dX3_make_69 hTb (Nat.le_of_ble_eq_true rfl) (Nat.le_of_ble_eq_true rfl) (Nat.le_refl _) (Nat.le_refl _) hlocks

set_option maxHeartbeats 4000000 in
set_option maxRecDepth 100000 in
/-- set: no such key -/
theorem x_X3_set (l : Launch) (hl9 : l.stackTraces = false) (dC : Nat → ClassId) (dI : Nat → Nat → Nat) (cI cL : ClassId) (h : Nat → Nat) (kinds : Nat → Int32) (ones : Nat → Int64) (kn : Nat) (av am : Nat → Int64) (vals msks : Nat → Int64) (pre pri act : Nat → Int32) (dat : Nat → Int64) (en : Nat) (held : Nat → Int32) (bn : Nat) (wy stt : Int32) (made hashed : Bool) (cap : Int32) (lat : Int64) (k : Int32) (v2 m2 : Int64) (h1 : k < 0 ∨ 4 ≤ k) : vx_Met l yX3_set wsX3_set ({ frames := 7, cells := 1, slots := 6, locals := 110 }) (xP (dC, dI) vwCl [(cI, .int), (cL, .long)] [(h 0, .inr (3, [.ref (h 1), .ref (h 2), .ref (h 3), .ref (h 4), .ref (h 5), .int (bI made), .int (bI hashed), .int cap, .long lat])), (h 1, .inr (2, [.ref (h 6), .ref (h 7), .int (nI kn)])), (h 2, .inr (1, [.ref (h 8), .ref (h 9), .ref (h 10), .ref (h 11), .ref (h 12), .ref (h 13), .int (nI en)])), (h 3, .inr (0, [.ref (h 14), .int (nI bn), .int wy, .int stt])), (h 4, .inl (cL, 4, .inr (.inl av))), (h 5, .inl (cL, 4, .inr (.inl am))), (h 6, .inl (cI, 4, .inl kinds)), (h 7, .inl (cL, 4, .inr (.inl ones))), (h 8, .inl (cL, 288, .inr (.inl vals))), (h 9, .inl (cL, 288, .inr (.inl msks))), (h 10, .inl (cI, 72, .inl pre)), (h 11, .inl (cI, 72, .inl pri)), (h 12, .inl (cI, 72, .inl act)), (h 13, .inl (cL, 72, .inr (.inl dat))), (h 14, .inl (cI, 16, .inl held))] [.ref (h 0), .int k, .long v2, .long m2]) xQ (xT "java/lang/IndexOutOfBoundsException") 1 6 (fun _ => False) := by
  refine vx_ofW (cc := cX3_set) (maxL := 6) (ret := none) (by decide) rfl ?_
  intro p e s m args below meth c s₁ B hml hTb hv
  obtain ⟨rfl, hP, hK, hX⟩ := hv
  have hx := B.exec
  have hb := B.bytes
  have hr := B.returns
  have hts := fun w h => atoms_spec (ws := wsX3_set) B.pre w (List.mem_cons_of_mem _ h)
  have hown : s.vm.findClass RX3 = some m.cls := findClass_of_methodNamed B.named
  have hlocks := B.notSynchronized
  have hl := lv_entry ([.ref (h 0), .int k, .long v2, .long m2]) (n := 6) (Nat.le_of_ble_eq_true rfl)
  rw [lg_entry_eq]
  generalize (lg_sl ([.ref (h 0), .int k, .long v2, .long m2]) ++ List.replicate (6 - (lg_sl ([.ref (h 0), .int k, .long v2, .long m2])).length) Slot.unset).toArray = ls at hl ⊢
  have hl : lv_has ls 6 [(0, .ref (h 0)), (1, .int k), (2, .long v2), (4, .long m2)] := hl
  refine lv_iload_n hx hb dX3_set_0 rfl (lv_at hl 1 rfl) ?_
  refine lv_if_lt (tgt := 9) hx hb dX3_set_1 (by decide) (fun c1 => ?_) (fun c1 => ?_)
  · exact x_thr_IOB hx hb hl9 hown hts hX hX.s105 (hl.1.trans hml.symm) dX3_set_9 dX3_set_12 dX3_set_13 dX3_set_15 dX3_set_18 hTb (Nat.le_of_ble_eq_true rfl) (Nat.le_of_ble_eq_true rfl) (Nat.le_refl _) (Nat.le_refl _) hlocks
  · refine lv_iload_n hx hb dX3_set_4 rfl (lv_at hl 1 rfl) ?_
    refine lv_iconst (v := 4) hx hb dX3_set_5 (by decide) ?_
    refine lv_icmp_lt (tgt := 19) hx hb dX3_set_6 (by decide) (fun c6 => ?_) (fun c6 => ?_)
    · exact absurd h1 (fun z => z.elim c1 (fun z => absurd c6 (Int32.not_lt.mpr z)))
    · exact x_thr_IOB hx hb hl9 hown hts hX hX.s105 (hl.1.trans hml.symm) dX3_set_9 dX3_set_12 dX3_set_13 dX3_set_15 dX3_set_18 hTb (Nat.le_of_ble_eq_true rfl) (Nat.le_of_ble_eq_true rfl) (Nat.le_refl _) (Nat.le_refl _) hlocks

set_option maxHeartbeats 4000000 in
set_option maxRecDepth 100000 in
/-- insert: no table is made -/
theorem x_X3_insert (l : Launch) (hl9 : l.stackTraces = false) (dC : Nat → ClassId) (dI : Nat → Nat → Nat) (cI cL : ClassId) (h : Nat → Nat) (kinds : Nat → Int32) (ones : Nat → Int64) (kn : Nat) (av am : Nat → Int64) (vals msks : Nat → Int64) (pre pri act : Nat → Int32) (dat : Nat → Int64) (en : Nat) (held : Nat → Int32) (bn : Nat) (wy stt : Int32) (made hashed : Bool) (cap : Int32) (lat : Int64) (pr ac : Int32) (da : Int64) (hm : made = false) : vx_Met l yX3_insert wsX3_insert ({ frames := 7, cells := 1, slots := 6, locals := 110 }) (xP (dC, dI) vwCl [(cI, .int), (cL, .long)] [(h 0, .inr (3, [.ref (h 1), .ref (h 2), .ref (h 3), .ref (h 4), .ref (h 5), .int (bI made), .int (bI hashed), .int cap, .long lat])), (h 1, .inr (2, [.ref (h 6), .ref (h 7), .int (nI kn)])), (h 2, .inr (1, [.ref (h 8), .ref (h 9), .ref (h 10), .ref (h 11), .ref (h 12), .ref (h 13), .int (nI en)])), (h 3, .inr (0, [.ref (h 14), .int (nI bn), .int wy, .int stt])), (h 4, .inl (cL, 4, .inr (.inl av))), (h 5, .inl (cL, 4, .inr (.inl am))), (h 6, .inl (cI, 4, .inl kinds)), (h 7, .inl (cL, 4, .inr (.inl ones))), (h 8, .inl (cL, 288, .inr (.inl vals))), (h 9, .inl (cL, 288, .inr (.inl msks))), (h 10, .inl (cI, 72, .inl pre)), (h 11, .inl (cI, 72, .inl pri)), (h 12, .inl (cI, 72, .inl act)), (h 13, .inl (cL, 72, .inr (.inl dat))), (h 14, .inl (cI, 16, .inl held))] [.ref (h 0), .int pr, .int ac, .long da]) xQ (xT "java/lang/IllegalStateException") 1 6 (fun _ => False) := by
  refine vx_ofW (cc := cX3_insert) (maxL := 5) (ret := some .boolean) (by decide) rfl ?_
  intro p e s m args below meth c s₁ B hml hTb hv
  obtain ⟨rfl, hP, hK, hX⟩ := hv
  have hx := B.exec
  have hb := B.bytes
  have hr := B.returns
  have hts := fun w h => atoms_spec (ws := wsX3_insert) B.pre w (List.mem_cons_of_mem _ h)
  have hown : s.vm.findClass RX3 = some m.cls := findClass_of_methodNamed B.named
  have hlocks := B.notSynchronized
  have hl := lv_entry ([.ref (h 0), .int pr, .int ac, .long da]) (n := 5) (Nat.le_of_ble_eq_true rfl)
  rw [lg_entry_eq]
  generalize (lg_sl ([.ref (h 0), .int pr, .int ac, .long da]) ++ List.replicate (5 - (lg_sl ([.ref (h 0), .int pr, .int ac, .long da])).length) Slot.unset).toArray = ls at hl ⊢
  have hl : lv_has ls 5 [(0, .ref (h 0)), (1, .int pr), (2, .int ac), (3, .long da)] := hl
  refine lv_aload_n hx hb dX3_insert_0 rfl (lv_at hl 0 rfl) ?_
  refine x_call (E0 := "java/lang/IllegalStateException") (vx_runV (As := []) (rest := []) ⟨hx, hb, hml, hown, hts⟩ (x_X3_requireTable l hl9 dC dI cI cL h kinds ones kn av am vals msks pre pri act dat en held bn wy stt made hashed cap lat hm) (cwV 0 hts (gV mw350 mw352 mw1 mw22 mw353) rfl rfl rfl (by decide +kernel) ⟨Nat.le_of_ble_eq_true rfl, Nat.le_of_ble_eq_true rfl⟩) (xP_preV (fun U hU hW => hX.go hU hW) hP hK (va_recv (ci := 3) hK hP rfl (q0 := 0) rfl)) rfl rfl hl.1 rfl (lv_room (Nat.le_of_ble_eq_true rfl)) dX3_insert_1 ⟨Nat.le_refl _, Nat.le_refl _⟩) (fun ce q9 H1 hz hk hce hcv hcl => ?_)
  exact vx_out (fun x hx9 => (hTb x hx9).elim) hlocks hce hcv hcl (fun t ht ha => ⟨rfl, by rw [ht]; exact hz, fun q h _ => by rw [ht]; exact hk q h⟩) (fun _ h => nomatch h) (Nat.le_refl _) (Nat.le_refl _)

set_option maxHeartbeats 4000000 in
set_option maxRecDepth 100000 in
/-- change: no table is made -/
theorem x_X3_change (l : Launch) (hl9 : l.stackTraces = false) (dC : Nat → ClassId) (dI : Nat → Nat → Nat) (cI cL : ClassId) (h : Nat → Nat) (kinds : Nat → Int32) (ones : Nat → Int64) (kn : Nat) (av am : Nat → Int64) (vals msks : Nat → Int64) (pre pri act : Nat → Int32) (dat : Nat → Int64) (en : Nat) (held : Nat → Int32) (bn : Nat) (wy stt : Int32) (made hashed : Bool) (cap : Int32) (lat : Int64) (ac : Int32) (da : Int64) (hm : made = false) : vx_Met l yX3_change wsX3_change ({ frames := 7, cells := 1, slots := 6, locals := 110 }) (xP (dC, dI) vwCl [(cI, .int), (cL, .long)] [(h 0, .inr (3, [.ref (h 1), .ref (h 2), .ref (h 3), .ref (h 4), .ref (h 5), .int (bI made), .int (bI hashed), .int cap, .long lat])), (h 1, .inr (2, [.ref (h 6), .ref (h 7), .int (nI kn)])), (h 2, .inr (1, [.ref (h 8), .ref (h 9), .ref (h 10), .ref (h 11), .ref (h 12), .ref (h 13), .int (nI en)])), (h 3, .inr (0, [.ref (h 14), .int (nI bn), .int wy, .int stt])), (h 4, .inl (cL, 4, .inr (.inl av))), (h 5, .inl (cL, 4, .inr (.inl am))), (h 6, .inl (cI, 4, .inl kinds)), (h 7, .inl (cL, 4, .inr (.inl ones))), (h 8, .inl (cL, 288, .inr (.inl vals))), (h 9, .inl (cL, 288, .inr (.inl msks))), (h 10, .inl (cI, 72, .inl pre)), (h 11, .inl (cI, 72, .inl pri)), (h 12, .inl (cI, 72, .inl act)), (h 13, .inl (cL, 72, .inr (.inl dat))), (h 14, .inl (cI, 16, .inl held))] [.ref (h 0), .int ac, .long da]) xQ (xT "java/lang/IllegalStateException") 1 6 (fun _ => False) := by
  refine vx_ofW (cc := cX3_change) (maxL := 5) (ret := some .boolean) (by decide) rfl ?_
  intro p e s m args below meth c s₁ B hml hTb hv
  obtain ⟨rfl, hP, hK, hX⟩ := hv
  have hx := B.exec
  have hb := B.bytes
  have hr := B.returns
  have hts := fun w h => atoms_spec (ws := wsX3_change) B.pre w (List.mem_cons_of_mem _ h)
  have hown : s.vm.findClass RX3 = some m.cls := findClass_of_methodNamed B.named
  have hlocks := B.notSynchronized
  have hl := lv_entry ([.ref (h 0), .int ac, .long da]) (n := 5) (Nat.le_of_ble_eq_true rfl)
  rw [lg_entry_eq]
  generalize (lg_sl ([.ref (h 0), .int ac, .long da]) ++ List.replicate (5 - (lg_sl ([.ref (h 0), .int ac, .long da])).length) Slot.unset).toArray = ls at hl ⊢
  have hl : lv_has ls 5 [(0, .ref (h 0)), (1, .int ac), (2, .long da)] := hl
  refine lv_aload_n hx hb dX3_change_0 rfl (lv_at hl 0 rfl) ?_
  refine x_call (E0 := "java/lang/IllegalStateException") (vx_runV (As := []) (rest := []) ⟨hx, hb, hml, hown, hts⟩ (x_X3_requireTable l hl9 dC dI cI cL h kinds ones kn av am vals msks pre pri act dat en held bn wy stt made hashed cap lat hm) (cwV 0 hts (gV mw350 mw352 mw1 mw22 mw353) rfl rfl rfl (by decide +kernel) ⟨Nat.le_of_ble_eq_true rfl, Nat.le_of_ble_eq_true rfl⟩) (xP_preV (fun U hU hW => hX.go hU hW) hP hK (va_recv (ci := 3) hK hP rfl (q0 := 0) rfl)) rfl rfl hl.1 rfl (lv_room (Nat.le_of_ble_eq_true rfl)) dX3_change_1 ⟨Nat.le_refl _, Nat.le_refl _⟩) (fun ce q9 H1 hz hk hce hcv hcl => ?_)
  exact vx_out (fun x hx9 => (hTb x hx9).elim) hlocks hce hcv hcl (fun t ht ha => ⟨rfl, by rw [ht]; exact hz, fun q h _ => by rw [ht]; exact hk q h⟩) (fun _ h => nomatch h) (Nat.le_refl _) (Nat.le_refl _)

set_option maxHeartbeats 4000000 in
set_option maxRecDepth 100000 in
/-- remove: no table is made -/
theorem x_X3_remove (l : Launch) (hl9 : l.stackTraces = false) (dC : Nat → ClassId) (dI : Nat → Nat → Nat) (cI cL : ClassId) (h : Nat → Nat) (kinds : Nat → Int32) (ones : Nat → Int64) (kn : Nat) (av am : Nat → Int64) (vals msks : Nat → Int64) (pre pri act : Nat → Int32) (dat : Nat → Int64) (en : Nat) (held : Nat → Int32) (bn : Nat) (wy stt : Int32) (made hashed : Bool) (cap : Int32) (lat : Int64) (hm : made = false) : vx_Met l yX3_remove wsX3_remove ({ frames := 7, cells := 1, slots := 6, locals := 110 }) (xP (dC, dI) vwCl [(cI, .int), (cL, .long)] [(h 0, .inr (3, [.ref (h 1), .ref (h 2), .ref (h 3), .ref (h 4), .ref (h 5), .int (bI made), .int (bI hashed), .int cap, .long lat])), (h 1, .inr (2, [.ref (h 6), .ref (h 7), .int (nI kn)])), (h 2, .inr (1, [.ref (h 8), .ref (h 9), .ref (h 10), .ref (h 11), .ref (h 12), .ref (h 13), .int (nI en)])), (h 3, .inr (0, [.ref (h 14), .int (nI bn), .int wy, .int stt])), (h 4, .inl (cL, 4, .inr (.inl av))), (h 5, .inl (cL, 4, .inr (.inl am))), (h 6, .inl (cI, 4, .inl kinds)), (h 7, .inl (cL, 4, .inr (.inl ones))), (h 8, .inl (cL, 288, .inr (.inl vals))), (h 9, .inl (cL, 288, .inr (.inl msks))), (h 10, .inl (cI, 72, .inl pre)), (h 11, .inl (cI, 72, .inl pri)), (h 12, .inl (cI, 72, .inl act)), (h 13, .inl (cL, 72, .inr (.inl dat))), (h 14, .inl (cI, 16, .inl held))] [.ref (h 0)]) xQ (xT "java/lang/IllegalStateException") 1 6 (fun _ => False) := by
  refine vx_ofW (cc := cX3_remove) (maxL := 2) (ret := some .boolean) (by decide) rfl ?_
  intro p e s m args below meth c s₁ B hml hTb hv
  obtain ⟨rfl, hP, hK, hX⟩ := hv
  have hx := B.exec
  have hb := B.bytes
  have hr := B.returns
  have hts := fun w h => atoms_spec (ws := wsX3_remove) B.pre w (List.mem_cons_of_mem _ h)
  have hown : s.vm.findClass RX3 = some m.cls := findClass_of_methodNamed B.named
  have hlocks := B.notSynchronized
  have hl := lv_entry ([.ref (h 0)]) (n := 2) (Nat.le_of_ble_eq_true rfl)
  rw [lg_entry_eq]
  generalize (lg_sl ([.ref (h 0)]) ++ List.replicate (2 - (lg_sl ([.ref (h 0)])).length) Slot.unset).toArray = ls at hl ⊢
  have hl : lv_has ls 2 [(0, .ref (h 0))] := hl
  refine lv_aload_n hx hb dX3_remove_0 rfl (lv_at hl 0 rfl) ?_
  refine x_call (E0 := "java/lang/IllegalStateException") (vx_runV (As := []) (rest := []) ⟨hx, hb, hml, hown, hts⟩ (x_X3_requireTable l hl9 dC dI cI cL h kinds ones kn av am vals msks pre pri act dat en held bn wy stt made hashed cap lat hm) (cwV 0 hts (gV mw350 mw352 mw1 mw22 mw353) rfl rfl rfl (by decide +kernel) ⟨Nat.le_of_ble_eq_true rfl, Nat.le_of_ble_eq_true rfl⟩) (xP_preV (fun U hU hW => hX.go hU hW) hP hK (va_recv (ci := 3) hK hP rfl (q0 := 0) rfl)) rfl rfl hl.1 rfl (lv_room (Nat.le_of_ble_eq_true rfl)) dX3_remove_1 ⟨Nat.le_refl _, Nat.le_refl _⟩) (fun ce q9 H1 hz hk hce hcv hcl => ?_)
  exact vx_out (fun x hx9 => (hTb x hx9).elim) hlocks hce hcv hcl (fun t ht ha => ⟨rfl, by rw [ht]; exact hz, fun q h _ => by rw [ht]; exact hk q h⟩) (fun _ h => nomatch h) (Nat.le_refl _) (Nat.le_refl _)

set_option maxHeartbeats 4000000 in
set_option maxRecDepth 100000 in
/-- match: no table is made -/
theorem x_X3_match (l : Launch) (hl9 : l.stackTraces = false) (dC : Nat → ClassId) (dI : Nat → Nat → Nat) (cI cL : ClassId) (h : Nat → Nat) (kinds : Nat → Int32) (ones : Nat → Int64) (kn : Nat) (av am : Nat → Int64) (vals msks : Nat → Int64) (pre pri act : Nat → Int32) (dat : Nat → Int64) (en : Nat) (held : Nat → Int32) (bn : Nat) (wy stt : Int32) (made hashed : Bool) (cap : Int32) (lat : Int64) (hm : made = false) : vx_Met l yX3_match wsX3_match ({ frames := 7, cells := 1, slots := 6, locals := 110 }) (xP (dC, dI) vwCl [(cI, .int), (cL, .long)] [(h 0, .inr (3, [.ref (h 1), .ref (h 2), .ref (h 3), .ref (h 4), .ref (h 5), .int (bI made), .int (bI hashed), .int cap, .long lat])), (h 1, .inr (2, [.ref (h 6), .ref (h 7), .int (nI kn)])), (h 2, .inr (1, [.ref (h 8), .ref (h 9), .ref (h 10), .ref (h 11), .ref (h 12), .ref (h 13), .int (nI en)])), (h 3, .inr (0, [.ref (h 14), .int (nI bn), .int wy, .int stt])), (h 4, .inl (cL, 4, .inr (.inl av))), (h 5, .inl (cL, 4, .inr (.inl am))), (h 6, .inl (cI, 4, .inl kinds)), (h 7, .inl (cL, 4, .inr (.inl ones))), (h 8, .inl (cL, 288, .inr (.inl vals))), (h 9, .inl (cL, 288, .inr (.inl msks))), (h 10, .inl (cI, 72, .inl pre)), (h 11, .inl (cI, 72, .inl pri)), (h 12, .inl (cI, 72, .inl act)), (h 13, .inl (cL, 72, .inr (.inl dat))), (h 14, .inl (cI, 16, .inl held))] [.ref (h 0)]) xQ (xT "java/lang/IllegalStateException") 1 6 (fun _ => False) := by
  refine vx_ofW (cc := cX3_match) (maxL := 3) (ret := some .int) (by decide) rfl ?_
  intro p e s m args below meth c s₁ B hml hTb hv
  obtain ⟨rfl, hP, hK, hX⟩ := hv
  have hx := B.exec
  have hb := B.bytes
  have hr := B.returns
  have hts := fun w h => atoms_spec (ws := wsX3_match) B.pre w (List.mem_cons_of_mem _ h)
  have hown : s.vm.findClass RX3 = some m.cls := findClass_of_methodNamed B.named
  have hlocks := B.notSynchronized
  have hl := lv_entry ([.ref (h 0)]) (n := 3) (Nat.le_of_ble_eq_true rfl)
  rw [lg_entry_eq]
  generalize (lg_sl ([.ref (h 0)]) ++ List.replicate (3 - (lg_sl ([.ref (h 0)])).length) Slot.unset).toArray = ls at hl ⊢
  have hl : lv_has ls 3 [(0, .ref (h 0))] := hl
  refine lv_aload_n hx hb dX3_match_0 rfl (lv_at hl 0 rfl) ?_
  refine x_call (E0 := "java/lang/IllegalStateException") (vx_runV (As := []) (rest := []) ⟨hx, hb, hml, hown, hts⟩ (x_X3_requireTable l hl9 dC dI cI cL h kinds ones kn av am vals msks pre pri act dat en held bn wy stt made hashed cap lat hm) (cwV 0 hts (gV mw350 mw352 mw1 mw22 mw353) rfl rfl rfl (by decide +kernel) ⟨Nat.le_of_ble_eq_true rfl, Nat.le_of_ble_eq_true rfl⟩) (xP_preV (fun U hU hW => hX.go hU hW) hP hK (va_recv (ci := 3) hK hP rfl (q0 := 0) rfl)) rfl rfl hl.1 rfl (lv_room (Nat.le_of_ble_eq_true rfl)) dX3_match_1 ⟨Nat.le_refl _, Nat.le_refl _⟩) (fun ce q9 H1 hz hk hce hcv hcl => ?_)
  exact vx_out (fun x hx9 => (hTb x hx9).elim) hlocks hce hcv hcl (fun t ht ha => ⟨rfl, by rw [ht]; exact hz, fun q h _ => by rw [ht]; exact hk q h⟩) (fun _ h => nomatch h) (Nat.le_refl _) (Nat.le_refl _)
