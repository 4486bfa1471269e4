/-! init -/
set_option maxHeartbeats 4000000 in
set_option maxRecDepth 100000 in
/-- Buckets() -/
theorem c_X0_init (l : Launch) (dC : Nat → ClassId) (dI : Nat → Nat → Nat) (cI cL : ClassId) (h0 sz : Nat) : Met l yX0_init wsX0_init ({ frames := 1, cells := 1, slots := 16, locals := 12 }) (ni_P (dC, dI) vwCl [(cI, .int), (cL, .long)] sz [(h0, .inr (0, [.null, .int 0, .int 0, .int 0]))] (fun _ => True) [.ref h0]) (ni_Q (dC, dI) vwCl h0 (va_A [(h0, .inr (0, [.null, .int 0, .int 0, .int 0]))] sz) (fun u => [(u 0, .inr (0, [.ref (u 1), .int 0, .int 0, .int 0])), (u 1, .inl (cI, 16, .inl (fun _ => 0)))])) 1 16 (va_A [(h0, .inr (0, [.null, .int 0, .int 0, .int 0]))] sz) := by
  refine Met.ofW (cc := cX0_init) (maxL := 1) (ret := none) (by decide) rfl ?_
  intro p e s m args below meth c s₁ B hml hv
  obtain ⟨rfl, hsz, hP, hK, hD0, hX⟩ := hv
  have hx := B.exec
  have hb := B.bytes
  have hr := B.returns
  have hts := fun w h => atoms_spec (ws := wsX0_init) B.pre w (List.mem_cons_of_mem _ h)
  have hown : s.vm.findClass RX0 = some m.cls := findClass_of_methodNamed B.named
  have hlocks := B.notSynchronized
  have hin : meth.name = "<init>" := (name_of_methodNamed B.named B.method).1
  subst hsz
  have hD := hD0.self (sz := s.heap.size)
  generalize hAe : va_A [(h0, .inr (0, [.null, .int 0, .int 0, .int 0]))] s.heap.size = A at hD ⊢
  have hA : ∀ q : Nat, s.heap.size ≤ q → A q := fun q h => by rw [← hAe]; exact Or.inr h
  have hS : va_S A s.heap s.heap [] := va_S.rf
  have hl := lv_entry ([.ref h0]) (n := 1) (Nat.le_of_ble_eq_true rfl)
  rw [lg_entry_eq]
  generalize (lg_sl ([.ref h0]) ++ List.replicate (1 - (lg_sl ([.ref h0])).length) Slot.unset).toArray = ls at hl ⊢
  have hl : lv_has ls 1 [(0, .ref h0)] := hl
  refine lv_aload_n hx hb dX0_init_0 rfl (lv_at hl 0 rfl) ?_
  refine W.objInit hx hb hown (hts _ mw106) (hts _ mw43) (hts _ mw44) rfl (by rw [hml]; exact hl.1) rfl dX0_init_1 (Nat.le_of_ble_eq_true rfl) (Nat.le_of_ble_eq_true rfl) ?_
  refine W.eq (g2 := F0 m 4 ls []) rfl ?_
  refine lv_aload_n hx hb dX0_init_4 rfl (lv_at hl 0 rfl) ?_
  refine lv_bipush (v := 16) hx hb dX0_init_5 (by decide) ?_
  refine n_newi hx hb (hts _ mw64) hK hP hD hS hA 16 rfl (by decide) (Nat.le_of_ble_eq_true rfl) (Nat.le_of_ble_eq_true rfl) dX0_init_7 (fun q1 H hP hD hS => ?_)
  have hP : va_P (dC, dI) vwCl [(h0, .inr (0, [.null, .int 0, .int 0, .int 0])), (q1, .inl (cI, 16, .inl (fun _ => 0)))] H := hP
  have hD : va_D A [(h0, .inr (0, [.null, .int 0, .int 0, .int 0])), (q1, .inl (cI, 16, .inl (fun _ => 0)))] := hD
  refine W.widen (k := 1) (n := 16) (Nat.le_refl _) (Nat.le_refl _) ?_
  refine n_putF (ws' := [(h0, .inr (0, [.ref q1, .int 0, .int 0, .int 0])), (q1, .inl (cI, 16, .inl (fun _ => 0)))]) (D := (dC, dI)) (ci := 0) (v := .ref q1) (ty := (.array .int)) (C := RX0) (T := TX0) (N := 4) hx hb hts inX0 tyX0 tyX0_ok nmX0 hown hK hP hD hS 0 rfl rfl 0 (by decide) (hts _ mw107) (fun _ h9 => h9) rfl hin rfl rfl rfl rfl (Nat.le_of_ble_eq_true rfl) dX0_init_9 rfl (fun H locs hP hD hS => ?_)
  have hP9 := hP.sub (ws' := [(h0, .inr (0, [.ref q1, .int 0, .int 0, .int 0])), (q1, .inl (cI, 16, .inl (fun _ => 0)))]) [0, 1] rfl
  have hD9 := hD.sub (ws' := [(h0, .inr (0, [.ref q1, .int 0, .int 0, .int 0])), (q1, .inl (cI, 16, .inl (fun _ => 0)))]) [0, 1] (by decide) rfl
  exact W.vret hx hb hr (fun t ht hW => ⟨⟨(fun k => match k with | 0 => h0 | _ => q1), rfl, rfl, by rw [ht]; exact hP9, hD9⟩, hS.F ht⟩) hS.2.2 dX0_init_12

set_option maxHeartbeats 4000000 in
set_option maxRecDepth 100000 in
/-- Entries() -/
theorem c_X1_init (l : Launch) (dC : Nat → ClassId) (dI : Nat → Nat → Nat) (cI cL : ClassId) (h0 sz : Nat) : Met l yX1_init wsX1_init ({ frames := 1, cells := 6, slots := 864, locals := 12 }) (ni_P (dC, dI) vwCl [(cI, .int), (cL, .long)] sz [(h0, .inr (1, [.null, .null, .null, .null, .null, .null, .int 0]))] (fun _ => True) [.ref h0]) (ni_Q (dC, dI) vwCl h0 (va_A [(h0, .inr (1, [.null, .null, .null, .null, .null, .null, .int 0]))] sz) (fun u => [(u 0, .inr (1, [.ref (u 1), .ref (u 2), .ref (u 3), .ref (u 4), .ref (u 5), .ref (u 6), .int 0])), (u 1, .inl (cL, 288, .inr (.inl (fun _ => 0)))), (u 2, .inl (cL, 288, .inr (.inl (fun _ => 0)))), (u 3, .inl (cI, 72, .inl (fun _ => 0))), (u 4, .inl (cI, 72, .inl (fun _ => 0))), (u 5, .inl (cI, 72, .inl (fun _ => 0))), (u 6, .inl (cL, 72, .inr (.inl (fun _ => 0))))])) 6 864 (va_A [(h0, .inr (1, [.null, .null, .null, .null, .null, .null, .int 0]))] sz) := by
  refine Met.ofW (cc := cX1_init) (maxL := 1) (ret := none) (by decide) rfl ?_
  intro p e s m args below meth c s₁ B hml hv
  obtain ⟨rfl, hsz, hP, hK, hD0, hX⟩ := hv
  have hx := B.exec
  have hb := B.bytes
  have hr := B.returns
  have hts := fun w h => atoms_spec (ws := wsX1_init) B.pre w (List.mem_cons_of_mem _ h)
  have hown : s.vm.findClass RX1 = some m.cls := findClass_of_methodNamed B.named
  have hlocks := B.notSynchronized
  have hin : meth.name = "<init>" := (name_of_methodNamed B.named B.method).1
  subst hsz
  have hD := hD0.self (sz := s.heap.size)
  generalize hAe : va_A [(h0, .inr (1, [.null, .null, .null, .null, .null, .null, .int 0]))] s.heap.size = A at hD ⊢
  have hA : ∀ q : Nat, s.heap.size ≤ q → A q := fun q h => by rw [← hAe]; exact Or.inr h
  have hS : va_S A s.heap s.heap [] := va_S.rf
  have hl := lv_entry ([.ref h0]) (n := 1) (Nat.le_of_ble_eq_true rfl)
  rw [lg_entry_eq]
  generalize (lg_sl ([.ref h0]) ++ List.replicate (1 - (lg_sl ([.ref h0])).length) Slot.unset).toArray = ls at hl ⊢
  have hl : lv_has ls 1 [(0, .ref h0)] := hl
  refine lv_aload_n hx hb dX1_init_0 rfl (lv_at hl 0 rfl) ?_
  refine W.objInit hx hb hown (hts _ mw71) (hts _ mw43) (hts _ mw44) rfl (by rw [hml]; exact hl.1) rfl dX1_init_1 (Nat.le_of_ble_eq_true rfl) (Nat.le_of_ble_eq_true rfl) ?_
  refine W.eq (g2 := F0 m 4 ls []) rfl ?_
  refine lv_aload_n hx hb dX1_init_4 rfl (lv_at hl 0 rfl) ?_
  refine lv_sipush (v := 288) hx hb dX1_init_5 (by decide) ?_
  refine n_newl hx hb (hts _ mw65) hK hP hD hS hA 288 rfl (by decide) (Nat.le_of_ble_eq_true rfl) (Nat.le_of_ble_eq_true rfl) dX1_init_8 (fun q1 H hP hD hS => ?_)
  have hP : va_P (dC, dI) vwCl [(h0, .inr (1, [.null, .null, .null, .null, .null, .null, .int 0])), (q1, .inl (cL, 288, .inr (.inl (fun _ => 0))))] H := hP
  have hD : va_D A [(h0, .inr (1, [.null, .null, .null, .null, .null, .null, .int 0])), (q1, .inl (cL, 288, .inr (.inl (fun _ => 0))))] := hD
  refine W.widen (k := 1) (n := 288) (Nat.le_refl _) (Nat.le_refl _) ?_
  refine n_putF (ws' := [(h0, .inr (1, [.ref q1, .null, .null, .null, .null, .null, .int 0])), (q1, .inl (cL, 288, .inr (.inl (fun _ => 0))))]) (D := (dC, dI)) (ci := 1) (v := .ref q1) (ty := (.array .long)) (C := RX1) (T := TX1) (N := 7) hx hb hts inX1 tyX1 tyX1_ok nmX1 hown hK hP hD hS 0 rfl rfl 0 (by decide) (hts _ mw72) (fun _ h9 => h9) rfl hin rfl rfl rfl rfl (Nat.le_of_ble_eq_true rfl) dX1_init_10 rfl (fun H locs hP hD hS => ?_)
  refine lv_aload_n hx hb dX1_init_13 rfl (lv_at hl 0 rfl) ?_
  refine lv_sipush (v := 288) hx hb dX1_init_14 (by decide) ?_
  refine n_newl hx hb (hts _ mw65) hK hP hD hS hA 288 rfl (by decide) (Nat.le_of_ble_eq_true rfl) (Nat.le_of_ble_eq_true rfl) dX1_init_17 (fun q2 H hP hD hS => ?_)
  have hP : va_P (dC, dI) vwCl [(h0, .inr (1, [.ref q1, .null, .null, .null, .null, .null, .int 0])), (q1, .inl (cL, 288, .inr (.inl (fun _ => 0)))), (q2, .inl (cL, 288, .inr (.inl (fun _ => 0))))] H := hP
  have hD : va_D A [(h0, .inr (1, [.ref q1, .null, .null, .null, .null, .null, .int 0])), (q1, .inl (cL, 288, .inr (.inl (fun _ => 0)))), (q2, .inl (cL, 288, .inr (.inl (fun _ => 0))))] := hD
  refine W.widen (k := 2) (n := 576) (Nat.le_refl _) (Nat.le_refl _) ?_
  refine n_putF (ws' := [(h0, .inr (1, [.ref q1, .ref q2, .null, .null, .null, .null, .int 0])), (q1, .inl (cL, 288, .inr (.inl (fun _ => 0)))), (q2, .inl (cL, 288, .inr (.inl (fun _ => 0))))]) (D := (dC, dI)) (ci := 1) (v := .ref q2) (ty := (.array .long)) (C := RX1) (T := TX1) (N := 7) hx hb hts inX1 tyX1 tyX1_ok nmX1 hown hK hP hD hS 0 rfl rfl 1 (by decide) (hts _ mw74) (fun _ h9 => h9) rfl hin rfl rfl rfl rfl (Nat.le_of_ble_eq_true rfl) dX1_init_19 rfl (fun H locs hP hD hS => ?_)
  refine lv_aload_n hx hb dX1_init_22 rfl (lv_at hl 0 rfl) ?_
  refine lv_bipush (v := 72) hx hb dX1_init_23 (by decide) ?_
  refine n_newi hx hb (hts _ mw64) hK hP hD hS hA 72 rfl (by decide) (Nat.le_of_ble_eq_true rfl) (Nat.le_of_ble_eq_true rfl) dX1_init_25 (fun q3 H hP hD hS => ?_)
  have hP : va_P (dC, dI) vwCl [(h0, .inr (1, [.ref q1, .ref q2, .null, .null, .null, .null, .int 0])), (q1, .inl (cL, 288, .inr (.inl (fun _ => 0)))), (q2, .inl (cL, 288, .inr (.inl (fun _ => 0)))), (q3, .inl (cI, 72, .inl (fun _ => 0)))] H := hP
  have hD : va_D A [(h0, .inr (1, [.ref q1, .ref q2, .null, .null, .null, .null, .int 0])), (q1, .inl (cL, 288, .inr (.inl (fun _ => 0)))), (q2, .inl (cL, 288, .inr (.inl (fun _ => 0)))), (q3, .inl (cI, 72, .inl (fun _ => 0)))] := hD
  refine W.widen (k := 3) (n := 648) (Nat.le_refl _) (Nat.le_refl _) ?_
  refine n_putF (ws' := [(h0, .inr (1, [.ref q1, .ref q2, .ref q3, .null, .null, .null, .int 0])), (q1, .inl (cL, 288, .inr (.inl (fun _ => 0)))), (q2, .inl (cL, 288, .inr (.inl (fun _ => 0)))), (q3, .inl (cI, 72, .inl (fun _ => 0)))]) (D := (dC, dI)) (ci := 1) (v := .ref q3) (ty := (.array .int)) (C := RX1) (T := TX1) (N := 7) hx hb hts inX1 tyX1 tyX1_ok nmX1 hown hK hP hD hS 0 rfl rfl 2 (by decide) (hts _ mw76) (fun _ h9 => h9) rfl hin rfl rfl rfl rfl (Nat.le_of_ble_eq_true rfl) dX1_init_27 rfl (fun H locs hP hD hS => ?_)
  refine lv_aload_n hx hb dX1_init_30 rfl (lv_at hl 0 rfl) ?_
  refine lv_bipush (v := 72) hx hb dX1_init_31 (by decide) ?_
  refine n_newi hx hb (hts _ mw64) hK hP hD hS hA 72 rfl (by decide) (Nat.le_of_ble_eq_true rfl) (Nat.le_of_ble_eq_true rfl) dX1_init_33 (fun q4 H hP hD hS => ?_)
  have hP : va_P (dC, dI) vwCl [(h0, .inr (1, [.ref q1, .ref q2, .ref q3, .null, .null, .null, .int 0])), (q1, .inl (cL, 288, .inr (.inl (fun _ => 0)))), (q2, .inl (cL, 288, .inr (.inl (fun _ => 0)))), (q3, .inl (cI, 72, .inl (fun _ => 0))), (q4, .inl (cI, 72, .inl (fun _ => 0)))] H := hP
  have hD : va_D A [(h0, .inr (1, [.ref q1, .ref q2, .ref q3, .null, .null, .null, .int 0])), (q1, .inl (cL, 288, .inr (.inl (fun _ => 0)))), (q2, .inl (cL, 288, .inr (.inl (fun _ => 0)))), (q3, .inl (cI, 72, .inl (fun _ => 0))), (q4, .inl (cI, 72, .inl (fun _ => 0)))] := hD
  refine W.widen (k := 4) (n := 720) (Nat.le_refl _) (Nat.le_refl _) ?_
  refine n_putF (ws' := [(h0, .inr (1, [.ref q1, .ref q2, .ref q3, .ref q4, .null, .null, .int 0])), (q1, .inl (cL, 288, .inr (.inl (fun _ => 0)))), (q2, .inl (cL, 288, .inr (.inl (fun _ => 0)))), (q3, .inl (cI, 72, .inl (fun _ => 0))), (q4, .inl (cI, 72, .inl (fun _ => 0)))]) (D := (dC, dI)) (ci := 1) (v := .ref q4) (ty := (.array .int)) (C := RX1) (T := TX1) (N := 7) hx hb hts inX1 tyX1 tyX1_ok nmX1 hown hK hP hD hS 0 rfl rfl 3 (by decide) (hts _ mw78) (fun _ h9 => h9) rfl hin rfl rfl rfl rfl (Nat.le_of_ble_eq_true rfl) dX1_init_35 rfl (fun H locs hP hD hS => ?_)
  refine lv_aload_n hx hb dX1_init_38 rfl (lv_at hl 0 rfl) ?_
  refine lv_bipush (v := 72) hx hb dX1_init_39 (by decide) ?_
  refine n_newi hx hb (hts _ mw64) hK hP hD hS hA 72 rfl (by decide) (Nat.le_of_ble_eq_true rfl) (Nat.le_of_ble_eq_true rfl) dX1_init_41 (fun q5 H hP hD hS => ?_)
  have hP : va_P (dC, dI) vwCl [(h0, .inr (1, [.ref q1, .ref q2, .ref q3, .ref q4, .null, .null, .int 0])), (q1, .inl (cL, 288, .inr (.inl (fun _ => 0)))), (q2, .inl (cL, 288, .inr (.inl (fun _ => 0)))), (q3, .inl (cI, 72, .inl (fun _ => 0))), (q4, .inl (cI, 72, .inl (fun _ => 0))), (q5, .inl (cI, 72, .inl (fun _ => 0)))] H := hP
  have hD : va_D A [(h0, .inr (1, [.ref q1, .ref q2, .ref q3, .ref q4, .null, .null, .int 0])), (q1, .inl (cL, 288, .inr (.inl (fun _ => 0)))), (q2, .inl (cL, 288, .inr (.inl (fun _ => 0)))), (q3, .inl (cI, 72, .inl (fun _ => 0))), (q4, .inl (cI, 72, .inl (fun _ => 0))), (q5, .inl (cI, 72, .inl (fun _ => 0)))] := hD
  refine W.widen (k := 5) (n := 792) (Nat.le_refl _) (Nat.le_refl _) ?_
  refine n_putF (ws' := [(h0, .inr (1, [.ref q1, .ref q2, .ref q3, .ref q4, .ref q5, .null, .int 0])), (q1, .inl (cL, 288, .inr (.inl (fun _ => 0)))), (q2, .inl (cL, 288, .inr (.inl (fun _ => 0)))), (q3, .inl (cI, 72, .inl (fun _ => 0))), (q4, .inl (cI, 72, .inl (fun _ => 0))), (q5, .inl (cI, 72, .inl (fun _ => 0)))]) (D := (dC, dI)) (ci := 1) (v := .ref q5) (ty := (.array .int)) (C := RX1) (T := TX1) (N := 7) hx hb hts inX1 tyX1 tyX1_ok nmX1 hown hK hP hD hS 0 rfl rfl 4 (by decide) (hts _ mw80) (fun _ h9 => h9) rfl hin rfl rfl rfl rfl (Nat.le_of_ble_eq_true rfl) dX1_init_43 rfl (fun H locs hP hD hS => ?_)
  refine lv_aload_n hx hb dX1_init_46 rfl (lv_at hl 0 rfl) ?_
  refine lv_bipush (v := 72) hx hb dX1_init_47 (by decide) ?_
  refine n_newl hx hb (hts _ mw65) hK hP hD hS hA 72 rfl (by decide) (Nat.le_of_ble_eq_true rfl) (Nat.le_of_ble_eq_true rfl) dX1_init_49 (fun q6 H hP hD hS => ?_)
  have hP : va_P (dC, dI) vwCl [(h0, .inr (1, [.ref q1, .ref q2, .ref q3, .ref q4, .ref q5, .null, .int 0])), (q1, .inl (cL, 288, .inr (.inl (fun _ => 0)))), (q2, .inl (cL, 288, .inr (.inl (fun _ => 0)))), (q3, .inl (cI, 72, .inl (fun _ => 0))), (q4, .inl (cI, 72, .inl (fun _ => 0))), (q5, .inl (cI, 72, .inl (fun _ => 0))), (q6, .inl (cL, 72, .inr (.inl (fun _ => 0))))] H := hP
  have hD : va_D A [(h0, .inr (1, [.ref q1, .ref q2, .ref q3, .ref q4, .ref q5, .null, .int 0])), (q1, .inl (cL, 288, .inr (.inl (fun _ => 0)))), (q2, .inl (cL, 288, .inr (.inl (fun _ => 0)))), (q3, .inl (cI, 72, .inl (fun _ => 0))), (q4, .inl (cI, 72, .inl (fun _ => 0))), (q5, .inl (cI, 72, .inl (fun _ => 0))), (q6, .inl (cL, 72, .inr (.inl (fun _ => 0))))] := hD
  refine W.widen (k := 6) (n := 864) (Nat.le_refl _) (Nat.le_refl _) ?_
  refine n_putF (ws' := [(h0, .inr (1, [.ref q1, .ref q2, .ref q3, .ref q4, .ref q5, .ref q6, .int 0])), (q1, .inl (cL, 288, .inr (.inl (fun _ => 0)))), (q2, .inl (cL, 288, .inr (.inl (fun _ => 0)))), (q3, .inl (cI, 72, .inl (fun _ => 0))), (q4, .inl (cI, 72, .inl (fun _ => 0))), (q5, .inl (cI, 72, .inl (fun _ => 0))), (q6, .inl (cL, 72, .inr (.inl (fun _ => 0))))]) (D := (dC, dI)) (ci := 1) (v := .ref q6) (ty := (.array .long)) (C := RX1) (T := TX1) (N := 7) hx hb hts inX1 tyX1 tyX1_ok nmX1 hown hK hP hD hS 0 rfl rfl 5 (by decide) (hts _ mw82) (fun _ h9 => h9) rfl hin rfl rfl rfl rfl (Nat.le_of_ble_eq_true rfl) dX1_init_51 rfl (fun H locs hP hD hS => ?_)
  have hP9 := hP.sub (ws' := [(h0, .inr (1, [.ref q1, .ref q2, .ref q3, .ref q4, .ref q5, .ref q6, .int 0])), (q1, .inl (cL, 288, .inr (.inl (fun _ => 0)))), (q2, .inl (cL, 288, .inr (.inl (fun _ => 0)))), (q3, .inl (cI, 72, .inl (fun _ => 0))), (q4, .inl (cI, 72, .inl (fun _ => 0))), (q5, .inl (cI, 72, .inl (fun _ => 0))), (q6, .inl (cL, 72, .inr (.inl (fun _ => 0))))]) [0, 1, 2, 3, 4, 5, 6] rfl
  have hD9 := hD.sub (ws' := [(h0, .inr (1, [.ref q1, .ref q2, .ref q3, .ref q4, .ref q5, .ref q6, .int 0])), (q1, .inl (cL, 288, .inr (.inl (fun _ => 0)))), (q2, .inl (cL, 288, .inr (.inl (fun _ => 0)))), (q3, .inl (cI, 72, .inl (fun _ => 0))), (q4, .inl (cI, 72, .inl (fun _ => 0))), (q5, .inl (cI, 72, .inl (fun _ => 0))), (q6, .inl (cL, 72, .inr (.inl (fun _ => 0))))]) [0, 1, 2, 3, 4, 5, 6] (by decide) rfl
  exact W.vret hx hb hr (fun t ht hW => ⟨⟨(fun k => match k with | 0 => h0 | 1 => q1 | 2 => q2 | 3 => q3 | 4 => q4 | 5 => q5 | _ => q6), rfl, rfl, by rw [ht]; exact hP9, hD9⟩, hS.F ht⟩) hS.2.2 dX1_init_54

set_option maxHeartbeats 4000000 in
set_option maxRecDepth 100000 in
/-- Keys() -/
theorem c_X2_init (l : Launch) (dC : Nat → ClassId) (dI : Nat → Nat → Nat) (cI cL : ClassId) (h0 sz : Nat) : Met l yX2_init wsX2_init ({ frames := 1, cells := 2, slots := 8, locals := 12 }) (ni_P (dC, dI) vwCl [(cI, .int), (cL, .long)] sz [(h0, .inr (2, [.null, .null, .int 0]))] (fun _ => True) [.ref h0]) (ni_Q (dC, dI) vwCl h0 (va_A [(h0, .inr (2, [.null, .null, .int 0]))] sz) (fun u => [(u 0, .inr (2, [.ref (u 1), .ref (u 2), .int 0])), (u 1, .inl (cI, 4, .inl (fun _ => 0))), (u 2, .inl (cL, 4, .inr (.inl (fun _ => 0))))])) 2 8 (va_A [(h0, .inr (2, [.null, .null, .int 0]))] sz) := by
  refine Met.ofW (cc := cX2_init) (maxL := 1) (ret := none) (by decide) rfl ?_
  intro p e s m args below meth c s₁ B hml hv
  obtain ⟨rfl, hsz, hP, hK, hD0, hX⟩ := hv
  have hx := B.exec
  have hb := B.bytes
  have hr := B.returns
  have hts := fun w h => atoms_spec (ws := wsX2_init) B.pre w (List.mem_cons_of_mem _ h)
  have hown : s.vm.findClass RX2 = some m.cls := findClass_of_methodNamed B.named
  have hlocks := B.notSynchronized
  have hin : meth.name = "<init>" := (name_of_methodNamed B.named B.method).1
  subst hsz
  have hD := hD0.self (sz := s.heap.size)
  generalize hAe : va_A [(h0, .inr (2, [.null, .null, .int 0]))] s.heap.size = A at hD ⊢
  have hA : ∀ q : Nat, s.heap.size ≤ q → A q := fun q h => by rw [← hAe]; exact Or.inr h
  have hS : va_S A s.heap s.heap [] := va_S.rf
  have hl := lv_entry ([.ref h0]) (n := 1) (Nat.le_of_ble_eq_true rfl)
  rw [lg_entry_eq]
  generalize (lg_sl ([.ref h0]) ++ List.replicate (1 - (lg_sl ([.ref h0])).length) Slot.unset).toArray = ls at hl ⊢
  have hl : lv_has ls 1 [(0, .ref h0)] := hl
  refine lv_aload_n hx hb dX2_init_0 rfl (lv_at hl 0 rfl) ?_
  refine W.objInit hx hb hown (hts _ mw50) (hts _ mw43) (hts _ mw44) rfl (by rw [hml]; exact hl.1) rfl dX2_init_1 (Nat.le_of_ble_eq_true rfl) (Nat.le_of_ble_eq_true rfl) ?_
  refine W.eq (g2 := F0 m 4 ls []) rfl ?_
  refine lv_aload_n hx hb dX2_init_4 rfl (lv_at hl 0 rfl) ?_
  refine lv_iconst (v := 4) hx hb dX2_init_5 (by decide) ?_
  refine n_newi hx hb (hts _ mw64) hK hP hD hS hA 4 rfl (by decide) (Nat.le_of_ble_eq_true rfl) (Nat.le_of_ble_eq_true rfl) dX2_init_6 (fun q1 H hP hD hS => ?_)
  have hP : va_P (dC, dI) vwCl [(h0, .inr (2, [.null, .null, .int 0])), (q1, .inl (cI, 4, .inl (fun _ => 0)))] H := hP
  have hD : va_D A [(h0, .inr (2, [.null, .null, .int 0])), (q1, .inl (cI, 4, .inl (fun _ => 0)))] := hD
  refine W.widen (k := 1) (n := 4) (Nat.le_refl _) (Nat.le_refl _) ?_
  refine n_putF (ws' := [(h0, .inr (2, [.ref q1, .null, .int 0])), (q1, .inl (cI, 4, .inl (fun _ => 0)))]) (D := (dC, dI)) (ci := 2) (v := .ref q1) (ty := (.array .int)) (C := RX2) (T := TX2) (N := 3) hx hb hts inX2 tyX2 tyX2_ok nmX2 hown hK hP hD hS 0 rfl rfl 0 (by decide) (hts _ mw51) (fun _ h9 => h9) rfl hin rfl rfl rfl rfl (Nat.le_of_ble_eq_true rfl) dX2_init_8 rfl (fun H locs hP hD hS => ?_)
  refine lv_aload_n hx hb dX2_init_11 rfl (lv_at hl 0 rfl) ?_
  refine lv_iconst (v := 4) hx hb dX2_init_12 (by decide) ?_
  refine n_newl hx hb (hts _ mw65) hK hP hD hS hA 4 rfl (by decide) (Nat.le_of_ble_eq_true rfl) (Nat.le_of_ble_eq_true rfl) dX2_init_13 (fun q2 H hP hD hS => ?_)
  have hP : va_P (dC, dI) vwCl [(h0, .inr (2, [.ref q1, .null, .int 0])), (q1, .inl (cI, 4, .inl (fun _ => 0))), (q2, .inl (cL, 4, .inr (.inl (fun _ => 0))))] H := hP
  have hD : va_D A [(h0, .inr (2, [.ref q1, .null, .int 0])), (q1, .inl (cI, 4, .inl (fun _ => 0))), (q2, .inl (cL, 4, .inr (.inl (fun _ => 0))))] := hD
  refine W.widen (k := 2) (n := 8) (Nat.le_refl _) (Nat.le_refl _) ?_
  refine n_putF (ws' := [(h0, .inr (2, [.ref q1, .ref q2, .int 0])), (q1, .inl (cI, 4, .inl (fun _ => 0))), (q2, .inl (cL, 4, .inr (.inl (fun _ => 0))))]) (D := (dC, dI)) (ci := 2) (v := .ref q2) (ty := (.array .long)) (C := RX2) (T := TX2) (N := 3) hx hb hts inX2 tyX2 tyX2_ok nmX2 hown hK hP hD hS 0 rfl rfl 1 (by decide) (hts _ mw53) (fun _ h9 => h9) rfl hin rfl rfl rfl rfl (Nat.le_of_ble_eq_true rfl) dX2_init_15 rfl (fun H locs hP hD hS => ?_)
  have hP9 := hP.sub (ws' := [(h0, .inr (2, [.ref q1, .ref q2, .int 0])), (q1, .inl (cI, 4, .inl (fun _ => 0))), (q2, .inl (cL, 4, .inr (.inl (fun _ => 0))))]) [0, 1, 2] rfl
  have hD9 := hD.sub (ws' := [(h0, .inr (2, [.ref q1, .ref q2, .int 0])), (q1, .inl (cI, 4, .inl (fun _ => 0))), (q2, .inl (cL, 4, .inr (.inl (fun _ => 0))))]) [0, 1, 2] (by decide) rfl
  exact W.vret hx hb hr (fun t ht hW => ⟨⟨(fun k => match k with | 0 => h0 | 1 => q1 | _ => q2), rfl, rfl, by rw [ht]; exact hP9, hD9⟩, hS.F ht⟩) hS.2.2 dX2_init_18

set_option maxHeartbeats 4000000 in
set_option maxRecDepth 100000 in
/-- WayTables() -/
theorem c_X3_init (l : Launch) (dC : Nat → ClassId) (dI : Nat → Nat → Nat) (cI cL : ClassId) (h0 sz : Nat) : Met l yX3_init wsX3_init ({ frames := 2, cells := 14, slots := 910, locals := 32 }) (ni_P (dC, dI) vwCl [(cI, .int), (cL, .long)] sz [(h0, .inr (3, [.null, .null, .null, .null, .null, .int 0, .int 0, .int 0, .long 0]))] (nX) [.ref h0]) (ni_Q (dC, dI) vwCl h0 (va_A [(h0, .inr (3, [.null, .null, .null, .null, .null, .int 0, .int 0, .int 0, .long 0]))] sz) (fun u => [(u 0, .inr (3, [.ref (u 1), .ref (u 2), .ref (u 3), .ref (u 4), .ref (u 5), .int (bI false), .int (bI false), .int 0, .long 0])), (u 1, .inr (2, [.ref (u 6), .ref (u 7), .int (nI 0)])), (u 2, .inr (1, [.ref (u 8), .ref (u 9), .ref (u 10), .ref (u 11), .ref (u 12), .ref (u 13), .int (nI 0)])), (u 3, .inr (0, [.ref (u 14), .int (nI 0), .int 0, .int 0])), (u 4, .inl (cL, 4, .inr (.inl (fun _ => 0)))), (u 5, .inl (cL, 4, .inr (.inl (fun _ => 0)))), (u 6, .inl (cI, 4, .inl (fun _ => 0))), (u 7, .inl (cL, 4, .inr (.inl (fun _ => 0)))), (u 8, .inl (cL, 288, .inr (.inl (fun _ => 0)))), (u 9, .inl (cL, 288, .inr (.inl (fun _ => 0)))), (u 10, .inl (cI, 72, .inl (fun _ => 0))), (u 11, .inl (cI, 72, .inl (fun _ => 0))), (u 12, .inl (cI, 72, .inl (fun _ => 0))), (u 13, .inl (cL, 72, .inr (.inl (fun _ => 0)))), (u 14, .inl (cI, 16, .inl (fun _ => 0)))])) 14 910 (va_A [(h0, .inr (3, [.null, .null, .null, .null, .null, .int 0, .int 0, .int 0, .long 0]))] sz) := by
  refine Met.ofW (cc := cX3_init) (maxL := 1) (ret := none) (by decide) rfl ?_
  intro p e s m args below meth c s₁ B hml hv
  obtain ⟨rfl, hsz, hP, hK, hD0, hX⟩ := hv
  have hx := B.exec
  have hb := B.bytes
  have hr := B.returns
  have hts := fun w h => atoms_spec (ws := wsX3_init) B.pre w (List.mem_cons_of_mem _ h)
  have hown : s.vm.findClass RX3 = some m.cls := findClass_of_methodNamed B.named
  have hlocks := B.notSynchronized
  have hin : meth.name = "<init>" := (name_of_methodNamed B.named B.method).1
  subst hsz
  have hD := hD0.self (sz := s.heap.size)
  generalize hAe : va_A [(h0, .inr (3, [.null, .null, .null, .null, .null, .int 0, .int 0, .int 0, .long 0]))] s.heap.size = A at hD ⊢
  have hA : ∀ q : Nat, s.heap.size ≤ q → A q := fun q h => by rw [← hAe]; exact Or.inr h
  have hS : va_S A s.heap s.heap [] := va_S.rf
  have hl := lv_entry ([.ref h0]) (n := 1) (Nat.le_of_ble_eq_true rfl)
  rw [lg_entry_eq]
  generalize (lg_sl ([.ref h0]) ++ List.replicate (1 - (lg_sl ([.ref h0])).length) Slot.unset).toArray = ls at hl ⊢
  have hl : lv_has ls 1 [(0, .ref h0)] := hl
  refine lv_aload_n hx hb dX3_init_0 rfl (lv_at hl 0 rfl) ?_
  refine W.objInit hx hb hown (hts _ mw42) (hts _ mw43) (hts _ mw44) rfl (by rw [hml]; exact hl.1) rfl dX3_init_1 (Nat.le_of_ble_eq_true rfl) (Nat.le_of_ble_eq_true rfl) ?_
  refine W.eq (g2 := F0 m 4 ls []) rfl ?_
  refine lv_aload_n hx hb dX3_init_4 rfl (lv_at hl 0 rfl) ?_
  refine va_new (ci := 2) (fs := [.null, .null, .int 0]) (C := RX2) (T := TX2) (N := 3) hx hb hts inX2 tyX2 tyX2_ok hown (hts _ mw45) (hts _ mw46) (hts _ mw23) hK hP hD hS hA rfl (fun j hj => by rcases (show j = 0 ∨ j = 1 ∨ j = 2 by omega) with rfl | rfl | rfl <;> rfl) (Nat.le_of_ble_eq_true rfl) (Nat.le_of_ble_eq_true rfl) dX3_init_5 (fun q1 H hP hD hS => ?_)
  have hP : va_P (dC, dI) vwCl [(h0, .inr (3, [.null, .null, .null, .null, .null, .int 0, .int 0, .int 0, .long 0])), (q1, .inr (2, [.null, .null, .int 0]))] H := hP
  have hD : va_D A [(h0, .inr (3, [.null, .null, .null, .null, .null, .int 0, .int 0, .int 0, .long 0])), (q1, .inr (2, [.null, .null, .int 0]))] := hD
  refine W.widen (k := 1) (n := 3) (Nat.le_refl _) (Nat.le_refl _) ?_
  refine lv_dup hx hb dX3_init_8 rfl ?_
  have hPc := hP.sub (ws' := [(q1, .inr (2, [.null, .null, .int 0]))]) [1] rfl
  have hDc := hD.sub (ws' := [(q1, .inr (2, [.null, .null, .int 0]))]) [1] (by decide) rfl
  have hFc := va_free (wc := [(q1, .inr (2, [.null, .null, .int 0]))]) hD hS hA [1] rfl
  refine va_callv (va_runIN (As := []) (rest := [.ref q1, .ref h0]) ⟨hx, hb, hml, hown, hts⟩ (c_X2_init l dC dI cI cL q1 H.size) ⟨va_cnB 0 hts (gI mw49) rfl rfl rfl hX.1 (hts _ mw23) (by decide +kernel) ⟨Nat.le_of_ble_eq_true rfl, Nat.le_of_ble_eq_true rfl⟩, rfl, hts _ mw48⟩ ⟨fun a U g mk q => ⟨q.1, q.2.1, q.2.2.1, va_K.moved (u := U) (U := U.calling g mk a) (Vm.Alike.refl U.vm) q.2.2.2.1, q.2.2.2.2.1, trivial⟩, fun U hU hW => ⟨rfl, by rw [hU], by rw [hU]; exact hPc, va_K.moved hW.alike hK, hDc.weaken (fun _ _ _ _ => trivial), trivial⟩⟩ rfl rfl hl.1 rfl (lv_room (Nat.le_of_ble_eq_true rfl)) dX3_init_9 ⟨Nat.le_of_ble_eq_true rfl, Nat.le_of_ble_eq_true rfl⟩) hS (fun q _ h => hFc q h) hFc (fun u2 t H1 locs ht hvm hw hB hz1 hk1 hS => ?_)
  obtain ⟨hP1, hD1⟩ := hB
  rw [ht] at hP1
  obtain ⟨hP, hD⟩ := va_join (wr := [(h0, .inr (3, [.null, .null, .null, .null, .null, .int 0, .int 0, .int 0, .long 0]))]) (w1 := [(u2 0, .inr (2, [.ref (u2 1), .ref (u2 2), .int 0])), (u2 1, .inl (cI, 4, .inl (fun _ => 0))), (u2 2, .inl (cL, 4, .inr (.inl (fun _ => 0))))]) hP hD [1] [0] rfl rfl (by decide) (by decide) hk1 hFc hP1 hD1
  generalize H1 = H at hP hS ⊢
  have e2 : u2 0 = q1 := hw
  rw [e2] at hP hD
  have hP : va_P (dC, dI) vwCl [(h0, .inr (3, [.null, .null, .null, .null, .null, .int 0, .int 0, .int 0, .long 0])), (q1, .inr (2, [.ref (u2 1), .ref (u2 2), .int 0])), (u2 1, .inl (cI, 4, .inl (fun _ => 0))), (u2 2, .inl (cL, 4, .inr (.inl (fun _ => 0))))] H := hP
  have hD : va_D A [(h0, .inr (3, [.null, .null, .null, .null, .null, .int 0, .int 0, .int 0, .long 0])), (q1, .inr (2, [.ref (u2 1), .ref (u2 2), .int 0])), (u2 1, .inl (cI, 4, .inl (fun _ => 0))), (u2 2, .inl (cL, 4, .inr (.inl (fun _ => 0))))] := hD
  refine W.widen (k := 3) (n := 11) (Nat.le_refl _) (Nat.le_refl _) ?_
  refine n_putF (ws' := [(h0, .inr (3, [.ref q1, .null, .null, .null, .null, .int 0, .int 0, .int 0, .long 0])), (q1, .inr (2, [.ref (u2 1), .ref (u2 2), .int 0])), (u2 1, .inl (cI, 4, .inl (fun _ => 0))), (u2 2, .inl (cL, 4, .inr (.inl (fun _ => 0))))]) (D := (dC, dI)) (ci := 3) (v := .ref q1) (ty := (.object "WayTables$Keys")) (C := RX3) (T := TX3) (N := 9) hx hb hts inX3 tyX3 tyX3_ok nmX3 hown hK hP hD hS 0 rfl rfl 0 (by decide) (hts _ mw120) (fun _ h9 => h9) rfl hin rfl rfl rfl rfl (Nat.le_of_ble_eq_true rfl) dX3_init_12 rfl (fun H locs hP hD hS => ?_)
  refine lv_aload_n hx hb dX3_init_15 rfl (lv_at hl 0 rfl) ?_
  refine va_new (ci := 1) (fs := [.null, .null, .null, .null, .null, .null, .int 0]) (C := RX1) (T := TX1) (N := 7) hx hb hts inX1 tyX1 tyX1_ok hown (hts _ mw66) (hts _ mw67) (hts _ mw24) hK hP hD hS hA rfl (fun j hj => by rcases (show j = 0 ∨ j = 1 ∨ j = 2 ∨ j = 3 ∨ j = 4 ∨ j = 5 ∨ j = 6 by omega) with rfl | rfl | rfl | rfl | rfl | rfl | rfl <;> rfl) (Nat.le_of_ble_eq_true rfl) (Nat.le_of_ble_eq_true rfl) dX3_init_16 (fun q2 H hP hD hS => ?_)
  have hP : va_P (dC, dI) vwCl [(h0, .inr (3, [.ref q1, .null, .null, .null, .null, .int 0, .int 0, .int 0, .long 0])), (q1, .inr (2, [.ref (u2 1), .ref (u2 2), .int 0])), (u2 1, .inl (cI, 4, .inl (fun _ => 0))), (u2 2, .inl (cL, 4, .inr (.inl (fun _ => 0)))), (q2, .inr (1, [.null, .null, .null, .null, .null, .null, .int 0]))] H := hP
  have hD : va_D A [(h0, .inr (3, [.ref q1, .null, .null, .null, .null, .int 0, .int 0, .int 0, .long 0])), (q1, .inr (2, [.ref (u2 1), .ref (u2 2), .int 0])), (u2 1, .inl (cI, 4, .inl (fun _ => 0))), (u2 2, .inl (cL, 4, .inr (.inl (fun _ => 0)))), (q2, .inr (1, [.null, .null, .null, .null, .null, .null, .int 0]))] := hD
  refine W.widen (k := 4) (n := 18) (Nat.le_refl _) (Nat.le_refl _) ?_
  refine lv_dup hx hb dX3_init_19 rfl ?_
  have hPc := hP.sub (ws' := [(q2, .inr (1, [.null, .null, .null, .null, .null, .null, .int 0]))]) [4] rfl
  have hDc := hD.sub (ws' := [(q2, .inr (1, [.null, .null, .null, .null, .null, .null, .int 0]))]) [4] (by decide) rfl
  have hFc := va_free (wc := [(q2, .inr (1, [.null, .null, .null, .null, .null, .null, .int 0]))]) hD hS hA [4] rfl
  refine va_callv (va_runIN (As := []) (rest := [.ref q2, .ref h0]) ⟨hx, hb, hml, hown, hts⟩ (c_X1_init l dC dI cI cL q2 H.size) ⟨va_cnB 0 hts (gI mw70) rfl rfl rfl hX.2.1 (hts _ mw24) (by decide +kernel) ⟨Nat.le_of_ble_eq_true rfl, Nat.le_of_ble_eq_true rfl⟩, rfl, hts _ mw69⟩ ⟨fun a U g mk q => ⟨q.1, q.2.1, q.2.2.1, va_K.moved (u := U) (U := U.calling g mk a) (Vm.Alike.refl U.vm) q.2.2.2.1, q.2.2.2.2.1, trivial⟩, fun U hU hW => ⟨rfl, by rw [hU], by rw [hU]; exact hPc, va_K.moved hW.alike hK, hDc.weaken (fun _ _ _ _ => trivial), trivial⟩⟩ rfl rfl hl.1 rfl (lv_room (Nat.le_of_ble_eq_true rfl)) dX3_init_20 ⟨Nat.le_of_ble_eq_true rfl, Nat.le_of_ble_eq_true rfl⟩) hS (fun q _ h => hFc q h) hFc (fun u1 t H1 locs ht hvm hw hB hz1 hk1 hS => ?_)
  obtain ⟨hP1, hD1⟩ := hB
  rw [ht] at hP1
  obtain ⟨hP, hD⟩ := va_join (wr := [(h0, .inr (3, [.ref q1, .null, .null, .null, .null, .int 0, .int 0, .int 0, .long 0])), (q1, .inr (2, [.ref (u2 1), .ref (u2 2), .int 0])), (u2 1, .inl (cI, 4, .inl (fun _ => 0))), (u2 2, .inl (cL, 4, .inr (.inl (fun _ => 0))))]) (w1 := [(u1 0, .inr (1, [.ref (u1 1), .ref (u1 2), .ref (u1 3), .ref (u1 4), .ref (u1 5), .ref (u1 6), .int 0])), (u1 1, .inl (cL, 288, .inr (.inl (fun _ => 0)))), (u1 2, .inl (cL, 288, .inr (.inl (fun _ => 0)))), (u1 3, .inl (cI, 72, .inl (fun _ => 0))), (u1 4, .inl (cI, 72, .inl (fun _ => 0))), (u1 5, .inl (cI, 72, .inl (fun _ => 0))), (u1 6, .inl (cL, 72, .inr (.inl (fun _ => 0))))]) hP hD [4] [0, 1, 2, 3] rfl rfl (by decide) (by decide) hk1 hFc hP1 hD1
  generalize H1 = H at hP hS ⊢
  have e1 : u1 0 = q2 := hw
  rw [e1] at hP hD
  have hP : va_P (dC, dI) vwCl [(h0, .inr (3, [.ref q1, .null, .null, .null, .null, .int 0, .int 0, .int 0, .long 0])), (q1, .inr (2, [.ref (u2 1), .ref (u2 2), .int 0])), (u2 1, .inl (cI, 4, .inl (fun _ => 0))), (u2 2, .inl (cL, 4, .inr (.inl (fun _ => 0)))), (q2, .inr (1, [.ref (u1 1), .ref (u1 2), .ref (u1 3), .ref (u1 4), .ref (u1 5), .ref (u1 6), .int 0])), (u1 1, .inl (cL, 288, .inr (.inl (fun _ => 0)))), (u1 2, .inl (cL, 288, .inr (.inl (fun _ => 0)))), (u1 3, .inl (cI, 72, .inl (fun _ => 0))), (u1 4, .inl (cI, 72, .inl (fun _ => 0))), (u1 5, .inl (cI, 72, .inl (fun _ => 0))), (u1 6, .inl (cL, 72, .inr (.inl (fun _ => 0))))] H := hP
  have hD : va_D A [(h0, .inr (3, [.ref q1, .null, .null, .null, .null, .int 0, .int 0, .int 0, .long 0])), (q1, .inr (2, [.ref (u2 1), .ref (u2 2), .int 0])), (u2 1, .inl (cI, 4, .inl (fun _ => 0))), (u2 2, .inl (cL, 4, .inr (.inl (fun _ => 0)))), (q2, .inr (1, [.ref (u1 1), .ref (u1 2), .ref (u1 3), .ref (u1 4), .ref (u1 5), .ref (u1 6), .int 0])), (u1 1, .inl (cL, 288, .inr (.inl (fun _ => 0)))), (u1 2, .inl (cL, 288, .inr (.inl (fun _ => 0)))), (u1 3, .inl (cI, 72, .inl (fun _ => 0))), (u1 4, .inl (cI, 72, .inl (fun _ => 0))), (u1 5, .inl (cI, 72, .inl (fun _ => 0))), (u1 6, .inl (cL, 72, .inr (.inl (fun _ => 0))))] := hD
  refine W.widen (k := 10) (n := 882) (Nat.le_refl _) (Nat.le_refl _) ?_
  refine n_putF (ws' := [(h0, .inr (3, [.ref q1, .ref q2, .null, .null, .null, .int 0, .int 0, .int 0, .long 0])), (q1, .inr (2, [.ref (u2 1), .ref (u2 2), .int 0])), (u2 1, .inl (cI, 4, .inl (fun _ => 0))), (u2 2, .inl (cL, 4, .inr (.inl (fun _ => 0)))), (q2, .inr (1, [.ref (u1 1), .ref (u1 2), .ref (u1 3), .ref (u1 4), .ref (u1 5), .ref (u1 6), .int 0])), (u1 1, .inl (cL, 288, .inr (.inl (fun _ => 0)))), (u1 2, .inl (cL, 288, .inr (.inl (fun _ => 0)))), (u1 3, .inl (cI, 72, .inl (fun _ => 0))), (u1 4, .inl (cI, 72, .inl (fun _ => 0))), (u1 5, .inl (cI, 72, .inl (fun _ => 0))), (u1 6, .inl (cL, 72, .inr (.inl (fun _ => 0))))]) (D := (dC, dI)) (ci := 3) (v := .ref q2) (ty := (.object "WayTables$Entries")) (C := RX3) (T := TX3) (N := 9) hx hb hts inX3 tyX3 tyX3_ok nmX3 hown hK hP hD hS 0 rfl rfl 1 (by decide) (hts _ mw121) (fun _ h9 => h9) rfl hin rfl rfl rfl rfl (Nat.le_of_ble_eq_true rfl) dX3_init_23 rfl (fun H locs hP hD hS => ?_)
  refine lv_aload_n hx hb dX3_init_26 rfl (lv_at hl 0 rfl) ?_
  refine va_new (ci := 0) (fs := [.null, .int 0, .int 0, .int 0]) (C := RX0) (T := TX0) (N := 4) hx hb hts inX0 tyX0 tyX0_ok hown (hts _ mw101) (hts _ mw102) (hts _ mw25) hK hP hD hS hA rfl (fun j hj => by rcases (show j = 0 ∨ j = 1 ∨ j = 2 ∨ j = 3 by omega) with rfl | rfl | rfl | rfl <;> rfl) (Nat.le_of_ble_eq_true rfl) (Nat.le_of_ble_eq_true rfl) dX3_init_27 (fun q3 H hP hD hS => ?_)
  have hP : va_P (dC, dI) vwCl [(h0, .inr (3, [.ref q1, .ref q2, .null, .null, .null, .int 0, .int 0, .int 0, .long 0])), (q1, .inr (2, [.ref (u2 1), .ref (u2 2), .int 0])), (u2 1, .inl (cI, 4, .inl (fun _ => 0))), (u2 2, .inl (cL, 4, .inr (.inl (fun _ => 0)))), (q2, .inr (1, [.ref (u1 1), .ref (u1 2), .ref (u1 3), .ref (u1 4), .ref (u1 5), .ref (u1 6), .int 0])), (u1 1, .inl (cL, 288, .inr (.inl (fun _ => 0)))), (u1 2, .inl (cL, 288, .inr (.inl (fun _ => 0)))), (u1 3, .inl (cI, 72, .inl (fun _ => 0))), (u1 4, .inl (cI, 72, .inl (fun _ => 0))), (u1 5, .inl (cI, 72, .inl (fun _ => 0))), (u1 6, .inl (cL, 72, .inr (.inl (fun _ => 0)))), (q3, .inr (0, [.null, .int 0, .int 0, .int 0]))] H := hP
  have hD : va_D A [(h0, .inr (3, [.ref q1, .ref q2, .null, .null, .null, .int 0, .int 0, .int 0, .long 0])), (q1, .inr (2, [.ref (u2 1), .ref (u2 2), .int 0])), (u2 1, .inl (cI, 4, .inl (fun _ => 0))), (u2 2, .inl (cL, 4, .inr (.inl (fun _ => 0)))), (q2, .inr (1, [.ref (u1 1), .ref (u1 2), .ref (u1 3), .ref (u1 4), .ref (u1 5), .ref (u1 6), .int 0])), (u1 1, .inl (cL, 288, .inr (.inl (fun _ => 0)))), (u1 2, .inl (cL, 288, .inr (.inl (fun _ => 0)))), (u1 3, .inl (cI, 72, .inl (fun _ => 0))), (u1 4, .inl (cI, 72, .inl (fun _ => 0))), (u1 5, .inl (cI, 72, .inl (fun _ => 0))), (u1 6, .inl (cL, 72, .inr (.inl (fun _ => 0)))), (q3, .inr (0, [.null, .int 0, .int 0, .int 0]))] := hD
  refine W.widen (k := 11) (n := 886) (Nat.le_refl _) (Nat.le_refl _) ?_
  refine lv_dup hx hb dX3_init_30 rfl ?_
  have hPc := hP.sub (ws' := [(q3, .inr (0, [.null, .int 0, .int 0, .int 0]))]) [11] rfl
  have hDc := hD.sub (ws' := [(q3, .inr (0, [.null, .int 0, .int 0, .int 0]))]) [11] (by decide) rfl
  have hFc := va_free (wc := [(q3, .inr (0, [.null, .int 0, .int 0, .int 0]))]) hD hS hA [11] rfl
  refine va_callv (va_runIN (As := []) (rest := [.ref q3, .ref h0]) ⟨hx, hb, hml, hown, hts⟩ (c_X0_init l dC dI cI cL q3 H.size) ⟨va_cnB 0 hts (gI mw105) rfl rfl rfl hX.2.2 (hts _ mw25) (by decide +kernel) ⟨Nat.le_of_ble_eq_true rfl, Nat.le_of_ble_eq_true rfl⟩, rfl, hts _ mw104⟩ ⟨fun a U g mk q => ⟨q.1, q.2.1, q.2.2.1, va_K.moved (u := U) (U := U.calling g mk a) (Vm.Alike.refl U.vm) q.2.2.2.1, q.2.2.2.2.1, trivial⟩, fun U hU hW => ⟨rfl, by rw [hU], by rw [hU]; exact hPc, va_K.moved hW.alike hK, hDc.weaken (fun _ _ _ _ => trivial), trivial⟩⟩ rfl rfl hl.1 rfl (lv_room (Nat.le_of_ble_eq_true rfl)) dX3_init_31 ⟨Nat.le_of_ble_eq_true rfl, Nat.le_of_ble_eq_true rfl⟩) hS (fun q _ h => hFc q h) hFc (fun u0 t H1 locs ht hvm hw hB hz1 hk1 hS => ?_)
  obtain ⟨hP1, hD1⟩ := hB
  rw [ht] at hP1
  obtain ⟨hP, hD⟩ := va_join (wr := [(h0, .inr (3, [.ref q1, .ref q2, .null, .null, .null, .int 0, .int 0, .int 0, .long 0])), (q1, .inr (2, [.ref (u2 1), .ref (u2 2), .int 0])), (u2 1, .inl (cI, 4, .inl (fun _ => 0))), (u2 2, .inl (cL, 4, .inr (.inl (fun _ => 0)))), (q2, .inr (1, [.ref (u1 1), .ref (u1 2), .ref (u1 3), .ref (u1 4), .ref (u1 5), .ref (u1 6), .int 0])), (u1 1, .inl (cL, 288, .inr (.inl (fun _ => 0)))), (u1 2, .inl (cL, 288, .inr (.inl (fun _ => 0)))), (u1 3, .inl (cI, 72, .inl (fun _ => 0))), (u1 4, .inl (cI, 72, .inl (fun _ => 0))), (u1 5, .inl (cI, 72, .inl (fun _ => 0))), (u1 6, .inl (cL, 72, .inr (.inl (fun _ => 0))))]) (w1 := [(u0 0, .inr (0, [.ref (u0 1), .int 0, .int 0, .int 0])), (u0 1, .inl (cI, 16, .inl (fun _ => 0)))]) hP hD [11] [0, 1, 2, 3, 4, 5, 6, 7, 8, 9, 10] rfl rfl (by decide) (by decide) hk1 hFc hP1 hD1
  generalize H1 = H at hP hS ⊢
  have e0 : u0 0 = q3 := hw
  rw [e0] at hP hD
  have hP : va_P (dC, dI) vwCl [(h0, .inr (3, [.ref q1, .ref q2, .null, .null, .null, .int 0, .int 0, .int 0, .long 0])), (q1, .inr (2, [.ref (u2 1), .ref (u2 2), .int 0])), (u2 1, .inl (cI, 4, .inl (fun _ => 0))), (u2 2, .inl (cL, 4, .inr (.inl (fun _ => 0)))), (q2, .inr (1, [.ref (u1 1), .ref (u1 2), .ref (u1 3), .ref (u1 4), .ref (u1 5), .ref (u1 6), .int 0])), (u1 1, .inl (cL, 288, .inr (.inl (fun _ => 0)))), (u1 2, .inl (cL, 288, .inr (.inl (fun _ => 0)))), (u1 3, .inl (cI, 72, .inl (fun _ => 0))), (u1 4, .inl (cI, 72, .inl (fun _ => 0))), (u1 5, .inl (cI, 72, .inl (fun _ => 0))), (u1 6, .inl (cL, 72, .inr (.inl (fun _ => 0)))), (q3, .inr (0, [.ref (u0 1), .int 0, .int 0, .int 0])), (u0 1, .inl (cI, 16, .inl (fun _ => 0)))] H := hP
  have hD : va_D A [(h0, .inr (3, [.ref q1, .ref q2, .null, .null, .null, .int 0, .int 0, .int 0, .long 0])), (q1, .inr (2, [.ref (u2 1), .ref (u2 2), .int 0])), (u2 1, .inl (cI, 4, .inl (fun _ => 0))), (u2 2, .inl (cL, 4, .inr (.inl (fun _ => 0)))), (q2, .inr (1, [.ref (u1 1), .ref (u1 2), .ref (u1 3), .ref (u1 4), .ref (u1 5), .ref (u1 6), .int 0])), (u1 1, .inl (cL, 288, .inr (.inl (fun _ => 0)))), (u1 2, .inl (cL, 288, .inr (.inl (fun _ => 0)))), (u1 3, .inl (cI, 72, .inl (fun _ => 0))), (u1 4, .inl (cI, 72, .inl (fun _ => 0))), (u1 5, .inl (cI, 72, .inl (fun _ => 0))), (u1 6, .inl (cL, 72, .inr (.inl (fun _ => 0)))), (q3, .inr (0, [.ref (u0 1), .int 0, .int 0, .int 0])), (u0 1, .inl (cI, 16, .inl (fun _ => 0)))] := hD
  refine W.widen (k := 12) (n := 902) (Nat.le_refl _) (Nat.le_refl _) ?_
  refine n_putF (ws' := [(h0, .inr (3, [.ref q1, .ref q2, .ref q3, .null, .null, .int 0, .int 0, .int 0, .long 0])), (q1, .inr (2, [.ref (u2 1), .ref (u2 2), .int 0])), (u2 1, .inl (cI, 4, .inl (fun _ => 0))), (u2 2, .inl (cL, 4, .inr (.inl (fun _ => 0)))), (q2, .inr (1, [.ref (u1 1), .ref (u1 2), .ref (u1 3), .ref (u1 4), .ref (u1 5), .ref (u1 6), .int 0])), (u1 1, .inl (cL, 288, .inr (.inl (fun _ => 0)))), (u1 2, .inl (cL, 288, .inr (.inl (fun _ => 0)))), (u1 3, .inl (cI, 72, .inl (fun _ => 0))), (u1 4, .inl (cI, 72, .inl (fun _ => 0))), (u1 5, .inl (cI, 72, .inl (fun _ => 0))), (u1 6, .inl (cL, 72, .inr (.inl (fun _ => 0)))), (q3, .inr (0, [.ref (u0 1), .int 0, .int 0, .int 0])), (u0 1, .inl (cI, 16, .inl (fun _ => 0)))]) (D := (dC, dI)) (ci := 3) (v := .ref q3) (ty := (.object "WayTables$Buckets")) (C := RX3) (T := TX3) (N := 9) hx hb hts inX3 tyX3 tyX3_ok nmX3 hown hK hP hD hS 0 rfl rfl 2 (by decide) (hts _ mw122) (fun _ h9 => h9) rfl hin rfl rfl rfl rfl (Nat.le_of_ble_eq_true rfl) dX3_init_34 rfl (fun H locs hP hD hS => ?_)
  refine lv_aload_n hx hb dX3_init_37 rfl (lv_at hl 0 rfl) ?_
  refine lv_iconst (v := 4) hx hb dX3_init_38 (by decide) ?_
  refine n_newl hx hb (hts _ mw65) hK hP hD hS hA 4 rfl (by decide) (Nat.le_of_ble_eq_true rfl) (Nat.le_of_ble_eq_true rfl) dX3_init_39 (fun q4 H hP hD hS => ?_)
  have hP : va_P (dC, dI) vwCl [(h0, .inr (3, [.ref q1, .ref q2, .ref q3, .null, .null, .int 0, .int 0, .int 0, .long 0])), (q1, .inr (2, [.ref (u2 1), .ref (u2 2), .int 0])), (u2 1, .inl (cI, 4, .inl (fun _ => 0))), (u2 2, .inl (cL, 4, .inr (.inl (fun _ => 0)))), (q2, .inr (1, [.ref (u1 1), .ref (u1 2), .ref (u1 3), .ref (u1 4), .ref (u1 5), .ref (u1 6), .int 0])), (u1 1, .inl (cL, 288, .inr (.inl (fun _ => 0)))), (u1 2, .inl (cL, 288, .inr (.inl (fun _ => 0)))), (u1 3, .inl (cI, 72, .inl (fun _ => 0))), (u1 4, .inl (cI, 72, .inl (fun _ => 0))), (u1 5, .inl (cI, 72, .inl (fun _ => 0))), (u1 6, .inl (cL, 72, .inr (.inl (fun _ => 0)))), (q3, .inr (0, [.ref (u0 1), .int 0, .int 0, .int 0])), (u0 1, .inl (cI, 16, .inl (fun _ => 0))), (q4, .inl (cL, 4, .inr (.inl (fun _ => 0))))] H := hP
  have hD : va_D A [(h0, .inr (3, [.ref q1, .ref q2, .ref q3, .null, .null, .int 0, .int 0, .int 0, .long 0])), (q1, .inr (2, [.ref (u2 1), .ref (u2 2), .int 0])), (u2 1, .inl (cI, 4, .inl (fun _ => 0))), (u2 2, .inl (cL, 4, .inr (.inl (fun _ => 0)))), (q2, .inr (1, [.ref (u1 1), .ref (u1 2), .ref (u1 3), .ref (u1 4), .ref (u1 5), .ref (u1 6), .int 0])), (u1 1, .inl (cL, 288, .inr (.inl (fun _ => 0)))), (u1 2, .inl (cL, 288, .inr (.inl (fun _ => 0)))), (u1 3, .inl (cI, 72, .inl (fun _ => 0))), (u1 4, .inl (cI, 72, .inl (fun _ => 0))), (u1 5, .inl (cI, 72, .inl (fun _ => 0))), (u1 6, .inl (cL, 72, .inr (.inl (fun _ => 0)))), (q3, .inr (0, [.ref (u0 1), .int 0, .int 0, .int 0])), (u0 1, .inl (cI, 16, .inl (fun _ => 0))), (q4, .inl (cL, 4, .inr (.inl (fun _ => 0))))] := hD
  refine W.widen (k := 13) (n := 906) (Nat.le_refl _) (Nat.le_refl _) ?_
  refine n_putF (ws' := [(h0, .inr (3, [.ref q1, .ref q2, .ref q3, .ref q4, .null, .int 0, .int 0, .int 0, .long 0])), (q1, .inr (2, [.ref (u2 1), .ref (u2 2), .int 0])), (u2 1, .inl (cI, 4, .inl (fun _ => 0))), (u2 2, .inl (cL, 4, .inr (.inl (fun _ => 0)))), (q2, .inr (1, [.ref (u1 1), .ref (u1 2), .ref (u1 3), .ref (u1 4), .ref (u1 5), .ref (u1 6), .int 0])), (u1 1, .inl (cL, 288, .inr (.inl (fun _ => 0)))), (u1 2, .inl (cL, 288, .inr (.inl (fun _ => 0)))), (u1 3, .inl (cI, 72, .inl (fun _ => 0))), (u1 4, .inl (cI, 72, .inl (fun _ => 0))), (u1 5, .inl (cI, 72, .inl (fun _ => 0))), (u1 6, .inl (cL, 72, .inr (.inl (fun _ => 0)))), (q3, .inr (0, [.ref (u0 1), .int 0, .int 0, .int 0])), (u0 1, .inl (cI, 16, .inl (fun _ => 0))), (q4, .inl (cL, 4, .inr (.inl (fun _ => 0))))]) (D := (dC, dI)) (ci := 3) (v := .ref q4) (ty := (.array .long)) (C := RX3) (T := TX3) (N := 9) hx hb hts inX3 tyX3 tyX3_ok nmX3 hown hK hP hD hS 0 rfl rfl 3 (by decide) (hts _ mw123) (fun _ h9 => h9) rfl hin rfl rfl rfl rfl (Nat.le_of_ble_eq_true rfl) dX3_init_41 rfl (fun H locs hP hD hS => ?_)
  refine lv_aload_n hx hb dX3_init_44 rfl (lv_at hl 0 rfl) ?_
  refine lv_iconst (v := 4) hx hb dX3_init_45 (by decide) ?_
  refine n_newl hx hb (hts _ mw65) hK hP hD hS hA 4 rfl (by decide) (Nat.le_of_ble_eq_true rfl) (Nat.le_of_ble_eq_true rfl) dX3_init_46 (fun q5 H hP hD hS => ?_)
  have hP : va_P (dC, dI) vwCl [(h0, .inr (3, [.ref q1, .ref q2, .ref q3, .ref q4, .null, .int 0, .int 0, .int 0, .long 0])), (q1, .inr (2, [.ref (u2 1), .ref (u2 2), .int 0])), (u2 1, .inl (cI, 4, .inl (fun _ => 0))), (u2 2, .inl (cL, 4, .inr (.inl (fun _ => 0)))), (q2, .inr (1, [.ref (u1 1), .ref (u1 2), .ref (u1 3), .ref (u1 4), .ref (u1 5), .ref (u1 6), .int 0])), (u1 1, .inl (cL, 288, .inr (.inl (fun _ => 0)))), (u1 2, .inl (cL, 288, .inr (.inl (fun _ => 0)))), (u1 3, .inl (cI, 72, .inl (fun _ => 0))), (u1 4, .inl (cI, 72, .inl (fun _ => 0))), (u1 5, .inl (cI, 72, .inl (fun _ => 0))), (u1 6, .inl (cL, 72, .inr (.inl (fun _ => 0)))), (q3, .inr (0, [.ref (u0 1), .int 0, .int 0, .int 0])), (u0 1, .inl (cI, 16, .inl (fun _ => 0))), (q4, .inl (cL, 4, .inr (.inl (fun _ => 0)))), (q5, .inl (cL, 4, .inr (.inl (fun _ => 0))))] H := hP
  have hD : va_D A [(h0, .inr (3, [.ref q1, .ref q2, .ref q3, .ref q4, .null, .int 0, .int 0, .int 0, .long 0])), (q1, .inr (2, [.ref (u2 1), .ref (u2 2), .int 0])), (u2 1, .inl (cI, 4, .inl (fun _ => 0))), (u2 2, .inl (cL, 4, .inr (.inl (fun _ => 0)))), (q2, .inr (1, [.ref (u1 1), .ref (u1 2), .ref (u1 3), .ref (u1 4), .ref (u1 5), .ref (u1 6), .int 0])), (u1 1, .inl (cL, 288, .inr (.inl (fun _ => 0)))), (u1 2, .inl (cL, 288, .inr (.inl (fun _ => 0)))), (u1 3, .inl (cI, 72, .inl (fun _ => 0))), (u1 4, .inl (cI, 72, .inl (fun _ => 0))), (u1 5, .inl (cI, 72, .inl (fun _ => 0))), (u1 6, .inl (cL, 72, .inr (.inl (fun _ => 0)))), (q3, .inr (0, [.ref (u0 1), .int 0, .int 0, .int 0])), (u0 1, .inl (cI, 16, .inl (fun _ => 0))), (q4, .inl (cL, 4, .inr (.inl (fun _ => 0)))), (q5, .inl (cL, 4, .inr (.inl (fun _ => 0))))] := hD
  refine W.widen (k := 14) (n := 910) (Nat.le_refl _) (Nat.le_refl _) ?_
  refine n_putF (ws' := [(h0, .inr (3, [.ref q1, .ref q2, .ref q3, .ref q4, .ref q5, .int 0, .int 0, .int 0, .long 0])), (q1, .inr (2, [.ref (u2 1), .ref (u2 2), .int 0])), (u2 1, .inl (cI, 4, .inl (fun _ => 0))), (u2 2, .inl (cL, 4, .inr (.inl (fun _ => 0)))), (q2, .inr (1, [.ref (u1 1), .ref (u1 2), .ref (u1 3), .ref (u1 4), .ref (u1 5), .ref (u1 6), .int 0])), (u1 1, .inl (cL, 288, .inr (.inl (fun _ => 0)))), (u1 2, .inl (cL, 288, .inr (.inl (fun _ => 0)))), (u1 3, .inl (cI, 72, .inl (fun _ => 0))), (u1 4, .inl (cI, 72, .inl (fun _ => 0))), (u1 5, .inl (cI, 72, .inl (fun _ => 0))), (u1 6, .inl (cL, 72, .inr (.inl (fun _ => 0)))), (q3, .inr (0, [.ref (u0 1), .int 0, .int 0, .int 0])), (u0 1, .inl (cI, 16, .inl (fun _ => 0))), (q4, .inl (cL, 4, .inr (.inl (fun _ => 0)))), (q5, .inl (cL, 4, .inr (.inl (fun _ => 0))))]) (D := (dC, dI)) (ci := 3) (v := .ref q5) (ty := (.array .long)) (C := RX3) (T := TX3) (N := 9) hx hb hts inX3 tyX3 tyX3_ok nmX3 hown hK hP hD hS 0 rfl rfl 4 (by decide) (hts _ mw124) (fun _ h9 => h9) rfl hin rfl rfl rfl rfl (Nat.le_of_ble_eq_true rfl) dX3_init_48 rfl (fun H locs hP hD hS => ?_)
  have hP9 := hP.sub (ws' := [(h0, .inr (3, [.ref q1, .ref q2, .ref q3, .ref q4, .ref q5, .int 0, .int 0, .int 0, .long 0])), (q1, .inr (2, [.ref (u2 1), .ref (u2 2), .int 0])), (q2, .inr (1, [.ref (u1 1), .ref (u1 2), .ref (u1 3), .ref (u1 4), .ref (u1 5), .ref (u1 6), .int 0])), (q3, .inr (0, [.ref (u0 1), .int 0, .int 0, .int 0])), (q4, .inl (cL, 4, .inr (.inl (fun _ => 0)))), (q5, .inl (cL, 4, .inr (.inl (fun _ => 0)))), (u2 1, .inl (cI, 4, .inl (fun _ => 0))), (u2 2, .inl (cL, 4, .inr (.inl (fun _ => 0)))), (u1 1, .inl (cL, 288, .inr (.inl (fun _ => 0)))), (u1 2, .inl (cL, 288, .inr (.inl (fun _ => 0)))), (u1 3, .inl (cI, 72, .inl (fun _ => 0))), (u1 4, .inl (cI, 72, .inl (fun _ => 0))), (u1 5, .inl (cI, 72, .inl (fun _ => 0))), (u1 6, .inl (cL, 72, .inr (.inl (fun _ => 0)))), (u0 1, .inl (cI, 16, .inl (fun _ => 0)))]) [0, 1, 4, 11, 13, 14, 2, 3, 5, 6, 7, 8, 9, 10, 12] rfl
  have hD9 := hD.sub (ws' := [(h0, .inr (3, [.ref q1, .ref q2, .ref q3, .ref q4, .ref q5, .int 0, .int 0, .int 0, .long 0])), (q1, .inr (2, [.ref (u2 1), .ref (u2 2), .int 0])), (q2, .inr (1, [.ref (u1 1), .ref (u1 2), .ref (u1 3), .ref (u1 4), .ref (u1 5), .ref (u1 6), .int 0])), (q3, .inr (0, [.ref (u0 1), .int 0, .int 0, .int 0])), (q4, .inl (cL, 4, .inr (.inl (fun _ => 0)))), (q5, .inl (cL, 4, .inr (.inl (fun _ => 0)))), (u2 1, .inl (cI, 4, .inl (fun _ => 0))), (u2 2, .inl (cL, 4, .inr (.inl (fun _ => 0)))), (u1 1, .inl (cL, 288, .inr (.inl (fun _ => 0)))), (u1 2, .inl (cL, 288, .inr (.inl (fun _ => 0)))), (u1 3, .inl (cI, 72, .inl (fun _ => 0))), (u1 4, .inl (cI, 72, .inl (fun _ => 0))), (u1 5, .inl (cI, 72, .inl (fun _ => 0))), (u1 6, .inl (cL, 72, .inr (.inl (fun _ => 0)))), (u0 1, .inl (cI, 16, .inl (fun _ => 0)))]) [0, 1, 4, 11, 13, 14, 2, 3, 5, 6, 7, 8, 9, 10, 12] (by decide) rfl
  exact W.vret hx hb hr (fun t ht hW => ⟨⟨(fun k => match k with | 0 => h0 | 1 => q1 | 2 => q2 | 3 => q3 | 4 => q4 | 5 => q5 | 6 => u2 1 | 7 => u2 2 | 8 => u1 1 | 9 => u1 2 | 10 => u1 3 | 11 => u1 4 | 12 => u1 5 | 13 => u1 6 | _ => u0 1), rfl, rfl, by rw [ht]; exact hP9, hD9⟩, hS.F ht⟩) hS.2.2 dX3_init_51

set_option maxHeartbeats 4000000 in
set_option maxRecDepth 100000 in
/-- WayTablesModel() -/
theorem c_X4_init (l : Launch) (dC : Nat → ClassId) (dI : Nat → Nat → Nat) (cI cL : ClassId) (h0 sz : Nat) : Met l yX4_init wsX4_init ({ frames := 1, cells := 10, slots := 824, locals := 12 }) (ni_P (dC, dI) vwCl [(cI, .int), (cL, .long)] sz [(h0, .inr (4, [.int 0, .int 0, .int 0, .int 0, .int 0, .int 0, .int 0, .null, .null, .null, .null, .null, .null, .null, .null, .null, .null, .long 0]))] (fun _ => True) [.ref h0]) (ni_Q (dC, dI) vwCl h0 (va_A [(h0, .inr (4, [.int 0, .int 0, .int 0, .int 0, .int 0, .int 0, .int 0, .null, .null, .null, .null, .null, .null, .null, .null, .null, .null, .long 0]))] sz) (fun u => [(u 0, .inr (4, [.int 0, .int (nI 0), .int 0, .int 0, .int 0, .int (nI 0), .int (bI false), .ref (u 1), .ref (u 2), .ref (u 3), .ref (u 4), .ref (u 5), .ref (u 6), .ref (u 7), .ref (u 8), .ref (u 9), .ref (u 10), .long 0])), (u 1, .inl (cI, 4, .inl (fun _ => 0))), (u 2, .inl (cI, 4, .inl (fun _ => 0))), (u 3, .inl (cL, 4, .inr (.inl (fun _ => 0)))), (u 4, .inl (cL, 4, .inr (.inl (fun _ => 0)))), (u 5, .inl (cL, 288, .inr (.inl (fun _ => 0)))), (u 6, .inl (cL, 288, .inr (.inl (fun _ => 0)))), (u 7, .inl (cI, 72, .inl (fun _ => 0))), (u 8, .inl (cI, 72, .inl (fun _ => 0))), (u 9, .inl (cL, 72, .inr (.inl (fun _ => 0)))), (u 10, .inl (cI, 16, .inl (fun _ => 0)))])) 10 824 (va_A [(h0, .inr (4, [.int 0, .int 0, .int 0, .int 0, .int 0, .int 0, .int 0, .null, .null, .null, .null, .null, .null, .null, .null, .null, .null, .long 0]))] sz) := by
  refine Met.ofW (cc := cX4_init) (maxL := 1) (ret := none) (by decide) rfl ?_
  intro p e s m args below meth c s₁ B hml hv
  obtain ⟨rfl, hsz, hP, hK, hD0, hX⟩ := hv
  have hx := B.exec
  have hb := B.bytes
  have hr := B.returns
  have hts := fun w h => atoms_spec (ws := wsX4_init) B.pre w (List.mem_cons_of_mem _ h)
  have hown : s.vm.findClass RX4 = some m.cls := findClass_of_methodNamed B.named
  have hlocks := B.notSynchronized
  have hin : meth.name = "<init>" := (name_of_methodNamed B.named B.method).1
  subst hsz
  have hD := hD0.self (sz := s.heap.size)
  generalize hAe : va_A [(h0, .inr (4, [.int 0, .int 0, .int 0, .int 0, .int 0, .int 0, .int 0, .null, .null, .null, .null, .null, .null, .null, .null, .null, .null, .long 0]))] s.heap.size = A at hD ⊢
  have hA : ∀ q : Nat, s.heap.size ≤ q → A q := fun q h => by rw [← hAe]; exact Or.inr h
  have hS : va_S A s.heap s.heap [] := va_S.rf
  have hl := lv_entry ([.ref h0]) (n := 1) (Nat.le_of_ble_eq_true rfl)
  rw [lg_entry_eq]
  generalize (lg_sl ([.ref h0]) ++ List.replicate (1 - (lg_sl ([.ref h0])).length) Slot.unset).toArray = ls at hl ⊢
  have hl : lv_has ls 1 [(0, .ref h0)] := hl
  refine lv_aload_n hx hb dX4_init_0 rfl (lv_at hl 0 rfl) ?_
  refine W.objInit hx hb hown (hts _ mw456) (hts _ mw43) (hts _ mw44) rfl (by rw [hml]; exact hl.1) rfl dX4_init_1 (Nat.le_of_ble_eq_true rfl) (Nat.le_of_ble_eq_true rfl) ?_
  refine W.eq (g2 := F0 m 4 ls []) rfl ?_
  refine lv_aload_n hx hb dX4_init_4 rfl (lv_at hl 0 rfl) ?_
  refine lv_iconst (v := 4) hx hb dX4_init_5 (by decide) ?_
  refine n_newi hx hb (hts _ mw64) hK hP hD hS hA 4 rfl (by decide) (Nat.le_of_ble_eq_true rfl) (Nat.le_of_ble_eq_true rfl) dX4_init_6 (fun q1 H hP hD hS => ?_)
  have hP : va_P (dC, dI) vwCl [(h0, .inr (4, [.int 0, .int 0, .int 0, .int 0, .int 0, .int 0, .int 0, .null, .null, .null, .null, .null, .null, .null, .null, .null, .null, .long 0])), (q1, .inl (cI, 4, .inl (fun _ => 0)))] H := hP
  have hD : va_D A [(h0, .inr (4, [.int 0, .int 0, .int 0, .int 0, .int 0, .int 0, .int 0, .null, .null, .null, .null, .null, .null, .null, .null, .null, .null, .long 0])), (q1, .inl (cI, 4, .inl (fun _ => 0)))] := hD
  refine W.widen (k := 1) (n := 4) (Nat.le_refl _) (Nat.le_refl _) ?_
  refine n_putF (ws' := [(h0, .inr (4, [.int 0, .int 0, .int 0, .int 0, .int 0, .int 0, .int 0, .ref q1, .null, .null, .null, .null, .null, .null, .null, .null, .null, .long 0])), (q1, .inl (cI, 4, .inl (fun _ => 0)))]) (D := (dC, dI)) (ci := 4) (v := .ref q1) (ty := (.array .int)) (C := RX4) (T := TX4) (N := 18) hx hb hts inX4 tyX4 tyX4_ok nmX4 hown hK hP hD hS 0 rfl rfl 7 (by decide) (hts _ mw464) (fun _ h9 => h9) rfl hin rfl rfl rfl rfl (Nat.le_of_ble_eq_true rfl) dX4_init_8 rfl (fun H locs hP hD hS => ?_)
  refine lv_aload_n hx hb dX4_init_11 rfl (lv_at hl 0 rfl) ?_
  refine lv_iconst (v := 4) hx hb dX4_init_12 (by decide) ?_
  refine n_newi hx hb (hts _ mw64) hK hP hD hS hA 4 rfl (by decide) (Nat.le_of_ble_eq_true rfl) (Nat.le_of_ble_eq_true rfl) dX4_init_13 (fun q2 H hP hD hS => ?_)
  have hP : va_P (dC, dI) vwCl [(h0, .inr (4, [.int 0, .int 0, .int 0, .int 0, .int 0, .int 0, .int 0, .ref q1, .null, .null, .null, .null, .null, .null, .null, .null, .null, .long 0])), (q1, .inl (cI, 4, .inl (fun _ => 0))), (q2, .inl (cI, 4, .inl (fun _ => 0)))] H := hP
  have hD : va_D A [(h0, .inr (4, [.int 0, .int 0, .int 0, .int 0, .int 0, .int 0, .int 0, .ref q1, .null, .null, .null, .null, .null, .null, .null, .null, .null, .long 0])), (q1, .inl (cI, 4, .inl (fun _ => 0))), (q2, .inl (cI, 4, .inl (fun _ => 0)))] := hD
  refine W.widen (k := 2) (n := 8) (Nat.le_refl _) (Nat.le_refl _) ?_
  refine n_putF (ws' := [(h0, .inr (4, [.int 0, .int 0, .int 0, .int 0, .int 0, .int 0, .int 0, .ref q1, .ref q2, .null, .null, .null, .null, .null, .null, .null, .null, .long 0])), (q1, .inl (cI, 4, .inl (fun _ => 0))), (q2, .inl (cI, 4, .inl (fun _ => 0)))]) (D := (dC, dI)) (ci := 4) (v := .ref q2) (ty := (.array .int)) (C := RX4) (T := TX4) (N := 18) hx hb hts inX4 tyX4 tyX4_ok nmX4 hown hK hP hD hS 0 rfl rfl 8 (by decide) (hts _ mw465) (fun _ h9 => h9) rfl hin rfl rfl rfl rfl (Nat.le_of_ble_eq_true rfl) dX4_init_15 rfl (fun H locs hP hD hS => ?_)
  refine lv_aload_n hx hb dX4_init_18 rfl (lv_at hl 0 rfl) ?_
  refine lv_iconst (v := 4) hx hb dX4_init_19 (by decide) ?_
  refine n_newl hx hb (hts _ mw65) hK hP hD hS hA 4 rfl (by decide) (Nat.le_of_ble_eq_true rfl) (Nat.le_of_ble_eq_true rfl) dX4_init_20 (fun q3 H hP hD hS => ?_)
  have hP : va_P (dC, dI) vwCl [(h0, .inr (4, [.int 0, .int 0, .int 0, .int 0, .int 0, .int 0, .int 0, .ref q1, .ref q2, .null, .null, .null, .null, .null, .null, .null, .null, .long 0])), (q1, .inl (cI, 4, .inl (fun _ => 0))), (q2, .inl (cI, 4, .inl (fun _ => 0))), (q3, .inl (cL, 4, .inr (.inl (fun _ => 0))))] H := hP
  have hD : va_D A [(h0, .inr (4, [.int 0, .int 0, .int 0, .int 0, .int 0, .int 0, .int 0, .ref q1, .ref q2, .null, .null, .null, .null, .null, .null, .null, .null, .long 0])), (q1, .inl (cI, 4, .inl (fun _ => 0))), (q2, .inl (cI, 4, .inl (fun _ => 0))), (q3, .inl (cL, 4, .inr (.inl (fun _ => 0))))] := hD
  refine W.widen (k := 3) (n := 12) (Nat.le_refl _) (Nat.le_refl _) ?_
  refine n_putF (ws' := [(h0, .inr (4, [.int 0, .int 0, .int 0, .int 0, .int 0, .int 0, .int 0, .ref q1, .ref q2, .ref q3, .null, .null, .null, .null, .null, .null, .null, .long 0])), (q1, .inl (cI, 4, .inl (fun _ => 0))), (q2, .inl (cI, 4, .inl (fun _ => 0))), (q3, .inl (cL, 4, .inr (.inl (fun _ => 0))))]) (D := (dC, dI)) (ci := 4) (v := .ref q3) (ty := (.array .long)) (C := RX4) (T := TX4) (N := 18) hx hb hts inX4 tyX4 tyX4_ok nmX4 hown hK hP hD hS 0 rfl rfl 9 (by decide) (hts _ mw466) (fun _ h9 => h9) rfl hin rfl rfl rfl rfl (Nat.le_of_ble_eq_true rfl) dX4_init_22 rfl (fun H locs hP hD hS => ?_)
  refine lv_aload_n hx hb dX4_init_25 rfl (lv_at hl 0 rfl) ?_
  refine lv_iconst (v := 4) hx hb dX4_init_26 (by decide) ?_
  refine n_newl hx hb (hts _ mw65) hK hP hD hS hA 4 rfl (by decide) (Nat.le_of_ble_eq_true rfl) (Nat.le_of_ble_eq_true rfl) dX4_init_27 (fun q4 H hP hD hS => ?_)
  have hP : va_P (dC, dI) vwCl [(h0, .inr (4, [.int 0, .int 0, .int 0, .int 0, .int 0, .int 0, .int 0, .ref q1, .ref q2, .ref q3, .null, .null, .null, .null, .null, .null, .null, .long 0])), (q1, .inl (cI, 4, .inl (fun _ => 0))), (q2, .inl (cI, 4, .inl (fun _ => 0))), (q3, .inl (cL, 4, .inr (.inl (fun _ => 0)))), (q4, .inl (cL, 4, .inr (.inl (fun _ => 0))))] H := hP
  have hD : va_D A [(h0, .inr (4, [.int 0, .int 0, .int 0, .int 0, .int 0, .int 0, .int 0, .ref q1, .ref q2, .ref q3, .null, .null, .null, .null, .null, .null, .null, .long 0])), (q1, .inl (cI, 4, .inl (fun _ => 0))), (q2, .inl (cI, 4, .inl (fun _ => 0))), (q3, .inl (cL, 4, .inr (.inl (fun _ => 0)))), (q4, .inl (cL, 4, .inr (.inl (fun _ => 0))))] := hD
  refine W.widen (k := 4) (n := 16) (Nat.le_refl _) (Nat.le_refl _) ?_
  refine n_putF (ws' := [(h0, .inr (4, [.int 0, .int 0, .int 0, .int 0, .int 0, .int 0, .int 0, .ref q1, .ref q2, .ref q3, .ref q4, .null, .null, .null, .null, .null, .null, .long 0])), (q1, .inl (cI, 4, .inl (fun _ => 0))), (q2, .inl (cI, 4, .inl (fun _ => 0))), (q3, .inl (cL, 4, .inr (.inl (fun _ => 0)))), (q4, .inl (cL, 4, .inr (.inl (fun _ => 0))))]) (D := (dC, dI)) (ci := 4) (v := .ref q4) (ty := (.array .long)) (C := RX4) (T := TX4) (N := 18) hx hb hts inX4 tyX4 tyX4_ok nmX4 hown hK hP hD hS 0 rfl rfl 10 (by decide) (hts _ mw467) (fun _ h9 => h9) rfl hin rfl rfl rfl rfl (Nat.le_of_ble_eq_true rfl) dX4_init_29 rfl (fun H locs hP hD hS => ?_)
  refine lv_aload_n hx hb dX4_init_32 rfl (lv_at hl 0 rfl) ?_
  refine lv_sipush (v := 288) hx hb dX4_init_33 (by decide) ?_
  refine n_newl hx hb (hts _ mw65) hK hP hD hS hA 288 rfl (by decide) (Nat.le_of_ble_eq_true rfl) (Nat.le_of_ble_eq_true rfl) dX4_init_36 (fun q5 H hP hD hS => ?_)
  have hP : va_P (dC, dI) vwCl [(h0, .inr (4, [.int 0, .int 0, .int 0, .int 0, .int 0, .int 0, .int 0, .ref q1, .ref q2, .ref q3, .ref q4, .null, .null, .null, .null, .null, .null, .long 0])), (q1, .inl (cI, 4, .inl (fun _ => 0))), (q2, .inl (cI, 4, .inl (fun _ => 0))), (q3, .inl (cL, 4, .inr (.inl (fun _ => 0)))), (q4, .inl (cL, 4, .inr (.inl (fun _ => 0)))), (q5, .inl (cL, 288, .inr (.inl (fun _ => 0))))] H := hP
  have hD : va_D A [(h0, .inr (4, [.int 0, .int 0, .int 0, .int 0, .int 0, .int 0, .int 0, .ref q1, .ref q2, .ref q3, .ref q4, .null, .null, .null, .null, .null, .null, .long 0])), (q1, .inl (cI, 4, .inl (fun _ => 0))), (q2, .inl (cI, 4, .inl (fun _ => 0))), (q3, .inl (cL, 4, .inr (.inl (fun _ => 0)))), (q4, .inl (cL, 4, .inr (.inl (fun _ => 0)))), (q5, .inl (cL, 288, .inr (.inl (fun _ => 0))))] := hD
  refine W.widen (k := 5) (n := 304) (Nat.le_refl _) (Nat.le_refl _) ?_
  refine n_putF (ws' := [(h0, .inr (4, [.int 0, .int 0, .int 0, .int 0, .int 0, .int 0, .int 0, .ref q1, .ref q2, .ref q3, .ref q4, .ref q5, .null, .null, .null, .null, .null, .long 0])), (q1, .inl (cI, 4, .inl (fun _ => 0))), (q2, .inl (cI, 4, .inl (fun _ => 0))), (q3, .inl (cL, 4, .inr (.inl (fun _ => 0)))), (q4, .inl (cL, 4, .inr (.inl (fun _ => 0)))), (q5, .inl (cL, 288, .inr (.inl (fun _ => 0))))]) (D := (dC, dI)) (ci := 4) (v := .ref q5) (ty := (.array .long)) (C := RX4) (T := TX4) (N := 18) hx hb hts inX4 tyX4 tyX4_ok nmX4 hown hK hP hD hS 0 rfl rfl 11 (by decide) (hts _ mw468) (fun _ h9 => h9) rfl hin rfl rfl rfl rfl (Nat.le_of_ble_eq_true rfl) dX4_init_38 rfl (fun H locs hP hD hS => ?_)
  refine lv_aload_n hx hb dX4_init_41 rfl (lv_at hl 0 rfl) ?_
  refine lv_sipush (v := 288) hx hb dX4_init_42 (by decide) ?_
  refine n_newl hx hb (hts _ mw65) hK hP hD hS hA 288 rfl (by decide) (Nat.le_of_ble_eq_true rfl) (Nat.le_of_ble_eq_true rfl) dX4_init_45 (fun q6 H hP hD hS => ?_)
  have hP : va_P (dC, dI) vwCl [(h0, .inr (4, [.int 0, .int 0, .int 0, .int 0, .int 0, .int 0, .int 0, .ref q1, .ref q2, .ref q3, .ref q4, .ref q5, .null, .null, .null, .null, .null, .long 0])), (q1, .inl (cI, 4, .inl (fun _ => 0))), (q2, .inl (cI, 4, .inl (fun _ => 0))), (q3, .inl (cL, 4, .inr (.inl (fun _ => 0)))), (q4, .inl (cL, 4, .inr (.inl (fun _ => 0)))), (q5, .inl (cL, 288, .inr (.inl (fun _ => 0)))), (q6, .inl (cL, 288, .inr (.inl (fun _ => 0))))] H := hP
  have hD : va_D A [(h0, .inr (4, [.int 0, .int 0, .int 0, .int 0, .int 0, .int 0, .int 0, .ref q1, .ref q2, .ref q3, .ref q4, .ref q5, .null, .null, .null, .null, .null, .long 0])), (q1, .inl (cI, 4, .inl (fun _ => 0))), (q2, .inl (cI, 4, .inl (fun _ => 0))), (q3, .inl (cL, 4, .inr (.inl (fun _ => 0)))), (q4, .inl (cL, 4, .inr (.inl (fun _ => 0)))), (q5, .inl (cL, 288, .inr (.inl (fun _ => 0)))), (q6, .inl (cL, 288, .inr (.inl (fun _ => 0))))] := hD
  refine W.widen (k := 6) (n := 592) (Nat.le_refl _) (Nat.le_refl _) ?_
  refine n_putF (ws' := [(h0, .inr (4, [.int 0, .int 0, .int 0, .int 0, .int 0, .int 0, .int 0, .ref q1, .ref q2, .ref q3, .ref q4, .ref q5, .ref q6, .null, .null, .null, .null, .long 0])), (q1, .inl (cI, 4, .inl (fun _ => 0))), (q2, .inl (cI, 4, .inl (fun _ => 0))), (q3, .inl (cL, 4, .inr (.inl (fun _ => 0)))), (q4, .inl (cL, 4, .inr (.inl (fun _ => 0)))), (q5, .inl (cL, 288, .inr (.inl (fun _ => 0)))), (q6, .inl (cL, 288, .inr (.inl (fun _ => 0))))]) (D := (dC, dI)) (ci := 4) (v := .ref q6) (ty := (.array .long)) (C := RX4) (T := TX4) (N := 18) hx hb hts inX4 tyX4 tyX4_ok nmX4 hown hK hP hD hS 0 rfl rfl 12 (by decide) (hts _ mw469) (fun _ h9 => h9) rfl hin rfl rfl rfl rfl (Nat.le_of_ble_eq_true rfl) dX4_init_47 rfl (fun H locs hP hD hS => ?_)
  refine lv_aload_n hx hb dX4_init_50 rfl (lv_at hl 0 rfl) ?_
  refine lv_bipush (v := 72) hx hb dX4_init_51 (by decide) ?_
  refine n_newi hx hb (hts _ mw64) hK hP hD hS hA 72 rfl (by decide) (Nat.le_of_ble_eq_true rfl) (Nat.le_of_ble_eq_true rfl) dX4_init_53 (fun q7 H hP hD hS => ?_)
  have hP : va_P (dC, dI) vwCl [(h0, .inr (4, [.int 0, .int 0, .int 0, .int 0, .int 0, .int 0, .int 0, .ref q1, .ref q2, .ref q3, .ref q4, .ref q5, .ref q6, .null, .null, .null, .null, .long 0])), (q1, .inl (cI, 4, .inl (fun _ => 0))), (q2, .inl (cI, 4, .inl (fun _ => 0))), (q3, .inl (cL, 4, .inr (.inl (fun _ => 0)))), (q4, .inl (cL, 4, .inr (.inl (fun _ => 0)))), (q5, .inl (cL, 288, .inr (.inl (fun _ => 0)))), (q6, .inl (cL, 288, .inr (.inl (fun _ => 0)))), (q7, .inl (cI, 72, .inl (fun _ => 0)))] H := hP
  have hD : va_D A [(h0, .inr (4, [.int 0, .int 0, .int 0, .int 0, .int 0, .int 0, .int 0, .ref q1, .ref q2, .ref q3, .ref q4, .ref q5, .ref q6, .null, .null, .null, .null, .long 0])), (q1, .inl (cI, 4, .inl (fun _ => 0))), (q2, .inl (cI, 4, .inl (fun _ => 0))), (q3, .inl (cL, 4, .inr (.inl (fun _ => 0)))), (q4, .inl (cL, 4, .inr (.inl (fun _ => 0)))), (q5, .inl (cL, 288, .inr (.inl (fun _ => 0)))), (q6, .inl (cL, 288, .inr (.inl (fun _ => 0)))), (q7, .inl (cI, 72, .inl (fun _ => 0)))] := hD
  refine W.widen (k := 7) (n := 664) (Nat.le_refl _) (Nat.le_refl _) ?_
  refine n_putF (ws' := [(h0, .inr (4, [.int 0, .int 0, .int 0, .int 0, .int 0, .int 0, .int 0, .ref q1, .ref q2, .ref q3, .ref q4, .ref q5, .ref q6, .ref q7, .null, .null, .null, .long 0])), (q1, .inl (cI, 4, .inl (fun _ => 0))), (q2, .inl (cI, 4, .inl (fun _ => 0))), (q3, .inl (cL, 4, .inr (.inl (fun _ => 0)))), (q4, .inl (cL, 4, .inr (.inl (fun _ => 0)))), (q5, .inl (cL, 288, .inr (.inl (fun _ => 0)))), (q6, .inl (cL, 288, .inr (.inl (fun _ => 0)))), (q7, .inl (cI, 72, .inl (fun _ => 0)))]) (D := (dC, dI)) (ci := 4) (v := .ref q7) (ty := (.array .int)) (C := RX4) (T := TX4) (N := 18) hx hb hts inX4 tyX4 tyX4_ok nmX4 hown hK hP hD hS 0 rfl rfl 13 (by decide) (hts _ mw470) (fun _ h9 => h9) rfl hin rfl rfl rfl rfl (Nat.le_of_ble_eq_true rfl) dX4_init_55 rfl (fun H locs hP hD hS => ?_)
  refine lv_aload_n hx hb dX4_init_58 rfl (lv_at hl 0 rfl) ?_
  refine lv_bipush (v := 72) hx hb dX4_init_59 (by decide) ?_
  refine n_newi hx hb (hts _ mw64) hK hP hD hS hA 72 rfl (by decide) (Nat.le_of_ble_eq_true rfl) (Nat.le_of_ble_eq_true rfl) dX4_init_61 (fun q8 H hP hD hS => ?_)
  have hP : va_P (dC, dI) vwCl [(h0, .inr (4, [.int 0, .int 0, .int 0, .int 0, .int 0, .int 0, .int 0, .ref q1, .ref q2, .ref q3, .ref q4, .ref q5, .ref q6, .ref q7, .null, .null, .null, .long 0])), (q1, .inl (cI, 4, .inl (fun _ => 0))), (q2, .inl (cI, 4, .inl (fun _ => 0))), (q3, .inl (cL, 4, .inr (.inl (fun _ => 0)))), (q4, .inl (cL, 4, .inr (.inl (fun _ => 0)))), (q5, .inl (cL, 288, .inr (.inl (fun _ => 0)))), (q6, .inl (cL, 288, .inr (.inl (fun _ => 0)))), (q7, .inl (cI, 72, .inl (fun _ => 0))), (q8, .inl (cI, 72, .inl (fun _ => 0)))] H := hP
  have hD : va_D A [(h0, .inr (4, [.int 0, .int 0, .int 0, .int 0, .int 0, .int 0, .int 0, .ref q1, .ref q2, .ref q3, .ref q4, .ref q5, .ref q6, .ref q7, .null, .null, .null, .long 0])), (q1, .inl (cI, 4, .inl (fun _ => 0))), (q2, .inl (cI, 4, .inl (fun _ => 0))), (q3, .inl (cL, 4, .inr (.inl (fun _ => 0)))), (q4, .inl (cL, 4, .inr (.inl (fun _ => 0)))), (q5, .inl (cL, 288, .inr (.inl (fun _ => 0)))), (q6, .inl (cL, 288, .inr (.inl (fun _ => 0)))), (q7, .inl (cI, 72, .inl (fun _ => 0))), (q8, .inl (cI, 72, .inl (fun _ => 0)))] := hD
  refine W.widen (k := 8) (n := 736) (Nat.le_refl _) (Nat.le_refl _) ?_
  refine n_putF (ws' := [(h0, .inr (4, [.int 0, .int 0, .int 0, .int 0, .int 0, .int 0, .int 0, .ref q1, .ref q2, .ref q3, .ref q4, .ref q5, .ref q6, .ref q7, .ref q8, .null, .null, .long 0])), (q1, .inl (cI, 4, .inl (fun _ => 0))), (q2, .inl (cI, 4, .inl (fun _ => 0))), (q3, .inl (cL, 4, .inr (.inl (fun _ => 0)))), (q4, .inl (cL, 4, .inr (.inl (fun _ => 0)))), (q5, .inl (cL, 288, .inr (.inl (fun _ => 0)))), (q6, .inl (cL, 288, .inr (.inl (fun _ => 0)))), (q7, .inl (cI, 72, .inl (fun _ => 0))), (q8, .inl (cI, 72, .inl (fun _ => 0)))]) (D := (dC, dI)) (ci := 4) (v := .ref q8) (ty := (.array .int)) (C := RX4) (T := TX4) (N := 18) hx hb hts inX4 tyX4 tyX4_ok nmX4 hown hK hP hD hS 0 rfl rfl 14 (by decide) (hts _ mw471) (fun _ h9 => h9) rfl hin rfl rfl rfl rfl (Nat.le_of_ble_eq_true rfl) dX4_init_63 rfl (fun H locs hP hD hS => ?_)
  refine lv_aload_n hx hb dX4_init_66 rfl (lv_at hl 0 rfl) ?_
  refine lv_bipush (v := 72) hx hb dX4_init_67 (by decide) ?_
  refine n_newl hx hb (hts _ mw65) hK hP hD hS hA 72 rfl (by decide) (Nat.le_of_ble_eq_true rfl) (Nat.le_of_ble_eq_true rfl) dX4_init_69 (fun q9 H hP hD hS => ?_)
  have hP : va_P (dC, dI) vwCl [(h0, .inr (4, [.int 0, .int 0, .int 0, .int 0, .int 0, .int 0, .int 0, .ref q1, .ref q2, .ref q3, .ref q4, .ref q5, .ref q6, .ref q7, .ref q8, .null, .null, .long 0])), (q1, .inl (cI, 4, .inl (fun _ => 0))), (q2, .inl (cI, 4, .inl (fun _ => 0))), (q3, .inl (cL, 4, .inr (.inl (fun _ => 0)))), (q4, .inl (cL, 4, .inr (.inl (fun _ => 0)))), (q5, .inl (cL, 288, .inr (.inl (fun _ => 0)))), (q6, .inl (cL, 288, .inr (.inl (fun _ => 0)))), (q7, .inl (cI, 72, .inl (fun _ => 0))), (q8, .inl (cI, 72, .inl (fun _ => 0))), (q9, .inl (cL, 72, .inr (.inl (fun _ => 0))))] H := hP
  have hD : va_D A [(h0, .inr (4, [.int 0, .int 0, .int 0, .int 0, .int 0, .int 0, .int 0, .ref q1, .ref q2, .ref q3, .ref q4, .ref q5, .ref q6, .ref q7, .ref q8, .null, .null, .long 0])), (q1, .inl (cI, 4, .inl (fun _ => 0))), (q2, .inl (cI, 4, .inl (fun _ => 0))), (q3, .inl (cL, 4, .inr (.inl (fun _ => 0)))), (q4, .inl (cL, 4, .inr (.inl (fun _ => 0)))), (q5, .inl (cL, 288, .inr (.inl (fun _ => 0)))), (q6, .inl (cL, 288, .inr (.inl (fun _ => 0)))), (q7, .inl (cI, 72, .inl (fun _ => 0))), (q8, .inl (cI, 72, .inl (fun _ => 0))), (q9, .inl (cL, 72, .inr (.inl (fun _ => 0))))] := hD
  refine W.widen (k := 9) (n := 808) (Nat.le_refl _) (Nat.le_refl _) ?_
  refine n_putF (ws' := [(h0, .inr (4, [.int 0, .int 0, .int 0, .int 0, .int 0, .int 0, .int 0, .ref q1, .ref q2, .ref q3, .ref q4, .ref q5, .ref q6, .ref q7, .ref q8, .ref q9, .null, .long 0])), (q1, .inl (cI, 4, .inl (fun _ => 0))), (q2, .inl (cI, 4, .inl (fun _ => 0))), (q3, .inl (cL, 4, .inr (.inl (fun _ => 0)))), (q4, .inl (cL, 4, .inr (.inl (fun _ => 0)))), (q5, .inl (cL, 288, .inr (.inl (fun _ => 0)))), (q6, .inl (cL, 288, .inr (.inl (fun _ => 0)))), (q7, .inl (cI, 72, .inl (fun _ => 0))), (q8, .inl (cI, 72, .inl (fun _ => 0))), (q9, .inl (cL, 72, .inr (.inl (fun _ => 0))))]) (D := (dC, dI)) (ci := 4) (v := .ref q9) (ty := (.array .long)) (C := RX4) (T := TX4) (N := 18) hx hb hts inX4 tyX4 tyX4_ok nmX4 hown hK hP hD hS 0 rfl rfl 15 (by decide) (hts _ mw472) (fun _ h9 => h9) rfl hin rfl rfl rfl rfl (Nat.le_of_ble_eq_true rfl) dX4_init_71 rfl (fun H locs hP hD hS => ?_)
  refine lv_aload_n hx hb dX4_init_74 rfl (lv_at hl 0 rfl) ?_
  refine lv_bipush (v := 16) hx hb dX4_init_75 (by decide) ?_
  refine n_newi hx hb (hts _ mw64) hK hP hD hS hA 16 rfl (by decide) (Nat.le_of_ble_eq_true rfl) (Nat.le_of_ble_eq_true rfl) dX4_init_77 (fun q10 H hP hD hS => ?_)
  have hP : va_P (dC, dI) vwCl [(h0, .inr (4, [.int 0, .int 0, .int 0, .int 0, .int 0, .int 0, .int 0, .ref q1, .ref q2, .ref q3, .ref q4, .ref q5, .ref q6, .ref q7, .ref q8, .ref q9, .null, .long 0])), (q1, .inl (cI, 4, .inl (fun _ => 0))), (q2, .inl (cI, 4, .inl (fun _ => 0))), (q3, .inl (cL, 4, .inr (.inl (fun _ => 0)))), (q4, .inl (cL, 4, .inr (.inl (fun _ => 0)))), (q5, .inl (cL, 288, .inr (.inl (fun _ => 0)))), (q6, .inl (cL, 288, .inr (.inl (fun _ => 0)))), (q7, .inl (cI, 72, .inl (fun _ => 0))), (q8, .inl (cI, 72, .inl (fun _ => 0))), (q9, .inl (cL, 72, .inr (.inl (fun _ => 0)))), (q10, .inl (cI, 16, .inl (fun _ => 0)))] H := hP
  have hD : va_D A [(h0, .inr (4, [.int 0, .int 0, .int 0, .int 0, .int 0, .int 0, .int 0, .ref q1, .ref q2, .ref q3, .ref q4, .ref q5, .ref q6, .ref q7, .ref q8, .ref q9, .null, .long 0])), (q1, .inl (cI, 4, .inl (fun _ => 0))), (q2, .inl (cI, 4, .inl (fun _ => 0))), (q3, .inl (cL, 4, .inr (.inl (fun _ => 0)))), (q4, .inl (cL, 4, .inr (.inl (fun _ => 0)))), (q5, .inl (cL, 288, .inr (.inl (fun _ => 0)))), (q6, .inl (cL, 288, .inr (.inl (fun _ => 0)))), (q7, .inl (cI, 72, .inl (fun _ => 0))), (q8, .inl (cI, 72, .inl (fun _ => 0))), (q9, .inl (cL, 72, .inr (.inl (fun _ => 0)))), (q10, .inl (cI, 16, .inl (fun _ => 0)))] := hD
  refine W.widen (k := 10) (n := 824) (Nat.le_refl _) (Nat.le_refl _) ?_
  refine n_putF (ws' := [(h0, .inr (4, [.int 0, .int 0, .int 0, .int 0, .int 0, .int 0, .int 0, .ref q1, .ref q2, .ref q3, .ref q4, .ref q5, .ref q6, .ref q7, .ref q8, .ref q9, .ref q10, .long 0])), (q1, .inl (cI, 4, .inl (fun _ => 0))), (q2, .inl (cI, 4, .inl (fun _ => 0))), (q3, .inl (cL, 4, .inr (.inl (fun _ => 0)))), (q4, .inl (cL, 4, .inr (.inl (fun _ => 0)))), (q5, .inl (cL, 288, .inr (.inl (fun _ => 0)))), (q6, .inl (cL, 288, .inr (.inl (fun _ => 0)))), (q7, .inl (cI, 72, .inl (fun _ => 0))), (q8, .inl (cI, 72, .inl (fun _ => 0))), (q9, .inl (cL, 72, .inr (.inl (fun _ => 0)))), (q10, .inl (cI, 16, .inl (fun _ => 0)))]) (D := (dC, dI)) (ci := 4) (v := .ref q10) (ty := (.array .int)) (C := RX4) (T := TX4) (N := 18) hx hb hts inX4 tyX4 tyX4_ok nmX4 hown hK hP hD hS 0 rfl rfl 16 (by decide) (hts _ mw473) (fun _ h9 => h9) rfl hin rfl rfl rfl rfl (Nat.le_of_ble_eq_true rfl) dX4_init_79 rfl (fun H locs hP hD hS => ?_)
  have hP9 := hP.sub (ws' := [(h0, .inr (4, [.int 0, .int 0, .int 0, .int 0, .int 0, .int 0, .int 0, .ref q1, .ref q2, .ref q3, .ref q4, .ref q5, .ref q6, .ref q7, .ref q8, .ref q9, .ref q10, .long 0])), (q1, .inl (cI, 4, .inl (fun _ => 0))), (q2, .inl (cI, 4, .inl (fun _ => 0))), (q3, .inl (cL, 4, .inr (.inl (fun _ => 0)))), (q4, .inl (cL, 4, .inr (.inl (fun _ => 0)))), (q5, .inl (cL, 288, .inr (.inl (fun _ => 0)))), (q6, .inl (cL, 288, .inr (.inl (fun _ => 0)))), (q7, .inl (cI, 72, .inl (fun _ => 0))), (q8, .inl (cI, 72, .inl (fun _ => 0))), (q9, .inl (cL, 72, .inr (.inl (fun _ => 0)))), (q10, .inl (cI, 16, .inl (fun _ => 0)))]) [0, 1, 2, 3, 4, 5, 6, 7, 8, 9, 10] rfl
  have hD9 := hD.sub (ws' := [(h0, .inr (4, [.int 0, .int 0, .int 0, .int 0, .int 0, .int 0, .int 0, .ref q1, .ref q2, .ref q3, .ref q4, .ref q5, .ref q6, .ref q7, .ref q8, .ref q9, .ref q10, .long 0])), (q1, .inl (cI, 4, .inl (fun _ => 0))), (q2, .inl (cI, 4, .inl (fun _ => 0))), (q3, .inl (cL, 4, .inr (.inl (fun _ => 0)))), (q4, .inl (cL, 4, .inr (.inl (fun _ => 0)))), (q5, .inl (cL, 288, .inr (.inl (fun _ => 0)))), (q6, .inl (cL, 288, .inr (.inl (fun _ => 0)))), (q7, .inl (cI, 72, .inl (fun _ => 0))), (q8, .inl (cI, 72, .inl (fun _ => 0))), (q9, .inl (cL, 72, .inr (.inl (fun _ => 0)))), (q10, .inl (cI, 16, .inl (fun _ => 0)))]) [0, 1, 2, 3, 4, 5, 6, 7, 8, 9, 10] (by decide) rfl
  exact W.vret hx hb hr (fun t ht hW => ⟨⟨(fun k => match k with | 0 => h0 | 1 => q1 | 2 => q2 | 3 => q3 | 4 => q4 | 5 => q5 | 6 => q6 | 7 => q7 | 8 => q8 | 9 => q9 | _ => q10), rfl, rfl, by rw [ht]; exact hP9, hD9⟩, hS.F ht⟩) hS.2.2 dX4_init_82
