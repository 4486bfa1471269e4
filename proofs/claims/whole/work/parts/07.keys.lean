/-! keys -/
set_option maxHeartbeats 4000000 in
set_option maxRecDepth 100000 in
/-- Keys.have: whether a key is of that kind -/
theorem c_X2_have (l : Launch) (dC : Nat → ClassId) (dI : Nat → Nat → Nat) (cI cL : ClassId) (k0 k1 k2 : Nat) (kinds : Nat → Int32) (ones : Nat → Int64) (kn : Nat) (kind : Int32) (hk : kn ≤ 4) : Met l yX2_have wsX2_have ({ frames := 0, cells := 0, slots := 0, locals := 0 }) (rd_P (dC, dI) vwCl [(cI, .int), (cL, .long)] [(k0, .inr (2, [.ref k1, .ref k2, .int (nI kn)])), (k1, .inl (cI, 4, .inl kinds)), (k2, .inl (cL, 4, .inr (.inl ones)))] [.ref k0, .int kind]) (rd_Q (some (.int (bI (kHave kinds kn kind))))) 0 0 (fun _ => False) := by
  refine Met.ofW (cc := cX2_have) (maxL := 3) (ret := some .boolean) (by decide) rfl ?_
  intro p e s m args below meth c s₁ B hml hv
  obtain ⟨rfl, hP, hK⟩ := hv
  have hx := B.exec
  have hb := B.bytes
  have hr := B.returns
  have hts := fun w h => atoms_spec (ws := wsX2_have) B.pre w (List.mem_cons_of_mem _ h)
  have hown : s.vm.findClass RX2 = some m.cls := findClass_of_methodNamed B.named
  have hlocks := B.notSynchronized
  have hl := lv_entry ([.ref k0, .int kind]) (n := 3) (Nat.le_of_ble_eq_true rfl)
  rw [lg_entry_eq]
  generalize (lg_sl ([.ref k0, .int kind]) ++ List.replicate (3 - (lg_sl ([.ref k0, .int kind])).length) Slot.unset).toArray = ls at hl ⊢
  have hl : lv_has ls 3 [(0, .ref k0), (1, .int kind)] := hl
  refine lv_iconst (v := (nI 0)) hx hb dX2_have_0 (by decide) ?_
  refine lv_istore_n (lv' := [(2, .int (nI 0)), (0, .ref k0), (1, .int kind)]) hx hb dX2_have_1 rfl hl (by decide) rfl (fun ls hl => ?_)
  have loop : ∀ (n i : Nat), i + n = kn → ∀ ls : Array Slot, lv_has ls 3 [(2, .int (nI i)), (0, .ref k0), (1, .int kind)] → W p l e (headSpec wsX2_have ({ frames := 0, cells := 0, slots := 0, locals := 0 })).room s m ([.ref k0, .int kind]).toArray below meth c s.heap [] 0 0 (MQ below (rd_Q (some (.int (bI (anyF (fun k => decide (kinds k = kind)) i n))))) ([.ref k0, .int kind]).toArray s 0 0 (fun _ => False)) (F0 m 2 ls []) := by
    intro n
    induction n with
    | zero =>
      intro i hi ls hl
      refine lv_iload_n hx hb dX2_have_2 rfl (lv_at hl 0 rfl) ?_
      refine lv_aload_n hx hb dX2_have_3 rfl (lv_at hl 1 rfl) ?_
      refine va_get (D := (dC, dI)) (ci := 2) (v := .int (nI kn)) (C := RX2) (T := TX2) (N := 3) hx hb hts inX2 hown hK hP 0 rfl rfl 2 (by decide) (hts _ mw55) (fun _ h9 => h9) rfl dX2_have_4 ?_
      refine n_ige i kn (tgt := 28) (hexec := hx) (hb := hb) dX2_have_7 (by decide) rfl rfl (by omega) (by omega) (fun c7 => ?_) (fun c7 => absurd c7 (by omega))
      refine lv_iconst (v := 0) hx hb dX2_have_28 (by decide) ?_
      exact rd_iret hx hb hr hlocks dX2_have_29 rfl (rfl)
    | succ n ih =>
      intro i hi ls hl
      refine lv_iload_n hx hb dX2_have_2 rfl (lv_at hl 0 rfl) ?_
      refine lv_aload_n hx hb dX2_have_3 rfl (lv_at hl 1 rfl) ?_
      refine va_get (D := (dC, dI)) (ci := 2) (v := .int (nI kn)) (C := RX2) (T := TX2) (N := 3) hx hb hts inX2 hown hK hP 0 rfl rfl 2 (by decide) (hts _ mw55) (fun _ h9 => h9) rfl dX2_have_4 ?_
      refine n_ige i kn (tgt := 28) (hexec := hx) (hb := hb) dX2_have_7 (by decide) rfl rfl (by omega) (by omega) (fun c7 => absurd c7 (by omega)) (fun c7 => ?_)
      refine lv_aload_n hx hb dX2_have_10 rfl (lv_at hl 1 rfl) ?_
      refine va_get (D := (dC, dI)) (ci := 2) (v := .ref k1) (C := RX2) (T := TX2) (N := 3) hx hb hts inX2 hown hK hP 0 rfl rfl 0 (by decide) (hts _ mw51) (fun _ h9 => h9) rfl dX2_have_11 ?_
      refine lv_iload_n hx hb dX2_have_14 rfl (lv_at hl 0 rfl) ?_
      refine n_iald hx hb hK hP 1 0 rfl rfl (k := i) rfl (by omega) (by omega) dX2_have_15 ?_
      refine lv_iload_n hx hb dX2_have_16 rfl (lv_at hl 2 rfl) ?_
      refine lv_icmp_ne (tgt := 22) hx hb dX2_have_17 (by decide) (fun c17 => ?_) (fun c17 => ?_)
      · rw [show anyF (fun k => decide (kinds k = kind)) i (n + 1) = anyF (fun k => decide (kinds k = kind)) (i + 1) n from anyF_f (decide_eq_false c17)]
        refine lv_iinc (v := nI (i + 1)) (lv' := [(2, .int (nI (i + 1))), (0, .ref k0), (1, .int kind)]) hx hb dX2_have_22 hl (k := 0) rfl (nI_1 i) (by decide) rfl (fun ls hl => ?_)
        refine lv_goto (tgt := 2) hx hb dX2_have_25 (by decide) ?_
        exact ih (i + 1) (by omega) ls (lv_sub hl [0, 1, 2] rfl)
      · refine lv_iconst (v := 1) hx hb dX2_have_20 (by decide) ?_
        exact rd_iret hx hb hr hlocks dX2_have_21 rfl (by rw [show anyF (fun k => decide (kinds k = kind)) i (n + 1) = true from anyF_t (decide_eq_true c17)]; rfl)
  exact loop kn 0 (by omega) ls (lv_sub hl [0, 1, 2] rfl)

set_option maxHeartbeats 4000000 in
set_option maxRecDepth 100000 in
/-- Keys.areExact -/
theorem c_X2_areExact (l : Launch) (dC : Nat → ClassId) (dI : Nat → Nat → Nat) (cI cL : ClassId) (k0 k1 k2 : Nat) (kinds : Nat → Int32) (ones : Nat → Int64) (kn : Nat) (hk : kn ≤ 4) : Met l yX2_areExact wsX2_areExact ({ frames := 1, cells := 0, slots := 0, locals := 22 }) (rd_P (dC, dI) vwCl [(cI, .int), (cL, .long)] [(k0, .inr (2, [.ref k1, .ref k2, .int (nI kn)])), (k1, .inl (cI, 4, .inl kinds)), (k2, .inl (cL, 4, .inr (.inl ones)))] [.ref k0]) (rd_Q (some (.int (bI (kExact kinds kn))))) 0 0 (fun _ => False) := by
  refine Met.ofW (cc := cX2_areExact) (maxL := 1) (ret := some .boolean) (by decide) rfl ?_
  intro p e s m args below meth c s₁ B hml hv
  obtain ⟨rfl, hP, hK⟩ := hv
  have hx := B.exec
  have hb := B.bytes
  have hr := B.returns
  have hts := fun w h => atoms_spec (ws := wsX2_areExact) B.pre w (List.mem_cons_of_mem _ h)
  have hown : s.vm.findClass RX2 = some m.cls := findClass_of_methodNamed B.named
  have hlocks := B.notSynchronized
  have hl := lv_entry ([.ref k0]) (n := 1) (Nat.le_of_ble_eq_true rfl)
  rw [lg_entry_eq]
  generalize (lg_sl ([.ref k0]) ++ List.replicate (1 - (lg_sl ([.ref k0])).length) Slot.unset).toArray = ls at hl ⊢
  have hl : lv_has ls 1 [(0, .ref k0)] := hl
  refine lv_aload_n hx hb dX2_areExact_0 rfl (lv_at hl 0 rfl) ?_
  refine lv_iconst (v := 1) hx hb dX2_areExact_1 (by decide) ?_
  refine rd_calli (r := (bI (kHave kinds kn 1))) (va_runV (As := [.int 1]) (rest := []) ⟨hx, hb, hml, hown, hts⟩ (c_X2_have l dC dI cI cL k0 k1 k2 kinds ones kn 1 hk) (cwV 1 hts (gV mw287 mw288 mw289 mw23 mw290) rfl rfl rfl (by decide +kernel) ⟨Nat.le_of_ble_eq_true rfl, Nat.le_of_ble_eq_true rfl⟩) (rd_preV (hP.sub (ws' := [(k0, .inr (2, [.ref k1, .ref k2, .int (nI kn)])), (k1, .inl (cI, 4, .inl kinds)), (k2, .inl (cL, 4, .inr (.inl ones)))]) [0, 1, 2] rfl) hK (va_recv (ci := 2) hK hP rfl (q0 := 0) rfl)) rfl rfl hl.1 rfl (lv_room (Nat.le_of_ble_eq_true rfl)) dX2_areExact_2 ⟨Nat.zero_le _, Nat.zero_le _⟩) ?_
  refine lv_if_ne (tgt := 20) hx hb dX2_areExact_5 (by decide) (fun c5 => ?_) (fun c5 => ?_)
  · refine lv_iconst (v := 0) hx hb dX2_areExact_20 (by decide) ?_
    exact rd_iret hx hb hr hlocks dX2_areExact_21 rfl (by unfold kExact; rw [bI_ne c5]; rfl)
  · refine lv_aload_n hx hb dX2_areExact_8 rfl (lv_at hl 0 rfl) ?_
    refine lv_iconst (v := 2) hx hb dX2_areExact_9 (by decide) ?_
    refine rd_calli (r := (bI (kHave kinds kn 2))) (va_runV (As := [.int 2]) (rest := []) ⟨hx, hb, hml, hown, hts⟩ (c_X2_have l dC dI cI cL k0 k1 k2 kinds ones kn 2 hk) (cwV 1 hts (gV mw287 mw288 mw289 mw23 mw290) rfl rfl rfl (by decide +kernel) ⟨Nat.le_of_ble_eq_true rfl, Nat.le_of_ble_eq_true rfl⟩) (rd_preV (hP.sub (ws' := [(k0, .inr (2, [.ref k1, .ref k2, .int (nI kn)])), (k1, .inl (cI, 4, .inl kinds)), (k2, .inl (cL, 4, .inr (.inl ones)))]) [0, 1, 2] rfl) hK (va_recv (ci := 2) hK hP rfl (q0 := 0) rfl)) rfl rfl hl.1 rfl (lv_room (Nat.le_of_ble_eq_true rfl)) dX2_areExact_10 ⟨Nat.zero_le _, Nat.zero_le _⟩) ?_
    refine lv_if_ne (tgt := 20) hx hb dX2_areExact_13 (by decide) (fun c13 => ?_) (fun c13 => ?_)
    · refine lv_iconst (v := 0) hx hb dX2_areExact_20 (by decide) ?_
      exact rd_iret hx hb hr hlocks dX2_areExact_21 rfl (by unfold kExact; rw [bI_eq c5, bI_ne c13]; rfl)
    · refine lv_iconst (v := 1) hx hb dX2_areExact_16 (by decide) ?_
      refine lv_goto (tgt := 21) hx hb dX2_areExact_17 (by decide) ?_
      exact rd_iret hx hb hr hlocks dX2_areExact_21 rfl (by unfold kExact; rw [bI_eq c5, bI_eq c13]; rfl)

set_option maxHeartbeats 4000000 in
set_option maxRecDepth 100000 in
/-- Keys.allow -/
theorem c_X2_allow (l : Launch) (dC : Nat → ClassId) (dI : Nat → Nat → Nat) (cI cL : ClassId) (k0 k1 k2 : Nat) (kinds : Nat → Int32) (ones : Nat → Int64) (kn : Nat) (kind : Int32) (hk : kn ≤ 4) : Met l yX2_allow wsX2_allow ({ frames := 2, cells := 0, slots := 0, locals := 42 }) (rd_P (dC, dI) vwCl [(cI, .int), (cL, .long)] [(k0, .inr (2, [.ref k1, .ref k2, .int (nI kn)])), (k1, .inl (cI, 4, .inl kinds)), (k2, .inl (cL, 4, .inr (.inl ones)))] [.ref k0, .int kind]) (rd_Q (some (.int (bI (kAllow kinds kn kind))))) 0 0 (fun _ => False) := by
  refine Met.ofW (cc := cX2_allow) (maxL := 2) (ret := some .boolean) (by decide) rfl ?_
  intro p e s m args below meth c s₁ B hml hv
  obtain ⟨rfl, hP, hK⟩ := hv
  have hx := B.exec
  have hb := B.bytes
  have hr := B.returns
  have hts := fun w h => atoms_spec (ws := wsX2_allow) B.pre w (List.mem_cons_of_mem _ h)
  have hown : s.vm.findClass RX2 = some m.cls := findClass_of_methodNamed B.named
  have hlocks := B.notSynchronized
  have hl := lv_entry ([.ref k0, .int kind]) (n := 2) (Nat.le_of_ble_eq_true rfl)
  rw [lg_entry_eq]
  generalize (lg_sl ([.ref k0, .int kind]) ++ List.replicate (2 - (lg_sl ([.ref k0, .int kind])).length) Slot.unset).toArray = ls at hl ⊢
  have hl : lv_has ls 2 [(0, .ref k0), (1, .int kind)] := hl
  refine lv_iload_n hx hb dX2_allow_0 rfl (lv_at hl 1 rfl) ?_
  by_cases c1 : kind = 1
  · subst c1
    refine lv_lookup (off := 27) (tgt := 28) hx hb dX2_allow_1 (by decide) (by decide) (by decide) ?_
    refine lv_aload_n hx hb dX2_allow_28 rfl (lv_at hl 0 rfl) ?_
    refine rd_calli (r := (bI (kExact kinds kn))) (va_runV (As := []) (rest := []) ⟨hx, hb, hml, hown, hts⟩ (c_X2_areExact l dC dI cI cL k0 k1 k2 kinds ones kn hk) (cwV 0 hts (gV mw283 mw284 mw285 mw23 mw286) rfl rfl rfl (by decide +kernel) ⟨Nat.le_of_ble_eq_true rfl, Nat.le_of_ble_eq_true rfl⟩) (rd_preV (hP.sub (ws' := [(k0, .inr (2, [.ref k1, .ref k2, .int (nI kn)])), (k1, .inl (cI, 4, .inl kinds)), (k2, .inl (cL, 4, .inr (.inl ones)))]) [0, 1, 2] rfl) hK (va_recv (ci := 2) hK hP rfl (q0 := 0) rfl)) rfl rfl hl.1 rfl (lv_room (Nat.le_of_ble_eq_true rfl)) dX2_allow_29 ⟨Nat.zero_le _, Nat.zero_le _⟩) ?_
    exact rd_iret hx hb hr hlocks dX2_allow_32 (bI_nar _) (by unfold kAllow; rfl)
  · by_cases c2 : kind = 2
    · subst c2
      refine lv_lookup (off := 32) (tgt := 33) hx hb dX2_allow_1 (by decide) (by decide) (by decide) ?_
      refine lv_aload_n hx hb dX2_allow_33 rfl (lv_at hl 0 rfl) ?_
      refine lv_iconst (v := 1) hx hb dX2_allow_34 (by decide) ?_
      refine rd_calli (r := (bI (kHave kinds kn 1))) (va_runV (As := [.int 1]) (rest := []) ⟨hx, hb, hml, hown, hts⟩ (c_X2_have l dC dI cI cL k0 k1 k2 kinds ones kn 1 hk) (cwV 1 hts (gV mw287 mw288 mw289 mw23 mw290) rfl rfl rfl (by decide +kernel) ⟨Nat.le_of_ble_eq_true rfl, Nat.le_of_ble_eq_true rfl⟩) (rd_preV (hP.sub (ws' := [(k0, .inr (2, [.ref k1, .ref k2, .int (nI kn)])), (k1, .inl (cI, 4, .inl kinds)), (k2, .inl (cL, 4, .inr (.inl ones)))]) [0, 1, 2] rfl) hK (va_recv (ci := 2) hK hP rfl (q0 := 0) rfl)) rfl rfl hl.1 rfl (lv_room (Nat.le_of_ble_eq_true rfl)) dX2_allow_35 ⟨Nat.zero_le _, Nat.zero_le _⟩) ?_
      refine lv_if_ne (tgt := 45) hx hb dX2_allow_38 (by decide) (fun c38 => ?_) (fun c38 => ?_)
      · refine lv_iconst (v := 0) hx hb dX2_allow_45 (by decide) ?_
        exact rd_iret hx hb hr hlocks dX2_allow_46 rfl (by unfold kAllow; rw [bI_ne c38]; rfl)
      · refine lv_iconst (v := 1) hx hb dX2_allow_41 (by decide) ?_
        refine lv_goto (tgt := 46) hx hb dX2_allow_42 (by decide) ?_
        exact rd_iret hx hb hr hlocks dX2_allow_46 rfl (by unfold kAllow; rw [bI_eq c38]; rfl)
    · refine lv_lookup (off := 46) (tgt := 47) hx hb dX2_allow_1 (by decide) (show Op.lookupswitch.offset [(1, 27), (2, 32)] 46 kind.toInt = 46 by rw [lv_osw c1 (by decide), lv_osw c2 (by decide)] <;> rfl) (by decide) ?_
      refine lv_iconst (v := 1) hx hb dX2_allow_47 (by decide) ?_
      exact rd_iret hx hb hr hlocks dX2_allow_48 rfl (by unfold kAllow; rw [if_neg c1, if_neg c2]; rfl)

set_option maxHeartbeats 4000000 in
set_option maxRecDepth 100000 in
/-- Keys.add: a key comes -/
theorem c_X2_add (l : Launch) (dC : Nat → ClassId) (dI : Nat → Nat → Nat) (cI cL : ClassId) (k0 k1 k2 : Nat) (kinds : Nat → Int32) (ones : Nat → Int64) (kn : Nat) (w kind : Int32) (hk : kn < 4) : Met l yX2_add wsX2_add ({ frames := 0, cells := 0, slots := 0, locals := 0 }) (wr_P (dC, dI) vwCl [(cI, .int), (cL, .long)] [(k0, .inr (2, [.ref k1, .ref k2, .int (nI kn)])), (k1, .inl (cI, 4, .inl kinds)), (k2, .inl (cL, 4, .inr (.inl ones)))] [.ref k0, .int w, .int kind]) (wr_Q (dC, dI) vwCl (some (.int (nI kn))) [(k0, .inr (2, [.ref k1, .ref k2, .int (nI kn)])), (k1, .inl (cI, 4, .inl kinds)), (k2, .inl (cL, 4, .inr (.inl ones)))] [(k0, .inr (2, [.ref k1, .ref k2, .int (nI (kn + 1))])), (k1, .inl (cI, 4, .inl (upd kinds kn kind))), (k2, .inl (cL, 4, .inr (.inl (vp_updL ones kn (ush (-1) (64 - w))))))]) 0 0 (wr_I [(k0, .inr (2, [.ref k1, .ref k2, .int (nI kn)])), (k1, .inl (cI, 4, .inl kinds)), (k2, .inl (cL, 4, .inr (.inl ones)))]) := by
  refine Met.ofW (cc := cX2_add) (maxL := 4) (ret := some .int) (by decide) rfl ?_
  intro p e s m args below meth c s₁ B hml hv
  obtain ⟨rfl, hP, hK, hD0⟩ := hv
  have hx := B.exec
  have hb := B.bytes
  have hr := B.returns
  have hts := fun w h => atoms_spec (ws := wsX2_add) B.pre w (List.mem_cons_of_mem _ h)
  have hown : s.vm.findClass RX2 = some m.cls := findClass_of_methodNamed B.named
  have hlocks := B.notSynchronized
  have hD := wr_self hD0
  have hS : va_S (wr_I [(k0, .inr (2, [.ref k1, .ref k2, .int (nI kn)])), (k1, .inl (cI, 4, .inl kinds)), (k2, .inl (cL, 4, .inr (.inl ones)))]) s.heap s.heap [] := va_S.rf
  have hl := lv_entry ([.ref k0, .int w, .int kind]) (n := 4) (Nat.le_of_ble_eq_true rfl)
  rw [lg_entry_eq]
  generalize (lg_sl ([.ref k0, .int w, .int kind]) ++ List.replicate (4 - (lg_sl ([.ref k0, .int w, .int kind])).length) Slot.unset).toArray = ls at hl ⊢
  have hl : lv_has ls 4 [(0, .ref k0), (1, .int w), (2, .int kind)] := hl
  refine lv_aload_n hx hb dX2_add_0 rfl (lv_at hl 0 rfl) ?_
  refine va_get (D := (dC, dI)) (ci := 2) (v := .int (nI kn)) (C := RX2) (T := TX2) (N := 3) hx hb hts inX2 hown hK hP 0 rfl rfl 2 (by decide) (hts _ mw55) (fun _ h9 => h9) rfl dX2_add_1 ?_
  refine lv_istore_n (lv' := [(3, .int (nI kn)), (0, .ref k0), (1, .int w), (2, .int kind)]) hx hb dX2_add_4 rfl hl (by decide) rfl (fun ls hl => ?_)
  refine lv_aload_n hx hb dX2_add_5 rfl (lv_at hl 1 rfl) ?_
  refine va_get (D := (dC, dI)) (ci := 2) (v := .ref k1) (C := RX2) (T := TX2) (N := 3) hx hb hts inX2 hown hK hP 0 rfl rfl 0 (by decide) (hts _ mw51) (fun _ h9 => h9) rfl dX2_add_6 ?_
  refine lv_iload_n hx hb dX2_add_9 rfl (lv_at hl 0 rfl) ?_
  refine lv_iload_n hx hb dX2_add_10 rfl (lv_at hl 3 rfl) ?_
  refine n_iast (ws' := [(k0, .inr (2, [.ref k1, .ref k2, .int (nI kn)])), (k1, .inl (cI, 4, .inl (upd kinds kn kind))), (k2, .inl (cL, 4, .inr (.inl ones)))]) hx hb hK hP hD hS 1 0 rfl rfl (k := kn) rfl (by omega) (by omega) dX2_add_11 rfl (fun H locs hP hD hS => ?_)
  refine lv_aload_n hx hb dX2_add_12 rfl (lv_at hl 1 rfl) ?_
  refine va_get (D := (dC, dI)) (ci := 2) (v := .ref k2) (C := RX2) (T := TX2) (N := 3) hx hb hts inX2 hown hK hP 0 rfl rfl 1 (by decide) (hts _ mw53) (fun _ h9 => h9) rfl dX2_add_13 ?_
  refine lv_iload_n hx hb dX2_add_16 rfl (lv_at hl 0 rfl) ?_
  refine lv_ldc2 (v := (-1)) hx hb hown (hts _ mw296) dX2_add_17 ?_
  refine lv_bipush (v := 64) hx hb dX2_add_20 (by decide) ?_
  refine lv_iload_n hx hb dX2_add_22 rfl (lv_at hl 2 rfl) ?_
  refine lv_isub hx hb dX2_add_23 ?_
  refine lv_lushr (v := ush (-1) (64 - w)) hx hb dX2_add_24 rfl ?_
  refine n_last (ws' := [(k0, .inr (2, [.ref k1, .ref k2, .int (nI kn)])), (k1, .inl (cI, 4, .inl (upd kinds kn kind))), (k2, .inl (cL, 4, .inr (.inl (vp_updL ones kn (ush (-1) (64 - w))))))]) hx hb hK hP hD hS 2 1 rfl rfl (k := kn) rfl (by omega) (by omega) dX2_add_25 rfl (fun H locs hP hD hS => ?_)
  refine lv_aload_n hx hb dX2_add_26 rfl (lv_at hl 1 rfl) ?_
  refine lv_iload_n hx hb dX2_add_27 rfl (lv_at hl 0 rfl) ?_
  refine lv_iconst (v := 1) hx hb dX2_add_28 (by decide) ?_
  refine lv_iadd hx hb dX2_add_29 ?_
  rw [nI_1]
  refine n_put (ws' := [(k0, .inr (2, [.ref k1, .ref k2, .int (nI (kn + 1))])), (k1, .inl (cI, 4, .inl (upd kinds kn kind))), (k2, .inl (cL, 4, .inr (.inl (vp_updL ones kn (ush (-1) (64 - w))))))]) (D := (dC, dI)) (ci := 2) (v := .int (nI (kn + 1))) (ty := .int) (C := RX2) (T := TX2) (N := 3) hx hb hts inX2 tyX2 tyX2_ok nmX2 hown hK hP hD hS 0 rfl rfl 2 (by decide) (hts _ mw55) (fun _ h9 => h9) rfl rfl rfl rfl (Nat.le_of_ble_eq_true rfl) dX2_add_30 rfl (fun H locs hP hD hS => ?_)
  refine lv_iload_n hx hb dX2_add_33 rfl (lv_at hl 0 rfl) ?_
  exact wr_iret hx hb hr hlocks hP hS dX2_add_34 rfl rfl

set_option maxHeartbeats 4000000 in
set_option maxRecDepth 100000 in
/-- Keys.takeMask -/
theorem c_X2_takeMask (l : Launch) (dC : Nat → ClassId) (dI : Nat → Nat → Nat) (cI cL : ClassId) (k0 k1 k2 : Nat) (kinds : Nat → Int32) (ones : Nat → Int64) (kn : Nat) (k : Nat) (mask : Int64) (hk : kn ≤ 4) (hk4 : k < 4) : Met l yX2_takeMask wsX2_takeMask ({ frames := 0, cells := 0, slots := 0, locals := 0 }) (rd_P (dC, dI) vwCl [(cI, .int), (cL, .long)] [(k0, .inr (2, [.ref k1, .ref k2, .int (nI kn)])), (k1, .inl (cI, 4, .inl kinds)), (k2, .inl (cL, 4, .inr (.inl ones)))] [.ref k0, .int (nI k), .long mask]) (rd_Q (some (.int (bI (kTake (kinds k) (ones k) mask))))) 0 0 (fun _ => False) := by
  refine Met.ofW (cc := cX2_takeMask) (maxL := 6) (ret := some .boolean) (by decide) rfl ?_
  intro p e s m args below meth c s₁ B hml hv
  obtain ⟨rfl, hP, hK⟩ := hv
  have hx := B.exec
  have hb := B.bytes
  have hr := B.returns
  have hts := fun w h => atoms_spec (ws := wsX2_takeMask) B.pre w (List.mem_cons_of_mem _ h)
  have hown : s.vm.findClass RX2 = some m.cls := findClass_of_methodNamed B.named
  have hlocks := B.notSynchronized
  have hl := lv_entry ([.ref k0, .int (nI k), .long mask]) (n := 6) (Nat.le_of_ble_eq_true rfl)
  rw [lg_entry_eq]
  generalize (lg_sl ([.ref k0, .int (nI k), .long mask]) ++ List.replicate (6 - (lg_sl ([.ref k0, .int (nI k), .long mask])).length) Slot.unset).toArray = ls at hl ⊢
  have hl : lv_has ls 6 [(0, .ref k0), (1, .int (nI k)), (2, .long mask)] := hl
  refine lv_aload_n hx hb dX2_takeMask_0 rfl (lv_at hl 0 rfl) ?_
  refine va_get (D := (dC, dI)) (ci := 2) (v := .ref k2) (C := RX2) (T := TX2) (N := 3) hx hb hts inX2 hown hK hP 0 rfl rfl 1 (by decide) (hts _ mw53) (fun _ h9 => h9) rfl dX2_takeMask_1 ?_
  refine lv_iload_n hx hb dX2_takeMask_4 rfl (lv_at hl 1 rfl) ?_
  refine n_lald hx hb hK hP 2 1 rfl rfl (k := k) rfl (by omega) (by omega) dX2_takeMask_5 ?_
  refine lv_lload_n hx hb dX2_takeMask_6 rfl (lv_at hl 2 rfl) ?_
  refine lv_ldc2 (v := (-1)) hx hb hown (hts _ mw296) dX2_takeMask_7 ?_
  refine lv_lxor hx hb dX2_takeMask_10 ?_
  refine lv_land hx hb dX2_takeMask_11 ?_
  refine lv_lstore (lv' := [(4, .long ((ones k) &&& (mask ^^^ (-1)))), (0, .ref k0), (1, .int (nI k)), (2, .long mask)]) hx hb dX2_takeMask_12 hl (by decide) rfl (fun ls hl => ?_)
  refine lv_aload_n hx hb dX2_takeMask_14 rfl (lv_at hl 1 rfl) ?_
  refine va_get (D := (dC, dI)) (ci := 2) (v := .ref k1) (C := RX2) (T := TX2) (N := 3) hx hb hts inX2 hown hK hP 0 rfl rfl 0 (by decide) (hts _ mw51) (fun _ h9 => h9) rfl dX2_takeMask_15 ?_
  refine lv_iload_n hx hb dX2_takeMask_18 rfl (lv_at hl 2 rfl) ?_
  refine n_iald hx hb hK hP 1 0 rfl rfl (k := k) rfl (by omega) (by omega) dX2_takeMask_19 ?_
  by_cases c1 : kinds k = 0
  · refine lv_lookup (off := 28) (tgt := 48) hx hb dX2_takeMask_20 (by decide) (by rw [c1]; decide) (by decide) ?_
    refine lv_lload hx hb dX2_takeMask_48 (lv_at hl 0 rfl) ?_
    refine lv_lconst (v := 0) hx hb dX2_takeMask_50 (by decide) ?_
    refine n_lne (tgt := 59) hx hb dX2_takeMask_51 dX2_takeMask_52 (by decide) (fun c51 => ?_) (fun c51 => ?_)
    · refine lv_iconst (v := 0) hx hb dX2_takeMask_59 (by decide) ?_
      exact rd_iret hx hb hr hlocks dX2_takeMask_60 rfl (by unfold kTake; rw [c1, if_pos rfl, decide_eq_false c51]; rfl)
    · refine lv_iconst (v := 1) hx hb dX2_takeMask_55 (by decide) ?_
      refine lv_goto (tgt := 60) hx hb dX2_takeMask_56 (by decide) ?_
      exact rd_iret hx hb hr hlocks dX2_takeMask_60 rfl (by unfold kTake; rw [c1, if_pos rfl, decide_eq_true c51]; rfl)
  · by_cases c2 : kinds k = 1
    · refine lv_lookup (off := 41) (tgt := 61) hx hb dX2_takeMask_20 (by decide) (by rw [c2]; decide) (by decide) ?_
      refine lv_lload hx hb dX2_takeMask_61 (lv_at hl 0 rfl) ?_
      refine lv_lload hx hb dX2_takeMask_63 (lv_at hl 0 rfl) ?_
      refine lv_lconst (v := 1) hx hb dX2_takeMask_65 (by decide) ?_
      refine lv_ladd hx hb dX2_takeMask_66 ?_
      refine lv_land hx hb dX2_takeMask_67 ?_
      refine lv_lconst (v := 0) hx hb dX2_takeMask_68 (by decide) ?_
      refine n_lne (tgt := 77) hx hb dX2_takeMask_69 dX2_takeMask_70 (by decide) (fun c69 => ?_) (fun c69 => ?_)
      · refine lv_iconst (v := 0) hx hb dX2_takeMask_77 (by decide) ?_
        exact rd_iret hx hb hr hlocks dX2_takeMask_78 rfl (by unfold kTake; rw [c2, if_neg (by decide), if_pos rfl, decide_eq_false c69]; rfl)
      · refine lv_iconst (v := 1) hx hb dX2_takeMask_73 (by decide) ?_
        refine lv_goto (tgt := 78) hx hb dX2_takeMask_74 (by decide) ?_
        exact rd_iret hx hb hr hlocks dX2_takeMask_78 rfl (by unfold kTake; rw [c2, if_neg (by decide), if_pos rfl, decide_eq_true c69]; rfl)
    · refine lv_lookup (off := 59) (tgt := 79) hx hb dX2_takeMask_20 (by decide) (show Op.lookupswitch.offset [(0, 28), (1, 41)] 59 (kinds k).toInt = 59 by rw [lv_osw c1 (by decide), lv_osw c2 (by decide)] <;> rfl) (by decide) ?_
      refine lv_iconst (v := 1) hx hb dX2_takeMask_79 (by decide) ?_
      exact rd_iret hx hb hr hlocks dX2_takeMask_80 rfl (by unfold kTake; rw [if_neg c1, if_neg c2]; rfl)
