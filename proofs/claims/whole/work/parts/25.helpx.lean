/-! helpx -/
set_option maxHeartbeats 4000000 in
set_option maxRecDepth 100000 in
/-- key refused -/
theorem x_L_key_1 (l : Launch) (hl9 : l.stackTraces = false) (dC : Nat → ClassId) (dI : Nat → Nat → Nat) (cI cL : ClassId) (h : Nat → Nat) (kinds : Nat → Int32) (ones : Nat → Int64) (kn : Nat) (av am : Nat → Int64) (vals msks : Nat → Int64) (pre pri act : Nat → Int32) (dat : Nat → Int64) (en : Nat) (held : Nat → Int32) (bn : Nat) (wy stt : Int32) (made hashed : Bool) (cap : Int32) (lat : Int64) (o1 : Nat) (of : Nat → Int64) (w kind : Int32) (h1 : w < 1 ∨ 64 < w ∨ kind < 0 ∨ 2 < kind) : Met l yL_key wsL_key ({ frames := 8, cells := 1, slots := 6, locals := 160 }) (xP2 (dC, dI) vwCl [(cI, .int), (cL, .long)] [(h 0, .inr (3, [.ref (h 1), .ref (h 2), .ref (h 3), .ref (h 4), .ref (h 5), .int (bI made), .int (bI hashed), .int cap, .long lat])), (h 1, .inr (2, [.ref (h 6), .ref (h 7), .int (nI kn)])), (h 2, .inr (1, [.ref (h 8), .ref (h 9), .ref (h 10), .ref (h 11), .ref (h 12), .ref (h 13), .int (nI en)])), (h 3, .inr (0, [.ref (h 14), .int (nI bn), .int wy, .int stt])), (h 4, .inl (cL, 4, .inr (.inl av))), (h 5, .inl (cL, 4, .inr (.inl am))), (h 6, .inl (cI, 4, .inl kinds)), (h 7, .inl (cL, 4, .inr (.inl ones))), (h 8, .inl (cL, 288, .inr (.inl vals))), (h 9, .inl (cL, 288, .inr (.inl msks))), (h 10, .inl (cI, 72, .inl pre)), (h 11, .inl (cI, 72, .inl pri)), (h 12, .inl (cI, 72, .inl act)), (h 13, .inl (cL, 72, .inr (.inl dat))), (h 14, .inl (cI, 16, .inl held)), (o1, .inl (cL, 1, .inr (.inl of)))] [.ref (h 0), .int w, .int kind, .ref o1]) (xR 1) 1 6 (fun _ => False) := by
  refine va_MetW (cc := cL_key) (maxL := 5) (ret := some .int) (by decide) rfl ?_
  intro p e s m args below meth c s₁ B hml hv
  obtain ⟨rfl, hP, hK, hX, hNc⟩ := hv
  have hx := B.exec
  have hb := B.bytes
  have hr := B.returns
  have hTab := vx_table (x := yL_key) B (atoms_spec (ws := wsL_key) B.pre _ List.mem_cons_self)
  have hts := fun w h => atoms_spec (ws := wsL_key) B.pre w (List.mem_cons_of_mem _ h)
  have hown : s.vm.findClass RL = some m.cls := findClass_of_methodNamed B.named
  have hlocks := B.notSynchronized
  have hl := lv_entry ([.ref (h 0), .int w, .int kind, .ref o1]) (n := 5) (Nat.le_of_ble_eq_true rfl)
  rw [lg_entry_eq]
  generalize (lg_sl ([.ref (h 0), .int w, .int kind, .ref o1]) ++ List.replicate (5 - (lg_sl ([.ref (h 0), .int w, .int kind, .ref o1])).length) Slot.unset).toArray = ls at hl ⊢
  have hl : lv_has ls 5 [(0, .ref (h 0)), (1, .int w), (2, .int kind), (3, .ref o1)] := hl
  refine lv_aload_n hx hb dL_key_0 rfl (lv_at hl 3 rfl) ?_
  refine lv_iconst (v := 0) hx hb dL_key_1 (by decide) ?_
  refine lv_aload_n hx hb dL_key_2 rfl (lv_at hl 0 rfl) ?_
  refine lv_iload_n hx hb dL_key_3 rfl (lv_at hl 1 rfl) ?_
  refine lv_iload_n hx hb dL_key_4 rfl (lv_at hl 2 rfl) ?_
  refine x_call (E0 := "java/lang/IllegalArgumentException") (vx_runV (As := [.int w, .int kind]) (rest := [.int 0, .ref o1]) ⟨hx, hb, hml, hown, hts⟩ (x_X3_key_1 l hl9 dC dI cI cL h kinds ones kn av am vals msks pre pri act dat en held bn wy stt made hashed cap lat w kind h1) (cwV 2 hts (gV mw191 mw192 mw193 mw22 mw194) rfl rfl rfl (by decide +kernel) ⟨Nat.le_of_ble_eq_true rfl, Nat.le_of_ble_eq_true rfl⟩) (xP_preV (fun U hU hW => hX.go hU hW) (hP.sub (ws' := [(h 0, .inr (3, [.ref (h 1), .ref (h 2), .ref (h 3), .ref (h 4), .ref (h 5), .int (bI made), .int (bI hashed), .int cap, .long lat])), (h 1, .inr (2, [.ref (h 6), .ref (h 7), .int (nI kn)])), (h 2, .inr (1, [.ref (h 8), .ref (h 9), .ref (h 10), .ref (h 11), .ref (h 12), .ref (h 13), .int (nI en)])), (h 3, .inr (0, [.ref (h 14), .int (nI bn), .int wy, .int stt])), (h 4, .inl (cL, 4, .inr (.inl av))), (h 5, .inl (cL, 4, .inr (.inl am))), (h 6, .inl (cI, 4, .inl kinds)), (h 7, .inl (cL, 4, .inr (.inl ones))), (h 8, .inl (cL, 288, .inr (.inl vals))), (h 9, .inl (cL, 288, .inr (.inl msks))), (h 10, .inl (cI, 72, .inl pre)), (h 11, .inl (cI, 72, .inl pri)), (h 12, .inl (cI, 72, .inl act)), (h 13, .inl (cL, 72, .inr (.inl dat))), (h 14, .inl (cI, 16, .inl held))]) [0, 1, 2, 3, 4, 5, 6, 7, 8, 9, 10, 11, 12, 13, 14] rfl) hK (va_recv (ci := 3) hK hP rfl (q0 := 0) rfl)) rfl rfl hl.1 rfl (lv_room (Nat.le_of_ble_eq_true rfl)) dL_key_5 ⟨Nat.le_refl _, Nat.le_refl _⟩) (fun ce q9 H1 hz hk9 hce hcv hcl => ?_)
  refine vx_catch (own := RL) (name := "java/lang/IllegalArgumentException") (E := "java/lang/IllegalArgumentException") hown [] ⟨0, 10, 13, 13⟩ [⟨0, 10, 17, 15⟩] (by rw [hTab]; rfl) (fun z hz => nomatch hz) (by decide) (by decide) (hts _ mw189) (va_Nw.use rfl hX.1) hce hcv hcl ?_
  refine lv_astore (lv' := [(4, .ref q9), (0, .ref (h 0)), (1, .int w), (2, .int kind), (3, .ref o1)]) hx hb dL_key_13 hl (by decide) rfl (fun ls hl => ?_)
  refine lv_iconst (v := 1) hx hb dL_key_15 (by decide) ?_
  refine W.widen (k := 1) (n := 6) (Nat.le_refl _) (Nat.le_refl _) ?_
  exact W.iret hx hb hr (fun t ht _ => ⟨rfl, by rw [ht]; exact hz, fun q h _ => by rw [ht]; exact hk9 q h⟩) (fun _ h => nomatch h) dL_key_16 hlocks

set_option maxHeartbeats 4000000 in
set_option maxRecDepth 100000 in
/-- key refused -/
theorem x_L_key_2 (l : Launch) (hl9 : l.stackTraces = false) (dC : Nat → ClassId) (dI : Nat → Nat → Nat) (cI cL : ClassId) (h : Nat → Nat) (kinds : Nat → Int32) (ones : Nat → Int64) (kn : Nat) (av am : Nat → Int64) (vals msks : Nat → Int64) (pre pri act : Nat → Int32) (dat : Nat → Int64) (en : Nat) (held : Nat → Int32) (bn : Nat) (wy stt : Int32) (made hashed : Bool) (cap : Int32) (lat : Int64) (o1 : Nat) (of : Nat → Int64) (w kind : Int32) (h1 : ¬ w < 1) (h2 : ¬ 64 < w) (h3 : ¬ kind < 0) (h4 : kind ≤ 2) (h5 : made = true ∨ nI 4 ≤ nI kn) : Met l yL_key wsL_key ({ frames := 8, cells := 1, slots := 6, locals := 160 }) (xP2 (dC, dI) vwCl [(cI, .int), (cL, .long)] [(h 0, .inr (3, [.ref (h 1), .ref (h 2), .ref (h 3), .ref (h 4), .ref (h 5), .int (bI made), .int (bI hashed), .int cap, .long lat])), (h 1, .inr (2, [.ref (h 6), .ref (h 7), .int (nI kn)])), (h 2, .inr (1, [.ref (h 8), .ref (h 9), .ref (h 10), .ref (h 11), .ref (h 12), .ref (h 13), .int (nI en)])), (h 3, .inr (0, [.ref (h 14), .int (nI bn), .int wy, .int stt])), (h 4, .inl (cL, 4, .inr (.inl av))), (h 5, .inl (cL, 4, .inr (.inl am))), (h 6, .inl (cI, 4, .inl kinds)), (h 7, .inl (cL, 4, .inr (.inl ones))), (h 8, .inl (cL, 288, .inr (.inl vals))), (h 9, .inl (cL, 288, .inr (.inl msks))), (h 10, .inl (cI, 72, .inl pre)), (h 11, .inl (cI, 72, .inl pri)), (h 12, .inl (cI, 72, .inl act)), (h 13, .inl (cL, 72, .inr (.inl dat))), (h 14, .inl (cI, 16, .inl held)), (o1, .inl (cL, 1, .inr (.inl of)))] [.ref (h 0), .int w, .int kind, .ref o1]) (xR 2) 1 6 (fun _ => False) := by
  refine va_MetW (cc := cL_key) (maxL := 5) (ret := some .int) (by decide) rfl ?_
  intro p e s m args below meth c s₁ B hml hv
  obtain ⟨rfl, hP, hK, hX, hNc⟩ := hv
  have hx := B.exec
  have hb := B.bytes
  have hr := B.returns
  have hTab := vx_table (x := yL_key) B (atoms_spec (ws := wsL_key) B.pre _ List.mem_cons_self)
  have hts := fun w h => atoms_spec (ws := wsL_key) B.pre w (List.mem_cons_of_mem _ h)
  have hown : s.vm.findClass RL = some m.cls := findClass_of_methodNamed B.named
  have hlocks := B.notSynchronized
  have hl := lv_entry ([.ref (h 0), .int w, .int kind, .ref o1]) (n := 5) (Nat.le_of_ble_eq_true rfl)
  rw [lg_entry_eq]
  generalize (lg_sl ([.ref (h 0), .int w, .int kind, .ref o1]) ++ List.replicate (5 - (lg_sl ([.ref (h 0), .int w, .int kind, .ref o1])).length) Slot.unset).toArray = ls at hl ⊢
  have hl : lv_has ls 5 [(0, .ref (h 0)), (1, .int w), (2, .int kind), (3, .ref o1)] := hl
  refine lv_aload_n hx hb dL_key_0 rfl (lv_at hl 3 rfl) ?_
  refine lv_iconst (v := 0) hx hb dL_key_1 (by decide) ?_
  refine lv_aload_n hx hb dL_key_2 rfl (lv_at hl 0 rfl) ?_
  refine lv_iload_n hx hb dL_key_3 rfl (lv_at hl 1 rfl) ?_
  refine lv_iload_n hx hb dL_key_4 rfl (lv_at hl 2 rfl) ?_
  refine x_call (E0 := "java/lang/IllegalStateException") (vx_runV (As := [.int w, .int kind]) (rest := [.int 0, .ref o1]) ⟨hx, hb, hml, hown, hts⟩ (x_X3_key_2 l hl9 dC dI cI cL h kinds ones kn av am vals msks pre pri act dat en held bn wy stt made hashed cap lat w kind h1 h2 h3 h4 h5) (cwV 2 hts (gV mw191 mw192 mw193 mw22 mw194) rfl rfl rfl (by decide +kernel) ⟨Nat.le_of_ble_eq_true rfl, Nat.le_of_ble_eq_true rfl⟩) (xP_preV (fun U hU hW => hX.go hU hW) (hP.sub (ws' := [(h 0, .inr (3, [.ref (h 1), .ref (h 2), .ref (h 3), .ref (h 4), .ref (h 5), .int (bI made), .int (bI hashed), .int cap, .long lat])), (h 1, .inr (2, [.ref (h 6), .ref (h 7), .int (nI kn)])), (h 2, .inr (1, [.ref (h 8), .ref (h 9), .ref (h 10), .ref (h 11), .ref (h 12), .ref (h 13), .int (nI en)])), (h 3, .inr (0, [.ref (h 14), .int (nI bn), .int wy, .int stt])), (h 4, .inl (cL, 4, .inr (.inl av))), (h 5, .inl (cL, 4, .inr (.inl am))), (h 6, .inl (cI, 4, .inl kinds)), (h 7, .inl (cL, 4, .inr (.inl ones))), (h 8, .inl (cL, 288, .inr (.inl vals))), (h 9, .inl (cL, 288, .inr (.inl msks))), (h 10, .inl (cI, 72, .inl pre)), (h 11, .inl (cI, 72, .inl pri)), (h 12, .inl (cI, 72, .inl act)), (h 13, .inl (cL, 72, .inr (.inl dat))), (h 14, .inl (cI, 16, .inl held))]) [0, 1, 2, 3, 4, 5, 6, 7, 8, 9, 10, 11, 12, 13, 14] rfl) hK (va_recv (ci := 3) hK hP rfl (q0 := 0) rfl)) rfl rfl hl.1 rfl (lv_room (Nat.le_of_ble_eq_true rfl)) dL_key_5 ⟨Nat.le_refl _, Nat.le_refl _⟩) (fun ce q9 H1 hz hk9 hce hcv hcl => ?_)
  refine vx_catch (own := RL) (name := "java/lang/IllegalStateException") (E := "java/lang/IllegalStateException") hown [⟨0, 10, 13, 13⟩] ⟨0, 10, 17, 15⟩ [] (by rw [hTab]; rfl) (by intro z hz; rcases List.mem_cons.mp hz with rfl | hz; exact Or.inr ⟨by decide, "java/lang/IllegalArgumentException", hts _ mw189, hNc⟩; cases hz) (by decide) (by decide) (hts _ mw190) (va_Nw.use rfl hX.2.1) hce hcv hcl ?_
  refine lv_astore (lv' := [(4, .ref q9), (0, .ref (h 0)), (1, .int w), (2, .int kind), (3, .ref o1)]) hx hb dL_key_17 hl (by decide) rfl (fun ls hl => ?_)
  refine lv_iconst (v := 2) hx hb dL_key_19 (by decide) ?_
  refine W.widen (k := 1) (n := 6) (Nat.le_refl _) (Nat.le_refl _) ?_
  exact W.iret hx hb hr (fun t ht _ => ⟨rfl, by rw [ht]; exact hz, fun q h _ => by rw [ht]; exact hk9 q h⟩) (fun _ h => nomatch h) dL_key_20 hlocks

set_option maxHeartbeats 4000000 in
set_option maxRecDepth 100000 in
/-- key refused -/
theorem x_L_key_3 (l : Launch) (hl9 : l.stackTraces = false) (dC : Nat → ClassId) (dI : Nat → Nat → Nat) (cI cL : ClassId) (h : Nat → Nat) (kinds : Nat → Int32) (ones : Nat → Int64) (kn : Nat) (av am : Nat → Int64) (vals msks : Nat → Int64) (pre pri act : Nat → Int32) (dat : Nat → Int64) (en : Nat) (held : Nat → Int32) (bn : Nat) (wy stt : Int32) (made hashed : Bool) (cap : Int32) (lat : Int64) (o1 : Nat) (of : Nat → Int64) (w kind : Int32) (h1 : ¬ w < 1) (h2 : ¬ 64 < w) (h3 : ¬ kind < 0) (h4 : kind ≤ 2) (hm : made = false) (hk : kn < 4) (h5 : kAllow kinds kn kind = false) : Met l yL_key wsL_key ({ frames := 8, cells := 1, slots := 6, locals := 160 }) (xP2 (dC, dI) vwCl [(cI, .int), (cL, .long)] [(h 0, .inr (3, [.ref (h 1), .ref (h 2), .ref (h 3), .ref (h 4), .ref (h 5), .int (bI made), .int (bI hashed), .int cap, .long lat])), (h 1, .inr (2, [.ref (h 6), .ref (h 7), .int (nI kn)])), (h 2, .inr (1, [.ref (h 8), .ref (h 9), .ref (h 10), .ref (h 11), .ref (h 12), .ref (h 13), .int (nI en)])), (h 3, .inr (0, [.ref (h 14), .int (nI bn), .int wy, .int stt])), (h 4, .inl (cL, 4, .inr (.inl av))), (h 5, .inl (cL, 4, .inr (.inl am))), (h 6, .inl (cI, 4, .inl kinds)), (h 7, .inl (cL, 4, .inr (.inl ones))), (h 8, .inl (cL, 288, .inr (.inl vals))), (h 9, .inl (cL, 288, .inr (.inl msks))), (h 10, .inl (cI, 72, .inl pre)), (h 11, .inl (cI, 72, .inl pri)), (h 12, .inl (cI, 72, .inl act)), (h 13, .inl (cL, 72, .inr (.inl dat))), (h 14, .inl (cI, 16, .inl held)), (o1, .inl (cL, 1, .inr (.inl of)))] [.ref (h 0), .int w, .int kind, .ref o1]) (xR 1) 1 6 (fun _ => False) := by
  refine va_MetW (cc := cL_key) (maxL := 5) (ret := some .int) (by decide) rfl ?_
  intro p e s m args below meth c s₁ B hml hv
  obtain ⟨rfl, hP, hK, hX, hNc⟩ := hv
  have hx := B.exec
  have hb := B.bytes
  have hr := B.returns
  have hTab := vx_table (x := yL_key) B (atoms_spec (ws := wsL_key) B.pre _ List.mem_cons_self)
  have hts := fun w h => atoms_spec (ws := wsL_key) B.pre w (List.mem_cons_of_mem _ h)
  have hown : s.vm.findClass RL = some m.cls := findClass_of_methodNamed B.named
  have hlocks := B.notSynchronized
  have hl := lv_entry ([.ref (h 0), .int w, .int kind, .ref o1]) (n := 5) (Nat.le_of_ble_eq_true rfl)
  rw [lg_entry_eq]
  generalize (lg_sl ([.ref (h 0), .int w, .int kind, .ref o1]) ++ List.replicate (5 - (lg_sl ([.ref (h 0), .int w, .int kind, .ref o1])).length) Slot.unset).toArray = ls at hl ⊢
  have hl : lv_has ls 5 [(0, .ref (h 0)), (1, .int w), (2, .int kind), (3, .ref o1)] := hl
  refine lv_aload_n hx hb dL_key_0 rfl (lv_at hl 3 rfl) ?_
  refine lv_iconst (v := 0) hx hb dL_key_1 (by decide) ?_
  refine lv_aload_n hx hb dL_key_2 rfl (lv_at hl 0 rfl) ?_
  refine lv_iload_n hx hb dL_key_3 rfl (lv_at hl 1 rfl) ?_
  refine lv_iload_n hx hb dL_key_4 rfl (lv_at hl 2 rfl) ?_
  refine x_call (E0 := "java/lang/IllegalArgumentException") (vx_runV (As := [.int w, .int kind]) (rest := [.int 0, .ref o1]) ⟨hx, hb, hml, hown, hts⟩ (x_X3_key_3 l hl9 dC dI cI cL h kinds ones kn av am vals msks pre pri act dat en held bn wy stt made hashed cap lat w kind h1 h2 h3 h4 hm hk h5) (cwV 2 hts (gV mw191 mw192 mw193 mw22 mw194) rfl rfl rfl (by decide +kernel) ⟨Nat.le_of_ble_eq_true rfl, Nat.le_of_ble_eq_true rfl⟩) (xP_preV (fun U hU hW => hX.go hU hW) (hP.sub (ws' := [(h 0, .inr (3, [.ref (h 1), .ref (h 2), .ref (h 3), .ref (h 4), .ref (h 5), .int (bI made), .int (bI hashed), .int cap, .long lat])), (h 1, .inr (2, [.ref (h 6), .ref (h 7), .int (nI kn)])), (h 2, .inr (1, [.ref (h 8), .ref (h 9), .ref (h 10), .ref (h 11), .ref (h 12), .ref (h 13), .int (nI en)])), (h 3, .inr (0, [.ref (h 14), .int (nI bn), .int wy, .int stt])), (h 4, .inl (cL, 4, .inr (.inl av))), (h 5, .inl (cL, 4, .inr (.inl am))), (h 6, .inl (cI, 4, .inl kinds)), (h 7, .inl (cL, 4, .inr (.inl ones))), (h 8, .inl (cL, 288, .inr (.inl vals))), (h 9, .inl (cL, 288, .inr (.inl msks))), (h 10, .inl (cI, 72, .inl pre)), (h 11, .inl (cI, 72, .inl pri)), (h 12, .inl (cI, 72, .inl act)), (h 13, .inl (cL, 72, .inr (.inl dat))), (h 14, .inl (cI, 16, .inl held))]) [0, 1, 2, 3, 4, 5, 6, 7, 8, 9, 10, 11, 12, 13, 14] rfl) hK (va_recv (ci := 3) hK hP rfl (q0 := 0) rfl)) rfl rfl hl.1 rfl (lv_room (Nat.le_of_ble_eq_true rfl)) dL_key_5 ⟨Nat.le_refl _, Nat.le_refl _⟩) (fun ce q9 H1 hz hk9 hce hcv hcl => ?_)
  refine vx_catch (own := RL) (name := "java/lang/IllegalArgumentException") (E := "java/lang/IllegalArgumentException") hown [] ⟨0, 10, 13, 13⟩ [⟨0, 10, 17, 15⟩] (by rw [hTab]; rfl) (fun z hz => nomatch hz) (by decide) (by decide) (hts _ mw189) (va_Nw.use rfl hX.1) hce hcv hcl ?_
  refine lv_astore (lv' := [(4, .ref q9), (0, .ref (h 0)), (1, .int w), (2, .int kind), (3, .ref o1)]) hx hb dL_key_13 hl (by decide) rfl (fun ls hl => ?_)
  refine lv_iconst (v := 1) hx hb dL_key_15 (by decide) ?_
  refine W.widen (k := 1) (n := 6) (Nat.le_refl _) (Nat.le_refl _) ?_
  exact W.iret hx hb hr (fun t ht _ => ⟨rfl, by rw [ht]; exact hz, fun q h _ => by rw [ht]; exact hk9 q h⟩) (fun _ h => nomatch h) dL_key_16 hlocks

set_option maxHeartbeats 4000000 in
set_option maxRecDepth 100000 in
/-- make refused -/
theorem x_L_make_2 (l : Launch) (hl9 : l.stackTraces = false) (dC : Nat → ClassId) (dI : Nat → Nat → Nat) (cI cL : ClassId) (h : Nat → Nat) (kinds : Nat → Int32) (ones : Nat → Int64) (kn : Nat) (av am : Nat → Int64) (vals msks : Nat → Int64) (pre pri act : Nat → Int32) (dat : Nat → Int64) (en : Nat) (held : Nat → Int32) (bn : Nat) (wy stt : Int32) (made hashed : Bool) (cap : Int32) (lat : Int64) (n w t : Int32) (h1 : made = true ∨ kn = 0) : Met l yL_make wsL_make ({ frames := 8, cells := 1, slots := 6, locals := 160 }) (xP2 (dC, dI) vwCl [(cI, .int), (cL, .long)] [(h 0, .inr (3, [.ref (h 1), .ref (h 2), .ref (h 3), .ref (h 4), .ref (h 5), .int (bI made), .int (bI hashed), .int cap, .long lat])), (h 1, .inr (2, [.ref (h 6), .ref (h 7), .int (nI kn)])), (h 2, .inr (1, [.ref (h 8), .ref (h 9), .ref (h 10), .ref (h 11), .ref (h 12), .ref (h 13), .int (nI en)])), (h 3, .inr (0, [.ref (h 14), .int (nI bn), .int wy, .int stt])), (h 4, .inl (cL, 4, .inr (.inl av))), (h 5, .inl (cL, 4, .inr (.inl am))), (h 6, .inl (cI, 4, .inl kinds)), (h 7, .inl (cL, 4, .inr (.inl ones))), (h 8, .inl (cL, 288, .inr (.inl vals))), (h 9, .inl (cL, 288, .inr (.inl msks))), (h 10, .inl (cI, 72, .inl pre)), (h 11, .inl (cI, 72, .inl pri)), (h 12, .inl (cI, 72, .inl act)), (h 13, .inl (cL, 72, .inr (.inl dat))), (h 14, .inl (cI, 16, .inl held))] [.ref (h 0), .int n, .int w, .int t]) (xR 2) 1 6 (fun _ => False) := by
  refine va_MetW (cc := cL_make) (maxL := 5) (ret := some .int) (by decide) rfl ?_
  intro p e s m args below meth c s₁ B hml hv
  obtain ⟨rfl, hP, hK, hX, hNc⟩ := hv
  have hx := B.exec
  have hb := B.bytes
  have hr := B.returns
  have hTab := vx_table (x := yL_make) B (atoms_spec (ws := wsL_make) B.pre _ List.mem_cons_self)
  have hts := fun w h => atoms_spec (ws := wsL_make) B.pre w (List.mem_cons_of_mem _ h)
  have hown : s.vm.findClass RL = some m.cls := findClass_of_methodNamed B.named
  have hlocks := B.notSynchronized
  have hl := lv_entry ([.ref (h 0), .int n, .int w, .int t]) (n := 5) (Nat.le_of_ble_eq_true rfl)
  rw [lg_entry_eq]
  generalize (lg_sl ([.ref (h 0), .int n, .int w, .int t]) ++ List.replicate (5 - (lg_sl ([.ref (h 0), .int n, .int w, .int t])).length) Slot.unset).toArray = ls at hl ⊢
  have hl : lv_has ls 5 [(0, .ref (h 0)), (1, .int n), (2, .int w), (3, .int t)] := hl
  refine lv_aload_n hx hb dL_make_0 rfl (lv_at hl 0 rfl) ?_
  refine lv_iload_n hx hb dL_make_1 rfl (lv_at hl 1 rfl) ?_
  refine lv_iload_n hx hb dL_make_2 rfl (lv_at hl 2 rfl) ?_
  refine lv_iload_n hx hb dL_make_3 rfl (lv_at hl 3 rfl) ?_
  refine x_call (E0 := "java/lang/IllegalStateException") (vx_runV (As := [.int n, .int w, .int t]) (rest := []) ⟨hx, hb, hml, hown, hts⟩ (x_X3_make_2 l hl9 dC dI cI cL h kinds ones kn av am vals msks pre pri act dat en held bn wy stt made hashed cap lat n w t h1) (cwV 3 hts (gV mw300 mw301 mw302 mw22 mw303) rfl rfl rfl (by decide +kernel) ⟨Nat.le_of_ble_eq_true rfl, Nat.le_of_ble_eq_true rfl⟩) (xP_preV (fun U hU hW => hX.go hU hW) (hP.sub (ws' := [(h 0, .inr (3, [.ref (h 1), .ref (h 2), .ref (h 3), .ref (h 4), .ref (h 5), .int (bI made), .int (bI hashed), .int cap, .long lat])), (h 1, .inr (2, [.ref (h 6), .ref (h 7), .int (nI kn)])), (h 2, .inr (1, [.ref (h 8), .ref (h 9), .ref (h 10), .ref (h 11), .ref (h 12), .ref (h 13), .int (nI en)])), (h 3, .inr (0, [.ref (h 14), .int (nI bn), .int wy, .int stt])), (h 4, .inl (cL, 4, .inr (.inl av))), (h 5, .inl (cL, 4, .inr (.inl am))), (h 6, .inl (cI, 4, .inl kinds)), (h 7, .inl (cL, 4, .inr (.inl ones))), (h 8, .inl (cL, 288, .inr (.inl vals))), (h 9, .inl (cL, 288, .inr (.inl msks))), (h 10, .inl (cI, 72, .inl pre)), (h 11, .inl (cI, 72, .inl pri)), (h 12, .inl (cI, 72, .inl act)), (h 13, .inl (cL, 72, .inr (.inl dat))), (h 14, .inl (cI, 16, .inl held))]) [0, 1, 2, 3, 4, 5, 6, 7, 8, 9, 10, 11, 12, 13, 14] rfl) hK (va_recv (ci := 3) hK hP rfl (q0 := 0) rfl)) rfl rfl hl.1 rfl (lv_room (Nat.le_of_ble_eq_true rfl)) dL_make_4 ⟨Nat.le_refl _, Nat.le_refl _⟩) (fun ce q9 H1 hz hk9 hce hcv hcl => ?_)
  refine vx_catch (own := RL) (name := "java/lang/IllegalStateException") (E := "java/lang/IllegalStateException") hown [⟨0, 7, 10, 13⟩] ⟨0, 7, 14, 15⟩ [] (by rw [hTab]; rfl) (by intro z hz; rcases List.mem_cons.mp hz with rfl | hz; exact Or.inr ⟨by decide, "java/lang/IllegalArgumentException", hts _ mw189, hNc⟩; cases hz) (by decide) (by decide) (hts _ mw190) (va_Nw.use rfl hX.2.1) hce hcv hcl ?_
  refine lv_astore (lv' := [(4, .ref q9), (0, .ref (h 0)), (1, .int n), (2, .int w), (3, .int t)]) hx hb dL_make_14 hl (by decide) rfl (fun ls hl => ?_)
  refine lv_iconst (v := 2) hx hb dL_make_16 (by decide) ?_
  refine W.widen (k := 1) (n := 6) (Nat.le_refl _) (Nat.le_refl _) ?_
  exact W.iret hx hb hr (fun t ht _ => ⟨rfl, by rw [ht]; exact hz, fun q h _ => by rw [ht]; exact hk9 q h⟩) (fun _ h => nomatch h) dL_make_17 hlocks

set_option maxHeartbeats 4000000 in
set_option maxRecDepth 100000 in
/-- make refused -/
theorem x_L_make_1 (l : Launch) (hl9 : l.stackTraces = false) (dC : Nat → ClassId) (dI : Nat → Nat → Nat) (cI cL : ClassId) (h : Nat → Nat) (kinds : Nat → Int32) (ones : Nat → Int64) (kn : Nat) (av am : Nat → Int64) (vals msks : Nat → Int64) (pre pri act : Nat → Int32) (dat : Nat → Int64) (en : Nat) (held : Nat → Int32) (bn : Nat) (wy stt : Int32) (made hashed : Bool) (cap : Int32) (lat : Int64) (n w t : Int32) (hm : made = false) (h0 : 0 < kn) (hk : kn ≤ 4) (h1 : (if kExact kinds kn then hShape n w t else lShape n) = false) : Met l yL_make wsL_make ({ frames := 8, cells := 1, slots := 6, locals := 160 }) (xP2 (dC, dI) vwCl [(cI, .int), (cL, .long)] [(h 0, .inr (3, [.ref (h 1), .ref (h 2), .ref (h 3), .ref (h 4), .ref (h 5), .int (bI made), .int (bI hashed), .int cap, .long lat])), (h 1, .inr (2, [.ref (h 6), .ref (h 7), .int (nI kn)])), (h 2, .inr (1, [.ref (h 8), .ref (h 9), .ref (h 10), .ref (h 11), .ref (h 12), .ref (h 13), .int (nI en)])), (h 3, .inr (0, [.ref (h 14), .int (nI bn), .int wy, .int stt])), (h 4, .inl (cL, 4, .inr (.inl av))), (h 5, .inl (cL, 4, .inr (.inl am))), (h 6, .inl (cI, 4, .inl kinds)), (h 7, .inl (cL, 4, .inr (.inl ones))), (h 8, .inl (cL, 288, .inr (.inl vals))), (h 9, .inl (cL, 288, .inr (.inl msks))), (h 10, .inl (cI, 72, .inl pre)), (h 11, .inl (cI, 72, .inl pri)), (h 12, .inl (cI, 72, .inl act)), (h 13, .inl (cL, 72, .inr (.inl dat))), (h 14, .inl (cI, 16, .inl held))] [.ref (h 0), .int n, .int w, .int t]) (xR 1) 1 6 (fun _ => False) := by
  refine va_MetW (cc := cL_make) (maxL := 5) (ret := some .int) (by decide) rfl ?_
  intro p e s m args below meth c s₁ B hml hv
  obtain ⟨rfl, hP, hK, hX, hNc⟩ := hv
  have hx := B.exec
  have hb := B.bytes
  have hr := B.returns
  have hTab := vx_table (x := yL_make) B (atoms_spec (ws := wsL_make) B.pre _ List.mem_cons_self)
  have hts := fun w h => atoms_spec (ws := wsL_make) B.pre w (List.mem_cons_of_mem _ h)
  have hown : s.vm.findClass RL = some m.cls := findClass_of_methodNamed B.named
  have hlocks := B.notSynchronized
  have hl := lv_entry ([.ref (h 0), .int n, .int w, .int t]) (n := 5) (Nat.le_of_ble_eq_true rfl)
  rw [lg_entry_eq]
  generalize (lg_sl ([.ref (h 0), .int n, .int w, .int t]) ++ List.replicate (5 - (lg_sl ([.ref (h 0), .int n, .int w, .int t])).length) Slot.unset).toArray = ls at hl ⊢
  have hl : lv_has ls 5 [(0, .ref (h 0)), (1, .int n), (2, .int w), (3, .int t)] := hl
  refine lv_aload_n hx hb dL_make_0 rfl (lv_at hl 0 rfl) ?_
  refine lv_iload_n hx hb dL_make_1 rfl (lv_at hl 1 rfl) ?_
  refine lv_iload_n hx hb dL_make_2 rfl (lv_at hl 2 rfl) ?_
  refine lv_iload_n hx hb dL_make_3 rfl (lv_at hl 3 rfl) ?_
  refine x_call (E0 := "java/lang/IllegalArgumentException") (vx_runV (As := [.int n, .int w, .int t]) (rest := []) ⟨hx, hb, hml, hown, hts⟩ (x_X3_make_1 l hl9 dC dI cI cL h kinds ones kn av am vals msks pre pri act dat en held bn wy stt made hashed cap lat n w t hm h0 hk h1) (cwV 3 hts (gV mw300 mw301 mw302 mw22 mw303) rfl rfl rfl (by decide +kernel) ⟨Nat.le_of_ble_eq_true rfl, Nat.le_of_ble_eq_true rfl⟩) (xP_preV (fun U hU hW => hX.go hU hW) (hP.sub (ws' := [(h 0, .inr (3, [.ref (h 1), .ref (h 2), .ref (h 3), .ref (h 4), .ref (h 5), .int (bI made), .int (bI hashed), .int cap, .long lat])), (h 1, .inr (2, [.ref (h 6), .ref (h 7), .int (nI kn)])), (h 2, .inr (1, [.ref (h 8), .ref (h 9), .ref (h 10), .ref (h 11), .ref (h 12), .ref (h 13), .int (nI en)])), (h 3, .inr (0, [.ref (h 14), .int (nI bn), .int wy, .int stt])), (h 4, .inl (cL, 4, .inr (.inl av))), (h 5, .inl (cL, 4, .inr (.inl am))), (h 6, .inl (cI, 4, .inl kinds)), (h 7, .inl (cL, 4, .inr (.inl ones))), (h 8, .inl (cL, 288, .inr (.inl vals))), (h 9, .inl (cL, 288, .inr (.inl msks))), (h 10, .inl (cI, 72, .inl pre)), (h 11, .inl (cI, 72, .inl pri)), (h 12, .inl (cI, 72, .inl act)), (h 13, .inl (cL, 72, .inr (.inl dat))), (h 14, .inl (cI, 16, .inl held))]) [0, 1, 2, 3, 4, 5, 6, 7, 8, 9, 10, 11, 12, 13, 14] rfl) hK (va_recv (ci := 3) hK hP rfl (q0 := 0) rfl)) rfl rfl hl.1 rfl (lv_room (Nat.le_of_ble_eq_true rfl)) dL_make_4 ⟨Nat.le_refl _, Nat.le_refl _⟩) (fun ce q9 H1 hz hk9 hce hcv hcl => ?_)
  refine vx_catch (own := RL) (name := "java/lang/IllegalArgumentException") (E := "java/lang/IllegalArgumentException") hown [] ⟨0, 7, 10, 13⟩ [⟨0, 7, 14, 15⟩] (by rw [hTab]; rfl) (fun z hz => nomatch hz) (by decide) (by decide) (hts _ mw189) (va_Nw.use rfl hX.1) hce hcv hcl ?_
  refine lv_astore (lv' := [(4, .ref q9), (0, .ref (h 0)), (1, .int n), (2, .int w), (3, .int t)]) hx hb dL_make_10 hl (by decide) rfl (fun ls hl => ?_)
  refine lv_iconst (v := 1) hx hb dL_make_12 (by decide) ?_
  refine W.widen (k := 1) (n := 6) (Nat.le_refl _) (Nat.le_refl _) ?_
  exact W.iret hx hb hr (fun t ht _ => ⟨rfl, by rw [ht]; exact hz, fun q h _ => by rw [ht]; exact hk9 q h⟩) (fun _ h => nomatch h) dL_make_13 hlocks

set_option maxHeartbeats 4000000 in
set_option maxRecDepth 100000 in
/-- set refused -/
theorem x_L_set (l : Launch) (hl9 : l.stackTraces = false) (dC : Nat → ClassId) (dI : Nat → Nat → Nat) (cI cL : ClassId) (h : Nat → Nat) (kinds : Nat → Int32) (ones : Nat → Int64) (kn : Nat) (av am : Nat → Int64) (vals msks : Nat → Int64) (pre pri act : Nat → Int32) (dat : Nat → Int64) (en : Nat) (held : Nat → Int32) (bn : Nat) (wy stt : Int32) (made hashed : Bool) (cap : Int32) (lat : Int64) (k : Int32) (v2 m2 : Int64) (h1 : k < 0 ∨ 4 ≤ k) : Met l yL_set wsL_set ({ frames := 8, cells := 1, slots := 6, locals := 160 }) (xP2 (dC, dI) vwCl [(cI, .int), (cL, .long)] [(h 0, .inr (3, [.ref (h 1), .ref (h 2), .ref (h 3), .ref (h 4), .ref (h 5), .int (bI made), .int (bI hashed), .int cap, .long lat])), (h 1, .inr (2, [.ref (h 6), .ref (h 7), .int (nI kn)])), (h 2, .inr (1, [.ref (h 8), .ref (h 9), .ref (h 10), .ref (h 11), .ref (h 12), .ref (h 13), .int (nI en)])), (h 3, .inr (0, [.ref (h 14), .int (nI bn), .int wy, .int stt])), (h 4, .inl (cL, 4, .inr (.inl av))), (h 5, .inl (cL, 4, .inr (.inl am))), (h 6, .inl (cI, 4, .inl kinds)), (h 7, .inl (cL, 4, .inr (.inl ones))), (h 8, .inl (cL, 288, .inr (.inl vals))), (h 9, .inl (cL, 288, .inr (.inl msks))), (h 10, .inl (cI, 72, .inl pre)), (h 11, .inl (cI, 72, .inl pri)), (h 12, .inl (cI, 72, .inl act)), (h 13, .inl (cL, 72, .inr (.inl dat))), (h 14, .inl (cI, 16, .inl held))] [.ref (h 0), .int k, .long v2, .long m2]) (xR 1) 1 6 (fun _ => False) := by
  refine va_MetW (cc := cL_set) (maxL := 7) (ret := some .int) (by decide) rfl ?_
  intro p e s m args below meth c s₁ B hml hv
  obtain ⟨rfl, hP, hK, hX, hNc⟩ := hv
  have hx := B.exec
  have hb := B.bytes
  have hr := B.returns
  have hTab := vx_table (x := yL_set) B (atoms_spec (ws := wsL_set) B.pre _ List.mem_cons_self)
  have hts := fun w h => atoms_spec (ws := wsL_set) B.pre w (List.mem_cons_of_mem _ h)
  have hown : s.vm.findClass RL = some m.cls := findClass_of_methodNamed B.named
  have hlocks := B.notSynchronized
  have hl := lv_entry ([.ref (h 0), .int k, .long v2, .long m2]) (n := 7) (Nat.le_of_ble_eq_true rfl)
  rw [lg_entry_eq]
  generalize (lg_sl ([.ref (h 0), .int k, .long v2, .long m2]) ++ List.replicate (7 - (lg_sl ([.ref (h 0), .int k, .long v2, .long m2])).length) Slot.unset).toArray = ls at hl ⊢
  have hl : lv_has ls 7 [(0, .ref (h 0)), (1, .int k), (2, .long v2), (4, .long m2)] := hl
  refine lv_aload_n hx hb dL_set_0 rfl (lv_at hl 0 rfl) ?_
  refine lv_iload_n hx hb dL_set_1 rfl (lv_at hl 1 rfl) ?_
  refine lv_lload_n hx hb dL_set_2 rfl (lv_at hl 2 rfl) ?_
  refine lv_lload hx hb dL_set_3 (lv_at hl 3 rfl) ?_
  refine x_call (E0 := "java/lang/IndexOutOfBoundsException") (vx_runV (As := [.int k, .long v2, .long m2]) (rest := []) ⟨hx, hb, hml, hown, hts⟩ (x_X3_set l hl9 dC dI cI cL h kinds ones kn av am vals msks pre pri act dat en held bn wy stt made hashed cap lat k v2 m2 h1) (cwV 3 hts (gV mw323 mw324 mw325 mw22 mw326) rfl rfl rfl (by decide +kernel) ⟨Nat.le_of_ble_eq_true rfl, Nat.le_of_ble_eq_true rfl⟩) (xP_preV (fun U hU hW => hX.go hU hW) (hP.sub (ws' := [(h 0, .inr (3, [.ref (h 1), .ref (h 2), .ref (h 3), .ref (h 4), .ref (h 5), .int (bI made), .int (bI hashed), .int cap, .long lat])), (h 1, .inr (2, [.ref (h 6), .ref (h 7), .int (nI kn)])), (h 2, .inr (1, [.ref (h 8), .ref (h 9), .ref (h 10), .ref (h 11), .ref (h 12), .ref (h 13), .int (nI en)])), (h 3, .inr (0, [.ref (h 14), .int (nI bn), .int wy, .int stt])), (h 4, .inl (cL, 4, .inr (.inl av))), (h 5, .inl (cL, 4, .inr (.inl am))), (h 6, .inl (cI, 4, .inl kinds)), (h 7, .inl (cL, 4, .inr (.inl ones))), (h 8, .inl (cL, 288, .inr (.inl vals))), (h 9, .inl (cL, 288, .inr (.inl msks))), (h 10, .inl (cI, 72, .inl pre)), (h 11, .inl (cI, 72, .inl pri)), (h 12, .inl (cI, 72, .inl act)), (h 13, .inl (cL, 72, .inr (.inl dat))), (h 14, .inl (cI, 16, .inl held))]) [0, 1, 2, 3, 4, 5, 6, 7, 8, 9, 10, 11, 12, 13, 14] rfl) hK (va_recv (ci := 3) hK hP rfl (q0 := 0) rfl)) rfl rfl hl.1 rfl (lv_room (Nat.le_of_ble_eq_true rfl)) dL_set_5 ⟨Nat.le_refl _, Nat.le_refl _⟩) (fun ce q9 H1 hz hk9 hce hcv hcl => ?_)
  refine vx_catch (own := RL) (name := "java/lang/IndexOutOfBoundsException") (E := "java/lang/IndexOutOfBoundsException") hown [] ⟨0, 8, 11, 25⟩ [] (by rw [hTab]; rfl) (fun z hz => nomatch hz) (by decide) (by decide) (hts _ mw322) (va_Nw.use rfl hX.2.2.1) hce hcv hcl ?_
  refine lv_astore (lv' := [(6, .ref q9), (0, .ref (h 0)), (1, .int k), (2, .long v2), (4, .long m2)]) hx hb dL_set_11 hl (by decide) rfl (fun ls hl => ?_)
  refine lv_iconst (v := 1) hx hb dL_set_13 (by decide) ?_
  refine W.widen (k := 1) (n := 6) (Nat.le_refl _) (Nat.le_refl _) ?_
  exact W.iret hx hb hr (fun t ht _ => ⟨rfl, by rw [ht]; exact hz, fun q h _ => by rw [ht]; exact hk9 q h⟩) (fun _ h => nomatch h) dL_set_14 hlocks

set_option maxHeartbeats 4000000 in
set_option maxRecDepth 100000 in
/-- no table -/
theorem x_L_insert (l : Launch) (hl9 : l.stackTraces = false) (dC : Nat → ClassId) (dI : Nat → Nat → Nat) (cI cL : ClassId) (h : Nat → Nat) (kinds : Nat → Int32) (ones : Nat → Int64) (kn : Nat) (av am : Nat → Int64) (vals msks : Nat → Int64) (pre pri act : Nat → Int32) (dat : Nat → Int64) (en : Nat) (held : Nat → Int32) (bn : Nat) (wy stt : Int32) (made hashed : Bool) (cap : Int32) (lat : Int64) (o1 : Nat) (of : Nat → Int64) (pr ac : Int32) (da : Int64) (hm : made = false) : Met l yL_insert wsL_insert ({ frames := 8, cells := 1, slots := 6, locals := 160 }) (xP2 (dC, dI) vwCl [(cI, .int), (cL, .long)] [(h 0, .inr (3, [.ref (h 1), .ref (h 2), .ref (h 3), .ref (h 4), .ref (h 5), .int (bI made), .int (bI hashed), .int cap, .long lat])), (h 1, .inr (2, [.ref (h 6), .ref (h 7), .int (nI kn)])), (h 2, .inr (1, [.ref (h 8), .ref (h 9), .ref (h 10), .ref (h 11), .ref (h 12), .ref (h 13), .int (nI en)])), (h 3, .inr (0, [.ref (h 14), .int (nI bn), .int wy, .int stt])), (h 4, .inl (cL, 4, .inr (.inl av))), (h 5, .inl (cL, 4, .inr (.inl am))), (h 6, .inl (cI, 4, .inl kinds)), (h 7, .inl (cL, 4, .inr (.inl ones))), (h 8, .inl (cL, 288, .inr (.inl vals))), (h 9, .inl (cL, 288, .inr (.inl msks))), (h 10, .inl (cI, 72, .inl pre)), (h 11, .inl (cI, 72, .inl pri)), (h 12, .inl (cI, 72, .inl act)), (h 13, .inl (cL, 72, .inr (.inl dat))), (h 14, .inl (cI, 16, .inl held)), (o1, .inl (cL, 1, .inr (.inl of)))] [.ref (h 0), .int pr, .int ac, .long da, .ref o1]) (xR 1) 1 6 (fun _ => False) := by
  refine va_MetW (cc := cL_insert) (maxL := 7) (ret := some .int) (by decide) rfl ?_
  intro p e s m args below meth c s₁ B hml hv
  obtain ⟨rfl, hP, hK, hX, hNc⟩ := hv
  have hx := B.exec
  have hb := B.bytes
  have hr := B.returns
  have hTab := vx_table (x := yL_insert) B (atoms_spec (ws := wsL_insert) B.pre _ List.mem_cons_self)
  have hts := fun w h => atoms_spec (ws := wsL_insert) B.pre w (List.mem_cons_of_mem _ h)
  have hown : s.vm.findClass RL = some m.cls := findClass_of_methodNamed B.named
  have hlocks := B.notSynchronized
  have hl := lv_entry ([.ref (h 0), .int pr, .int ac, .long da, .ref o1]) (n := 7) (Nat.le_of_ble_eq_true rfl)
  rw [lg_entry_eq]
  generalize (lg_sl ([.ref (h 0), .int pr, .int ac, .long da, .ref o1]) ++ List.replicate (7 - (lg_sl ([.ref (h 0), .int pr, .int ac, .long da, .ref o1])).length) Slot.unset).toArray = ls at hl ⊢
  have hl : lv_has ls 7 [(0, .ref (h 0)), (1, .int pr), (2, .int ac), (3, .long da), (5, .ref o1)] := hl
  refine lv_aload hx hb dL_insert_0 (lv_at hl 4 rfl) ?_
  refine lv_iconst (v := 0) hx hb dL_insert_2 (by decide) ?_
  refine lv_aload_n hx hb dL_insert_3 rfl (lv_at hl 0 rfl) ?_
  refine lv_iload_n hx hb dL_insert_4 rfl (lv_at hl 1 rfl) ?_
  refine lv_iload_n hx hb dL_insert_5 rfl (lv_at hl 2 rfl) ?_
  refine lv_lload_n hx hb dL_insert_6 rfl (lv_at hl 3 rfl) ?_
  refine x_call (E0 := "java/lang/IllegalStateException") (vx_runV (As := [.int pr, .int ac, .long da]) (rest := [.int 0, .ref o1]) ⟨hx, hb, hml, hown, hts⟩ (x_X3_insert l hl9 dC dI cI cL h kinds ones kn av am vals msks pre pri act dat en held bn wy stt made hashed cap lat pr ac da hm) (cwV 3 hts (gV mw346 mw347 mw348 mw22 mw349) rfl rfl rfl (by decide +kernel) ⟨Nat.le_of_ble_eq_true rfl, Nat.le_of_ble_eq_true rfl⟩) (xP_preV (fun U hU hW => hX.go hU hW) (hP.sub (ws' := [(h 0, .inr (3, [.ref (h 1), .ref (h 2), .ref (h 3), .ref (h 4), .ref (h 5), .int (bI made), .int (bI hashed), .int cap, .long lat])), (h 1, .inr (2, [.ref (h 6), .ref (h 7), .int (nI kn)])), (h 2, .inr (1, [.ref (h 8), .ref (h 9), .ref (h 10), .ref (h 11), .ref (h 12), .ref (h 13), .int (nI en)])), (h 3, .inr (0, [.ref (h 14), .int (nI bn), .int wy, .int stt])), (h 4, .inl (cL, 4, .inr (.inl av))), (h 5, .inl (cL, 4, .inr (.inl am))), (h 6, .inl (cI, 4, .inl kinds)), (h 7, .inl (cL, 4, .inr (.inl ones))), (h 8, .inl (cL, 288, .inr (.inl vals))), (h 9, .inl (cL, 288, .inr (.inl msks))), (h 10, .inl (cI, 72, .inl pre)), (h 11, .inl (cI, 72, .inl pri)), (h 12, .inl (cI, 72, .inl act)), (h 13, .inl (cL, 72, .inr (.inl dat))), (h 14, .inl (cI, 16, .inl held))]) [0, 1, 2, 3, 4, 5, 6, 7, 8, 9, 10, 11, 12, 13, 14] rfl) hK (va_recv (ci := 3) hK hP rfl (q0 := 0) rfl)) rfl rfl hl.1 rfl (lv_room (Nat.le_of_ble_eq_true rfl)) dL_insert_7 ⟨Nat.le_refl _, Nat.le_refl _⟩) (fun ce q9 H1 hz hk9 hce hcv hcl => ?_)
  refine vx_catch (own := RL) (name := "java/lang/IllegalStateException") (E := "java/lang/IllegalStateException") hown [] ⟨0, 19, 22, 15⟩ [] (by rw [hTab]; rfl) (fun z hz => nomatch hz) (by decide) (by decide) (hts _ mw190) (va_Nw.use rfl hX.2.1) hce hcv hcl ?_
  refine lv_astore (lv' := [(6, .ref q9), (0, .ref (h 0)), (1, .int pr), (2, .int ac), (3, .long da), (5, .ref o1)]) hx hb dL_insert_22 hl (by decide) rfl (fun ls hl => ?_)
  refine lv_iconst (v := 1) hx hb dL_insert_24 (by decide) ?_
  refine W.widen (k := 1) (n := 6) (Nat.le_refl _) (Nat.le_refl _) ?_
  exact W.iret hx hb hr (fun t ht _ => ⟨rfl, by rw [ht]; exact hz, fun q h _ => by rw [ht]; exact hk9 q h⟩) (fun _ h => nomatch h) dL_insert_25 hlocks

set_option maxHeartbeats 4000000 in
set_option maxRecDepth 100000 in
/-- no table -/
theorem x_L_change (l : Launch) (hl9 : l.stackTraces = false) (dC : Nat → ClassId) (dI : Nat → Nat → Nat) (cI cL : ClassId) (h : Nat → Nat) (kinds : Nat → Int32) (ones : Nat → Int64) (kn : Nat) (av am : Nat → Int64) (vals msks : Nat → Int64) (pre pri act : Nat → Int32) (dat : Nat → Int64) (en : Nat) (held : Nat → Int32) (bn : Nat) (wy stt : Int32) (made hashed : Bool) (cap : Int32) (lat : Int64) (o1 : Nat) (of : Nat → Int64) (ac : Int32) (da : Int64) (hm : made = false) : Met l yL_change wsL_change ({ frames := 8, cells := 1, slots := 6, locals := 160 }) (xP2 (dC, dI) vwCl [(cI, .int), (cL, .long)] [(h 0, .inr (3, [.ref (h 1), .ref (h 2), .ref (h 3), .ref (h 4), .ref (h 5), .int (bI made), .int (bI hashed), .int cap, .long lat])), (h 1, .inr (2, [.ref (h 6), .ref (h 7), .int (nI kn)])), (h 2, .inr (1, [.ref (h 8), .ref (h 9), .ref (h 10), .ref (h 11), .ref (h 12), .ref (h 13), .int (nI en)])), (h 3, .inr (0, [.ref (h 14), .int (nI bn), .int wy, .int stt])), (h 4, .inl (cL, 4, .inr (.inl av))), (h 5, .inl (cL, 4, .inr (.inl am))), (h 6, .inl (cI, 4, .inl kinds)), (h 7, .inl (cL, 4, .inr (.inl ones))), (h 8, .inl (cL, 288, .inr (.inl vals))), (h 9, .inl (cL, 288, .inr (.inl msks))), (h 10, .inl (cI, 72, .inl pre)), (h 11, .inl (cI, 72, .inl pri)), (h 12, .inl (cI, 72, .inl act)), (h 13, .inl (cL, 72, .inr (.inl dat))), (h 14, .inl (cI, 16, .inl held)), (o1, .inl (cL, 1, .inr (.inl of)))] [.ref (h 0), .int ac, .long da, .ref o1]) (xR 1) 1 6 (fun _ => False) := by
  refine va_MetW (cc := cL_change) (maxL := 6) (ret := some .int) (by decide) rfl ?_
  intro p e s m args below meth c s₁ B hml hv
  obtain ⟨rfl, hP, hK, hX, hNc⟩ := hv
  have hx := B.exec
  have hb := B.bytes
  have hr := B.returns
  have hTab := vx_table (x := yL_change) B (atoms_spec (ws := wsL_change) B.pre _ List.mem_cons_self)
  have hts := fun w h => atoms_spec (ws := wsL_change) B.pre w (List.mem_cons_of_mem _ h)
  have hown : s.vm.findClass RL = some m.cls := findClass_of_methodNamed B.named
  have hlocks := B.notSynchronized
  have hl := lv_entry ([.ref (h 0), .int ac, .long da, .ref o1]) (n := 6) (Nat.le_of_ble_eq_true rfl)
  rw [lg_entry_eq]
  generalize (lg_sl ([.ref (h 0), .int ac, .long da, .ref o1]) ++ List.replicate (6 - (lg_sl ([.ref (h 0), .int ac, .long da, .ref o1])).length) Slot.unset).toArray = ls at hl ⊢
  have hl : lv_has ls 6 [(0, .ref (h 0)), (1, .int ac), (2, .long da), (4, .ref o1)] := hl
  refine lv_aload hx hb dL_change_0 (lv_at hl 3 rfl) ?_
  refine lv_iconst (v := 0) hx hb dL_change_2 (by decide) ?_
  refine lv_aload_n hx hb dL_change_3 rfl (lv_at hl 0 rfl) ?_
  refine lv_iload_n hx hb dL_change_4 rfl (lv_at hl 1 rfl) ?_
  refine lv_lload_n hx hb dL_change_5 rfl (lv_at hl 2 rfl) ?_
  refine x_call (E0 := "java/lang/IllegalStateException") (vx_runV (As := [.int ac, .long da]) (rest := [.int 0, .ref o1]) ⟨hx, hb, hml, hown, hts⟩ (x_X3_change l hl9 dC dI cI cL h kinds ones kn av am vals msks pre pri act dat en held bn wy stt made hashed cap lat ac da hm) (cwV 2 hts (gV mw412 mw413 mw414 mw22 mw415) rfl rfl rfl (by decide +kernel) ⟨Nat.le_of_ble_eq_true rfl, Nat.le_of_ble_eq_true rfl⟩) (xP_preV (fun U hU hW => hX.go hU hW) (hP.sub (ws' := [(h 0, .inr (3, [.ref (h 1), .ref (h 2), .ref (h 3), .ref (h 4), .ref (h 5), .int (bI made), .int (bI hashed), .int cap, .long lat])), (h 1, .inr (2, [.ref (h 6), .ref (h 7), .int (nI kn)])), (h 2, .inr (1, [.ref (h 8), .ref (h 9), .ref (h 10), .ref (h 11), .ref (h 12), .ref (h 13), .int (nI en)])), (h 3, .inr (0, [.ref (h 14), .int (nI bn), .int wy, .int stt])), (h 4, .inl (cL, 4, .inr (.inl av))), (h 5, .inl (cL, 4, .inr (.inl am))), (h 6, .inl (cI, 4, .inl kinds)), (h 7, .inl (cL, 4, .inr (.inl ones))), (h 8, .inl (cL, 288, .inr (.inl vals))), (h 9, .inl (cL, 288, .inr (.inl msks))), (h 10, .inl (cI, 72, .inl pre)), (h 11, .inl (cI, 72, .inl pri)), (h 12, .inl (cI, 72, .inl act)), (h 13, .inl (cL, 72, .inr (.inl dat))), (h 14, .inl (cI, 16, .inl held))]) [0, 1, 2, 3, 4, 5, 6, 7, 8, 9, 10, 11, 12, 13, 14] rfl) hK (va_recv (ci := 3) hK hP rfl (q0 := 0) rfl)) rfl rfl hl.1 rfl (lv_room (Nat.le_of_ble_eq_true rfl)) dL_change_6 ⟨Nat.le_refl _, Nat.le_refl _⟩) (fun ce q9 H1 hz hk9 hce hcv hcl => ?_)
  refine vx_catch (own := RL) (name := "java/lang/IllegalStateException") (E := "java/lang/IllegalStateException") hown [] ⟨0, 18, 21, 15⟩ [] (by rw [hTab]; rfl) (fun z hz => nomatch hz) (by decide) (by decide) (hts _ mw190) (va_Nw.use rfl hX.2.1) hce hcv hcl ?_
  refine lv_astore (lv' := [(5, .ref q9), (0, .ref (h 0)), (1, .int ac), (2, .long da), (4, .ref o1)]) hx hb dL_change_21 hl (by decide) rfl (fun ls hl => ?_)
  refine lv_iconst (v := 1) hx hb dL_change_23 (by decide) ?_
  refine W.widen (k := 1) (n := 6) (Nat.le_refl _) (Nat.le_refl _) ?_
  exact W.iret hx hb hr (fun t ht _ => ⟨rfl, by rw [ht]; exact hz, fun q h _ => by rw [ht]; exact hk9 q h⟩) (fun _ h => nomatch h) dL_change_24 hlocks

set_option maxHeartbeats 4000000 in
set_option maxRecDepth 100000 in
/-- no table -/
theorem x_L_remove (l : Launch) (hl9 : l.stackTraces = false) (dC : Nat → ClassId) (dI : Nat → Nat → Nat) (cI cL : ClassId) (h : Nat → Nat) (kinds : Nat → Int32) (ones : Nat → Int64) (kn : Nat) (av am : Nat → Int64) (vals msks : Nat → Int64) (pre pri act : Nat → Int32) (dat : Nat → Int64) (en : Nat) (held : Nat → Int32) (bn : Nat) (wy stt : Int32) (made hashed : Bool) (cap : Int32) (lat : Int64) (o1 : Nat) (of : Nat → Int64) (hm : made = false) : Met l yL_remove wsL_remove ({ frames := 8, cells := 1, slots := 6, locals := 160 }) (xP2 (dC, dI) vwCl [(cI, .int), (cL, .long)] [(h 0, .inr (3, [.ref (h 1), .ref (h 2), .ref (h 3), .ref (h 4), .ref (h 5), .int (bI made), .int (bI hashed), .int cap, .long lat])), (h 1, .inr (2, [.ref (h 6), .ref (h 7), .int (nI kn)])), (h 2, .inr (1, [.ref (h 8), .ref (h 9), .ref (h 10), .ref (h 11), .ref (h 12), .ref (h 13), .int (nI en)])), (h 3, .inr (0, [.ref (h 14), .int (nI bn), .int wy, .int stt])), (h 4, .inl (cL, 4, .inr (.inl av))), (h 5, .inl (cL, 4, .inr (.inl am))), (h 6, .inl (cI, 4, .inl kinds)), (h 7, .inl (cL, 4, .inr (.inl ones))), (h 8, .inl (cL, 288, .inr (.inl vals))), (h 9, .inl (cL, 288, .inr (.inl msks))), (h 10, .inl (cI, 72, .inl pre)), (h 11, .inl (cI, 72, .inl pri)), (h 12, .inl (cI, 72, .inl act)), (h 13, .inl (cL, 72, .inr (.inl dat))), (h 14, .inl (cI, 16, .inl held)), (o1, .inl (cL, 1, .inr (.inl of)))] [.ref (h 0), .ref o1]) (xR 1) 1 6 (fun _ => False) := by
  refine va_MetW (cc := cL_remove) (maxL := 3) (ret := some .int) (by decide) rfl ?_
  intro p e s m args below meth c s₁ B hml hv
  obtain ⟨rfl, hP, hK, hX, hNc⟩ := hv
  have hx := B.exec
  have hb := B.bytes
  have hr := B.returns
  have hTab := vx_table (x := yL_remove) B (atoms_spec (ws := wsL_remove) B.pre _ List.mem_cons_self)
  have hts := fun w h => atoms_spec (ws := wsL_remove) B.pre w (List.mem_cons_of_mem _ h)
  have hown : s.vm.findClass RL = some m.cls := findClass_of_methodNamed B.named
  have hlocks := B.notSynchronized
  have hl := lv_entry ([.ref (h 0), .ref o1]) (n := 3) (Nat.le_of_ble_eq_true rfl)
  rw [lg_entry_eq]
  generalize (lg_sl ([.ref (h 0), .ref o1]) ++ List.replicate (3 - (lg_sl ([.ref (h 0), .ref o1])).length) Slot.unset).toArray = ls at hl ⊢
  have hl : lv_has ls 3 [(0, .ref (h 0)), (1, .ref o1)] := hl
  refine lv_aload_n hx hb dL_remove_0 rfl (lv_at hl 1 rfl) ?_
  refine lv_iconst (v := 0) hx hb dL_remove_1 (by decide) ?_
  refine lv_aload_n hx hb dL_remove_2 rfl (lv_at hl 0 rfl) ?_
  refine x_call (E0 := "java/lang/IllegalStateException") (vx_runV (As := []) (rest := [.int 0, .ref o1]) ⟨hx, hb, hml, hown, hts⟩ (x_X3_remove l hl9 dC dI cI cL h kinds ones kn av am vals msks pre pri act dat en held bn wy stt made hashed cap lat hm) (cwV 0 hts (gV mw419 mw420 mw421 mw22 mw422) rfl rfl rfl (by decide +kernel) ⟨Nat.le_of_ble_eq_true rfl, Nat.le_of_ble_eq_true rfl⟩) (xP_preV (fun U hU hW => hX.go hU hW) (hP.sub (ws' := [(h 0, .inr (3, [.ref (h 1), .ref (h 2), .ref (h 3), .ref (h 4), .ref (h 5), .int (bI made), .int (bI hashed), .int cap, .long lat])), (h 1, .inr (2, [.ref (h 6), .ref (h 7), .int (nI kn)])), (h 2, .inr (1, [.ref (h 8), .ref (h 9), .ref (h 10), .ref (h 11), .ref (h 12), .ref (h 13), .int (nI en)])), (h 3, .inr (0, [.ref (h 14), .int (nI bn), .int wy, .int stt])), (h 4, .inl (cL, 4, .inr (.inl av))), (h 5, .inl (cL, 4, .inr (.inl am))), (h 6, .inl (cI, 4, .inl kinds)), (h 7, .inl (cL, 4, .inr (.inl ones))), (h 8, .inl (cL, 288, .inr (.inl vals))), (h 9, .inl (cL, 288, .inr (.inl msks))), (h 10, .inl (cI, 72, .inl pre)), (h 11, .inl (cI, 72, .inl pri)), (h 12, .inl (cI, 72, .inl act)), (h 13, .inl (cL, 72, .inr (.inl dat))), (h 14, .inl (cI, 16, .inl held))]) [0, 1, 2, 3, 4, 5, 6, 7, 8, 9, 10, 11, 12, 13, 14] rfl) hK (va_recv (ci := 3) hK hP rfl (q0 := 0) rfl)) rfl rfl hl.1 rfl (lv_room (Nat.le_of_ble_eq_true rfl)) dL_remove_3 ⟨Nat.le_refl _, Nat.le_refl _⟩) (fun ce q9 H1 hz hk9 hce hcv hcl => ?_)
  refine vx_catch (own := RL) (name := "java/lang/IllegalStateException") (E := "java/lang/IllegalStateException") hown [] ⟨0, 15, 18, 15⟩ [] (by rw [hTab]; rfl) (fun z hz => nomatch hz) (by decide) (by decide) (hts _ mw190) (va_Nw.use rfl hX.2.1) hce hcv hcl ?_
  refine lv_astore_n (lv' := [(2, .ref q9), (0, .ref (h 0)), (1, .ref o1)]) hx hb dL_remove_18 rfl hl (by decide) rfl (fun ls hl => ?_)
  refine lv_iconst (v := 1) hx hb dL_remove_19 (by decide) ?_
  refine W.widen (k := 1) (n := 6) (Nat.le_refl _) (Nat.le_refl _) ?_
  exact W.iret hx hb hr (fun t ht _ => ⟨rfl, by rw [ht]; exact hz, fun q h _ => by rw [ht]; exact hk9 q h⟩) (fun _ h => nomatch h) dL_remove_20 hlocks

set_option maxHeartbeats 4000000 in
set_option maxRecDepth 100000 in
/-- no table -/
theorem x_L_match (l : Launch) (hl9 : l.stackTraces = false) (dC : Nat → ClassId) (dI : Nat → Nat → Nat) (cI cL : ClassId) (h : Nat → Nat) (kinds : Nat → Int32) (ones : Nat → Int64) (kn : Nat) (av am : Nat → Int64) (vals msks : Nat → Int64) (pre pri act : Nat → Int32) (dat : Nat → Int64) (en : Nat) (held : Nat → Int32) (bn : Nat) (wy stt : Int32) (made hashed : Bool) (cap : Int32) (lat : Int64) (o1 : Nat) (of : Nat → Int64) (hm : made = false) : Met l yL_match wsL_match ({ frames := 8, cells := 1, slots := 6, locals := 160 }) (xP2 (dC, dI) vwCl [(cI, .int), (cL, .long)] [(h 0, .inr (3, [.ref (h 1), .ref (h 2), .ref (h 3), .ref (h 4), .ref (h 5), .int (bI made), .int (bI hashed), .int cap, .long lat])), (h 1, .inr (2, [.ref (h 6), .ref (h 7), .int (nI kn)])), (h 2, .inr (1, [.ref (h 8), .ref (h 9), .ref (h 10), .ref (h 11), .ref (h 12), .ref (h 13), .int (nI en)])), (h 3, .inr (0, [.ref (h 14), .int (nI bn), .int wy, .int stt])), (h 4, .inl (cL, 4, .inr (.inl av))), (h 5, .inl (cL, 4, .inr (.inl am))), (h 6, .inl (cI, 4, .inl kinds)), (h 7, .inl (cL, 4, .inr (.inl ones))), (h 8, .inl (cL, 288, .inr (.inl vals))), (h 9, .inl (cL, 288, .inr (.inl msks))), (h 10, .inl (cI, 72, .inl pre)), (h 11, .inl (cI, 72, .inl pri)), (h 12, .inl (cI, 72, .inl act)), (h 13, .inl (cL, 72, .inr (.inl dat))), (h 14, .inl (cI, 16, .inl held)), (o1, .inl (cL, 1, .inr (.inl of)))] [.ref (h 0), .ref o1]) (xR 1) 1 6 (fun _ => False) := by
  refine va_MetW (cc := cL_match) (maxL := 3) (ret := some .int) (by decide) rfl ?_
  intro p e s m args below meth c s₁ B hml hv
  obtain ⟨rfl, hP, hK, hX, hNc⟩ := hv
  have hx := B.exec
  have hb := B.bytes
  have hr := B.returns
  have hTab := vx_table (x := yL_match) B (atoms_spec (ws := wsL_match) B.pre _ List.mem_cons_self)
  have hts := fun w h => atoms_spec (ws := wsL_match) B.pre w (List.mem_cons_of_mem _ h)
  have hown : s.vm.findClass RL = some m.cls := findClass_of_methodNamed B.named
  have hlocks := B.notSynchronized
  have hl := lv_entry ([.ref (h 0), .ref o1]) (n := 3) (Nat.le_of_ble_eq_true rfl)
  rw [lg_entry_eq]
  generalize (lg_sl ([.ref (h 0), .ref o1]) ++ List.replicate (3 - (lg_sl ([.ref (h 0), .ref o1])).length) Slot.unset).toArray = ls at hl ⊢
  have hl : lv_has ls 3 [(0, .ref (h 0)), (1, .ref o1)] := hl
  refine lv_aload_n hx hb dL_match_0 rfl (lv_at hl 1 rfl) ?_
  refine lv_iconst (v := 0) hx hb dL_match_1 (by decide) ?_
  refine lv_aload_n hx hb dL_match_2 rfl (lv_at hl 0 rfl) ?_
  refine x_call (E0 := "java/lang/IllegalStateException") (vx_runV (As := []) (rest := [.int 0, .ref o1]) ⟨hx, hb, hml, hown, hts⟩ (x_X3_match l hl9 dC dI cI cL h kinds ones kn av am vals msks pre pri act dat en held bn wy stt made hashed cap lat hm) (cwV 0 hts (gV mw439 mw440 mw441 mw22 mw442) rfl rfl rfl (by decide +kernel) ⟨Nat.le_of_ble_eq_true rfl, Nat.le_of_ble_eq_true rfl⟩) (xP_preV (fun U hU hW => hX.go hU hW) (hP.sub (ws' := [(h 0, .inr (3, [.ref (h 1), .ref (h 2), .ref (h 3), .ref (h 4), .ref (h 5), .int (bI made), .int (bI hashed), .int cap, .long lat])), (h 1, .inr (2, [.ref (h 6), .ref (h 7), .int (nI kn)])), (h 2, .inr (1, [.ref (h 8), .ref (h 9), .ref (h 10), .ref (h 11), .ref (h 12), .ref (h 13), .int (nI en)])), (h 3, .inr (0, [.ref (h 14), .int (nI bn), .int wy, .int stt])), (h 4, .inl (cL, 4, .inr (.inl av))), (h 5, .inl (cL, 4, .inr (.inl am))), (h 6, .inl (cI, 4, .inl kinds)), (h 7, .inl (cL, 4, .inr (.inl ones))), (h 8, .inl (cL, 288, .inr (.inl vals))), (h 9, .inl (cL, 288, .inr (.inl msks))), (h 10, .inl (cI, 72, .inl pre)), (h 11, .inl (cI, 72, .inl pri)), (h 12, .inl (cI, 72, .inl act)), (h 13, .inl (cL, 72, .inr (.inl dat))), (h 14, .inl (cI, 16, .inl held))]) [0, 1, 2, 3, 4, 5, 6, 7, 8, 9, 10, 11, 12, 13, 14] rfl) hK (va_recv (ci := 3) hK hP rfl (q0 := 0) rfl)) rfl rfl hl.1 rfl (lv_room (Nat.le_of_ble_eq_true rfl)) dL_match_3 ⟨Nat.le_refl _, Nat.le_refl _⟩) (fun ce q9 H1 hz hk9 hce hcv hcl => ?_)
  refine vx_catch (own := RL) (name := "java/lang/IllegalStateException") (E := "java/lang/IllegalStateException") hown [] ⟨0, 8, 11, 15⟩ [] (by rw [hTab]; rfl) (fun z hz => nomatch hz) (by decide) (by decide) (hts _ mw190) (va_Nw.use rfl hX.2.1) hce hcv hcl ?_
  refine lv_astore_n (lv' := [(2, .ref q9), (0, .ref (h 0)), (1, .ref o1)]) hx hb dL_match_11 rfl hl (by decide) rfl (fun ls hl => ?_)
  refine lv_iconst (v := 1) hx hb dL_match_12 (by decide) ?_
  refine W.widen (k := 1) (n := 6) (Nat.le_refl _) (Nat.le_refl _) ?_
  exact W.iret hx hb hr (fun t ht _ => ⟨rfl, by rw [ht]; exact hz, fun q h _ => by rw [ht]; exact hk9 q h⟩) (fun _ h => nomatch h) dL_match_13 hlocks
