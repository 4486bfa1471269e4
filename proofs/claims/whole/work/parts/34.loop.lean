set_option maxHeartbeats 4000000 in
set_option maxRecDepth 100000 in
/-- the loop -/
theorem law_loop {p : Program} {l : Launch} {e : Env} {s : State} {m : MethodId} {below : List Frame} {meth : Method} {c : Code} {dC : Nat → ClassId} {dI : Nat → Nat → Nat} {cI cL : ClassId} {b L : Nat} {xs : Nat → Int32} (h g : Nat → Nat) (o1 : Nat) (C0 : LC p l s m meth c dC dI cI cL b L xs) : ∀ (n t : Nat), L < 6 * (t + n) → 6 * t ≤ L → ∀ (kinds : Nat → Int32) (wd : Nat → Int32) (kn : Nat) (av : Nat → Int64) (am : Nat → Int64) (vals : Nat → Int64) (msks : Nat → Int64) (pre : Nat → Int32) (pri : Nat → Int32) (act : Nat → Int32) (dat : Nat → Int64) (en : Nat) (held : Nat → Int32) (bn : Nat) (wy : Int32) (stt : Int32) (made : Bool) (hashed : Bool) (cap : Int32) (lat : Int64) (th : Int32) (n9 : Int32) (w9 : Int32) (s9 : Int32) (vals2 : Nat → Int64) (msks2 : Nat → Int64) (pri2 : Nat → Int32) (act2 : Nat → Int32) (dat2 : Nat → Int64) (inb : Nat → Int32) (of : Nat → Int64), RK kinds wd kn ∧ RE kinds wd kn en vals msks pre pri act dat vals2 msks2 pri2 act2 dat2 ∧ RT kinds wd kn en vals held bn wy stt made hashed cap n9 w9 s9 → ∀ (H : Heap) (locs : List Loc), va_P (dC, dI) vwCl [(h 0, .inr (3, [.ref (h 1), .ref (h 2), .ref (h 3), .ref (h 4), .ref (h 5), .int (bI made), .int (bI hashed), .int cap, .long lat])), (h 1, .inr (2, [.ref (h 6), .ref (h 7), .int (nI kn)])), (h 2, .inr (1, [.ref (h 8), .ref (h 9), .ref (h 10), .ref (h 11), .ref (h 12), .ref (h 13), .int (nI en)])), (h 3, .inr (0, [.ref (h 14), .int (nI bn), .int wy, .int stt])), (h 4, .inl (cL, 4, .inr (.inl av))), (h 5, .inl (cL, 4, .inr (.inl am))), (h 6, .inl (cI, 4, .inl kinds)), (h 7, .inl (cL, 4, .inr (.inl (onW wd)))), (h 8, .inl (cL, 288, .inr (.inl vals))), (h 9, .inl (cL, 288, .inr (.inl msks))), (h 10, .inl (cI, 72, .inl pre)), (h 11, .inl (cI, 72, .inl pri)), (h 12, .inl (cI, 72, .inl act)), (h 13, .inl (cL, 72, .inr (.inl dat))), (h 14, .inl (cI, 16, .inl held)), (g 0, .inr (4, [.int th, .int (nI kn), .int n9, .int w9, .int s9, .int (nI en), .int (bI made), .ref (g 1), .ref (g 2), .ref (g 3), .ref (g 4), .ref (g 5), .ref (g 6), .ref (g 7), .ref (g 8), .ref (g 9), .ref (g 10), .long lat])), (g 1, .inl (cI, 4, .inl wd)), (g 2, .inl (cI, 4, .inl kinds)), (g 3, .inl (cL, 4, .inr (.inl av))), (g 4, .inl (cL, 4, .inr (.inl am))), (g 5, .inl (cL, 288, .inr (.inl vals2))), (g 6, .inl (cL, 288, .inr (.inl msks2))), (g 7, .inl (cI, 72, .inl pri2)), (g 8, .inl (cI, 72, .inl act2)), (g 9, .inl (cL, 72, .inr (.inl dat2))), (g 10, .inl (cI, 16, .inl inb)), (o1, .inl (cL, 1, .inr (.inl of)))] H → va_D (fun q : Nat => s.heap.size ≤ q) [(h 0, .inr (3, [.ref (h 1), .ref (h 2), .ref (h 3), .ref (h 4), .ref (h 5), .int (bI made), .int (bI hashed), .int cap, .long lat])), (h 1, .inr (2, [.ref (h 6), .ref (h 7), .int (nI kn)])), (h 2, .inr (1, [.ref (h 8), .ref (h 9), .ref (h 10), .ref (h 11), .ref (h 12), .ref (h 13), .int (nI en)])), (h 3, .inr (0, [.ref (h 14), .int (nI bn), .int wy, .int stt])), (h 4, .inl (cL, 4, .inr (.inl av))), (h 5, .inl (cL, 4, .inr (.inl am))), (h 6, .inl (cI, 4, .inl kinds)), (h 7, .inl (cL, 4, .inr (.inl (onW wd)))), (h 8, .inl (cL, 288, .inr (.inl vals))), (h 9, .inl (cL, 288, .inr (.inl msks))), (h 10, .inl (cI, 72, .inl pre)), (h 11, .inl (cI, 72, .inl pri)), (h 12, .inl (cI, 72, .inl act)), (h 13, .inl (cL, 72, .inr (.inl dat))), (h 14, .inl (cI, 16, .inl held)), (g 0, .inr (4, [.int th, .int (nI kn), .int n9, .int w9, .int s9, .int (nI en), .int (bI made), .ref (g 1), .ref (g 2), .ref (g 3), .ref (g 4), .ref (g 5), .ref (g 6), .ref (g 7), .ref (g 8), .ref (g 9), .ref (g 10), .long lat])), (g 1, .inl (cI, 4, .inl wd)), (g 2, .inl (cI, 4, .inl kinds)), (g 3, .inl (cL, 4, .inr (.inl av))), (g 4, .inl (cL, 4, .inr (.inl am))), (g 5, .inl (cL, 288, .inr (.inl vals2))), (g 6, .inl (cL, 288, .inr (.inl msks2))), (g 7, .inl (cI, 72, .inl pri2)), (g 8, .inl (cI, 72, .inl act2)), (g 9, .inl (cL, 72, .inr (.inl dat2))), (g 10, .inl (cI, 16, .inl inb)), (o1, .inl (cL, 1, .inr (.inl of)))] → va_S (fun q : Nat => s.heap.size ≤ q) s.heap H locs → ∀ ls : Array Slot, lv_has ls 7 [(4, .int (nI (6 * t))), (0, .ref b), (1, .ref (h 0)), (2, .ref (g 0)), (3, .ref o1)] → W p l e room_1 s m #[Value.ref b] below meth c H locs (27 + t) (1762 + 6 * t) (lw_Z below #[Value.ref b] s) (F0 m 23 ls []) := by
  obtain ⟨hx, hb, hr, hml, hown, hts, hXs, hbl, hlocks, hK, hlX, hNc, hl9, hL⟩ := id C0
  have hbA : ¬ (fun q : Nat => s.heap.size ≤ q) b := Nat.not_le.mpr hbl
  intro n
  induction n with
  | zero =>
    intro t hn htL kinds wd kn av am vals msks pre pri act dat en held bn wy stt made hashed cap lat th n9 w9 s9 vals2 msks2 pri2 act2 dat2 inb of hR H locs hP hD hS ls hl
    refine lv_iload hx hb dL_law_23 (lv_at hl 0 rfl) ?_
    refine lv_aload_n hx hb dL_law_25 rfl (lv_at hl 1 rfl) ?_
    refine va_slen hx hb hXs hbl hbA hS dL_law_26 ?_
    refine lv_bipush (v := 6) hx hb dL_law_27 (by decide) ?_
    refine lv_isub hx hb dL_law_29 ?_
    refine lv_icmp_gt (tgt := 742) hx hb dL_law_30 (by decide) (fun c30 => ?_) (fun c30 => ?_)
    · refine lv_iconst (v := 1) hx hb dL_law_742 (by decide) ?_
      refine va_forget (fun q hq => hS.2.2 q hq) ?_
      refine W.widen (k := 1058) (n := 9996) (by omega) (by omega) ?_
      exact lw_ret hx hb hr hlocks dL_law_743
    · exact absurd ((l_gt (by omega) (by omega)).mpr (by omega)) c30
  | succ n ih =>
    intro t hn htL kinds wd kn av am vals msks pre pri act dat en held bn wy stt made hashed cap lat th n9 w9 s9 vals2 msks2 pri2 act2 dat2 inb of hR H locs hP hD hS ls hl
    refine lv_iload hx hb dL_law_23 (lv_at hl 0 rfl) ?_
    refine lv_aload_n hx hb dL_law_25 rfl (lv_at hl 1 rfl) ?_
    refine va_slen hx hb hXs hbl hbA hS dL_law_26 ?_
    refine lv_bipush (v := 6) hx hb dL_law_27 (by decide) ?_
    refine lv_isub hx hb dL_law_29 ?_
    refine lv_icmp_gt (tgt := 742) hx hb dL_law_30 (by decide) (fun c30 => ?_) (fun c30 => ?_)
    · refine lv_iconst (v := 1) hx hb dL_law_742 (by decide) ?_
      refine va_forget (fun q hq => hS.2.2 q hq) ?_
      refine W.widen (k := 1058) (n := 9996) (by omega) (by omega) ?_
      exact lw_ret hx hb hr hlocks dL_law_743
    · have ht6 : 6 * t + 6 ≤ L := by
        have h9 : ¬ L < 6 * t + 6 := fun z => c30 ((l_gt (by omega) (by omega)).mpr z)
        omega
      have kk : LJ p l e s m below meth c dC dI cI cL b h g o1 t := by
        intro kinds wd kn av am vals msks pre pri act dat en held bn wy stt made hashed cap lat th n9 w9 s9 vals2 msks2 pri2 act2 dat2 inb of hR H locs hP hD hS ls hl
        refine lv_iinc (v := nI (6 * (t + 1))) (lv' := [(4, .int (nI (6 * (t + 1)))), (0, .ref b), (1, .ref (h 0)), (2, .ref (g 0)), (3, .ref o1)]) hx hb dL_law_736 hl (k := 0) rfl (nI_add (6 * t) 6) (by decide) rfl (fun ls hl => ?_)
        refine lv_goto (tgt := 23) hx hb dL_law_739 (by decide) ?_
        rw [show 28 + t = 27 + (t + 1) by omega, show 1768 + 6 * t = 1762 + 6 * (t + 1) by omega]
        exact ih (t + 1) (by omega) (by omega) kinds wd kn av am vals msks pre pri act dat en held bn wy stt made hashed cap lat th n9 w9 s9 vals2 msks2 pri2 act2 dat2 inb of hR H locs hP hD hS ls hl
      refine lv_aload_n hx hb dL_law_33 rfl (lv_at hl 1 rfl) ?_
      refine lv_iload hx hb dL_law_34 (lv_at hl 0 rfl) ?_
      refine n_sld hx hb hXs hbl hbA hS (6 * t) rfl (by omega) (by omega) dL_law_36 ?_
      refine lv_bipush (v := 15) hx hb dL_law_37 (by decide) ?_
      refine lv_iand hx hb dL_law_39 ?_
      obtain ⟨q, hq, eq⟩ := pk_andE (xs (6 * t)) (m := 15) 4 (by decide)
      rw [eq]
      rcases (show q = 0 ∨ q = 1 ∨ q = 2 ∨ q = 3 ∨ q = 4 ∨ q = 5 ∨ q = 6 ∨ q = 7 ∨ q = 8 ∨ q = 9 ∨ q = 10 ∨ 11 ≤ q by omega) with rfl | rfl | rfl | rfl | rfl | rfl | rfl | rfl | rfl | rfl | rfl | hq9
      · refine lv_tableIn (off := 60) (tgt := 100) hx hb dL_law_40 (by decide) (by decide) (by decide) (by decide) ?_
        exact law_0 h g o1 t kinds wd kn av am vals msks pre pri act dat en held bn wy stt made hashed cap lat th n9 w9 s9 vals2 msks2 pri2 act2 dat2 inb of C0 ht6 kk hR H locs hP hD hS ls hl
      · refine lv_tableIn (off := 71) (tgt := 111) hx hb dL_law_40 (by decide) (by decide) (by decide) (by decide) ?_
        exact law_1 h g o1 t kinds wd kn av am vals msks pre pri act dat en held bn wy stt made hashed cap lat th n9 w9 s9 vals2 msks2 pri2 act2 dat2 inb of C0 ht6 kk hR H locs hP hD hS ls hl
      · refine lv_tableIn (off := 139) (tgt := 179) hx hb dL_law_40 (by decide) (by decide) (by decide) (by decide) ?_
        exact law_2 h g o1 t kinds wd kn av am vals msks pre pri act dat en held bn wy stt made hashed cap lat th n9 w9 s9 vals2 msks2 pri2 act2 dat2 inb of C0 ht6 kk hR H locs hP hD hS ls hl
      · refine lv_tableIn (off := 199) (tgt := 239) hx hb dL_law_40 (by decide) (by decide) (by decide) (by decide) ?_
        exact law_3 h g o1 t kinds wd kn av am vals msks pre pri act dat en held bn wy stt made hashed cap lat th n9 w9 s9 vals2 msks2 pri2 act2 dat2 inb of C0 ht6 kk hR H locs hP hD hS ls hl
      · refine lv_tableIn (off := 323) (tgt := 363) hx hb dL_law_40 (by decide) (by decide) (by decide) (by decide) ?_
        exact law_4 h g o1 t kinds wd kn av am vals msks pre pri act dat en held bn wy stt made hashed cap lat th n9 w9 s9 vals2 msks2 pri2 act2 dat2 inb of C0 ht6 kk hR H locs hP hD hS ls hl
      · refine lv_tableIn (off := 442) (tgt := 482) hx hb dL_law_40 (by decide) (by decide) (by decide) (by decide) ?_
        exact law_5 h g o1 t kinds wd kn av am vals msks pre pri act dat en held bn wy stt made hashed cap lat th n9 w9 s9 vals2 msks2 pri2 act2 dat2 inb of C0 ht6 kk hR H locs hP hD hS ls hl
      · refine lv_tableIn (off := 549) (tgt := 589) hx hb dL_law_40 (by decide) (by decide) (by decide) (by decide) ?_
        exact law_6 h g o1 t kinds wd kn av am vals msks pre pri act dat en held bn wy stt made hashed cap lat th n9 w9 s9 vals2 msks2 pri2 act2 dat2 inb of C0 ht6 kk hR H locs hP hD hS ls hl
      · refine lv_tableIn (off := 600) (tgt := 640) hx hb dL_law_40 (by decide) (by decide) (by decide) (by decide) ?_
        exact law_7 h g o1 t kinds wd kn av am vals msks pre pri act dat en held bn wy stt made hashed cap lat th n9 w9 s9 vals2 msks2 pri2 act2 dat2 inb of C0 ht6 kk hR H locs hP hD hS ls hl
      · refine lv_tableIn (off := 644) (tgt := 684) hx hb dL_law_40 (by decide) (by decide) (by decide) (by decide) ?_
        exact law_8 h g o1 t kinds wd kn av am vals msks pre pri act dat en held bn wy stt made hashed cap lat th n9 w9 s9 vals2 msks2 pri2 act2 dat2 inb of C0 ht6 kk hR H locs hP hD hS ls hl
      · refine lv_tableIn (off := 658) (tgt := 698) hx hb dL_law_40 (by decide) (by decide) (by decide) (by decide) ?_
        exact law_9 h g o1 t kinds wd kn av am vals msks pre pri act dat en held bn wy stt made hashed cap lat th n9 w9 s9 vals2 msks2 pri2 act2 dat2 inb of C0 ht6 kk hR H locs hP hD hS ls hl
      · refine lv_tableIn (off := 671) (tgt := 711) hx hb dL_law_40 (by decide) (by decide) (by decide) (by decide) ?_
        exact law_10 h g o1 t kinds wd kn av am vals msks pre pri act dat en held bn wy stt made hashed cap lat th n9 w9 s9 vals2 msks2 pri2 act2 dat2 inb of C0 ht6 kk hR H locs hP hD hS ls hl
      · refine lv_tableOut (tgt := 736) hx hb dL_law_40 (Or.inr (by rw [nI_toInt (by omega)]; omega)) (by decide) ?_
        refine W.widen (k := 28 + t) (n := 1768 + 6 * t) (by omega) (by omega) ?_
        exact kk kinds wd kn av am vals msks pre pri act dat en held bn wy stt made hashed cap lat th n9 w9 s9 vals2 msks2 pri2 act2 dat2 inb of hR H locs hP hD hS ls hl
