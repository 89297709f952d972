abbrev rmX11_swap : Room := { frames := 2, cells := 0, slots := 0, locals := 47 }
set_option maxHeartbeats 4000000 in
set_option maxRecDepth 100000 in
theorem k_X11_swap (l : Launch) (D : va_G) (cI cZ cL : ClassId) (im : obIM) (sz : Nat) (h : Nat) (q_now : Nat) (q_image : Nat) (q_trial : Nat) (q_trace : Nat) (q_tried : Nat) (q_best : Nat) (f_imaged : Int32) (q_now_line : Nat) (q_now_tape : Nat) (q_now_taken : Nat) (q_now_bookTurns : Nat) (q_now_bookTimes : Nat) (f_now_fields : Int32) (q_now_line_people : Nat) (q_now_line_places : Nat) (q_now_line_breath : Nat) (q_now_line_rows : Nat) (q_now_line_seen : Nat) (q_now_line_ends : Nat) (f_now_line_field : Option Nat) (f_now_line_size : Int32) (f_now_line_turn : Int32) (f_now_line_yards : Int32) (f_now_line_time : Int32) (f_now_line_gap : Int32) (f_now_line_far : Int32) (f_now_line_flat : Int32) (r_now_line_people : Nat → Option Nat) (r_now_line_places : Nat → Int32) (a1 : Int32) (a2 : Int32) (Q : Int32 → (Nat → Int32) → Prop) (hm : m_X11_swap f_now_line_size r_now_line_people r_now_line_places a1 a2 Q) : Met l yX11_swap (Cond.code yX11_swap cX11_swap 4 (some .int) :: wsL_law) rmX11_swap (obPre D (tyG cI cZ cL) im [(h, .inr (11, [.ref q_now, .ref q_image, .ref q_trial, .ref q_trace, .ref q_tried, .ref q_best, .int f_imaged])), (q_now, .inr (9, [.ref q_now_line, .ref q_now_tape, .ref q_now_taken, .ref q_now_bookTurns, .ref q_now_bookTimes, .int f_now_fields])), (q_now_line, .inr (5, [.ref q_now_line_people, .ref q_now_line_places, .ref q_now_line_breath, .ref q_now_line_rows, .ref q_now_line_seen, .ref q_now_line_ends, va_rf f_now_line_field, .int f_now_line_size, .int f_now_line_turn, .int f_now_line_yards, .int f_now_line_time, .int f_now_line_gap, .int f_now_line_far, .int f_now_line_flat])), (q_now_line_people, .inl (cL, 7, .inr (.inr (.inr (.inr r_now_line_people))))), (q_now_line_places, .inl (cI, 7, .inl r_now_line_places))] sz [.ref h, .int a1, .int a2]) (va_Qi (fun (r : Int32) (u : (Nat → Int32)) => Q r u) (obB D (va_A [(h, .inr (11, [.ref q_now, .ref q_image, .ref q_trial, .ref q_trace, .ref q_tried, .ref q_best, .int f_imaged])), (q_now, .inr (9, [.ref q_now_line, .ref q_now_tape, .ref q_now_taken, .ref q_now_bookTurns, .ref q_now_bookTimes, .int f_now_fields])), (q_now_line, .inr (5, [.ref q_now_line_people, .ref q_now_line_places, .ref q_now_line_breath, .ref q_now_line_rows, .ref q_now_line_seen, .ref q_now_line_ends, va_rf f_now_line_field, .int f_now_line_size, .int f_now_line_turn, .int f_now_line_yards, .int f_now_line_time, .int f_now_line_gap, .int f_now_line_far, .int f_now_line_flat])), (q_now_line_people, .inl (cL, 7, .inr (.inr (.inr (.inr r_now_line_people))))), (q_now_line_places, .inl (cI, 7, .inl r_now_line_places))] sz) (fun u : (Nat → Int32) => [(h, .inr (11, [.ref q_now, .ref q_image, .ref q_trial, .ref q_trace, .ref q_tried, .ref q_best, .int f_imaged])), (q_now, .inr (9, [.ref q_now_line, .ref q_now_tape, .ref q_now_taken, .ref q_now_bookTurns, .ref q_now_bookTimes, .int f_now_fields])), (q_now_line, .inr (5, [.ref q_now_line_people, .ref q_now_line_places, .ref q_now_line_breath, .ref q_now_line_rows, .ref q_now_line_seen, .ref q_now_line_ends, va_rf f_now_line_field, .int f_now_line_size, .int f_now_line_turn, .int f_now_line_yards, .int f_now_line_time, .int f_now_line_gap, .int f_now_line_far, .int f_now_line_flat])), (q_now_line_people, .inl (cL, 7, .inr (.inr (.inr (.inr r_now_line_people))))), (q_now_line_places, .inl (cI, 7, .inl u))])) (va_A [(h, .inr (11, [.ref q_now, .ref q_image, .ref q_trial, .ref q_trace, .ref q_tried, .ref q_best, .int f_imaged])), (q_now, .inr (9, [.ref q_now_line, .ref q_now_tape, .ref q_now_taken, .ref q_now_bookTurns, .ref q_now_bookTimes, .int f_now_fields])), (q_now_line, .inr (5, [.ref q_now_line_people, .ref q_now_line_places, .ref q_now_line_breath, .ref q_now_line_rows, .ref q_now_line_seen, .ref q_now_line_ends, va_rf f_now_line_field, .int f_now_line_size, .int f_now_line_turn, .int f_now_line_yards, .int f_now_line_time, .int f_now_line_gap, .int f_now_line_far, .int f_now_line_flat])), (q_now_line_people, .inl (cL, 7, .inr (.inr (.inr (.inr r_now_line_people))))), (q_now_line_places, .inl (cI, 7, .inl r_now_line_places))] sz)) 0 0 (va_A [(h, .inr (11, [.ref q_now, .ref q_image, .ref q_trial, .ref q_trace, .ref q_tried, .ref q_best, .int f_imaged])), (q_now, .inr (9, [.ref q_now_line, .ref q_now_tape, .ref q_now_taken, .ref q_now_bookTurns, .ref q_now_bookTimes, .int f_now_fields])), (q_now_line, .inr (5, [.ref q_now_line_people, .ref q_now_line_places, .ref q_now_line_breath, .ref q_now_line_rows, .ref q_now_line_seen, .ref q_now_line_ends, va_rf f_now_line_field, .int f_now_line_size, .int f_now_line_turn, .int f_now_line_yards, .int f_now_line_time, .int f_now_line_gap, .int f_now_line_far, .int f_now_line_flat])), (q_now_line_people, .inl (cL, 7, .inr (.inr (.inr (.inr r_now_line_people))))), (q_now_line_places, .inl (cI, 7, .inl r_now_line_places))] sz) := by
  refine ob_met_i (cc := cX11_swap) (maxL := 4) (by decide) (Nat.le_of_ble_eq_true rfl) (fun p e s m args below meth c A Z hx hb hml hown hts hnm hN hK hA hI hP hD hS hZ ls hl => ?_)
  have hl : lv_has ls 4 [(0, .ref h), (1, .int a1), (2, .int a2)] := hl
  unfold m_X11_swap at hm
  obtain ⟨H, hH⟩ : ∃ H, H = s.heap := ⟨_, rfl⟩
  obtain ⟨locs, hlo⟩ : ∃ q : List Loc, q = [] := ⟨_, rfl⟩
  suffices hgo : W p l e rmX11_swap s m args below meth c H locs 0 0 Z (F0 m 0 ls []) by rw [hH, hlo] at hgo; exact hgo
  have hP : va_P D vwCl [(h, .inr (11, [.ref q_now, .ref q_image, .ref q_trial, .ref q_trace, .ref q_tried, .ref q_best, .int f_imaged])), (q_now, .inr (9, [.ref q_now_line, .ref q_now_tape, .ref q_now_taken, .ref q_now_bookTurns, .ref q_now_bookTimes, .int f_now_fields])), (q_now_line, .inr (5, [.ref q_now_line_people, .ref q_now_line_places, .ref q_now_line_breath, .ref q_now_line_rows, .ref q_now_line_seen, .ref q_now_line_ends, va_rf f_now_line_field, .int f_now_line_size, .int f_now_line_turn, .int f_now_line_yards, .int f_now_line_time, .int f_now_line_gap, .int f_now_line_far, .int f_now_line_flat])), (q_now_line_people, .inl (cL, 7, .inr (.inr (.inr (.inr r_now_line_people))))), (q_now_line_places, .inl (cI, 7, .inl r_now_line_places))] H := by rw [hH]; exact hP
  have hD : va_D A [(h, .inr (11, [.ref q_now, .ref q_image, .ref q_trial, .ref q_trace, .ref q_tried, .ref q_best, .int f_imaged])), (q_now, .inr (9, [.ref q_now_line, .ref q_now_tape, .ref q_now_taken, .ref q_now_bookTurns, .ref q_now_bookTimes, .int f_now_fields])), (q_now_line, .inr (5, [.ref q_now_line_people, .ref q_now_line_places, .ref q_now_line_breath, .ref q_now_line_rows, .ref q_now_line_seen, .ref q_now_line_ends, va_rf f_now_line_field, .int f_now_line_size, .int f_now_line_turn, .int f_now_line_yards, .int f_now_line_time, .int f_now_line_gap, .int f_now_line_far, .int f_now_line_flat])), (q_now_line_people, .inl (cL, 7, .inr (.inr (.inr (.inr r_now_line_people))))), (q_now_line_places, .inl (cI, 7, .inl r_now_line_places))] := hD
  have hS : va_S A s.heap H locs := by rw [hH, hlo]; exact hS
  refine lv_aload_n hx hb (dX11_swap 0 rfl) rfl (lv_at hl 0 rfl) ?_
  refine va_get (D := D) (ci := 11) (v := .ref q_now) (C := RX11) (T := TX11) (N := 7) hx hb hts inlX11 hown hK hP 0 rfl rfl 0 (by decide) (hts (.fieldLink RX11 12 "OverBacks" "now" "LOverBacks$State;") (inR1 _ (List.mem_of_getElem? (i := 15) rfl))) (fun _ h9 => h9) rfl (dX11_swap 1 rfl) ?_
  refine va_getN (D := D) (ci := 9) (v := .ref q_now_line) (C := RX9) (T := TX9) (N := 6) hx hb hts inlX9 hown hK hP 1 rfl rfl 0 (by decide) (va_Nw.use rfl (hN.1 _ (List.mem_of_getElem? (i := 12) rfl))) (fun _ h9 => h9) rfl (dX11_swap 2 rfl) ?_
  refine lv_astore_n (lv' := [(3, .ref q_now_line), (0, .ref h), (1, .int a1), (2, .int a2)]) hx hb (dX11_swap 3 rfl) rfl hl (by decide) rfl (fun ls hl => ?_)
  refine lv_aload_n hx hb (dX11_swap 4 rfl) rfl (lv_at hl 0 rfl) ?_
  refine lv_iload_n hx hb (dX11_swap 5 rfl) rfl (lv_at hl 2 rfl) ?_
  have hcut := ob_cut (wc := [(q_now_line, .inr (5, [.ref q_now_line_people, .ref q_now_line_places, .ref q_now_line_breath, .ref q_now_line_rows, .ref q_now_line_seen, .ref q_now_line_ends, va_rf f_now_line_field, .int f_now_line_size, .int f_now_line_turn, .int f_now_line_yards, .int f_now_line_time, .int f_now_line_gap, .int f_now_line_far, .int f_now_line_flat])), (q_now_line_people, .inl (cL, 7, .inr (.inr (.inr (.inr r_now_line_people)))))]) hP hD hS hA [2, 3] rfl (by decide)
  refine ob_q (wr := [(h, .inr (11, [.ref q_now, .ref q_image, .ref q_trial, .ref q_trace, .ref q_tried, .ref q_best, .int f_imaged])), (q_now, .inr (9, [.ref q_now_line, .ref q_now_tape, .ref q_now_taken, .ref q_now_bookTurns, .ref q_now_bookTimes, .int f_now_fields])), (q_now_line_places, .inl (cI, 7, .inl r_now_line_places))]) (ob_V (As := [.int a1]) (rest := []) ⟨hx, hb, hml, hown, hts⟩ hK hcut (hI.cut hS hcut.2.2) hN (va_recv hK hP (ci := 5) (q0 := 2) rfl rfl) (k_X5_find l D cI cZ cL im _ _ _ _ _ _ _ _ _ _ _ _ _ _ _ _ _ _ _ hm) (cwV 1 hts (gU_V (inR16 _ (List.mem_of_getElem? (i := 10) rfl)) (inR16 _ (List.mem_of_getElem? (i := 11) rfl)) (inR16 _ (List.mem_of_getElem? (i := 12) rfl)) (inR1 _ (List.mem_of_getElem? (i := 19) rfl)) (inR16 _ (List.mem_of_getElem? (i := 13) rfl))) rfl rfl rfl (by decide +kernel) ⟨Nat.le_of_ble_eq_true rfl, Nat.le_of_ble_eq_true rfl⟩) rfl hl.1 rfl (Nat.le_of_ble_eq_true rfl) (dX11_swap 6 rfl) ⟨Nat.zero_le _, Nat.zero_le _⟩) hP hD hS hcut [2, 3] [0, 1, 4] rfl rfl (by decide) (by decide) (fun r1 u2 H locs hm hP hD hS => ?_)
  have hP := hP.sub (ws' := [(h, .inr (11, [.ref q_now, .ref q_image, .ref q_trial, .ref q_trace, .ref q_tried, .ref q_best, .int f_imaged])), (q_now, .inr (9, [.ref q_now_line, .ref q_now_tape, .ref q_now_taken, .ref q_now_bookTurns, .ref q_now_bookTimes, .int f_now_fields])), (q_now_line, .inr (5, [.ref q_now_line_people, .ref q_now_line_places, .ref q_now_line_breath, .ref q_now_line_rows, .ref q_now_line_seen, .ref q_now_line_ends, va_rf f_now_line_field, .int f_now_line_size, .int f_now_line_turn, .int f_now_line_yards, .int f_now_line_time, .int f_now_line_gap, .int f_now_line_far, .int f_now_line_flat])), (q_now_line_people, .inl (cL, 7, .inr (.inr (.inr (.inr r_now_line_people))))), (q_now_line_places, .inl (cI, 7, .inl r_now_line_places))]) [0, 1, 3, 4, 2] rfl
  have hD := hD.sub (ws' := [(h, .inr (11, [.ref q_now, .ref q_image, .ref q_trial, .ref q_trace, .ref q_tried, .ref q_best, .int f_imaged])), (q_now, .inr (9, [.ref q_now_line, .ref q_now_tape, .ref q_now_taken, .ref q_now_bookTurns, .ref q_now_bookTimes, .int f_now_fields])), (q_now_line, .inr (5, [.ref q_now_line_people, .ref q_now_line_places, .ref q_now_line_breath, .ref q_now_line_rows, .ref q_now_line_seen, .ref q_now_line_ends, va_rf f_now_line_field, .int f_now_line_size, .int f_now_line_turn, .int f_now_line_yards, .int f_now_line_time, .int f_now_line_gap, .int f_now_line_far, .int f_now_line_flat])), (q_now_line_people, .inl (cL, 7, .inr (.inr (.inr (.inr r_now_line_people))))), (q_now_line_places, .inl (cI, 7, .inl r_now_line_places))]) [0, 1, 3, 4, 2] (by decide) rfl
  refine ob_ifnull (tgt := 24) hx hb (dX11_swap 7 rfl) (by decide) (fun h4 => ?_) (fun b3 h4 => ?_)
  · have hz9 := hm.1 h4; subst h4; have hm := hz9; clear hz9
    refine lv_iconst (v := (-1 : Int32)) hx hb (dX11_swap 12 rfl) (by decide) ?_
    exact hZ (-1 : Int32) r_now_line_places H locs ls 25 hm hP hD hS (dX11_swap 13 rfl) rfl
  have hz9 := hm.2 b3 h4; subst h4; have hm := hz9; clear hz9
  refine lv_aload_n hx hb (dX11_swap 8 rfl) rfl (lv_at hl 0 rfl) ?_
  refine lv_iload_n hx hb (dX11_swap 9 rfl) rfl (lv_at hl 3 rfl) ?_
  have hcut := ob_cut (wc := [(q_now_line, .inr (5, [.ref q_now_line_people, .ref q_now_line_places, .ref q_now_line_breath, .ref q_now_line_rows, .ref q_now_line_seen, .ref q_now_line_ends, va_rf f_now_line_field, .int f_now_line_size, .int f_now_line_turn, .int f_now_line_yards, .int f_now_line_time, .int f_now_line_gap, .int f_now_line_far, .int f_now_line_flat])), (q_now_line_people, .inl (cL, 7, .inr (.inr (.inr (.inr r_now_line_people)))))]) hP hD hS hA [2, 3] rfl (by decide)
  refine ob_q (wr := [(h, .inr (11, [.ref q_now, .ref q_image, .ref q_trial, .ref q_trace, .ref q_tried, .ref q_best, .int f_imaged])), (q_now, .inr (9, [.ref q_now_line, .ref q_now_tape, .ref q_now_taken, .ref q_now_bookTurns, .ref q_now_bookTimes, .int f_now_fields])), (q_now_line_places, .inl (cI, 7, .inl r_now_line_places))]) (ob_V (As := [.int a2]) (rest := []) ⟨hx, hb, hml, hown, hts⟩ hK hcut (hI.cut hS hcut.2.2) hN (va_recv hK hP (ci := 5) (q0 := 2) rfl rfl) (k_X5_find l D cI cZ cL im _ _ _ _ _ _ _ _ _ _ _ _ _ _ _ _ _ _ _ hm) (cwV 1 hts (gU_V (inR16 _ (List.mem_of_getElem? (i := 10) rfl)) (inR16 _ (List.mem_of_getElem? (i := 11) rfl)) (inR16 _ (List.mem_of_getElem? (i := 12) rfl)) (inR1 _ (List.mem_of_getElem? (i := 19) rfl)) (inR16 _ (List.mem_of_getElem? (i := 13) rfl))) rfl rfl rfl (by decide +kernel) ⟨Nat.le_of_ble_eq_true rfl, Nat.le_of_ble_eq_true rfl⟩) rfl hl.1 rfl (Nat.le_of_ble_eq_true rfl) (dX11_swap 10 rfl) ⟨Nat.zero_le _, Nat.zero_le _⟩) hP hD hS hcut [2, 3] [0, 1, 4] rfl rfl (by decide) (by decide) (fun r5 u6 H locs hm hP hD hS => ?_)
  have hP := hP.sub (ws' := [(h, .inr (11, [.ref q_now, .ref q_image, .ref q_trial, .ref q_trace, .ref q_tried, .ref q_best, .int f_imaged])), (q_now, .inr (9, [.ref q_now_line, .ref q_now_tape, .ref q_now_taken, .ref q_now_bookTurns, .ref q_now_bookTimes, .int f_now_fields])), (q_now_line, .inr (5, [.ref q_now_line_people, .ref q_now_line_places, .ref q_now_line_breath, .ref q_now_line_rows, .ref q_now_line_seen, .ref q_now_line_ends, va_rf f_now_line_field, .int f_now_line_size, .int f_now_line_turn, .int f_now_line_yards, .int f_now_line_time, .int f_now_line_gap, .int f_now_line_far, .int f_now_line_flat])), (q_now_line_people, .inl (cL, 7, .inr (.inr (.inr (.inr r_now_line_people))))), (q_now_line_places, .inl (cI, 7, .inl r_now_line_places))]) [0, 1, 3, 4, 2] rfl
  have hD := hD.sub (ws' := [(h, .inr (11, [.ref q_now, .ref q_image, .ref q_trial, .ref q_trace, .ref q_tried, .ref q_best, .int f_imaged])), (q_now, .inr (9, [.ref q_now_line, .ref q_now_tape, .ref q_now_taken, .ref q_now_bookTurns, .ref q_now_bookTimes, .int f_now_fields])), (q_now_line, .inr (5, [.ref q_now_line_people, .ref q_now_line_places, .ref q_now_line_breath, .ref q_now_line_rows, .ref q_now_line_seen, .ref q_now_line_ends, va_rf f_now_line_field, .int f_now_line_size, .int f_now_line_turn, .int f_now_line_yards, .int f_now_line_time, .int f_now_line_gap, .int f_now_line_far, .int f_now_line_flat])), (q_now_line_people, .inl (cL, 7, .inr (.inr (.inr (.inr r_now_line_people))))), (q_now_line_places, .inl (cI, 7, .inl r_now_line_places))]) [0, 1, 3, 4, 2] (by decide) rfl
  refine ob_ifnonnull (tgt := 26) hx hb (dX11_swap 11 rfl) (by decide) (fun h8 => ?_) (fun b7 h8 => ?_)
  · have hz9 := hm.1 h8; subst h8; have hm := hz9; clear hz9
    refine lv_iconst (v := (-1 : Int32)) hx hb (dX11_swap 12 rfl) (by decide) ?_
    exact hZ (-1 : Int32) r_now_line_places H locs ls 25 hm hP hD hS (dX11_swap 13 rfl) rfl
  have hz9 := hm.2 b7 h8; subst h8; have hm := hz9; clear hz9
  refine lv_iload_n hx hb (dX11_swap 14 rfl) rfl (lv_at hl 2 rfl) ?_
  refine lv_iload_n hx hb (dX11_swap 15 rfl) rfl (lv_at hl 3 rfl) ?_
  refine lv_icmp_ne (tgt := 34) hx hb (dX11_swap 16 rfl) (by decide) (fun c9 => ?_) (fun c9 => ?_)
  · replace hm := hm.2 c9
    refine lv_aload_n hx hb (dX11_swap 19 rfl) rfl (lv_at hl 0 rfl) ?_
    refine lv_iload_n hx hb (dX11_swap 20 rfl) rfl (lv_at hl 2 rfl) ?_
    refine lv_iload_n hx hb (dX11_swap 21 rfl) rfl (lv_at hl 3 rfl) ?_
    have hcut := ob_cut (wc := [(q_now_line, .inr (5, [.ref q_now_line_people, .ref q_now_line_places, .ref q_now_line_breath, .ref q_now_line_rows, .ref q_now_line_seen, .ref q_now_line_ends, va_rf f_now_line_field, .int f_now_line_size, .int f_now_line_turn, .int f_now_line_yards, .int f_now_line_time, .int f_now_line_gap, .int f_now_line_far, .int f_now_line_flat])), (q_now_line_places, .inl (cI, 7, .inl r_now_line_places))]) hP hD hS hA [2, 4] rfl (by decide)
    refine ob_v (wr := [(h, .inr (11, [.ref q_now, .ref q_image, .ref q_trial, .ref q_trace, .ref q_tried, .ref q_best, .int f_imaged])), (q_now, .inr (9, [.ref q_now_line, .ref q_now_tape, .ref q_now_taken, .ref q_now_bookTurns, .ref q_now_bookTimes, .int f_now_fields])), (q_now_line_people, .inl (cL, 7, .inr (.inr (.inr (.inr r_now_line_people)))))]) (ob_V (As := [.int a1, .int a2]) (rest := []) ⟨hx, hb, hml, hown, hts⟩ hK hcut (hI.cut hS hcut.2.2) hN (va_recv hK hP (ci := 5) (q0 := 2) rfl rfl) (k_X5_exchange l D cI cZ cL im _ _ _ _ _ _ _ _ _ _ _ _ _ _ _ _ _ _ _ _ hm) (cwV 2 hts (gU_V (inR20 _ (List.mem_of_getElem? (i := 4) rfl)) (inR20 _ (List.mem_of_getElem? (i := 5) rfl)) (inR20 _ (List.mem_of_getElem? (i := 6) rfl)) (inR1 _ (List.mem_of_getElem? (i := 19) rfl)) (inR20 _ (List.mem_of_getElem? (i := 7) rfl))) rfl rfl rfl (by decide +kernel) ⟨Nat.le_of_ble_eq_true rfl, Nat.le_of_ble_eq_true rfl⟩) rfl hl.1 rfl (Nat.le_of_ble_eq_true rfl) (dX11_swap 22 rfl) ⟨Nat.zero_le _, Nat.zero_le _⟩) hP hD hS hcut [2, 4] [0, 1, 3] rfl rfl (by decide) (by decide) (fun u11 H locs hm hP hD hS => ?_)
    have hP := hP.sub (ws' := [(h, .inr (11, [.ref q_now, .ref q_image, .ref q_trial, .ref q_trace, .ref q_tried, .ref q_best, .int f_imaged])), (q_now, .inr (9, [.ref q_now_line, .ref q_now_tape, .ref q_now_taken, .ref q_now_bookTurns, .ref q_now_bookTimes, .int f_now_fields])), (q_now_line, .inr (5, [.ref q_now_line_people, .ref q_now_line_places, .ref q_now_line_breath, .ref q_now_line_rows, .ref q_now_line_seen, .ref q_now_line_ends, va_rf f_now_line_field, .int f_now_line_size, .int f_now_line_turn, .int f_now_line_yards, .int f_now_line_time, .int f_now_line_gap, .int f_now_line_far, .int f_now_line_flat])), (q_now_line_people, .inl (cL, 7, .inr (.inr (.inr (.inr r_now_line_people))))), (q_now_line_places, .inl (cI, 7, .inl u11))]) [0, 1, 3, 2, 4] rfl
    have hD := hD.sub (ws' := [(h, .inr (11, [.ref q_now, .ref q_image, .ref q_trial, .ref q_trace, .ref q_tried, .ref q_best, .int f_imaged])), (q_now, .inr (9, [.ref q_now_line, .ref q_now_tape, .ref q_now_taken, .ref q_now_bookTurns, .ref q_now_bookTimes, .int f_now_fields])), (q_now_line, .inr (5, [.ref q_now_line_people, .ref q_now_line_places, .ref q_now_line_breath, .ref q_now_line_rows, .ref q_now_line_seen, .ref q_now_line_ends, va_rf f_now_line_field, .int f_now_line_size, .int f_now_line_turn, .int f_now_line_yards, .int f_now_line_time, .int f_now_line_gap, .int f_now_line_far, .int f_now_line_flat])), (q_now_line_people, .inl (cL, 7, .inr (.inr (.inr (.inr r_now_line_people))))), (q_now_line_places, .inl (cI, 7, .inl u11))]) [0, 1, 3, 2, 4] (by decide) rfl
    refine lv_aload_n hx hb (dX11_swap 23 rfl) rfl (lv_at hl 0 rfl) ?_
    refine lv_iload_n hx hb (dX11_swap 24 rfl) rfl (lv_at hl 2 rfl) ?_
    have hcut := ob_cut (wc := [(q_now_line, .inr (5, [.ref q_now_line_people, .ref q_now_line_places, .ref q_now_line_breath, .ref q_now_line_rows, .ref q_now_line_seen, .ref q_now_line_ends, va_rf f_now_line_field, .int f_now_line_size, .int f_now_line_turn, .int f_now_line_yards, .int f_now_line_time, .int f_now_line_gap, .int f_now_line_far, .int f_now_line_flat])), (q_now_line_places, .inl (cI, 7, .inl u11))]) hP hD hS hA [2, 4] rfl (by decide)
    refine ob_i (wr := [(h, .inr (11, [.ref q_now, .ref q_image, .ref q_trial, .ref q_trace, .ref q_tried, .ref q_best, .int f_imaged])), (q_now, .inr (9, [.ref q_now_line, .ref q_now_tape, .ref q_now_taken, .ref q_now_bookTurns, .ref q_now_bookTimes, .int f_now_fields])), (q_now_line_people, .inl (cL, 7, .inr (.inr (.inr (.inr r_now_line_people)))))]) (ob_V (As := [.int a1]) (rest := []) ⟨hx, hb, hml, hown, hts⟩ hK hcut (hI.cut hS hcut.2.2) hN (va_recv hK hP (ci := 5) (q0 := 2) rfl rfl) (k_X5_placeOf l D cI cZ cL im _ _ _ _ _ _ _ _ _ _ _ _ _ _ _ _ _ _ _ hm) (cwV 1 hts (gU_V (inR18 _ (List.mem_of_getElem? (i := 20) rfl)) (inR18 _ (List.mem_of_getElem? (i := 21) rfl)) (inR18 _ (List.mem_of_getElem? (i := 22) rfl)) (inR1 _ (List.mem_of_getElem? (i := 19) rfl)) (inR18 _ (List.mem_of_getElem? (i := 23) rfl))) rfl rfl rfl (by decide +kernel) ⟨Nat.le_of_ble_eq_true rfl, Nat.le_of_ble_eq_true rfl⟩) rfl hl.1 rfl (Nat.le_of_ble_eq_true rfl) (dX11_swap 25 rfl) ⟨Nat.zero_le _, Nat.zero_le _⟩) hP hD hS hcut [2, 4] [0, 1, 3] rfl rfl (by decide) (by decide) (fun r13 u14 H locs hm hP hD hS => ?_)
    have hP := hP.sub (ws' := [(h, .inr (11, [.ref q_now, .ref q_image, .ref q_trial, .ref q_trace, .ref q_tried, .ref q_best, .int f_imaged])), (q_now, .inr (9, [.ref q_now_line, .ref q_now_tape, .ref q_now_taken, .ref q_now_bookTurns, .ref q_now_bookTimes, .int f_now_fields])), (q_now_line, .inr (5, [.ref q_now_line_people, .ref q_now_line_places, .ref q_now_line_breath, .ref q_now_line_rows, .ref q_now_line_seen, .ref q_now_line_ends, va_rf f_now_line_field, .int f_now_line_size, .int f_now_line_turn, .int f_now_line_yards, .int f_now_line_time, .int f_now_line_gap, .int f_now_line_far, .int f_now_line_flat])), (q_now_line_people, .inl (cL, 7, .inr (.inr (.inr (.inr r_now_line_people))))), (q_now_line_places, .inl (cI, 7, .inl u11))]) [0, 1, 3, 2, 4] rfl
    have hD := hD.sub (ws' := [(h, .inr (11, [.ref q_now, .ref q_image, .ref q_trial, .ref q_trace, .ref q_tried, .ref q_best, .int f_imaged])), (q_now, .inr (9, [.ref q_now_line, .ref q_now_tape, .ref q_now_taken, .ref q_now_bookTurns, .ref q_now_bookTimes, .int f_now_fields])), (q_now_line, .inr (5, [.ref q_now_line_people, .ref q_now_line_places, .ref q_now_line_breath, .ref q_now_line_rows, .ref q_now_line_seen, .ref q_now_line_ends, va_rf f_now_line_field, .int f_now_line_size, .int f_now_line_turn, .int f_now_line_yards, .int f_now_line_time, .int f_now_line_gap, .int f_now_line_far, .int f_now_line_flat])), (q_now_line_people, .inl (cL, 7, .inr (.inr (.inr (.inr r_now_line_people))))), (q_now_line_places, .inl (cI, 7, .inl u11))]) [0, 1, 3, 2, 4] (by decide) rfl
    exact hZ r13 u11 H locs ls 45 hm hP hD hS (dX11_swap 26 rfl) rfl
  replace hm := hm.1 c9
  refine lv_bipush (v := (-2 : Int32)) hx hb (dX11_swap 17 rfl) (by decide) ?_
  exact hZ (-2 : Int32) r_now_line_places H locs ls 33 hm hP hD hS (dX11_swap 18 rfl) rfl
abbrev rmX11_row : Room := { frames := 1, cells := 0, slots := 0, locals := 21 }
set_option maxHeartbeats 4000000 in
set_option maxRecDepth 100000 in
theorem k_X11_row (l : Launch) (D : va_G) (cI cZ cL : ClassId) (im : obIM) (lk : Nat → Option (Nat × Int32 × Int32 × Int32)) (hlk : obLK im lk) (sz : Nat) (h : Nat) (q_now : Nat) (q_image : Nat) (q_trial : Nat) (q_trace : Nat) (q_tried : Nat) (q_best : Nat) (f_imaged : Int32) (q_now_line : Nat) (q_now_tape : Nat) (q_now_taken : Nat) (q_now_bookTurns : Nat) (q_now_bookTimes : Nat) (f_now_fields : Int32) (q_now_line_people : Nat) (q_now_line_places : Nat) (q_now_line_breath : Nat) (q_now_line_rows : Nat) (q_now_line_seen : Nat) (q_now_line_ends : Nat) (f_now_line_field : Option Nat) (f_now_line_size : Int32) (f_now_line_turn : Int32) (f_now_line_yards : Int32) (f_now_line_time : Int32) (f_now_line_gap : Int32) (f_now_line_far : Int32) (f_now_line_flat : Int32) (r_now_line_people : Nat → Option Nat) (r_now_line_rows : Nat → Int32) (a1 : Int32) (a2 : Int32) (a3 : Int32) (Q : Int32 → (Nat → Int32) → Prop) (hm : m_X11_row lk r_now_line_people r_now_line_rows a1 a2 a3 Q) : Met l yX11_row (Cond.code yX11_row cX11_row 7 (some .int) :: wsL_law) rmX11_row (obPre D (tyG cI cZ cL) im [(h, .inr (11, [.ref q_now, .ref q_image, .ref q_trial, .ref q_trace, .ref q_tried, .ref q_best, .int f_imaged])), (q_now, .inr (9, [.ref q_now_line, .ref q_now_tape, .ref q_now_taken, .ref q_now_bookTurns, .ref q_now_bookTimes, .int f_now_fields])), (q_now_line, .inr (5, [.ref q_now_line_people, .ref q_now_line_places, .ref q_now_line_breath, .ref q_now_line_rows, .ref q_now_line_seen, .ref q_now_line_ends, va_rf f_now_line_field, .int f_now_line_size, .int f_now_line_turn, .int f_now_line_yards, .int f_now_line_time, .int f_now_line_gap, .int f_now_line_far, .int f_now_line_flat])), (q_now_line_people, .inl (cL, 7, .inr (.inr (.inr (.inr r_now_line_people))))), (q_now_line_rows, .inl (cI, 21, .inl r_now_line_rows))] sz [.ref h, .int a1, .int a2, .int a3]) (va_Qi (fun (r : Int32) (u : (Nat → Int32)) => Q r u) (obB D (va_A [(h, .inr (11, [.ref q_now, .ref q_image, .ref q_trial, .ref q_trace, .ref q_tried, .ref q_best, .int f_imaged])), (q_now, .inr (9, [.ref q_now_line, .ref q_now_tape, .ref q_now_taken, .ref q_now_bookTurns, .ref q_now_bookTimes, .int f_now_fields])), (q_now_line, .inr (5, [.ref q_now_line_people, .ref q_now_line_places, .ref q_now_line_breath, .ref q_now_line_rows, .ref q_now_line_seen, .ref q_now_line_ends, va_rf f_now_line_field, .int f_now_line_size, .int f_now_line_turn, .int f_now_line_yards, .int f_now_line_time, .int f_now_line_gap, .int f_now_line_far, .int f_now_line_flat])), (q_now_line_people, .inl (cL, 7, .inr (.inr (.inr (.inr r_now_line_people))))), (q_now_line_rows, .inl (cI, 21, .inl r_now_line_rows))] sz) (fun u : (Nat → Int32) => [(h, .inr (11, [.ref q_now, .ref q_image, .ref q_trial, .ref q_trace, .ref q_tried, .ref q_best, .int f_imaged])), (q_now, .inr (9, [.ref q_now_line, .ref q_now_tape, .ref q_now_taken, .ref q_now_bookTurns, .ref q_now_bookTimes, .int f_now_fields])), (q_now_line, .inr (5, [.ref q_now_line_people, .ref q_now_line_places, .ref q_now_line_breath, .ref q_now_line_rows, .ref q_now_line_seen, .ref q_now_line_ends, va_rf f_now_line_field, .int f_now_line_size, .int f_now_line_turn, .int f_now_line_yards, .int f_now_line_time, .int f_now_line_gap, .int f_now_line_far, .int f_now_line_flat])), (q_now_line_people, .inl (cL, 7, .inr (.inr (.inr (.inr r_now_line_people))))), (q_now_line_rows, .inl (cI, 21, .inl u))])) (va_A [(h, .inr (11, [.ref q_now, .ref q_image, .ref q_trial, .ref q_trace, .ref q_tried, .ref q_best, .int f_imaged])), (q_now, .inr (9, [.ref q_now_line, .ref q_now_tape, .ref q_now_taken, .ref q_now_bookTurns, .ref q_now_bookTimes, .int f_now_fields])), (q_now_line, .inr (5, [.ref q_now_line_people, .ref q_now_line_places, .ref q_now_line_breath, .ref q_now_line_rows, .ref q_now_line_seen, .ref q_now_line_ends, va_rf f_now_line_field, .int f_now_line_size, .int f_now_line_turn, .int f_now_line_yards, .int f_now_line_time, .int f_now_line_gap, .int f_now_line_far, .int f_now_line_flat])), (q_now_line_people, .inl (cL, 7, .inr (.inr (.inr (.inr r_now_line_people))))), (q_now_line_rows, .inl (cI, 21, .inl r_now_line_rows))] sz)) 0 0 (va_A [(h, .inr (11, [.ref q_now, .ref q_image, .ref q_trial, .ref q_trace, .ref q_tried, .ref q_best, .int f_imaged])), (q_now, .inr (9, [.ref q_now_line, .ref q_now_tape, .ref q_now_taken, .ref q_now_bookTurns, .ref q_now_bookTimes, .int f_now_fields])), (q_now_line, .inr (5, [.ref q_now_line_people, .ref q_now_line_places, .ref q_now_line_breath, .ref q_now_line_rows, .ref q_now_line_seen, .ref q_now_line_ends, va_rf f_now_line_field, .int f_now_line_size, .int f_now_line_turn, .int f_now_line_yards, .int f_now_line_time, .int f_now_line_gap, .int f_now_line_far, .int f_now_line_flat])), (q_now_line_people, .inl (cL, 7, .inr (.inr (.inr (.inr r_now_line_people))))), (q_now_line_rows, .inl (cI, 21, .inl r_now_line_rows))] sz) := by
  refine ob_met_i (cc := cX11_row) (maxL := 7) (by decide) (Nat.le_of_ble_eq_true rfl) (fun p e s m args below meth c A Z hx hb hml hown hts hnm hN hK hA hI hP hD hS hZ ls hl => ?_)
  have hl : lv_has ls 7 [(0, .ref h), (1, .int a1), (2, .int a2), (3, .int a3)] := hl
  unfold m_X11_row at hm
  obtain ⟨H, hH⟩ : ∃ H, H = s.heap := ⟨_, rfl⟩
  obtain ⟨locs, hlo⟩ : ∃ q : List Loc, q = [] := ⟨_, rfl⟩
  suffices hgo : W p l e rmX11_row s m args below meth c H locs 0 0 Z (F0 m 0 ls []) by rw [hH, hlo] at hgo; exact hgo
  have hP : va_P D vwCl [(h, .inr (11, [.ref q_now, .ref q_image, .ref q_trial, .ref q_trace, .ref q_tried, .ref q_best, .int f_imaged])), (q_now, .inr (9, [.ref q_now_line, .ref q_now_tape, .ref q_now_taken, .ref q_now_bookTurns, .ref q_now_bookTimes, .int f_now_fields])), (q_now_line, .inr (5, [.ref q_now_line_people, .ref q_now_line_places, .ref q_now_line_breath, .ref q_now_line_rows, .ref q_now_line_seen, .ref q_now_line_ends, va_rf f_now_line_field, .int f_now_line_size, .int f_now_line_turn, .int f_now_line_yards, .int f_now_line_time, .int f_now_line_gap, .int f_now_line_far, .int f_now_line_flat])), (q_now_line_people, .inl (cL, 7, .inr (.inr (.inr (.inr r_now_line_people))))), (q_now_line_rows, .inl (cI, 21, .inl r_now_line_rows))] H := by rw [hH]; exact hP
  have hD : va_D A [(h, .inr (11, [.ref q_now, .ref q_image, .ref q_trial, .ref q_trace, .ref q_tried, .ref q_best, .int f_imaged])), (q_now, .inr (9, [.ref q_now_line, .ref q_now_tape, .ref q_now_taken, .ref q_now_bookTurns, .ref q_now_bookTimes, .int f_now_fields])), (q_now_line, .inr (5, [.ref q_now_line_people, .ref q_now_line_places, .ref q_now_line_breath, .ref q_now_line_rows, .ref q_now_line_seen, .ref q_now_line_ends, va_rf f_now_line_field, .int f_now_line_size, .int f_now_line_turn, .int f_now_line_yards, .int f_now_line_time, .int f_now_line_gap, .int f_now_line_far, .int f_now_line_flat])), (q_now_line_people, .inl (cL, 7, .inr (.inr (.inr (.inr r_now_line_people))))), (q_now_line_rows, .inl (cI, 21, .inl r_now_line_rows))] := hD
  have hS : va_S A s.heap H locs := by rw [hH, hlo]; exact hS
  refine lv_aload_n hx hb (dX11_row 0 rfl) rfl (lv_at hl 0 rfl) ?_
  refine va_get (D := D) (ci := 11) (v := .ref q_now) (C := RX11) (T := TX11) (N := 7) hx hb hts inlX11 hown hK hP 0 rfl rfl 0 (by decide) (hts (.fieldLink RX11 12 "OverBacks" "now" "LOverBacks$State;") (inR1 _ (List.mem_of_getElem? (i := 15) rfl))) (fun _ h9 => h9) rfl (dX11_row 1 rfl) ?_
  refine va_getN (D := D) (ci := 9) (v := .ref q_now_line) (C := RX9) (T := TX9) (N := 6) hx hb hts inlX9 hown hK hP 1 rfl rfl 0 (by decide) (va_Nw.use rfl (hN.1 _ (List.mem_of_getElem? (i := 12) rfl))) (fun _ h9 => h9) rfl (dX11_row 2 rfl) ?_
  refine lv_astore (lv' := [(4, .ref q_now_line), (0, .ref h), (1, .int a1), (2, .int a2), (3, .int a3)]) hx hb (dX11_row 3 rfl) hl (by decide) rfl (fun ls hl => ?_)
  refine lv_aload hx hb (dX11_row 4 rfl) (lv_at hl 0 rfl) ?_
  refine lv_iload_n hx hb (dX11_row 5 rfl) rfl (lv_at hl 2 rfl) ?_
  have hcut := ob_cut (wc := [(q_now_line, .inr (5, [.ref q_now_line_people, .ref q_now_line_places, .ref q_now_line_breath, .ref q_now_line_rows, .ref q_now_line_seen, .ref q_now_line_ends, va_rf f_now_line_field, .int f_now_line_size, .int f_now_line_turn, .int f_now_line_yards, .int f_now_line_time, .int f_now_line_gap, .int f_now_line_far, .int f_now_line_flat])), (q_now_line_people, .inl (cL, 7, .inr (.inr (.inr (.inr r_now_line_people)))))]) hP hD hS hA [2, 3] rfl (by decide)
  refine ob_q (wr := [(h, .inr (11, [.ref q_now, .ref q_image, .ref q_trial, .ref q_trace, .ref q_tried, .ref q_best, .int f_imaged])), (q_now, .inr (9, [.ref q_now_line, .ref q_now_tape, .ref q_now_taken, .ref q_now_bookTurns, .ref q_now_bookTimes, .int f_now_fields])), (q_now_line_rows, .inl (cI, 21, .inl r_now_line_rows))]) (ob_V (As := [.int a1]) (rest := []) ⟨hx, hb, hml, hown, hts⟩ hK hcut (hI.cut hS hcut.2.2) hN (va_recv hK hP (ci := 5) (q0 := 2) rfl rfl) (k_X5_find l D cI cZ cL im _ _ _ _ _ _ _ _ _ _ _ _ _ _ _ _ _ _ _ hm) (cwV 1 hts (gU_V (inR16 _ (List.mem_of_getElem? (i := 10) rfl)) (inR16 _ (List.mem_of_getElem? (i := 11) rfl)) (inR16 _ (List.mem_of_getElem? (i := 12) rfl)) (inR1 _ (List.mem_of_getElem? (i := 19) rfl)) (inR16 _ (List.mem_of_getElem? (i := 13) rfl))) rfl rfl rfl (by decide +kernel) ⟨Nat.le_of_ble_eq_true rfl, Nat.le_of_ble_eq_true rfl⟩) rfl hl.1 rfl (Nat.le_of_ble_eq_true rfl) (dX11_row 6 rfl) ⟨Nat.zero_le _, Nat.zero_le _⟩) hP hD hS hcut [2, 3] [0, 1, 4] rfl rfl (by decide) (by decide) (fun r1 u2 H locs hm hP hD hS => ?_)
  have hP := hP.sub (ws' := [(h, .inr (11, [.ref q_now, .ref q_image, .ref q_trial, .ref q_trace, .ref q_tried, .ref q_best, .int f_imaged])), (q_now, .inr (9, [.ref q_now_line, .ref q_now_tape, .ref q_now_taken, .ref q_now_bookTurns, .ref q_now_bookTimes, .int f_now_fields])), (q_now_line, .inr (5, [.ref q_now_line_people, .ref q_now_line_places, .ref q_now_line_breath, .ref q_now_line_rows, .ref q_now_line_seen, .ref q_now_line_ends, va_rf f_now_line_field, .int f_now_line_size, .int f_now_line_turn, .int f_now_line_yards, .int f_now_line_time, .int f_now_line_gap, .int f_now_line_far, .int f_now_line_flat])), (q_now_line_people, .inl (cL, 7, .inr (.inr (.inr (.inr r_now_line_people))))), (q_now_line_rows, .inl (cI, 21, .inl r_now_line_rows))]) [0, 1, 3, 4, 2] rfl
  have hD := hD.sub (ws' := [(h, .inr (11, [.ref q_now, .ref q_image, .ref q_trial, .ref q_trace, .ref q_tried, .ref q_best, .int f_imaged])), (q_now, .inr (9, [.ref q_now_line, .ref q_now_tape, .ref q_now_taken, .ref q_now_bookTurns, .ref q_now_bookTimes, .int f_now_fields])), (q_now_line, .inr (5, [.ref q_now_line_people, .ref q_now_line_places, .ref q_now_line_breath, .ref q_now_line_rows, .ref q_now_line_seen, .ref q_now_line_ends, va_rf f_now_line_field, .int f_now_line_size, .int f_now_line_turn, .int f_now_line_yards, .int f_now_line_time, .int f_now_line_gap, .int f_now_line_far, .int f_now_line_flat])), (q_now_line_people, .inl (cL, 7, .inr (.inr (.inr (.inr r_now_line_people))))), (q_now_line_rows, .inl (cI, 21, .inl r_now_line_rows))]) [0, 1, 3, 4, 2] (by decide) rfl
  refine ob_astore (lv' := [(5, va_rf r1), (4, .ref q_now_line), (0, .ref h), (1, .int a1), (2, .int a2), (3, .int a3)]) hx hb (dX11_row 7 rfl) hl (by decide) rfl (fun ls hl => ?_)
  refine ob_aload hx hb (dX11_row 8 rfl) (lv_at hl 0 rfl) ?_
  refine ob_ifnull (tgt := 31) hx hb (dX11_row 9 rfl) (by decide) (fun h4 => ?_) (fun b3 h4 => ?_)
  · have hz9 := hm.1 h4; subst h4; have hm := hz9; clear hz9
    refine lv_iconst (v := (-1 : Int32)) hx hb (dX11_row 15 rfl) (by decide) ?_
    exact hZ (-1 : Int32) r_now_line_rows H locs ls 32 hm hP hD hS (dX11_row 16 rfl) rfl
  have hz9 := hm.2 b3 h4; subst h4; have hm := hz9; clear hz9
  refine lv_iload_n hx hb (dX11_row 10 rfl) rfl (lv_at hl 4 rfl) ?_
  refine lv_if_lt (tgt := 31) hx hb (dX11_row 11 rfl) (by decide) (fun c5 => ?_) (fun c5 => ?_)
  · replace hm := hm.1 c5
    refine lv_iconst (v := (-1 : Int32)) hx hb (dX11_row 15 rfl) (by decide) ?_
    exact hZ (-1 : Int32) r_now_line_rows H locs ls 32 hm hP hD hS (dX11_row 16 rfl) rfl
  replace hm := hm.2 c5
  refine lv_iload_n hx hb (dX11_row 12 rfl) rfl (lv_at hl 4 rfl) ?_
  refine lv_iconst (v := (3 : Int32)) hx hb (dX11_row 13 rfl) (by decide) ?_
  refine lv_icmp_lt (tgt := 33) hx hb (dX11_row 14 rfl) (by decide) (fun c6 => ?_) (fun c6 => ?_)
  · replace hm := hm.1 c6
    refine lv_iload_n hx hb (dX11_row 17 rfl) rfl (lv_at hl 5 rfl) ?_
    have hcut := ob_cut (wc := []) hP hD hS hA [] rfl (by decide)
    refine ob_i (wr := [(h, .inr (11, [.ref q_now, .ref q_image, .ref q_trial, .ref q_trace, .ref q_tried, .ref q_best, .int f_imaged])), (q_now, .inr (9, [.ref q_now_line, .ref q_now_tape, .ref q_now_taken, .ref q_now_bookTurns, .ref q_now_bookTimes, .int f_now_fields])), (q_now_line, .inr (5, [.ref q_now_line_people, .ref q_now_line_places, .ref q_now_line_breath, .ref q_now_line_rows, .ref q_now_line_seen, .ref q_now_line_ends, va_rf f_now_line_field, .int f_now_line_size, .int f_now_line_turn, .int f_now_line_yards, .int f_now_line_time, .int f_now_line_gap, .int f_now_line_far, .int f_now_line_flat])), (q_now_line_people, .inl (cL, 7, .inr (.inr (.inr (.inr r_now_line_people))))), (q_now_line_rows, .inl (cI, 21, .inl r_now_line_rows))]) (ob_S (As := [.int a3]) (rest := []) ⟨hx, hb, hml, hown, hts⟩ hK hcut (hI.cut hS hcut.2.2) hN (k_X11_isOneDigit l D cI cZ cL im _ _ _ hm) (cwS2 1 hts (hts (.methodLink RX11 83 yX11_isOneDigit) (inR13 _ (List.mem_of_getElem? (i := 9) rfl))) (hts (.static yX11_isOneDigit) (inR13 _ (List.mem_of_getElem? (i := 10) rfl))) (hts (.initialized RX11) (inR1 _ (List.mem_of_getElem? (i := 2) rfl))) (goodU_c (inR13 _ (List.mem_of_getElem? (i := 11) rfl))) rfl rfl rfl (by decide +kernel) ⟨Nat.le_of_ble_eq_true rfl, Nat.le_of_ble_eq_true rfl⟩) rfl hl.1 rfl (Nat.le_of_ble_eq_true rfl) (dX11_row 18 rfl) ⟨Nat.zero_le _, Nat.zero_le _⟩) hP hD hS hcut [] [0, 1, 2, 3, 4] rfl rfl (by decide) (by decide) (fun r7 u8 H locs hm hP hD hS => ?_)
    have hP := hP.sub (ws' := [(h, .inr (11, [.ref q_now, .ref q_image, .ref q_trial, .ref q_trace, .ref q_tried, .ref q_best, .int f_imaged])), (q_now, .inr (9, [.ref q_now_line, .ref q_now_tape, .ref q_now_taken, .ref q_now_bookTurns, .ref q_now_bookTimes, .int f_now_fields])), (q_now_line, .inr (5, [.ref q_now_line_people, .ref q_now_line_places, .ref q_now_line_breath, .ref q_now_line_rows, .ref q_now_line_seen, .ref q_now_line_ends, va_rf f_now_line_field, .int f_now_line_size, .int f_now_line_turn, .int f_now_line_yards, .int f_now_line_time, .int f_now_line_gap, .int f_now_line_far, .int f_now_line_flat])), (q_now_line_people, .inl (cL, 7, .inr (.inr (.inr (.inr r_now_line_people))))), (q_now_line_rows, .inl (cI, 21, .inl r_now_line_rows))]) [0, 1, 2, 3, 4] rfl
    have hD := hD.sub (ws' := [(h, .inr (11, [.ref q_now, .ref q_image, .ref q_trial, .ref q_trace, .ref q_tried, .ref q_best, .int f_imaged])), (q_now, .inr (9, [.ref q_now_line, .ref q_now_tape, .ref q_now_taken, .ref q_now_bookTurns, .ref q_now_bookTimes, .int f_now_fields])), (q_now_line, .inr (5, [.ref q_now_line_people, .ref q_now_line_places, .ref q_now_line_breath, .ref q_now_line_rows, .ref q_now_line_seen, .ref q_now_line_ends, va_rf f_now_line_field, .int f_now_line_size, .int f_now_line_turn, .int f_now_line_yards, .int f_now_line_time, .int f_now_line_gap, .int f_now_line_far, .int f_now_line_flat])), (q_now_line_people, .inl (cL, 7, .inr (.inr (.inr (.inr r_now_line_people))))), (q_now_line_rows, .inl (cI, 21, .inl r_now_line_rows))]) [0, 1, 2, 3, 4] (by decide) rfl
    refine lv_if_ne (tgt := 43) hx hb (dX11_row 19 rfl) (by decide) (fun c9 => ?_) (fun c9 => ?_)
    · replace hm := hm.2 c9
      refine lv_aload hx hb (dX11_row 22 rfl) (lv_at hl 0 rfl) ?_
      have hcut := ob_cut (wc := []) hP hD hS hA [] rfl (by decide)
      refine ob_i (wr := [(h, .inr (11, [.ref q_now, .ref q_image, .ref q_trial, .ref q_trace, .ref q_tried, .ref q_best, .int f_imaged])), (q_now, .inr (9, [.ref q_now_line, .ref q_now_tape, .ref q_now_taken, .ref q_now_bookTurns, .ref q_now_bookTimes, .int f_now_fields])), (q_now_line, .inr (5, [.ref q_now_line_people, .ref q_now_line_places, .ref q_now_line_breath, .ref q_now_line_rows, .ref q_now_line_seen, .ref q_now_line_ends, va_rf f_now_line_field, .int f_now_line_size, .int f_now_line_turn, .int f_now_line_yards, .int f_now_line_time, .int f_now_line_gap, .int f_now_line_far, .int f_now_line_flat])), (q_now_line_people, .inl (cL, 7, .inr (.inr (.inr (.inr r_now_line_people))))), (q_now_line_rows, .inl (cI, 21, .inl r_now_line_rows))]) (d_V_kind (own := RX11) (index := 99) (rest := []) D cI cZ cL im lk hlk _ _ hm ⟨hx, hb, hml, hown, hts⟩ hK hcut (hI.cut hS hcut.2.2) hN (inR17 _ (List.mem_of_getElem? (i := 3) rfl)) hl.1 rfl (Nat.le_of_ble_eq_true rfl) (dX11_row 23 rfl) ⟨Nat.le_of_ble_eq_true rfl, Nat.le_of_ble_eq_true rfl⟩ ⟨Nat.zero_le _, Nat.zero_le _⟩) hP hD hS hcut [] [0, 1, 2, 3, 4] rfl rfl (by decide) (by decide) (fun r10 u11 H locs hm hP hD hS => ?_)
      have hP := hP.sub (ws' := [(h, .inr (11, [.ref q_now, .ref q_image, .ref q_trial, .ref q_trace, .ref q_tried, .ref q_best, .int f_imaged])), (q_now, .inr (9, [.ref q_now_line, .ref q_now_tape, .ref q_now_taken, .ref q_now_bookTurns, .ref q_now_bookTimes, .int f_now_fields])), (q_now_line, .inr (5, [.ref q_now_line_people, .ref q_now_line_places, .ref q_now_line_breath, .ref q_now_line_rows, .ref q_now_line_seen, .ref q_now_line_ends, va_rf f_now_line_field, .int f_now_line_size, .int f_now_line_turn, .int f_now_line_yards, .int f_now_line_time, .int f_now_line_gap, .int f_now_line_far, .int f_now_line_flat])), (q_now_line_people, .inl (cL, 7, .inr (.inr (.inr (.inr r_now_line_people))))), (q_now_line_rows, .inl (cI, 21, .inl r_now_line_rows))]) [0, 1, 2, 3, 4] rfl
      have hD := hD.sub (ws' := [(h, .inr (11, [.ref q_now, .ref q_image, .ref q_trial, .ref q_trace, .ref q_tried, .ref q_best, .int f_imaged])), (q_now, .inr (9, [.ref q_now_line, .ref q_now_tape, .ref q_now_taken, .ref q_now_bookTurns, .ref q_now_bookTimes, .int f_now_fields])), (q_now_line, .inr (5, [.ref q_now_line_people, .ref q_now_line_places, .ref q_now_line_breath, .ref q_now_line_rows, .ref q_now_line_seen, .ref q_now_line_ends, va_rf f_now_line_field, .int f_now_line_size, .int f_now_line_turn, .int f_now_line_yards, .int f_now_line_time, .int f_now_line_gap, .int f_now_line_far, .int f_now_line_flat])), (q_now_line_people, .inl (cL, 7, .inr (.inr (.inr (.inr r_now_line_people))))), (q_now_line_rows, .inl (cI, 21, .inl r_now_line_rows))]) [0, 1, 2, 3, 4] (by decide) rfl
      refine lv_bipush (v := (6 : Int32)) hx hb (dX11_row 24 rfl) (by decide) ?_
      refine lv_icmp_eq (tgt := 56) hx hb (dX11_row 25 rfl) (by decide) (fun c12 => ?_) (fun c12 => ?_)
      · replace hm := hm.1 c12
        refine lv_aload hx hb (dX11_row 28 rfl) (lv_at hl 1 rfl) ?_
        refine va_getN (D := D) (ci := 5) (v := .ref q_now_line_rows) (C := RX5) (T := TX5) (N := 14) hx hb hts inlX5 hown hK hP 2 rfl rfl 3 (by decide) (va_Nw.use rfl (hN.1 _ (List.mem_of_getElem? (i := 1) rfl))) (fun _ h9 => h9) rfl (dX11_row 29 rfl) ?_
        refine lv_iload_n hx hb (dX11_row 30 rfl) rfl (lv_at hl 3 rfl) ?_
        refine lv_iconst (v := (3 : Int32)) hx hb (dX11_row 31 rfl) (by decide) ?_
        refine lv_imul hx hb (dX11_row 32 rfl) ?_
        refine lv_iload_n hx hb (dX11_row 33 rfl) rfl (lv_at hl 4 rfl) ?_
        refine lv_iadd hx hb (dX11_row 34 rfl) ?_
        refine va_iald hx hb hK hP 4 0 rfl rfl hm.1 (dX11_row 35 rfl) ?_
        replace hm := hm.2
        refine lv_topi (fun x13 ex13 => ?_)
        replace hm := hm x13 ex13
        refine lv_istore (lv' := [(6, .int x13), (5, .ref b3), (4, .ref q_now_line), (0, .ref h), (1, .int a1), (2, .int a2), (3, .int a3)]) hx hb (dX11_row 36 rfl) hl (by decide) rfl (fun ls hl => ?_)
        refine lv_aload hx hb (dX11_row 37 rfl) (lv_at hl 2 rfl) ?_
        refine va_getN (D := D) (ci := 5) (v := .ref q_now_line_rows) (C := RX5) (T := TX5) (N := 14) hx hb hts inlX5 hown hK hP 2 rfl rfl 3 (by decide) (va_Nw.use rfl (hN.1 _ (List.mem_of_getElem? (i := 1) rfl))) (fun _ h9 => h9) rfl (dX11_row 38 rfl) ?_
        refine lv_iload_n hx hb (dX11_row 39 rfl) rfl (lv_at hl 4 rfl) ?_
        refine lv_iconst (v := (3 : Int32)) hx hb (dX11_row 40 rfl) (by decide) ?_
        refine lv_imul hx hb (dX11_row 41 rfl) ?_
        refine lv_iload_n hx hb (dX11_row 42 rfl) rfl (lv_at hl 5 rfl) ?_
        refine lv_iadd hx hb (dX11_row 43 rfl) ?_
        refine lv_iload_n hx hb (dX11_row 44 rfl) rfl (lv_at hl 6 rfl) ?_
        refine va_iast hx hb hK hP hD hS 4 0 rfl rfl hm.1 (dX11_row 45 rfl) (fun H locs hP hD hS => ?_)
        replace hm := hm.2
        obtain ⟨y14, ey14⟩ : ∃ q : Nat → Int32, q = upd r_now_line_rows ((a1 * (3 : Int32)) + a2).toNatClampNeg a3 := ⟨_, rfl⟩
        replace hm := hm y14 ey14
        have hP : va_P D vwCl [(h, .inr (11, [.ref q_now, .ref q_image, .ref q_trial, .ref q_trace, .ref q_tried, .ref q_best, .int f_imaged])), (q_now, .inr (9, [.ref q_now_line, .ref q_now_tape, .ref q_now_taken, .ref q_now_bookTurns, .ref q_now_bookTimes, .int f_now_fields])), (q_now_line, .inr (5, [.ref q_now_line_people, .ref q_now_line_places, .ref q_now_line_breath, .ref q_now_line_rows, .ref q_now_line_seen, .ref q_now_line_ends, va_rf f_now_line_field, .int f_now_line_size, .int f_now_line_turn, .int f_now_line_yards, .int f_now_line_time, .int f_now_line_gap, .int f_now_line_far, .int f_now_line_flat])), (q_now_line_people, .inl (cL, 7, .inr (.inr (.inr (.inr r_now_line_people))))), (q_now_line_rows, .inl (cI, 21, .inl y14))] H := by rw [ey14]; exact hP
        have hD : va_D A [(h, .inr (11, [.ref q_now, .ref q_image, .ref q_trial, .ref q_trace, .ref q_tried, .ref q_best, .int f_imaged])), (q_now, .inr (9, [.ref q_now_line, .ref q_now_tape, .ref q_now_taken, .ref q_now_bookTurns, .ref q_now_bookTimes, .int f_now_fields])), (q_now_line, .inr (5, [.ref q_now_line_people, .ref q_now_line_places, .ref q_now_line_breath, .ref q_now_line_rows, .ref q_now_line_seen, .ref q_now_line_ends, va_rf f_now_line_field, .int f_now_line_size, .int f_now_line_turn, .int f_now_line_yards, .int f_now_line_time, .int f_now_line_gap, .int f_now_line_far, .int f_now_line_flat])), (q_now_line_people, .inl (cL, 7, .inr (.inr (.inr (.inr r_now_line_people))))), (q_now_line_rows, .inl (cI, 21, .inl y14))] := by rw [ey14]; exact hD
        refine lv_iload hx hb (dX11_row 46 rfl) (lv_at hl 0 rfl) ?_
        exact hZ x13 y14 H locs ls 83 hm hP hD hS (dX11_row 47 rfl) rfl
      replace hm := hm.2 c12
      refine lv_bipush (v := (-3 : Int32)) hx hb (dX11_row 26 rfl) (by decide) ?_
      exact hZ (-3 : Int32) r_now_line_rows H locs ls 55 hm hP hD hS (dX11_row 27 rfl) rfl
    replace hm := hm.1 c9
    refine lv_bipush (v := (-2 : Int32)) hx hb (dX11_row 20 rfl) (by decide) ?_
    exact hZ (-2 : Int32) r_now_line_rows H locs ls 42 hm hP hD hS (dX11_row 21 rfl) rfl
  replace hm := hm.2 c6
  refine lv_iconst (v := (-1 : Int32)) hx hb (dX11_row 15 rfl) (by decide) ?_
  exact hZ (-1 : Int32) r_now_line_rows H locs ls 32 hm hP hD hS (dX11_row 16 rfl) rfl
abbrev rmX11_toNextOrder : Room := { frames := 1, cells := 0, slots := 0, locals := 23 }
set_option maxHeartbeats 4000000 in
set_option maxRecDepth 100000 in
theorem k_X11_toNextOrder (l : Launch) (D : va_G) (cI cZ cL : ClassId) (im : obIM) (sz : Nat) (h1 : Nat) (n1 : Nat) (r1 : Nat → Int32) (a2 : Int32) (Q : Int32 → (Nat → Int32) → Prop) (hm : m_X11_toNextOrder n1 r1 a2 Q) : Met l yX11_toNextOrder (Cond.code yX11_toNextOrder cX11_toNextOrder 6 (some .boolean) :: wsL_law) rmX11_toNextOrder (obPre D (tyG cI cZ cL) im [(h1, .inl (cI, n1, .inl r1))] sz [.ref h1, .int a2]) (va_Qi (fun (r : Int32) (u : (Nat → Int32)) => Q r u) (obB D (va_A [(h1, .inl (cI, n1, .inl r1))] sz) (fun u : (Nat → Int32) => [(h1, .inl (cI, n1, .inl u))])) (va_A [(h1, .inl (cI, n1, .inl r1))] sz)) 0 0 (va_A [(h1, .inl (cI, n1, .inl r1))] sz) := by
  refine ob_met_i (cc := cX11_toNextOrder) (maxL := 6) (by decide) (Nat.le_of_ble_eq_true rfl) (fun p e s m args below meth c A Z hx hb hml hown hts hnm hN hK hA hI hP hD hS hZ ls hl => ?_)
  have hl : lv_has ls 6 [(0, .ref h1), (1, .int a2)] := hl
  unfold m_X11_toNextOrder at hm
  have lab73 : ∀ (n73 : Nat) (r1_73 : Nat → Int32) (v4_73 : Int32) (v5_73 : Int32) , ∀ (H : Heap) (locs : List Loc) (ls : Array Slot), va_P D vwCl [(h1, .inl (cI, n1, .inl r1_73))] H → va_D A [(h1, .inl (cI, n1, .inl r1_73))] → va_S A s.heap H locs → lv_has ls 6 [(0, .ref h1), (4, .int v4_73), (5, .int v5_73)] → m_X11_toNextOrder_L73 n1 Q n73 r1_73 v4_73 v5_73 → W p l e rmX11_toNextOrder s m args below meth c H locs 0 0 Z (F0 m 73 ls []) := by
    clear hm
    intro n73
    induction n73 with
    | zero =>
      intro r1_73 v4_73 v5_73 H locs ls hP hD hS hl hm
      exact hm.elim
    | succ n73 ih73 =>
      intro r1_73 v4_73 v5_73 H locs ls hP hD hS hl hm
      unfold m_X11_toNextOrder_L73 at hm
      obtain ⟨K73, hK73⟩ : ∃ K : (Nat → Int32) → Int32 → Int32 → Prop, K = m_X11_toNextOrder_L73 n1 Q n73 := ⟨_, rfl⟩
      rw [← hK73] at hm ih73
      refine lv_iload hx hb (dX11_toNextOrder 51 rfl) (lv_at hl 1 rfl) ?_
      refine lv_iload hx hb (dX11_toNextOrder 52 rfl) (lv_at hl 2 rfl) ?_
      refine lv_icmp_ge (tgt := 97) hx hb (dX11_toNextOrder 53 rfl) (by decide) (fun c11 => ?_) (fun c11 => ?_)
      · replace hm := hm.1 c11
        refine lv_iconst (v := (1 : Int32)) hx hb (dX11_toNextOrder 61 rfl) (by decide) ?_
        exact hZ (1 : Int32) r1_73 H locs ls 98 hm hP hD hS (dX11_toNextOrder 62 rfl) rfl
      replace hm := hm.2 c11
      refine lv_aload_n hx hb (dX11_toNextOrder 54 rfl) rfl (lv_at hl 0 rfl) ?_
      refine lv_iload hx hb (dX11_toNextOrder 55 rfl) (lv_at hl 1 rfl) ?_
      refine lv_iload hx hb (dX11_toNextOrder 56 rfl) (lv_at hl 2 rfl) ?_
      have hcut := ob_cut (wc := [(h1, .inl (cI, n1, .inl r1_73))]) hP hD hS hA [0] rfl (by decide)
      refine ob_v (wr := []) (ob_S (As := [.ref h1, .int v4_73, .int v5_73]) (rest := []) ⟨hx, hb, hml, hown, hts⟩ hK hcut (hI.cut hS hcut.2.2) hN (k_X11_exchangeAt l D cI cZ cL im _ _ _ _ _ _ _ hm) (cwS2 3 hts (hts (.methodLink RX11 275 yX11_exchangeAt) (inR30 _ (List.mem_of_getElem? (i := 6) rfl))) (hts (.static yX11_exchangeAt) (inR20 _ (List.mem_of_getElem? (i := 9) rfl))) (hts (.initialized RX11) (inR1 _ (List.mem_of_getElem? (i := 2) rfl))) (goodU_c (inR20 _ (List.mem_of_getElem? (i := 10) rfl))) rfl rfl rfl (by decide +kernel) ⟨Nat.le_of_ble_eq_true rfl, Nat.le_of_ble_eq_true rfl⟩) rfl hl.1 rfl (Nat.le_of_ble_eq_true rfl) (dX11_toNextOrder 57 rfl) ⟨Nat.zero_le _, Nat.zero_le _⟩) hP hD hS hcut [0] [] rfl rfl (by decide) (by decide) (fun u13 H locs hm hP hD hS => ?_)
      have hP := hP.sub (ws' := [(h1, .inl (cI, n1, .inl u13))]) [0] rfl
      have hD := hD.sub (ws' := [(h1, .inl (cI, n1, .inl u13))]) [0] (by decide) rfl
      obtain ⟨x15, ex15⟩ : ∃ y : Int32, y = v4_73 + 1 := ⟨_, rfl⟩
      replace hm := hm x15 ex15
      refine lv_iinc (v := x15) (lv' := [(4, .int x15), (0, .ref h1), (5, .int v5_73)]) hx hb (dX11_toNextOrder 58 rfl) hl (k := 1) rfl (by rw [ex15]; rfl) (by decide) rfl (fun ls hl => ?_)
      obtain ⟨x16, ex16⟩ : ∃ y : Int32, y = v5_73 + (-1 : Int32) := ⟨_, rfl⟩
      replace hm := hm x16 ex16
      refine lv_iinc (v := x16) (lv' := [(5, .int x16), (4, .int x15), (0, .ref h1)]) hx hb (dX11_toNextOrder 59 rfl) hl (k := 2) rfl (by rw [ex16]; rfl) (by decide) rfl (fun ls hl => ?_)
      refine lv_goto (tgt := 73) hx hb (dX11_toNextOrder 60 rfl) (by decide) ?_
      exact ih73 u13 x15 x16 H locs ls hP hD hS (lv_sub hl [2, 1, 0] rfl) hm
  have lab57 : ∀ (r1_57 : Nat → Int32) (v2_57 : Int32) (v3_57 : Int32) , ∀ (H : Heap) (locs : List Loc) (ls : Array Slot), va_P D vwCl [(h1, .inl (cI, n1, .inl r1_57))] H → va_D A [(h1, .inl (cI, n1, .inl r1_57))] → va_S A s.heap H locs → lv_has ls 6 [(0, .ref h1), (1, .int a2), (2, .int v2_57), (3, .int v3_57)] → m_X11_toNextOrder_L57 n1 a2 r1_57 v2_57 v3_57 Q → W p l e rmX11_toNextOrder s m args below meth c H locs 0 0 Z (F0 m 57 ls []) := by
    clear hm
    intro r1_57 v2_57 v3_57 H locs ls hP hD hS hl hm
    unfold m_X11_toNextOrder_L57 at hm
    refine lv_aload_n hx hb (dX11_toNextOrder 39 rfl) rfl (lv_at hl 0 rfl) ?_
    refine lv_iload_n hx hb (dX11_toNextOrder 40 rfl) rfl (lv_at hl 2 rfl) ?_
    refine lv_iload_n hx hb (dX11_toNextOrder 41 rfl) rfl (lv_at hl 3 rfl) ?_
    have hcut := ob_cut (wc := [(h1, .inl (cI, n1, .inl r1_57))]) hP hD hS hA [0] rfl (by decide)
    refine ob_v (wr := []) (ob_S (As := [.ref h1, .int v2_57, .int v3_57]) (rest := []) ⟨hx, hb, hml, hown, hts⟩ hK hcut (hI.cut hS hcut.2.2) hN (k_X11_exchangeAt l D cI cZ cL im _ _ _ _ _ _ _ hm) (cwS2 3 hts (hts (.methodLink RX11 275 yX11_exchangeAt) (inR30 _ (List.mem_of_getElem? (i := 6) rfl))) (hts (.static yX11_exchangeAt) (inR20 _ (List.mem_of_getElem? (i := 9) rfl))) (hts (.initialized RX11) (inR1 _ (List.mem_of_getElem? (i := 2) rfl))) (goodU_c (inR20 _ (List.mem_of_getElem? (i := 10) rfl))) rfl rfl rfl (by decide +kernel) ⟨Nat.le_of_ble_eq_true rfl, Nat.le_of_ble_eq_true rfl⟩) rfl hl.1 rfl (Nat.le_of_ble_eq_true rfl) (dX11_toNextOrder 42 rfl) ⟨Nat.zero_le _, Nat.zero_le _⟩) hP hD hS hcut [0] [] rfl rfl (by decide) (by decide) (fun u7 H locs hm hP hD hS => ?_)
    have hP := hP.sub (ws' := [(h1, .inl (cI, n1, .inl u7))]) [0] rfl
    have hD := hD.sub (ws' := [(h1, .inl (cI, n1, .inl u7))]) [0] (by decide) rfl
    refine lv_iload_n hx hb (dX11_toNextOrder 43 rfl) rfl (lv_at hl 2 rfl) ?_
    refine lv_iconst (v := (1 : Int32)) hx hb (dX11_toNextOrder 44 rfl) (by decide) ?_
    refine lv_iadd hx hb (dX11_toNextOrder 45 rfl) ?_
    refine lv_topi (fun x9 ex9 => ?_)
    replace hm := hm x9 ex9
    refine lv_istore (lv' := [(4, .int x9), (0, .ref h1), (1, .int a2), (2, .int v2_57), (3, .int v3_57)]) hx hb (dX11_toNextOrder 46 rfl) hl (by decide) rfl (fun ls hl => ?_)
    refine lv_iload_n hx hb (dX11_toNextOrder 47 rfl) rfl (lv_at hl 2 rfl) ?_
    refine lv_iconst (v := (1 : Int32)) hx hb (dX11_toNextOrder 48 rfl) (by decide) ?_
    refine lv_isub hx hb (dX11_toNextOrder 49 rfl) ?_
    refine lv_topi (fun x10 ex10 => ?_)
    replace hm := hm x10 ex10
    refine lv_istore (lv' := [(5, .int x10), (4, .int x9), (0, .ref h1), (1, .int a2), (2, .int v2_57), (3, .int v3_57)]) hx hb (dX11_toNextOrder 50 rfl) hl (by decide) rfl (fun ls hl => ?_)
    obtain ⟨n17, hm⟩ := hm
    exact lab73 n17 u7 x9 x10 H locs ls hP hD hS (lv_sub hl [2, 1, 0] rfl) hm
  have lab35 : ∀ (r1_35 : Nat → Int32) (v2_35 : Int32) (n35 : Nat) (v3_35 : Int32) , ∀ (H : Heap) (locs : List Loc) (ls : Array Slot), va_P D vwCl [(h1, .inl (cI, n1, .inl r1_35))] H → va_D A [(h1, .inl (cI, n1, .inl r1_35))] → va_S A s.heap H locs → lv_has ls 6 [(0, .ref h1), (1, .int a2), (2, .int v2_35), (3, .int v3_35)] → m_X11_toNextOrder_L35 n1 a2 r1_35 v2_35 Q n35 v3_35 → W p l e rmX11_toNextOrder s m args below meth c H locs 0 0 Z (F0 m 35 ls []) := by
    clear hm
    intro r1_35 v2_35
    intro n35
    induction n35 with
    | zero =>
      intro v3_35 H locs ls hP hD hS hl hm
      exact hm.elim
    | succ n35 ih35 =>
      intro v3_35 H locs ls hP hD hS hl hm
      unfold m_X11_toNextOrder_L35 at hm
      obtain ⟨K35, hK35⟩ : ∃ K : Int32 → Prop, K = m_X11_toNextOrder_L35 n1 a2 r1_35 v2_35 Q n35 := ⟨_, rfl⟩
      rw [← hK35] at hm ih35
      refine lv_iload_n hx hb (dX11_toNextOrder 25 rfl) rfl (lv_at hl 3 rfl) ?_
      refine lv_iload_n hx hb (dX11_toNextOrder 26 rfl) rfl (lv_at hl 2 rfl) ?_
      refine lv_iconst (v := (1 : Int32)) hx hb (dX11_toNextOrder 27 rfl) (by decide) ?_
      refine lv_iadd hx hb (dX11_toNextOrder 28 rfl) ?_
      refine lv_icmp_le (tgt := 57) hx hb (dX11_toNextOrder 29 rfl) (by decide) (fun c5 => ?_) (fun c5 => ?_)
      · replace hm := hm.1 c5
        exact lab57 r1_35 v2_35 v3_35 H locs ls hP hD hS (lv_sub hl [0, 1, 2, 3] rfl) hm
      replace hm := hm.2 c5
      refine lv_aload_n hx hb (dX11_toNextOrder 30 rfl) rfl (lv_at hl 0 rfl) ?_
      refine lv_iload_n hx hb (dX11_toNextOrder 31 rfl) rfl (lv_at hl 3 rfl) ?_
      refine va_iald hx hb hK hP 0 0 rfl rfl hm.1 (dX11_toNextOrder 32 rfl) ?_
      replace hm := hm.2
      refine lv_aload_n hx hb (dX11_toNextOrder 33 rfl) rfl (lv_at hl 0 rfl) ?_
      refine lv_iload_n hx hb (dX11_toNextOrder 34 rfl) rfl (lv_at hl 2 rfl) ?_
      refine va_iald hx hb hK hP 0 0 rfl rfl hm.1 (dX11_toNextOrder 35 rfl) ?_
      replace hm := hm.2
      refine lv_icmp_ge (tgt := 57) hx hb (dX11_toNextOrder 36 rfl) (by decide) (fun c18 => ?_) (fun c18 => ?_)
      · replace hm := hm.1 c18
        exact lab57 r1_35 v2_35 v3_35 H locs ls hP hD hS (lv_sub hl [0, 1, 2, 3] rfl) hm
      replace hm := hm.2 c18
      obtain ⟨x19, ex19⟩ : ∃ y : Int32, y = v3_35 + (-1 : Int32) := ⟨_, rfl⟩
      replace hm := hm x19 ex19
      refine lv_iinc (v := x19) (lv' := [(3, .int x19), (0, .ref h1), (1, .int a2), (2, .int v2_35)]) hx hb (dX11_toNextOrder 37 rfl) hl (k := 3) rfl (by rw [ex19]; rfl) (by decide) rfl (fun ls hl => ?_)
      refine lv_goto (tgt := 35) hx hb (dX11_toNextOrder 38 rfl) (by decide) ?_
      exact ih35 x19 H locs ls hP hD hS (lv_sub hl [1, 2, 3, 0] rfl) hm
  have lab25 : ∀ (r1_25 : Nat → Int32) (v2_25 : Int32) , ∀ (H : Heap) (locs : List Loc) (ls : Array Slot), va_P D vwCl [(h1, .inl (cI, n1, .inl r1_25))] H → va_D A [(h1, .inl (cI, n1, .inl r1_25))] → va_S A s.heap H locs → lv_has ls 6 [(0, .ref h1), (1, .int a2), (2, .int v2_25)] → m_X11_toNextOrder_L25 n1 a2 r1_25 v2_25 Q → W p l e rmX11_toNextOrder s m args below meth c H locs 0 0 Z (F0 m 25 ls []) := by
    clear hm
    intro r1_25 v2_25 H locs ls hP hD hS hl hm
    unfold m_X11_toNextOrder_L25 at hm
    refine lv_iload_n hx hb (dX11_toNextOrder 17 rfl) rfl (lv_at hl 2 rfl) ?_
    refine lv_if_ge (tgt := 31) hx hb (dX11_toNextOrder 18 rfl) (by decide) (fun c3 => ?_) (fun c3 => ?_)
    · replace hm := hm.1 c3
      refine lv_iload_n hx hb (dX11_toNextOrder 21 rfl) rfl (lv_at hl 1 rfl) ?_
      refine lv_iconst (v := (1 : Int32)) hx hb (dX11_toNextOrder 22 rfl) (by decide) ?_
      refine lv_isub hx hb (dX11_toNextOrder 23 rfl) ?_
      refine lv_topi (fun x4 ex4 => ?_)
      replace hm := hm x4 ex4
      refine lv_istore_n (lv' := [(3, .int x4), (0, .ref h1), (1, .int a2), (2, .int v2_25)]) hx hb (dX11_toNextOrder 24 rfl) rfl hl (by decide) rfl (fun ls hl => ?_)
      obtain ⟨n20, hm⟩ := hm
      exact lab35 r1_25 v2_25 n20 x4 H locs ls hP hD hS (lv_sub hl [1, 2, 3, 0] rfl) hm
    replace hm := hm.2 c3
    refine lv_iconst (v := (0 : Int32)) hx hb (dX11_toNextOrder 19 rfl) (by decide) ?_
    exact hZ (0 : Int32) r1_25 H locs ls 30 hm hP hD hS (dX11_toNextOrder 20 rfl) rfl
  have lab4 : ∀ (r1_4 : Nat → Int32) (n4 : Nat) (v2_4 : Int32) , ∀ (H : Heap) (locs : List Loc) (ls : Array Slot), va_P D vwCl [(h1, .inl (cI, n1, .inl r1_4))] H → va_D A [(h1, .inl (cI, n1, .inl r1_4))] → va_S A s.heap H locs → lv_has ls 6 [(0, .ref h1), (1, .int a2), (2, .int v2_4)] → m_X11_toNextOrder_L4 n1 a2 r1_4 Q n4 v2_4 → W p l e rmX11_toNextOrder s m args below meth c H locs 0 0 Z (F0 m 4 ls []) := by
    clear hm
    intro r1_4
    intro n4
    induction n4 with
    | zero =>
      intro v2_4 H locs ls hP hD hS hl hm
      exact hm.elim
    | succ n4 ih4 =>
      intro v2_4 H locs ls hP hD hS hl hm
      unfold m_X11_toNextOrder_L4 at hm
      obtain ⟨K4, hK4⟩ : ∃ K : Int32 → Prop, K = m_X11_toNextOrder_L4 n1 a2 r1_4 Q n4 := ⟨_, rfl⟩
      rw [← hK4] at hm ih4
      refine lv_iload_n hx hb (dX11_toNextOrder 4 rfl) rfl (lv_at hl 2 rfl) ?_
      refine lv_if_lt (tgt := 25) hx hb (dX11_toNextOrder 5 rfl) (by decide) (fun c2 => ?_) (fun c2 => ?_)
      · replace hm := hm.1 c2
        exact lab25 r1_4 v2_4 H locs ls hP hD hS (lv_sub hl [0, 1, 2] rfl) hm
      replace hm := hm.2 c2
      refine lv_aload_n hx hb (dX11_toNextOrder 6 rfl) rfl (lv_at hl 0 rfl) ?_
      refine lv_iload_n hx hb (dX11_toNextOrder 7 rfl) rfl (lv_at hl 2 rfl) ?_
      refine va_iald hx hb hK hP 0 0 rfl rfl hm.1 (dX11_toNextOrder 8 rfl) ?_
      replace hm := hm.2
      refine lv_aload_n hx hb (dX11_toNextOrder 9 rfl) rfl (lv_at hl 0 rfl) ?_
      refine lv_iload_n hx hb (dX11_toNextOrder 10 rfl) rfl (lv_at hl 2 rfl) ?_
      refine lv_iconst (v := (1 : Int32)) hx hb (dX11_toNextOrder 11 rfl) (by decide) ?_
      refine lv_iadd hx hb (dX11_toNextOrder 12 rfl) ?_
      refine va_iald hx hb hK hP 0 0 rfl rfl hm.1 (dX11_toNextOrder 13 rfl) ?_
      replace hm := hm.2
      refine lv_icmp_le (tgt := 25) hx hb (dX11_toNextOrder 14 rfl) (by decide) (fun c21 => ?_) (fun c21 => ?_)
      · replace hm := hm.1 c21
        exact lab25 r1_4 v2_4 H locs ls hP hD hS (lv_sub hl [0, 1, 2] rfl) hm
      replace hm := hm.2 c21
      obtain ⟨x22, ex22⟩ : ∃ y : Int32, y = v2_4 + (-1 : Int32) := ⟨_, rfl⟩
      replace hm := hm x22 ex22
      refine lv_iinc (v := x22) (lv' := [(2, .int x22), (0, .ref h1), (1, .int a2)]) hx hb (dX11_toNextOrder 15 rfl) hl (k := 2) rfl (by rw [ex22]; rfl) (by decide) rfl (fun ls hl => ?_)
      refine lv_goto (tgt := 4) hx hb (dX11_toNextOrder 16 rfl) (by decide) ?_
      exact ih4 x22 H locs ls hP hD hS (lv_sub hl [1, 2, 0] rfl) hm
  obtain ⟨H, hH⟩ : ∃ H, H = s.heap := ⟨_, rfl⟩
  obtain ⟨locs, hlo⟩ : ∃ q : List Loc, q = [] := ⟨_, rfl⟩
  suffices hgo : W p l e rmX11_toNextOrder s m args below meth c H locs 0 0 Z (F0 m 0 ls []) by rw [hH, hlo] at hgo; exact hgo
  have hP : va_P D vwCl [(h1, .inl (cI, n1, .inl r1))] H := by rw [hH]; exact hP
  have hD : va_D A [(h1, .inl (cI, n1, .inl r1))] := hD
  have hS : va_S A s.heap H locs := by rw [hH, hlo]; exact hS
  refine lv_iload_n hx hb (dX11_toNextOrder 0 rfl) rfl (lv_at hl 1 rfl) ?_
  refine lv_iconst (v := (2 : Int32)) hx hb (dX11_toNextOrder 1 rfl) (by decide) ?_
  refine lv_isub hx hb (dX11_toNextOrder 2 rfl) ?_
  refine lv_topi (fun x1 ex1 => ?_)
  replace hm := hm x1 ex1
  refine lv_istore_n (lv' := [(2, .int x1), (0, .ref h1), (1, .int a2)]) hx hb (dX11_toNextOrder 3 rfl) rfl hl (by decide) rfl (fun ls hl => ?_)
  obtain ⟨n23, hm⟩ := hm
  exact lab4 r1 n23 x1 H locs ls hP hD hS (lv_sub hl [1, 2, 0] rfl) hm
abbrev rmX1_readWord : Room := { frames := 7, cells := 0, slots := 0, locals := 172 }
set_option maxHeartbeats 4000000 in
set_option maxRecDepth 100000 in
theorem k_X1_readWord (l : Launch) (D : va_G) (cI cZ cL : ClassId) (im : obIM) (sz : Nat) (h : Nat) (htape : Nat) (q_steps : Nat) (q_words : Nat) (q_numbers : Nat) (q_starts : Nat) (q_ends : Nat) (f_place : Int32) (f_stepCount : Int32) (f_clauses : Int32) (f_gap : Int32) (f_far : Int32) (qtape_items : Nat) (ftape_size : Int32) (ftape_came : Int32) (rtape_items : Nat → Int32) (Q : Int32 → Int32 → Prop) (hm : m_X1_readWord f_place ftape_size rtape_items Q) : Met l yX1_readWord (Cond.code yX1_readWord cX1_readWord 1 (some .int) :: wsL_law) rmX1_readWord (obPre D (tyG cI cZ cL) im [(h, .inr (1, [.ref htape, .ref q_steps, .ref q_words, .ref q_numbers, .ref q_starts, .ref q_ends, .int f_place, .int f_stepCount, .int f_clauses, .int f_gap, .int f_far])), (htape, .inr (7, [.ref qtape_items, .int ftape_size, .int ftape_came])), (qtape_items, .inl (cI, 100, .inl rtape_items))] sz [.ref h]) (va_Qi (fun (r : Int32) (u : Int32) => Q r u) (obB D (va_A [(h, .inr (1, [.ref htape, .ref q_steps, .ref q_words, .ref q_numbers, .ref q_starts, .ref q_ends, .int f_place, .int f_stepCount, .int f_clauses, .int f_gap, .int f_far])), (htape, .inr (7, [.ref qtape_items, .int ftape_size, .int ftape_came])), (qtape_items, .inl (cI, 100, .inl rtape_items))] sz) (fun u : Int32 => [(h, .inr (1, [.ref htape, .ref q_steps, .ref q_words, .ref q_numbers, .ref q_starts, .ref q_ends, .int u, .int f_stepCount, .int f_clauses, .int f_gap, .int f_far])), (htape, .inr (7, [.ref qtape_items, .int ftape_size, .int ftape_came])), (qtape_items, .inl (cI, 100, .inl rtape_items))])) (va_A [(h, .inr (1, [.ref htape, .ref q_steps, .ref q_words, .ref q_numbers, .ref q_starts, .ref q_ends, .int f_place, .int f_stepCount, .int f_clauses, .int f_gap, .int f_far])), (htape, .inr (7, [.ref qtape_items, .int ftape_size, .int ftape_came])), (qtape_items, .inl (cI, 100, .inl rtape_items))] sz)) 0 0 (va_A [(h, .inr (1, [.ref htape, .ref q_steps, .ref q_words, .ref q_numbers, .ref q_starts, .ref q_ends, .int f_place, .int f_stepCount, .int f_clauses, .int f_gap, .int f_far])), (htape, .inr (7, [.ref qtape_items, .int ftape_size, .int ftape_came])), (qtape_items, .inl (cI, 100, .inl rtape_items))] sz) := by
  refine ob_met_i (cc := cX1_readWord) (maxL := 1) (by decide) (Nat.le_of_ble_eq_true rfl) (fun p e s m args below meth c A Z hx hb hml hown hts hnm hN hK hA hI hP hD hS hZ ls hl => ?_)
  have hl : lv_has ls 1 [(0, .ref h)] := hl
  unfold m_X1_readWord at hm
  obtain ⟨H, hH⟩ : ∃ H, H = s.heap := ⟨_, rfl⟩
  obtain ⟨locs, hlo⟩ : ∃ q : List Loc, q = [] := ⟨_, rfl⟩
  suffices hgo : W p l e rmX1_readWord s m args below meth c H locs 0 0 Z (F0 m 0 ls []) by rw [hH, hlo] at hgo; exact hgo
  have hP : va_P D vwCl [(h, .inr (1, [.ref htape, .ref q_steps, .ref q_words, .ref q_numbers, .ref q_starts, .ref q_ends, .int f_place, .int f_stepCount, .int f_clauses, .int f_gap, .int f_far])), (htape, .inr (7, [.ref qtape_items, .int ftape_size, .int ftape_came])), (qtape_items, .inl (cI, 100, .inl rtape_items))] H := by rw [hH]; exact hP
  have hD : va_D A [(h, .inr (1, [.ref htape, .ref q_steps, .ref q_words, .ref q_numbers, .ref q_starts, .ref q_ends, .int f_place, .int f_stepCount, .int f_clauses, .int f_gap, .int f_far])), (htape, .inr (7, [.ref qtape_items, .int ftape_size, .int ftape_came])), (qtape_items, .inl (cI, 100, .inl rtape_items))] := hD
  have hS : va_S A s.heap H locs := by rw [hH, hlo]; exact hS
  refine lv_aload_n hx hb (dX1_readWord 0 rfl) rfl (lv_at hl 0 rfl) ?_
  refine va_get (D := D) (ci := 1) (v := .ref htape) (C := RX1) (T := TX1) (N := 11) hx hb hts inlX1 hown hK hP 0 rfl rfl 0 (by decide) (hts (.fieldLink RX1 9 "OverBacks$Field" "tape" "LOverBacks$Numbers;") (inR5 _ (List.mem_of_getElem? (i := 13) rfl))) (fun _ h9 => h9) rfl (dX1_readWord 1 rfl) ?_
  refine lv_aload_n hx hb (dX1_readWord 2 rfl) rfl (lv_at hl 0 rfl) ?_
  refine va_get (D := D) (ci := 1) (v := .int f_place) (C := RX1) (T := TX1) (N := 11) hx hb hts inlX1 hown hK hP 0 rfl rfl 6 (by decide) (hts (.fieldLink RX1 42 "OverBacks$Field" "place" "I") (inR6 _ (List.mem_of_getElem? (i := 1) rfl))) (fun _ h9 => h9) rfl (dX1_readWord 3 rfl) ?_
  have hcut := ob_cut (wc := [(htape, .inr (7, [.ref qtape_items, .int ftape_size, .int ftape_came])), (qtape_items, .inl (cI, 100, .inl rtape_items))]) hP hD hS hA [1, 2] rfl (by decide)
  refine ob_i (wr := [(h, .inr (1, [.ref htape, .ref q_steps, .ref q_words, .ref q_numbers, .ref q_starts, .ref q_ends, .int f_place, .int f_stepCount, .int f_clauses, .int f_gap, .int f_far]))]) (ob_V (As := [.int f_place]) (rest := []) ⟨hx, hb, hml, hown, hts⟩ hK hcut (hI.cut hS hcut.2.2) hN (va_recv hK hP (ci := 7) (q0 := 1) rfl rfl) (k_X7_at l D cI cZ cL im _ _ _ _ _ _ _ _ _ hm) (cwV 1 hts (gU_V (inR6 _ (List.mem_of_getElem? (i := 12) rfl)) (inR6 _ (List.mem_of_getElem? (i := 13) rfl)) (inR6 _ (List.mem_of_getElem? (i := 14) rfl)) (inR1 _ (List.mem_of_getElem? (i := 23) rfl)) (inR6 _ (List.mem_of_getElem? (i := 15) rfl))) rfl rfl rfl (by decide +kernel) ⟨Nat.le_of_ble_eq_true rfl, Nat.le_of_ble_eq_true rfl⟩) rfl hl.1 rfl (Nat.le_of_ble_eq_true rfl) (dX1_readWord 4 rfl) ⟨Nat.zero_le _, Nat.zero_le _⟩) hP hD hS hcut [1, 2] [0] rfl rfl (by decide) (by decide) (fun r1 u2 H locs hm hP hD hS => ?_)
  have hP := hP.sub (ws' := [(h, .inr (1, [.ref htape, .ref q_steps, .ref q_words, .ref q_numbers, .ref q_starts, .ref q_ends, .int f_place, .int f_stepCount, .int f_clauses, .int f_gap, .int f_far])), (htape, .inr (7, [.ref qtape_items, .int ftape_size, .int ftape_came])), (qtape_items, .inl (cI, 100, .inl rtape_items))]) [0, 1, 2] rfl
  have hD := hD.sub (ws' := [(h, .inr (1, [.ref htape, .ref q_steps, .ref q_words, .ref q_numbers, .ref q_starts, .ref q_ends, .int f_place, .int f_stepCount, .int f_clauses, .int f_gap, .int f_far])), (htape, .inr (7, [.ref qtape_items, .int ftape_size, .int ftape_came])), (qtape_items, .inl (cI, 100, .inl rtape_items))]) [0, 1, 2] (by decide) rfl
  by_cases c7 : r1 = (103 : Int32)
  · refine lv_lookup (off := 41) (tgt := 52) hx hb (dX1_readWord 5 rfl) (by decide) (by rw [c7]; rfl) (by decide) ?_
    replace hm := hm.1 c7
    refine lv_aload_n hx hb (dX1_readWord 6 rfl) rfl (lv_at hl 0 rfl) ?_
    refine va_ldcS (own := RX1) (index := 74) (q := im.2.1 0) hx hb hown (hI.2.2.2.1 0 _ rfl) (dX1_readWord 7 rfl) ?_
    have hcut := ob_cut (wc := [(h, .inr (1, [.ref htape, .ref q_steps, .ref q_words, .ref q_numbers, .ref q_starts, .ref q_ends, .int f_place, .int f_stepCount, .int f_clauses, .int f_gap, .int f_far])), (htape, .inr (7, [.ref qtape_items, .int ftape_size, .int ftape_came])), (qtape_items, .inl (cI, 100, .inl rtape_items))]) hP hD hS hA [0, 1, 2] rfl (by decide)
    refine ob_i (wr := []) (ob_V (As := [.ref (im.2.1 0)]) (rest := []) ⟨hx, hb, hml, hown, hts⟩ hK hcut (hI.cut hS hcut.2.2) hN (va_recv hK hP (ci := 1) (q0 := 0) rfl rfl) (k_X1_takeAll l D cI cZ cL im _ _ _ _ _ _ _ _ _ _ _ _ _ _ _ _ _ _ _ hm) (cwV 1 hts (gU_V (inR6 _ (List.mem_of_getElem? (i := 16) rfl)) (inR6 _ (List.mem_of_getElem? (i := 17) rfl)) (inR6 _ (List.mem_of_getElem? (i := 18) rfl)) (inR5 _ (List.mem_of_getElem? (i := 8) rfl)) (inR6 _ (List.mem_of_getElem? (i := 19) rfl))) rfl rfl rfl (by decide +kernel) ⟨Nat.le_of_ble_eq_true rfl, Nat.le_of_ble_eq_true rfl⟩) rfl hl.1 rfl (Nat.le_of_ble_eq_true rfl) (dX1_readWord 8 rfl) ⟨Nat.zero_le _, Nat.zero_le _⟩) hP hD hS hcut [0, 1, 2] [] rfl rfl (by decide) (by decide) (fun r3 u4 H locs hm hP hD hS => ?_)
    have hP := hP.sub (ws' := [(h, .inr (1, [.ref htape, .ref q_steps, .ref q_words, .ref q_numbers, .ref q_starts, .ref q_ends, .int u4, .int f_stepCount, .int f_clauses, .int f_gap, .int f_far])), (htape, .inr (7, [.ref qtape_items, .int ftape_size, .int ftape_came])), (qtape_items, .inl (cI, 100, .inl rtape_items))]) [0, 1, 2] rfl
    have hD := hD.sub (ws' := [(h, .inr (1, [.ref htape, .ref q_steps, .ref q_words, .ref q_numbers, .ref q_starts, .ref q_ends, .int u4, .int f_stepCount, .int f_clauses, .int f_gap, .int f_far])), (htape, .inr (7, [.ref qtape_items, .int ftape_size, .int ftape_came])), (qtape_items, .inl (cI, 100, .inl rtape_items))]) [0, 1, 2] (by decide) rfl
    refine lv_if_eq (tgt := 65) hx hb (dX1_readWord 9 rfl) (by decide) (fun c6 => ?_) (fun c6 => ?_)
    · replace hm := hm.1 c6
      refine lv_iconst (v := (-1 : Int32)) hx hb (dX1_readWord 12 rfl) (by decide) ?_
      exact hZ (-1 : Int32) u4 H locs ls 66 hm hP hD hS (dX1_readWord 13 rfl) rfl
    replace hm := hm.2 c6
    refine lv_iconst (v := (0 : Int32)) hx hb (dX1_readWord 10 rfl) (by decide) ?_
    refine lv_goto (tgt := 66) hx hb (dX1_readWord 11 rfl) (by decide) ?_
    exact hZ (0 : Int32) u4 H locs ls 66 hm hP hD hS (dX1_readWord 13 rfl) rfl
  replace hm := hm.2
  by_cases c12 : r1 = (114 : Int32)
  · refine lv_lookup (off := 86) (tgt := 97) hx hb (dX1_readWord 5 rfl) (by decide) (by rw [c12]; rfl) (by decide) ?_
    replace hm := hm.1 c12
    refine lv_aload_n hx hb (dX1_readWord 30 rfl) rfl (lv_at hl 0 rfl) ?_
    refine va_ldcS (own := RX1) (index := 83) (q := im.2.1 3) hx hb hown (hI.2.2.2.1 3 _ rfl) (dX1_readWord 31 rfl) ?_
    have hcut := ob_cut (wc := [(h, .inr (1, [.ref htape, .ref q_steps, .ref q_words, .ref q_numbers, .ref q_starts, .ref q_ends, .int f_place, .int f_stepCount, .int f_clauses, .int f_gap, .int f_far])), (htape, .inr (7, [.ref qtape_items, .int ftape_size, .int ftape_came])), (qtape_items, .inl (cI, 100, .inl rtape_items))]) hP hD hS hA [0, 1, 2] rfl (by decide)
    refine ob_i (wr := []) (ob_V (As := [.ref (im.2.1 3)]) (rest := []) ⟨hx, hb, hml, hown, hts⟩ hK hcut (hI.cut hS hcut.2.2) hN (va_recv hK hP (ci := 1) (q0 := 0) rfl rfl) (k_X1_takeAll l D cI cZ cL im _ _ _ _ _ _ _ _ _ _ _ _ _ _ _ _ _ _ _ hm) (cwV 1 hts (gU_V (inR6 _ (List.mem_of_getElem? (i := 16) rfl)) (inR6 _ (List.mem_of_getElem? (i := 17) rfl)) (inR6 _ (List.mem_of_getElem? (i := 18) rfl)) (inR5 _ (List.mem_of_getElem? (i := 8) rfl)) (inR6 _ (List.mem_of_getElem? (i := 19) rfl))) rfl rfl rfl (by decide +kernel) ⟨Nat.le_of_ble_eq_true rfl, Nat.le_of_ble_eq_true rfl⟩) rfl hl.1 rfl (Nat.le_of_ble_eq_true rfl) (dX1_readWord 32 rfl) ⟨Nat.zero_le _, Nat.zero_le _⟩) hP hD hS hcut [0, 1, 2] [] rfl rfl (by decide) (by decide) (fun r8 u9 H locs hm hP hD hS => ?_)
    have hP := hP.sub (ws' := [(h, .inr (1, [.ref htape, .ref q_steps, .ref q_words, .ref q_numbers, .ref q_starts, .ref q_ends, .int u9, .int f_stepCount, .int f_clauses, .int f_gap, .int f_far])), (htape, .inr (7, [.ref qtape_items, .int ftape_size, .int ftape_came])), (qtape_items, .inl (cI, 100, .inl rtape_items))]) [0, 1, 2] rfl
    have hD := hD.sub (ws' := [(h, .inr (1, [.ref htape, .ref q_steps, .ref q_words, .ref q_numbers, .ref q_starts, .ref q_ends, .int u9, .int f_stepCount, .int f_clauses, .int f_gap, .int f_far])), (htape, .inr (7, [.ref qtape_items, .int ftape_size, .int ftape_came])), (qtape_items, .inl (cI, 100, .inl rtape_items))]) [0, 1, 2] (by decide) rfl
    refine lv_if_eq (tgt := 110) hx hb (dX1_readWord 33 rfl) (by decide) (fun c11 => ?_) (fun c11 => ?_)
    · replace hm := hm.1 c11
      refine lv_iconst (v := (-1 : Int32)) hx hb (dX1_readWord 36 rfl) (by decide) ?_
      exact hZ (-1 : Int32) u9 H locs ls 111 hm hP hD hS (dX1_readWord 37 rfl) rfl
    replace hm := hm.2 c11
    refine lv_iconst (v := (3 : Int32)) hx hb (dX1_readWord 34 rfl) (by decide) ?_
    refine lv_goto (tgt := 111) hx hb (dX1_readWord 35 rfl) (by decide) ?_
    exact hZ (3 : Int32) u9 H locs ls 111 hm hP hD hS (dX1_readWord 37 rfl) rfl
  replace hm := hm.2
  by_cases c17 : r1 = (115 : Int32)
  · refine lv_lookup (off := 71) (tgt := 82) hx hb (dX1_readWord 5 rfl) (by decide) (by rw [c17]; rfl) (by decide) ?_
    replace hm := hm.1 c17
    refine lv_aload_n hx hb (dX1_readWord 22 rfl) rfl (lv_at hl 0 rfl) ?_
    refine va_ldcS (own := RX1) (index := 81) (q := im.2.1 2) hx hb hown (hI.2.2.2.1 2 _ rfl) (dX1_readWord 23 rfl) ?_
    have hcut := ob_cut (wc := [(h, .inr (1, [.ref htape, .ref q_steps, .ref q_words, .ref q_numbers, .ref q_starts, .ref q_ends, .int f_place, .int f_stepCount, .int f_clauses, .int f_gap, .int f_far])), (htape, .inr (7, [.ref qtape_items, .int ftape_size, .int ftape_came])), (qtape_items, .inl (cI, 100, .inl rtape_items))]) hP hD hS hA [0, 1, 2] rfl (by decide)
    refine ob_i (wr := []) (ob_V (As := [.ref (im.2.1 2)]) (rest := []) ⟨hx, hb, hml, hown, hts⟩ hK hcut (hI.cut hS hcut.2.2) hN (va_recv hK hP (ci := 1) (q0 := 0) rfl rfl) (k_X1_takeAll l D cI cZ cL im _ _ _ _ _ _ _ _ _ _ _ _ _ _ _ _ _ _ _ hm) (cwV 1 hts (gU_V (inR6 _ (List.mem_of_getElem? (i := 16) rfl)) (inR6 _ (List.mem_of_getElem? (i := 17) rfl)) (inR6 _ (List.mem_of_getElem? (i := 18) rfl)) (inR5 _ (List.mem_of_getElem? (i := 8) rfl)) (inR6 _ (List.mem_of_getElem? (i := 19) rfl))) rfl rfl rfl (by decide +kernel) ⟨Nat.le_of_ble_eq_true rfl, Nat.le_of_ble_eq_true rfl⟩) rfl hl.1 rfl (Nat.le_of_ble_eq_true rfl) (dX1_readWord 24 rfl) ⟨Nat.zero_le _, Nat.zero_le _⟩) hP hD hS hcut [0, 1, 2] [] rfl rfl (by decide) (by decide) (fun r13 u14 H locs hm hP hD hS => ?_)
    have hP := hP.sub (ws' := [(h, .inr (1, [.ref htape, .ref q_steps, .ref q_words, .ref q_numbers, .ref q_starts, .ref q_ends, .int u14, .int f_stepCount, .int f_clauses, .int f_gap, .int f_far])), (htape, .inr (7, [.ref qtape_items, .int ftape_size, .int ftape_came])), (qtape_items, .inl (cI, 100, .inl rtape_items))]) [0, 1, 2] rfl
    have hD := hD.sub (ws' := [(h, .inr (1, [.ref htape, .ref q_steps, .ref q_words, .ref q_numbers, .ref q_starts, .ref q_ends, .int u14, .int f_stepCount, .int f_clauses, .int f_gap, .int f_far])), (htape, .inr (7, [.ref qtape_items, .int ftape_size, .int ftape_came])), (qtape_items, .inl (cI, 100, .inl rtape_items))]) [0, 1, 2] (by decide) rfl
    refine lv_if_eq (tgt := 95) hx hb (dX1_readWord 25 rfl) (by decide) (fun c16 => ?_) (fun c16 => ?_)
    · replace hm := hm.1 c16
      refine lv_iconst (v := (-1 : Int32)) hx hb (dX1_readWord 28 rfl) (by decide) ?_
      exact hZ (-1 : Int32) u14 H locs ls 96 hm hP hD hS (dX1_readWord 29 rfl) rfl
    replace hm := hm.2 c16
    refine lv_iconst (v := (2 : Int32)) hx hb (dX1_readWord 26 rfl) (by decide) ?_
    refine lv_goto (tgt := 96) hx hb (dX1_readWord 27 rfl) (by decide) ?_
    exact hZ (2 : Int32) u14 H locs ls 96 hm hP hD hS (dX1_readWord 29 rfl) rfl
  replace hm := hm.2
  by_cases c22 : r1 = (121 : Int32)
  · refine lv_lookup (off := 56) (tgt := 67) hx hb (dX1_readWord 5 rfl) (by decide) (by rw [c22]; rfl) (by decide) ?_
    replace hm := hm.1 c22
    refine lv_aload_n hx hb (dX1_readWord 14 rfl) rfl (lv_at hl 0 rfl) ?_
    refine va_ldcS (own := RX1) (index := 79) (q := im.2.1 1) hx hb hown (hI.2.2.2.1 1 _ rfl) (dX1_readWord 15 rfl) ?_
    have hcut := ob_cut (wc := [(h, .inr (1, [.ref htape, .ref q_steps, .ref q_words, .ref q_numbers, .ref q_starts, .ref q_ends, .int f_place, .int f_stepCount, .int f_clauses, .int f_gap, .int f_far])), (htape, .inr (7, [.ref qtape_items, .int ftape_size, .int ftape_came])), (qtape_items, .inl (cI, 100, .inl rtape_items))]) hP hD hS hA [0, 1, 2] rfl (by decide)
    refine ob_i (wr := []) (ob_V (As := [.ref (im.2.1 1)]) (rest := []) ⟨hx, hb, hml, hown, hts⟩ hK hcut (hI.cut hS hcut.2.2) hN (va_recv hK hP (ci := 1) (q0 := 0) rfl rfl) (k_X1_takeAll l D cI cZ cL im _ _ _ _ _ _ _ _ _ _ _ _ _ _ _ _ _ _ _ hm) (cwV 1 hts (gU_V (inR6 _ (List.mem_of_getElem? (i := 16) rfl)) (inR6 _ (List.mem_of_getElem? (i := 17) rfl)) (inR6 _ (List.mem_of_getElem? (i := 18) rfl)) (inR5 _ (List.mem_of_getElem? (i := 8) rfl)) (inR6 _ (List.mem_of_getElem? (i := 19) rfl))) rfl rfl rfl (by decide +kernel) ⟨Nat.le_of_ble_eq_true rfl, Nat.le_of_ble_eq_true rfl⟩) rfl hl.1 rfl (Nat.le_of_ble_eq_true rfl) (dX1_readWord 16 rfl) ⟨Nat.zero_le _, Nat.zero_le _⟩) hP hD hS hcut [0, 1, 2] [] rfl rfl (by decide) (by decide) (fun r18 u19 H locs hm hP hD hS => ?_)
    have hP := hP.sub (ws' := [(h, .inr (1, [.ref htape, .ref q_steps, .ref q_words, .ref q_numbers, .ref q_starts, .ref q_ends, .int u19, .int f_stepCount, .int f_clauses, .int f_gap, .int f_far])), (htape, .inr (7, [.ref qtape_items, .int ftape_size, .int ftape_came])), (qtape_items, .inl (cI, 100, .inl rtape_items))]) [0, 1, 2] rfl
    have hD := hD.sub (ws' := [(h, .inr (1, [.ref htape, .ref q_steps, .ref q_words, .ref q_numbers, .ref q_starts, .ref q_ends, .int u19, .int f_stepCount, .int f_clauses, .int f_gap, .int f_far])), (htape, .inr (7, [.ref qtape_items, .int ftape_size, .int ftape_came])), (qtape_items, .inl (cI, 100, .inl rtape_items))]) [0, 1, 2] (by decide) rfl
    refine lv_if_eq (tgt := 80) hx hb (dX1_readWord 17 rfl) (by decide) (fun c21 => ?_) (fun c21 => ?_)
    · replace hm := hm.1 c21
      refine lv_iconst (v := (-1 : Int32)) hx hb (dX1_readWord 20 rfl) (by decide) ?_
      exact hZ (-1 : Int32) u19 H locs ls 81 hm hP hD hS (dX1_readWord 21 rfl) rfl
    replace hm := hm.2 c21
    refine lv_iconst (v := (1 : Int32)) hx hb (dX1_readWord 18 rfl) (by decide) ?_
    refine lv_goto (tgt := 81) hx hb (dX1_readWord 19 rfl) (by decide) ?_
    exact hZ (1 : Int32) u19 H locs ls 81 hm hP hD hS (dX1_readWord 21 rfl) rfl
  replace hm := hm.2
  refine lv_lookup (off := 101) (tgt := 112) hx hb (dX1_readWord 5 rfl) (by decide) (by simp [Op.lookupswitch.offset, ob_nes (n := 103) c7 (by decide), ob_nes (n := 114) c12 (by decide), ob_nes (n := 115) c17 (by decide), ob_nes (n := 121) c22 (by decide)]) (by decide) ?_
  replace hm := hm c7 c12 c17 c22
  refine lv_iconst (v := (-1 : Int32)) hx hb (dX1_readWord 38 rfl) (by decide) ?_
  exact hZ (-1 : Int32) f_place H locs ls 113 hm hP hD hS (dX1_readWord 39 rfl) rfl
abbrev rmR_A (d : Nat) : Room := { frames := d + 20, cells := 0, slots := 0, locals := 60 * d + 400 }
def CR_X1_readEither (l : Launch) (D : va_G) (cI cZ cL : ClassId) (im : obIM) (F : Int32 → Int32 → (Nat → Int32) → Int32 → (Nat → Int32) → Int32 → (Int32 → Int32 → Int32 → (Nat → Int32) → Prop) → Prop) (d : Nat) : Prop := ∀ (sz : Nat) (h : Nat) (htape : Nat) (q_steps : Nat) (q_words : Nat) (q_numbers : Nat) (q_starts : Nat) (q_ends : Nat) (f_place : Int32) (f_stepCount : Int32) (f_clauses : Int32) (f_gap : Int32) (f_far : Int32) (r_steps : Nat → Int32) (qtape_items : Nat) (ftape_size : Int32) (ftape_came : Int32) (rtape_items : Nat → Int32) (a1 : Int32) (Q : Int32 → Int32 → Int32 → (Nat → Int32) → Prop), F f_place f_stepCount r_steps ftape_size rtape_items a1 Q → Met l yX1_readEither (Cond.code yX1_readEither cX1_readEither 5 (some .boolean) :: wsL_law) (rmR_A d) (obPre D (tyG cI cZ cL) im [(h, .inr (1, [.ref htape, .ref q_steps, .ref q_words, .ref q_numbers, .ref q_starts, .ref q_ends, .int f_place, .int f_stepCount, .int f_clauses, .int f_gap, .int f_far])), (q_steps, .inl (cI, 100, .inl r_steps)), (htape, .inr (7, [.ref qtape_items, .int ftape_size, .int ftape_came])), (qtape_items, .inl (cI, 100, .inl rtape_items))] sz [.ref h, .int a1]) (va_Qi (fun (r : Int32) (u : Int32 × Int32 × (Nat → Int32)) => Q r u.1 u.2.1 u.2.2) (obB D (va_A [(h, .inr (1, [.ref htape, .ref q_steps, .ref q_words, .ref q_numbers, .ref q_starts, .ref q_ends, .int f_place, .int f_stepCount, .int f_clauses, .int f_gap, .int f_far])), (q_steps, .inl (cI, 100, .inl r_steps)), (htape, .inr (7, [.ref qtape_items, .int ftape_size, .int ftape_came])), (qtape_items, .inl (cI, 100, .inl rtape_items))] sz) (fun u : Int32 × Int32 × (Nat → Int32) => [(h, .inr (1, [.ref htape, .ref q_steps, .ref q_words, .ref q_numbers, .ref q_starts, .ref q_ends, .int u.1, .int u.2.1, .int f_clauses, .int f_gap, .int f_far])), (q_steps, .inl (cI, 100, .inl u.2.2)), (htape, .inr (7, [.ref qtape_items, .int ftape_size, .int ftape_came])), (qtape_items, .inl (cI, 100, .inl rtape_items))])) (va_A [(h, .inr (1, [.ref htape, .ref q_steps, .ref q_words, .ref q_numbers, .ref q_starts, .ref q_ends, .int f_place, .int f_stepCount, .int f_clauses, .int f_gap, .int f_far])), (q_steps, .inl (cI, 100, .inl r_steps)), (htape, .inr (7, [.ref qtape_items, .int ftape_size, .int ftape_came])), (qtape_items, .inl (cI, 100, .inl rtape_items))] sz)) 0 0 (va_A [(h, .inr (1, [.ref htape, .ref q_steps, .ref q_words, .ref q_numbers, .ref q_starts, .ref q_ends, .int f_place, .int f_stepCount, .int f_clauses, .int f_gap, .int f_far])), (q_steps, .inl (cI, 100, .inl r_steps)), (htape, .inr (7, [.ref qtape_items, .int ftape_size, .int ftape_came])), (qtape_items, .inl (cI, 100, .inl rtape_items))] sz)
def CR_X1_readFactor (l : Launch) (D : va_G) (cI cZ cL : ClassId) (im : obIM) (F : Int32 → Int32 → (Nat → Int32) → Int32 → (Nat → Int32) → Int32 → (Int32 → Int32 → Int32 → (Nat → Int32) → Prop) → Prop) (d : Nat) : Prop := ∀ (sz : Nat) (h : Nat) (htape : Nat) (q_steps : Nat) (q_words : Nat) (q_numbers : Nat) (q_starts : Nat) (q_ends : Nat) (f_place : Int32) (f_stepCount : Int32) (f_clauses : Int32) (f_gap : Int32) (f_far : Int32) (r_steps : Nat → Int32) (qtape_items : Nat) (ftape_size : Int32) (ftape_came : Int32) (rtape_items : Nat → Int32) (a1 : Int32) (Q : Int32 → Int32 → Int32 → (Nat → Int32) → Prop), F f_place f_stepCount r_steps ftape_size rtape_items a1 Q → Met l yX1_readFactor (Cond.code yX1_readFactor cX1_readFactor 3 (some .boolean) :: wsL_law) (rmR_A d) (obPre D (tyG cI cZ cL) im [(h, .inr (1, [.ref htape, .ref q_steps, .ref q_words, .ref q_numbers, .ref q_starts, .ref q_ends, .int f_place, .int f_stepCount, .int f_clauses, .int f_gap, .int f_far])), (q_steps, .inl (cI, 100, .inl r_steps)), (htape, .inr (7, [.ref qtape_items, .int ftape_size, .int ftape_came])), (qtape_items, .inl (cI, 100, .inl rtape_items))] sz [.ref h, .int a1]) (va_Qi (fun (r : Int32) (u : Int32 × Int32 × (Nat → Int32)) => Q r u.1 u.2.1 u.2.2) (obB D (va_A [(h, .inr (1, [.ref htape, .ref q_steps, .ref q_words, .ref q_numbers, .ref q_starts, .ref q_ends, .int f_place, .int f_stepCount, .int f_clauses, .int f_gap, .int f_far])), (q_steps, .inl (cI, 100, .inl r_steps)), (htape, .inr (7, [.ref qtape_items, .int ftape_size, .int ftape_came])), (qtape_items, .inl (cI, 100, .inl rtape_items))] sz) (fun u : Int32 × Int32 × (Nat → Int32) => [(h, .inr (1, [.ref htape, .ref q_steps, .ref q_words, .ref q_numbers, .ref q_starts, .ref q_ends, .int u.1, .int u.2.1, .int f_clauses, .int f_gap, .int f_far])), (q_steps, .inl (cI, 100, .inl u.2.2)), (htape, .inr (7, [.ref qtape_items, .int ftape_size, .int ftape_came])), (qtape_items, .inl (cI, 100, .inl rtape_items))])) (va_A [(h, .inr (1, [.ref htape, .ref q_steps, .ref q_words, .ref q_numbers, .ref q_starts, .ref q_ends, .int f_place, .int f_stepCount, .int f_clauses, .int f_gap, .int f_far])), (q_steps, .inl (cI, 100, .inl r_steps)), (htape, .inr (7, [.ref qtape_items, .int ftape_size, .int ftape_came])), (qtape_items, .inl (cI, 100, .inl rtape_items))] sz)) 0 0 (va_A [(h, .inr (1, [.ref htape, .ref q_steps, .ref q_words, .ref q_numbers, .ref q_starts, .ref q_ends, .int f_place, .int f_stepCount, .int f_clauses, .int f_gap, .int f_far])), (q_steps, .inl (cI, 100, .inl r_steps)), (htape, .inr (7, [.ref qtape_items, .int ftape_size, .int ftape_came])), (qtape_items, .inl (cI, 100, .inl rtape_items))] sz)
set_option maxHeartbeats 4000000 in
set_option maxRecDepth 100000 in
theorem st_X1_readEither (l : Launch) (D : va_G) (cI cZ cL : ClassId) (im : obIM) (F_X1_readEither : Int32 → Int32 → (Nat → Int32) → Int32 → (Nat → Int32) → Int32 → (Int32 → Int32 → Int32 → (Nat → Int32) → Prop) → Prop) (F_X1_readFactor : Int32 → Int32 → (Nat → Int32) → Int32 → (Nat → Int32) → Int32 → (Int32 → Int32 → Int32 → (Nat → Int32) → Prop) → Prop) (d : Nat) (hF_X1_readEither : CR_X1_readEither l D cI cZ cL im F_X1_readEither d) (hF_X1_readFactor : CR_X1_readFactor l D cI cZ cL im F_X1_readFactor d) : CR_X1_readEither l D cI cZ cL im (mB_X1_readEither F_X1_readEither F_X1_readFactor) (d + 1) := by
  intro sz h htape q_steps q_words q_numbers q_starts q_ends f_place f_stepCount f_clauses f_gap f_far r_steps qtape_items ftape_size ftape_came rtape_items a1 Q hm
  refine ob_met_i (cc := cX1_readEither) (maxL := 5) (by decide) (Nat.le_of_ble_eq_true rfl) (fun p e s m args below meth c A Z hx hb hml hown hts hnm hN hK hA hI hP hD hS hZ ls hl => ?_)
  have hl : lv_has ls 5 [(0, .ref h), (1, .int a1)] := hl
  unfold mB_X1_readEither at hm
  have lab7 : ∀ (n7 : Nat) (f_place_7 : Int32) (f_stepCount_7 : Int32) (r_steps_7 : Nat → Int32) (v2_7 : Int32) (v3_7 : Int32) (v4_7 : Int32) , ∀ (H : Heap) (locs : List Loc) (ls : Array Slot), va_P D vwCl [(h, .inr (1, [.ref htape, .ref q_steps, .ref q_words, .ref q_numbers, .ref q_starts, .ref q_ends, .int f_place_7, .int f_stepCount_7, .int f_clauses, .int f_gap, .int f_far])), (q_steps, .inl (cI, 100, .inl r_steps_7)), (htape, .inr (7, [.ref qtape_items, .int ftape_size, .int ftape_came])), (qtape_items, .inl (cI, 100, .inl rtape_items))] H → va_D A [(h, .inr (1, [.ref htape, .ref q_steps, .ref q_words, .ref q_numbers, .ref q_starts, .ref q_ends, .int f_place_7, .int f_stepCount_7, .int f_clauses, .int f_gap, .int f_far])), (q_steps, .inl (cI, 100, .inl r_steps_7)), (htape, .inr (7, [.ref qtape_items, .int ftape_size, .int ftape_came])), (qtape_items, .inl (cI, 100, .inl rtape_items))] → va_S A s.heap H locs → lv_has ls 5 [(0, .ref h), (1, .int a1), (2, .int v2_7), (3, .int v3_7), (4, .int v4_7)] → m_X1_readEither_L7 F_X1_readEither F_X1_readFactor ftape_size rtape_items a1 Q n7 f_place_7 f_stepCount_7 r_steps_7 v2_7 v3_7 v4_7 → W p l e (rmR_A (d + 1)) s m args below meth c H locs 0 0 Z (F0 m 7 ls []) := by
    clear hm
    intro n7
    induction n7 with
    | zero =>
      intro f_place_7 f_stepCount_7 r_steps_7 v2_7 v3_7 v4_7 H locs ls hP hD hS hl hm
      exact hm.elim
    | succ n7 ih7 =>
      intro f_place_7 f_stepCount_7 r_steps_7 v2_7 v3_7 v4_7 H locs ls hP hD hS hl hm
      unfold m_X1_readEither_L7 at hm
      obtain ⟨K7, hK7⟩ : ∃ K : Int32 → Int32 → (Nat → Int32) → Int32 → Int32 → Int32 → Prop, K = m_X1_readEither_L7 F_X1_readEither F_X1_readFactor ftape_size rtape_items a1 Q n7 := ⟨_, rfl⟩
      rw [← hK7] at hm ih7
      have lab68 : ∀ (f_place_68 : Int32) (f_stepCount_68 : Int32) (r_steps_68 : Nat → Int32) (v2_68 : Int32) (v3_68 : Int32) (v4_68 : Int32) , ∀ (H : Heap) (locs : List Loc) (ls : Array Slot), va_P D vwCl [(h, .inr (1, [.ref htape, .ref q_steps, .ref q_words, .ref q_numbers, .ref q_starts, .ref q_ends, .int f_place_68, .int f_stepCount_68, .int f_clauses, .int f_gap, .int f_far])), (q_steps, .inl (cI, 100, .inl r_steps_68)), (htape, .inr (7, [.ref qtape_items, .int ftape_size, .int ftape_came])), (qtape_items, .inl (cI, 100, .inl rtape_items))] H → va_D A [(h, .inr (1, [.ref htape, .ref q_steps, .ref q_words, .ref q_numbers, .ref q_starts, .ref q_ends, .int f_place_68, .int f_stepCount_68, .int f_clauses, .int f_gap, .int f_far])), (q_steps, .inl (cI, 100, .inl r_steps_68)), (htape, .inr (7, [.ref qtape_items, .int ftape_size, .int ftape_came])), (qtape_items, .inl (cI, 100, .inl rtape_items))] → va_S A s.heap H locs → lv_has ls 5 [(0, .ref h), (1, .int a1), (2, .int v2_68), (3, .int v3_68), (4, .int v4_68)] → m_X1_readEither_L68 F_X1_readEither F_X1_readFactor ftape_size rtape_items a1 f_place_68 f_stepCount_68 r_steps_68 v2_68 v3_68 v4_68 K7 Q → W p l e (rmR_A (d + 1)) s m args below meth c H locs 0 0 Z (F0 m 68 ls []) := by
        clear hm
        intro f_place_68 f_stepCount_68 r_steps_68 v2_68 v3_68 v4_68 H locs ls hP hD hS hl hm
        unfold m_X1_readEither_L68 at hm
        obtain ⟨x16, ex16⟩ : ∃ y : Int32, y = v4_68 + 1 := ⟨_, rfl⟩
        replace hm := hm x16 ex16
        refine lv_iinc (v := x16) (lv' := [(4, .int x16), (0, .ref h), (1, .int a1), (2, .int v2_68), (3, .int v3_68)]) hx hb (dX1_readEither 39 rfl) hl (k := 4) rfl (by rw [ex16]; rfl) (by decide) rfl (fun ls hl => ?_)
        refine lv_goto (tgt := 7) hx hb (dX1_readEither 40 rfl) (by decide) ?_
        exact ih7 f_place_68 f_stepCount_68 r_steps_68 v2_68 v3_68 x16 H locs ls hP hD hS (lv_sub hl [1, 2, 3, 4, 0] rfl) hm
      have lab55 : ∀ (f_place_55 : Int32) (f_stepCount_55 : Int32) (r_steps_55 : Nat → Int32) (v2_55 : Int32) (v4_55 : Int32) , ∀ (H : Heap) (locs : List Loc) (ls : Array Slot), va_P D vwCl [(h, .inr (1, [.ref htape, .ref q_steps, .ref q_words, .ref q_numbers, .ref q_starts, .ref q_ends, .int f_place_55, .int f_stepCount_55, .int f_clauses, .int f_gap, .int f_far])), (q_steps, .inl (cI, 100, .inl r_steps_55)), (htape, .inr (7, [.ref qtape_items, .int ftape_size, .int ftape_came])), (qtape_items, .inl (cI, 100, .inl rtape_items))] H → va_D A [(h, .inr (1, [.ref htape, .ref q_steps, .ref q_words, .ref q_numbers, .ref q_starts, .ref q_ends, .int f_place_55, .int f_stepCount_55, .int f_clauses, .int f_gap, .int f_far])), (q_steps, .inl (cI, 100, .inl r_steps_55)), (htape, .inr (7, [.ref qtape_items, .int ftape_size, .int ftape_came])), (qtape_items, .inl (cI, 100, .inl rtape_items))] → va_S A s.heap H locs → lv_has ls 5 [(0, .ref h), (1, .int a1), (2, .int v2_55), (4, .int v4_55)] → m_X1_readEither_L55 F_X1_readEither F_X1_readFactor ftape_size rtape_items a1 f_place_55 f_stepCount_55 r_steps_55 v2_55 v4_55 K7 Q → W p l e (rmR_A (d + 1)) s m args below meth c H locs 0 0 Z (F0 m 55 ls []) := by
        clear hm
        intro f_place_55 f_stepCount_55 r_steps_55 v2_55 v4_55 H locs ls hP hD hS hl hm
        unfold m_X1_readEither_L55 at hm
        refine lv_aload_n hx hb (dX1_readEither 31 rfl) rfl (lv_at hl 0 rfl) ?_
        refine lv_bipush (v := (124 : Int32)) hx hb (dX1_readEither 32 rfl) (by decide) ?_
        have hcut := ob_cut (wc := [(h, .inr (1, [.ref htape, .ref q_steps, .ref q_words, .ref q_numbers, .ref q_starts, .ref q_ends, .int f_place_55, .int f_stepCount_55, .int f_clauses, .int f_gap, .int f_far])), (htape, .inr (7, [.ref qtape_items, .int ftape_size, .int ftape_came])), (qtape_items, .inl (cI, 100, .inl rtape_items))]) hP hD hS hA [0, 2, 3] rfl (by decide)
        refine ob_i (wr := [(q_steps, .inl (cI, 100, .inl r_steps_55))]) (ob_V (As := [.int (124 : Int32)]) (rest := []) ⟨hx, hb, hml, hown, hts⟩ hK hcut (hI.cut hS hcut.2.2) hN (va_recv hK hP (ci := 1) (q0 := 0) rfl rfl) (k_X1_take l D cI cZ cL im _ _ _ _ _ _ _ _ _ _ _ _ _ _ _ _ _ _ _ hm) (cwV 1 hts (gU_V (inR8 _ (List.mem_of_getElem? (i := 21) rfl)) (inR8 _ (List.mem_of_getElem? (i := 22) rfl)) (inR8 _ (List.mem_of_getElem? (i := 23) rfl)) (inR5 _ (List.mem_of_getElem? (i := 8) rfl)) (inR9 _ (List.mem_of_getElem? (i := 0) rfl))) rfl rfl rfl (by decide +kernel) ⟨(by show 1 + 1 ≤ d + 1 + 20; omega), (by show 8 + (2 + 11) + 21 ≤ 60 * (d + 1) + 400; omega)⟩) rfl hl.1 rfl (Nat.le_of_ble_eq_true rfl) (dX1_readEither 33 rfl) ⟨Nat.zero_le _, Nat.zero_le _⟩) hP hD hS hcut [0, 2, 3] [1] rfl rfl (by decide) (by decide) (fun r18 u19 H locs hm hP hD hS => ?_)
        have hP := hP.sub (ws' := [(h, .inr (1, [.ref htape, .ref q_steps, .ref q_words, .ref q_numbers, .ref q_starts, .ref q_ends, .int u19, .int f_stepCount_55, .int f_clauses, .int f_gap, .int f_far])), (q_steps, .inl (cI, 100, .inl r_steps_55)), (htape, .inr (7, [.ref qtape_items, .int ftape_size, .int ftape_came])), (qtape_items, .inl (cI, 100, .inl rtape_items))]) [1, 0, 2, 3] rfl
        have hD := hD.sub (ws' := [(h, .inr (1, [.ref htape, .ref q_steps, .ref q_words, .ref q_numbers, .ref q_starts, .ref q_ends, .int u19, .int f_stepCount_55, .int f_clauses, .int f_gap, .int f_far])), (q_steps, .inl (cI, 100, .inl r_steps_55)), (htape, .inr (7, [.ref qtape_items, .int ftape_size, .int ftape_came])), (qtape_items, .inl (cI, 100, .inl rtape_items))]) [1, 0, 2, 3] (by decide) rfl
        refine lv_istore_n (lv' := [(3, .int r18), (0, .ref h), (1, .int a1), (2, .int v2_55), (4, .int v4_55)]) hx hb (dX1_readEither 34 rfl) rfl hl (by decide) rfl (fun ls hl => ?_)
        refine lv_iload_n hx hb (dX1_readEither 35 rfl) rfl (lv_at hl 0 rfl) ?_
        refine lv_if_ne (tgt := 68) hx hb (dX1_readEither 36 rfl) (by decide) (fun c21 => ?_) (fun c21 => ?_)
        · replace hm := hm.2 c21
          exact lab68 u19 f_stepCount_55 r_steps_55 v2_55 r18 v4_55 H locs ls hP hD hS (lv_sub hl [1, 2, 3, 0, 4] rfl) hm
        replace hm := hm.1 c21
        refine lv_iconst (v := (1 : Int32)) hx hb (dX1_readEither 37 rfl) (by decide) ?_
        exact hZ (1 : Int32) (u19, f_stepCount_55, r_steps_55) H locs ls 67 hm hP hD hS (dX1_readEither 38 rfl) rfl
      have lab34 : ∀ (f_place_34 : Int32) (f_stepCount_34 : Int32) (r_steps_34 : Nat → Int32) (v3_34 : Int32) (v4_34 : Int32) , ∀ (H : Heap) (locs : List Loc) (ls : Array Slot), va_P D vwCl [(h, .inr (1, [.ref htape, .ref q_steps, .ref q_words, .ref q_numbers, .ref q_starts, .ref q_ends, .int f_place_34, .int f_stepCount_34, .int f_clauses, .int f_gap, .int f_far])), (q_steps, .inl (cI, 100, .inl r_steps_34)), (htape, .inr (7, [.ref qtape_items, .int ftape_size, .int ftape_came])), (qtape_items, .inl (cI, 100, .inl rtape_items))] H → va_D A [(h, .inr (1, [.ref htape, .ref q_steps, .ref q_words, .ref q_numbers, .ref q_starts, .ref q_ends, .int f_place_34, .int f_stepCount_34, .int f_clauses, .int f_gap, .int f_far])), (q_steps, .inl (cI, 100, .inl r_steps_34)), (htape, .inr (7, [.ref qtape_items, .int ftape_size, .int ftape_came])), (qtape_items, .inl (cI, 100, .inl rtape_items))] → va_S A s.heap H locs → lv_has ls 5 [(0, .ref h), (1, .int a1), (3, .int v3_34), (4, .int v4_34)] → m_X1_readEither_L34 F_X1_readEither F_X1_readFactor ftape_size rtape_items a1 f_place_34 f_stepCount_34 r_steps_34 v3_34 v4_34 K7 Q → W p l e (rmR_A (d + 1)) s m args below meth c H locs 0 0 Z (F0 m 34 ls []) := by
        clear hm
        intro f_place_34 f_stepCount_34 r_steps_34 v3_34 v4_34 H locs ls hP hD hS hl hm
        unfold m_X1_readEither_L34 at hm
        refine lv_aload_n hx hb (dX1_readEither 20 rfl) rfl (lv_at hl 0 rfl) ?_
        refine lv_bipush (v := (38 : Int32)) hx hb (dX1_readEither 21 rfl) (by decide) ?_
        have hcut := ob_cut (wc := [(h, .inr (1, [.ref htape, .ref q_steps, .ref q_words, .ref q_numbers, .ref q_starts, .ref q_ends, .int f_place_34, .int f_stepCount_34, .int f_clauses, .int f_gap, .int f_far])), (htape, .inr (7, [.ref qtape_items, .int ftape_size, .int ftape_came])), (qtape_items, .inl (cI, 100, .inl rtape_items))]) hP hD hS hA [0, 2, 3] rfl (by decide)
        refine ob_i (wr := [(q_steps, .inl (cI, 100, .inl r_steps_34))]) (ob_V (As := [.int (38 : Int32)]) (rest := []) ⟨hx, hb, hml, hown, hts⟩ hK hcut (hI.cut hS hcut.2.2) hN (va_recv hK hP (ci := 1) (q0 := 0) rfl rfl) (k_X1_take l D cI cZ cL im _ _ _ _ _ _ _ _ _ _ _ _ _ _ _ _ _ _ _ hm) (cwV 1 hts (gU_V (inR8 _ (List.mem_of_getElem? (i := 21) rfl)) (inR8 _ (List.mem_of_getElem? (i := 22) rfl)) (inR8 _ (List.mem_of_getElem? (i := 23) rfl)) (inR5 _ (List.mem_of_getElem? (i := 8) rfl)) (inR9 _ (List.mem_of_getElem? (i := 0) rfl))) rfl rfl rfl (by decide +kernel) ⟨(by show 1 + 1 ≤ d + 1 + 20; omega), (by show 8 + (2 + 11) + 21 ≤ 60 * (d + 1) + 400; omega)⟩) rfl hl.1 rfl (Nat.le_of_ble_eq_true rfl) (dX1_readEither 22 rfl) ⟨Nat.zero_le _, Nat.zero_le _⟩) hP hD hS hcut [0, 2, 3] [1] rfl rfl (by decide) (by decide) (fun r12 u13 H locs hm hP hD hS => ?_)
        have hP := hP.sub (ws' := [(h, .inr (1, [.ref htape, .ref q_steps, .ref q_words, .ref q_numbers, .ref q_starts, .ref q_ends, .int u13, .int f_stepCount_34, .int f_clauses, .int f_gap, .int f_far])), (q_steps, .inl (cI, 100, .inl r_steps_34)), (htape, .inr (7, [.ref qtape_items, .int ftape_size, .int ftape_came])), (qtape_items, .inl (cI, 100, .inl rtape_items))]) [1, 0, 2, 3] rfl
        have hD := hD.sub (ws' := [(h, .inr (1, [.ref htape, .ref q_steps, .ref q_words, .ref q_numbers, .ref q_starts, .ref q_ends, .int u13, .int f_stepCount_34, .int f_clauses, .int f_gap, .int f_far])), (q_steps, .inl (cI, 100, .inl r_steps_34)), (htape, .inr (7, [.ref qtape_items, .int ftape_size, .int ftape_came])), (qtape_items, .inl (cI, 100, .inl rtape_items))]) [1, 0, 2, 3] (by decide) rfl
        refine lv_istore_n (lv' := [(2, .int r12), (0, .ref h), (1, .int a1), (3, .int v3_34), (4, .int v4_34)]) hx hb (dX1_readEither 23 rfl) rfl hl (by decide) rfl (fun ls hl => ?_)
        refine lv_iload_n hx hb (dX1_readEither 24 rfl) rfl (lv_at hl 0 rfl) ?_
        refine lv_if_ne (tgt := 68) hx hb (dX1_readEither 25 rfl) (by decide) (fun c15 => ?_) (fun c15 => ?_)
        · replace hm := hm.2 c15
          exact lab68 u13 f_stepCount_34 r_steps_34 r12 v3_34 v4_34 H locs ls hP hD hS (lv_sub hl [1, 2, 0, 3, 4] rfl) hm
        replace hm := hm.1 c15
        refine lv_iload_n hx hb (dX1_readEither 26 rfl) rfl (lv_at hl 3 rfl) ?_
        refine lv_if_eq (tgt := 55) hx hb (dX1_readEither 27 rfl) (by decide) (fun c17 => ?_) (fun c17 => ?_)
        · replace hm := hm.1 c17
          exact lab55 u13 f_stepCount_34 r_steps_34 r12 v4_34 H locs ls hP hD hS (lv_sub hl [1, 2, 0, 4] rfl) hm
        replace hm := hm.2 c17
        refine lv_aload_n hx hb (dX1_readEither 28 rfl) rfl (lv_at hl 1 rfl) ?_
        refine lv_bipush (v := (-3 : Int32)) hx hb (dX1_readEither 29 rfl) (by decide) ?_
        have hcut := ob_cut (wc := [(h, .inr (1, [.ref htape, .ref q_steps, .ref q_words, .ref q_numbers, .ref q_starts, .ref q_ends, .int u13, .int f_stepCount_34, .int f_clauses, .int f_gap, .int f_far])), (q_steps, .inl (cI, 100, .inl r_steps_34))]) hP hD hS hA [0, 1] rfl (by decide)
        refine ob_v (wr := [(htape, .inr (7, [.ref qtape_items, .int ftape_size, .int ftape_came])), (qtape_items, .inl (cI, 100, .inl rtape_items))]) (ob_V (As := [.int (-3 : Int32)]) (rest := []) ⟨hx, hb, hml, hown, hts⟩ hK hcut (hI.cut hS hcut.2.2) hN (va_recv hK hP (ci := 1) (q0 := 0) rfl rfl) (k_X1_addStep l D cI cZ cL im _ _ _ _ _ _ _ _ _ _ _ _ _ _ _ _ hm) (cwV 1 hts (gU_V (inR9 _ (List.mem_of_getElem? (i := 15) rfl)) (inR9 _ (List.mem_of_getElem? (i := 16) rfl)) (inR9 _ (List.mem_of_getElem? (i := 17) rfl)) (inR5 _ (List.mem_of_getElem? (i := 8) rfl)) (inR9 _ (List.mem_of_getElem? (i := 18) rfl))) rfl rfl rfl (by decide +kernel) ⟨(by show 0 + 1 ≤ d + 1 + 20; omega), (by show 8 + (2 + 11) + 0 ≤ 60 * (d + 1) + 400; omega)⟩) rfl hl.1 rfl (Nat.le_of_ble_eq_true rfl) (dX1_readEither 30 rfl) ⟨Nat.zero_le _, Nat.zero_le _⟩) hP hD hS hcut [0, 1] [2, 3] rfl rfl (by decide) (by decide) (fun u23 H locs hm hP hD hS => ?_)
        have hP := hP.sub (ws' := [(h, .inr (1, [.ref htape, .ref q_steps, .ref q_words, .ref q_numbers, .ref q_starts, .ref q_ends, .int u13, .int u23.1, .int f_clauses, .int f_gap, .int f_far])), (q_steps, .inl (cI, 100, .inl u23.2)), (htape, .inr (7, [.ref qtape_items, .int ftape_size, .int ftape_came])), (qtape_items, .inl (cI, 100, .inl rtape_items))]) [2, 3, 0, 1] rfl
        have hD := hD.sub (ws' := [(h, .inr (1, [.ref htape, .ref q_steps, .ref q_words, .ref q_numbers, .ref q_starts, .ref q_ends, .int u13, .int u23.1, .int f_clauses, .int f_gap, .int f_far])), (q_steps, .inl (cI, 100, .inl u23.2)), (htape, .inr (7, [.ref qtape_items, .int ftape_size, .int ftape_came])), (qtape_items, .inl (cI, 100, .inl rtape_items))]) [2, 3, 0, 1] (by decide) rfl
        exact lab55 u13 u23.1 u23.2 r12 v4_34 H locs ls hP hD hS (lv_sub hl [1, 2, 0, 4] rfl) hm
      refine lv_iload hx hb (dX1_readEither 6 rfl) (lv_at hl 4 rfl) ?_
      refine lv_bipush (v := (100 : Int32)) hx hb (dX1_readEither 7 rfl) (by decide) ?_
      refine lv_icmp_ge (tgt := 74) hx hb (dX1_readEither 8 rfl) (by decide) (fun c4 => ?_) (fun c4 => ?_)
      · replace hm := hm.1 c4
        refine lv_iconst (v := (0 : Int32)) hx hb (dX1_readEither 41 rfl) (by decide) ?_
        exact hZ (0 : Int32) (f_place_7, f_stepCount_7, r_steps_7) H locs ls 75 hm hP hD hS (dX1_readEither 42 rfl) rfl
      replace hm := hm.2 c4
      refine lv_aload_n hx hb (dX1_readEither 9 rfl) rfl (lv_at hl 0 rfl) ?_
      refine lv_iload_n hx hb (dX1_readEither 10 rfl) rfl (lv_at hl 1 rfl) ?_
      have hcut := ob_cut (wc := [(h, .inr (1, [.ref htape, .ref q_steps, .ref q_words, .ref q_numbers, .ref q_starts, .ref q_ends, .int f_place_7, .int f_stepCount_7, .int f_clauses, .int f_gap, .int f_far])), (q_steps, .inl (cI, 100, .inl r_steps_7)), (htape, .inr (7, [.ref qtape_items, .int ftape_size, .int ftape_came])), (qtape_items, .inl (cI, 100, .inl rtape_items))]) hP hD hS hA [0, 1, 2, 3] rfl (by decide)
      refine ob_i (wr := []) (ob_V (As := [.int a1]) (rest := []) ⟨hx, hb, hml, hown, hts⟩ hK hcut (hI.cut hS hcut.2.2) hN (va_recv hK hP (ci := 1) (q0 := 0) rfl rfl) (hF_X1_readFactor _ _ _ _ _ _ _ _ _ _ _ _ _ _ _ _ _ _ _ _ hm) (cwV 1 hts (gU_V (inR9 _ (List.mem_of_getElem? (i := 12) rfl)) (inR9 _ (List.mem_of_getElem? (i := 13) rfl)) (inR9 _ (List.mem_of_getElem? (i := 14) rfl)) (inR5 _ (List.mem_of_getElem? (i := 8) rfl)) (inR9 _ (List.mem_of_getElem? (i := 19) rfl))) rfl rfl rfl (by decide +kernel) ⟨(by show d + 20 + 1 ≤ d + 1 + 20; omega), (by show 8 + (3 + 11) + (60 * d + 400) ≤ 60 * (d + 1) + 400; omega)⟩) rfl hl.1 rfl (Nat.le_of_ble_eq_true rfl) (dX1_readEither 11 rfl) ⟨Nat.zero_le _, Nat.zero_le _⟩) hP hD hS hcut [0, 1, 2, 3] [] rfl rfl (by decide) (by decide) (fun r5 u6 H locs hm hP hD hS => ?_)
      have hP := hP.sub (ws' := [(h, .inr (1, [.ref htape, .ref q_steps, .ref q_words, .ref q_numbers, .ref q_starts, .ref q_ends, .int u6.1, .int u6.2.1, .int f_clauses, .int f_gap, .int f_far])), (q_steps, .inl (cI, 100, .inl u6.2.2)), (htape, .inr (7, [.ref qtape_items, .int ftape_size, .int ftape_came])), (qtape_items, .inl (cI, 100, .inl rtape_items))]) [0, 1, 2, 3] rfl
      have hD := hD.sub (ws' := [(h, .inr (1, [.ref htape, .ref q_steps, .ref q_words, .ref q_numbers, .ref q_starts, .ref q_ends, .int u6.1, .int u6.2.1, .int f_clauses, .int f_gap, .int f_far])), (q_steps, .inl (cI, 100, .inl u6.2.2)), (htape, .inr (7, [.ref qtape_items, .int ftape_size, .int ftape_came])), (qtape_items, .inl (cI, 100, .inl rtape_items))]) [0, 1, 2, 3] (by decide) rfl
      refine lv_if_ne (tgt := 24) hx hb (dX1_readEither 12 rfl) (by decide) (fun c10 => ?_) (fun c10 => ?_)
      · replace hm := hm.2 c10
        refine lv_iload_n hx hb (dX1_readEither 15 rfl) rfl (lv_at hl 2 rfl) ?_
        refine lv_if_eq (tgt := 34) hx hb (dX1_readEither 16 rfl) (by decide) (fun c11 => ?_) (fun c11 => ?_)
        · replace hm := hm.1 c11
          exact lab34 u6.1 u6.2.1 u6.2.2 v3_7 v4_7 H locs ls hP hD hS (lv_sub hl [0, 1, 3, 4] rfl) hm
        replace hm := hm.2 c11
        refine lv_aload_n hx hb (dX1_readEither 17 rfl) rfl (lv_at hl 0 rfl) ?_
        refine lv_bipush (v := (-2 : Int32)) hx hb (dX1_readEither 18 rfl) (by decide) ?_
        have hcut := ob_cut (wc := [(h, .inr (1, [.ref htape, .ref q_steps, .ref q_words, .ref q_numbers, .ref q_starts, .ref q_ends, .int u6.1, .int u6.2.1, .int f_clauses, .int f_gap, .int f_far])), (q_steps, .inl (cI, 100, .inl u6.2.2))]) hP hD hS hA [0, 1] rfl (by decide)
        refine ob_v (wr := [(htape, .inr (7, [.ref qtape_items, .int ftape_size, .int ftape_came])), (qtape_items, .inl (cI, 100, .inl rtape_items))]) (ob_V (As := [.int (-2 : Int32)]) (rest := []) ⟨hx, hb, hml, hown, hts⟩ hK hcut (hI.cut hS hcut.2.2) hN (va_recv hK hP (ci := 1) (q0 := 0) rfl rfl) (k_X1_addStep l D cI cZ cL im _ _ _ _ _ _ _ _ _ _ _ _ _ _ _ _ hm) (cwV 1 hts (gU_V (inR9 _ (List.mem_of_getElem? (i := 15) rfl)) (inR9 _ (List.mem_of_getElem? (i := 16) rfl)) (inR9 _ (List.mem_of_getElem? (i := 17) rfl)) (inR5 _ (List.mem_of_getElem? (i := 8) rfl)) (inR9 _ (List.mem_of_getElem? (i := 18) rfl))) rfl rfl rfl (by decide +kernel) ⟨(by show 0 + 1 ≤ d + 1 + 20; omega), (by show 8 + (2 + 11) + 0 ≤ 60 * (d + 1) + 400; omega)⟩) rfl hl.1 rfl (Nat.le_of_ble_eq_true rfl) (dX1_readEither 19 rfl) ⟨Nat.zero_le _, Nat.zero_le _⟩) hP hD hS hcut [0, 1] [2, 3] rfl rfl (by decide) (by decide) (fun u27 H locs hm hP hD hS => ?_)
        have hP := hP.sub (ws' := [(h, .inr (1, [.ref htape, .ref q_steps, .ref q_words, .ref q_numbers, .ref q_starts, .ref q_ends, .int u6.1, .int u27.1, .int f_clauses, .int f_gap, .int f_far])), (q_steps, .inl (cI, 100, .inl u27.2)), (htape, .inr (7, [.ref qtape_items, .int ftape_size, .int ftape_came])), (qtape_items, .inl (cI, 100, .inl rtape_items))]) [2, 3, 0, 1] rfl
        have hD := hD.sub (ws' := [(h, .inr (1, [.ref htape, .ref q_steps, .ref q_words, .ref q_numbers, .ref q_starts, .ref q_ends, .int u6.1, .int u27.1, .int f_clauses, .int f_gap, .int f_far])), (q_steps, .inl (cI, 100, .inl u27.2)), (htape, .inr (7, [.ref qtape_items, .int ftape_size, .int ftape_came])), (qtape_items, .inl (cI, 100, .inl rtape_items))]) [2, 3, 0, 1] (by decide) rfl
        exact lab34 u6.1 u27.1 u27.2 v3_7 v4_7 H locs ls hP hD hS (lv_sub hl [0, 1, 3, 4] rfl) hm
      replace hm := hm.1 c10
      refine lv_iconst (v := (0 : Int32)) hx hb (dX1_readEither 13 rfl) (by decide) ?_
      exact hZ (0 : Int32) (u6.1, u6.2.1, u6.2.2) H locs ls 23 hm hP hD hS (dX1_readEither 14 rfl) rfl
  obtain ⟨H, hH⟩ : ∃ H, H = s.heap := ⟨_, rfl⟩
  obtain ⟨locs, hlo⟩ : ∃ q : List Loc, q = [] := ⟨_, rfl⟩
  suffices hgo : W p l e (rmR_A (d + 1)) s m args below meth c H locs 0 0 Z (F0 m 0 ls []) by rw [hH, hlo] at hgo; exact hgo
  have hP : va_P D vwCl [(h, .inr (1, [.ref htape, .ref q_steps, .ref q_words, .ref q_numbers, .ref q_starts, .ref q_ends, .int f_place, .int f_stepCount, .int f_clauses, .int f_gap, .int f_far])), (q_steps, .inl (cI, 100, .inl r_steps)), (htape, .inr (7, [.ref qtape_items, .int ftape_size, .int ftape_came])), (qtape_items, .inl (cI, 100, .inl rtape_items))] H := by rw [hH]; exact hP
  have hD : va_D A [(h, .inr (1, [.ref htape, .ref q_steps, .ref q_words, .ref q_numbers, .ref q_starts, .ref q_ends, .int f_place, .int f_stepCount, .int f_clauses, .int f_gap, .int f_far])), (q_steps, .inl (cI, 100, .inl r_steps)), (htape, .inr (7, [.ref qtape_items, .int ftape_size, .int ftape_came])), (qtape_items, .inl (cI, 100, .inl rtape_items))] := hD
  have hS : va_S A s.heap H locs := by rw [hH, hlo]; exact hS
  refine lv_iconst (v := (0 : Int32)) hx hb (dX1_readEither 0 rfl) (by decide) ?_
  refine lv_topi (fun x1 ex1 => ?_)
  replace hm := hm x1 ex1
  refine lv_istore_n (lv' := [(2, .int x1), (0, .ref h), (1, .int a1)]) hx hb (dX1_readEither 1 rfl) rfl hl (by decide) rfl (fun ls hl => ?_)
  refine lv_iconst (v := (0 : Int32)) hx hb (dX1_readEither 2 rfl) (by decide) ?_
  refine lv_topi (fun x2 ex2 => ?_)
  replace hm := hm x2 ex2
  refine lv_istore_n (lv' := [(3, .int x2), (2, .int x1), (0, .ref h), (1, .int a1)]) hx hb (dX1_readEither 3 rfl) rfl hl (by decide) rfl (fun ls hl => ?_)
  refine lv_iconst (v := (0 : Int32)) hx hb (dX1_readEither 4 rfl) (by decide) ?_
  refine lv_topi (fun x3 ex3 => ?_)
  replace hm := hm x3 ex3
  refine lv_istore (lv' := [(4, .int x3), (3, .int x2), (2, .int x1), (0, .ref h), (1, .int a1)]) hx hb (dX1_readEither 5 rfl) hl (by decide) rfl (fun ls hl => ?_)
  obtain ⟨n30, hm⟩ := hm
  exact lab7 n30 f_place f_stepCount r_steps x1 x2 x3 H locs ls hP hD hS (lv_sub hl [3, 4, 2, 1, 0] rfl) hm
set_option maxHeartbeats 4000000 in
set_option maxRecDepth 100000 in
theorem st_X1_readFactor (l : Launch) (D : va_G) (cI cZ cL : ClassId) (im : obIM) (F_X1_readEither : Int32 → Int32 → (Nat → Int32) → Int32 → (Nat → Int32) → Int32 → (Int32 → Int32 → Int32 → (Nat → Int32) → Prop) → Prop) (F_X1_readFactor : Int32 → Int32 → (Nat → Int32) → Int32 → (Nat → Int32) → Int32 → (Int32 → Int32 → Int32 → (Nat → Int32) → Prop) → Prop) (d : Nat) (hF_X1_readEither : CR_X1_readEither l D cI cZ cL im F_X1_readEither d) (hF_X1_readFactor : CR_X1_readFactor l D cI cZ cL im F_X1_readFactor d) : CR_X1_readFactor l D cI cZ cL im (mB_X1_readFactor F_X1_readEither F_X1_readFactor) (d + 1) := by
  intro sz h htape q_steps q_words q_numbers q_starts q_ends f_place f_stepCount f_clauses f_gap f_far r_steps qtape_items ftape_size ftape_came rtape_items a1 Q hm
  refine ob_met_i (cc := cX1_readFactor) (maxL := 3) (by decide) (Nat.le_of_ble_eq_true rfl) (fun p e s m args below meth c A Z hx hb hml hown hts hnm hN hK hA hI hP hD hS hZ ls hl => ?_)
  have hl : lv_has ls 3 [(0, .ref h), (1, .int a1)] := hl
  unfold mB_X1_readFactor at hm
  have lab29 : ∀ (f_place_29 : Int32) (f_stepCount_29 : Int32) (r_steps_29 : Nat → Int32) (v2_29 : Int32) , ∀ (H : Heap) (locs : List Loc) (ls : Array Slot), va_P D vwCl [(h, .inr (1, [.ref htape, .ref q_steps, .ref q_words, .ref q_numbers, .ref q_starts, .ref q_ends, .int f_place_29, .int f_stepCount_29, .int f_clauses, .int f_gap, .int f_far])), (q_steps, .inl (cI, 100, .inl r_steps_29)), (htape, .inr (7, [.ref qtape_items, .int ftape_size, .int ftape_came])), (qtape_items, .inl (cI, 100, .inl rtape_items))] H → va_D A [(h, .inr (1, [.ref htape, .ref q_steps, .ref q_words, .ref q_numbers, .ref q_starts, .ref q_ends, .int f_place_29, .int f_stepCount_29, .int f_clauses, .int f_gap, .int f_far])), (q_steps, .inl (cI, 100, .inl r_steps_29)), (htape, .inr (7, [.ref qtape_items, .int ftape_size, .int ftape_came])), (qtape_items, .inl (cI, 100, .inl rtape_items))] → va_S A s.heap H locs → lv_has ls 3 [(0, .ref h), (1, .int a1), (2, .int v2_29)] → m_X1_readFactor_L29 F_X1_readEither F_X1_readFactor ftape_size rtape_items a1 f_place_29 f_stepCount_29 r_steps_29 v2_29 Q → W p l e (rmR_A (d + 1)) s m args below meth c H locs 0 0 Z (F0 m 29 ls []) := by
    clear hm
    intro f_place_29 f_stepCount_29 r_steps_29 v2_29 H locs ls hP hD hS hl hm
    unfold m_X1_readFactor_L29 at hm
    refine lv_iload_n hx hb (dX1_readFactor 15 rfl) rfl (lv_at hl 1 rfl) ?_
    refine lv_iconst (v := (5 : Int32)) hx hb (dX1_readFactor 16 rfl) (by decide) ?_
    refine lv_icmp_lt (tgt := 36) hx hb (dX1_readFactor 17 rfl) (by decide) (fun c4 => ?_) (fun c4 => ?_)
    · replace hm := hm.1 c4
      refine lv_aload_n hx hb (dX1_readFactor 20 rfl) rfl (lv_at hl 0 rfl) ?_
      refine lv_dup hx hb (dX1_readFactor 21 rfl) rfl ?_
      refine va_get (D := D) (ci := 1) (v := .int f_place_29) (C := RX1) (T := TX1) (N := 11) hx hb hts inlX1 hown hK hP 0 rfl rfl 6 (by decide) (hts (.fieldLink RX1 42 "OverBacks$Field" "place" "I") (inR6 _ (List.mem_of_getElem? (i := 1) rfl))) (fun _ h9 => h9) rfl (dX1_readFactor 22 rfl) ?_
      refine lv_iconst (v := (1 : Int32)) hx hb (dX1_readFactor 23 rfl) (by decide) ?_
      refine lv_iadd hx hb (dX1_readFactor 24 rfl) ?_
      refine va_put (D := D) (ci := 1) (v := .int (f_place_29 + (1 : Int32))) (ty := .int) (C := RX1) (T := TX1) (N := 11) hx hb hts inlX1 tyX1 tyX1_ok nmX1 hown hK hP hD hS 0 rfl rfl 6 (by decide) (hts (.fieldLink RX1 42 "OverBacks$Field" "place" "I") (inR6 _ (List.mem_of_getElem? (i := 1) rfl))) (fun _ h9 => h9) rfl (by decide +kernel) rfl rfl (Nat.le_of_ble_eq_true rfl) (dX1_readFactor 25 rfl) (fun H locs hP hD hS => ?_)
      have hP : va_P D vwCl [(h, .inr (1, [.ref htape, .ref q_steps, .ref q_words, .ref q_numbers, .ref q_starts, .ref q_ends, .int (f_place_29 + (1 : Int32)), .int f_stepCount_29, .int f_clauses, .int f_gap, .int f_far])), (q_steps, .inl (cI, 100, .inl r_steps_29)), (htape, .inr (7, [.ref qtape_items, .int ftape_size, .int ftape_came])), (qtape_items, .inl (cI, 100, .inl rtape_items))] H := hP
      have hD : va_D A [(h, .inr (1, [.ref htape, .ref q_steps, .ref q_words, .ref q_numbers, .ref q_starts, .ref q_ends, .int (f_place_29 + (1 : Int32)), .int f_stepCount_29, .int f_clauses, .int f_gap, .int f_far])), (q_steps, .inl (cI, 100, .inl r_steps_29)), (htape, .inr (7, [.ref qtape_items, .int ftape_size, .int ftape_came])), (qtape_items, .inl (cI, 100, .inl rtape_items))] := hD
      refine lv_iload_n hx hb (dX1_readFactor 26 rfl) rfl (lv_at hl 2 rfl) ?_
      refine lv_bipush (v := (40 : Int32)) hx hb (dX1_readFactor 27 rfl) (by decide) ?_
      refine lv_icmp_ne (tgt := 77) hx hb (dX1_readFactor 28 rfl) (by decide) (fun c5 => ?_) (fun c5 => ?_)
      · replace hm := hm.2 c5
        refine lv_aload_n hx hb (dX1_readFactor 43 rfl) rfl (lv_at hl 0 rfl) ?_
        refine lv_iload_n hx hb (dX1_readFactor 44 rfl) rfl (lv_at hl 1 rfl) ?_
        refine lv_iconst (v := (1 : Int32)) hx hb (dX1_readFactor 45 rfl) (by decide) ?_
        refine lv_iadd hx hb (dX1_readFactor 46 rfl) ?_
        have hcut := ob_cut (wc := [(h, .inr (1, [.ref htape, .ref q_steps, .ref q_words, .ref q_numbers, .ref q_starts, .ref q_ends, .int (f_place_29 + (1 : Int32)), .int f_stepCount_29, .int f_clauses, .int f_gap, .int f_far])), (q_steps, .inl (cI, 100, .inl r_steps_29)), (htape, .inr (7, [.ref qtape_items, .int ftape_size, .int ftape_came])), (qtape_items, .inl (cI, 100, .inl rtape_items))]) hP hD hS hA [0, 1, 2, 3] rfl (by decide)
        refine ob_i (wr := []) (ob_V (As := [.int (a1 + (1 : Int32))]) (rest := []) ⟨hx, hb, hml, hown, hts⟩ hK hcut (hI.cut hS hcut.2.2) hN (va_recv hK hP (ci := 1) (q0 := 0) rfl rfl) (hF_X1_readFactor _ _ _ _ _ _ _ _ _ _ _ _ _ _ _ _ _ _ _ _ hm) (cwV 1 hts (gU_V (inR9 _ (List.mem_of_getElem? (i := 12) rfl)) (inR9 _ (List.mem_of_getElem? (i := 13) rfl)) (inR9 _ (List.mem_of_getElem? (i := 14) rfl)) (inR5 _ (List.mem_of_getElem? (i := 8) rfl)) (inR9 _ (List.mem_of_getElem? (i := 19) rfl))) rfl rfl rfl (by decide +kernel) ⟨(by show d + 20 + 1 ≤ d + 1 + 20; omega), (by show 8 + (3 + 11) + (60 * d + 400) ≤ 60 * (d + 1) + 400; omega)⟩) rfl hl.1 rfl (Nat.le_of_ble_eq_true rfl) (dX1_readFactor 47 rfl) ⟨Nat.zero_le _, Nat.zero_le _⟩) hP hD hS hcut [0, 1, 2, 3] [] rfl rfl (by decide) (by decide) (fun r6 u7 H locs hm hP hD hS => ?_)
        have hP := hP.sub (ws' := [(h, .inr (1, [.ref htape, .ref q_steps, .ref q_words, .ref q_numbers, .ref q_starts, .ref q_ends, .int u7.1, .int u7.2.1, .int f_clauses, .int f_gap, .int f_far])), (q_steps, .inl (cI, 100, .inl u7.2.2)), (htape, .inr (7, [.ref qtape_items, .int ftape_size, .int ftape_came])), (qtape_items, .inl (cI, 100, .inl rtape_items))]) [0, 1, 2, 3] rfl
        have hD := hD.sub (ws' := [(h, .inr (1, [.ref htape, .ref q_steps, .ref q_words, .ref q_numbers, .ref q_starts, .ref q_ends, .int u7.1, .int u7.2.1, .int f_clauses, .int f_gap, .int f_far])), (q_steps, .inl (cI, 100, .inl u7.2.2)), (htape, .inr (7, [.ref qtape_items, .int ftape_size, .int ftape_came])), (qtape_items, .inl (cI, 100, .inl rtape_items))]) [0, 1, 2, 3] (by decide) rfl
        refine lv_if_ne (tgt := 89) hx hb (dX1_readFactor 48 rfl) (by decide) (fun c11 => ?_) (fun c11 => ?_)
        · replace hm := hm.2 c11
          refine lv_aload_n hx hb (dX1_readFactor 51 rfl) rfl (lv_at hl 0 rfl) ?_
          refine lv_iconst (v := (-1 : Int32)) hx hb (dX1_readFactor 52 rfl) (by decide) ?_
          have hcut := ob_cut (wc := [(h, .inr (1, [.ref htape, .ref q_steps, .ref q_words, .ref q_numbers, .ref q_starts, .ref q_ends, .int u7.1, .int u7.2.1, .int f_clauses, .int f_gap, .int f_far])), (q_steps, .inl (cI, 100, .inl u7.2.2))]) hP hD hS hA [0, 1] rfl (by decide)
          refine ob_v (wr := [(htape, .inr (7, [.ref qtape_items, .int ftape_size, .int ftape_came])), (qtape_items, .inl (cI, 100, .inl rtape_items))]) (ob_V (As := [.int (-1 : Int32)]) (rest := []) ⟨hx, hb, hml, hown, hts⟩ hK hcut (hI.cut hS hcut.2.2) hN (va_recv hK hP (ci := 1) (q0 := 0) rfl rfl) (k_X1_addStep l D cI cZ cL im _ _ _ _ _ _ _ _ _ _ _ _ _ _ _ _ hm) (cwV 1 hts (gU_V (inR9 _ (List.mem_of_getElem? (i := 15) rfl)) (inR9 _ (List.mem_of_getElem? (i := 16) rfl)) (inR9 _ (List.mem_of_getElem? (i := 17) rfl)) (inR5 _ (List.mem_of_getElem? (i := 8) rfl)) (inR9 _ (List.mem_of_getElem? (i := 18) rfl))) rfl rfl rfl (by decide +kernel) ⟨(by show 0 + 1 ≤ d + 1 + 20; omega), (by show 8 + (2 + 11) + 0 ≤ 60 * (d + 1) + 400; omega)⟩) rfl hl.1 rfl (Nat.le_of_ble_eq_true rfl) (dX1_readFactor 53 rfl) ⟨Nat.zero_le _, Nat.zero_le _⟩) hP hD hS hcut [0, 1] [2, 3] rfl rfl (by decide) (by decide) (fun u13 H locs hm hP hD hS => ?_)
          have hP := hP.sub (ws' := [(h, .inr (1, [.ref htape, .ref q_steps, .ref q_words, .ref q_numbers, .ref q_starts, .ref q_ends, .int u7.1, .int u13.1, .int f_clauses, .int f_gap, .int f_far])), (q_steps, .inl (cI, 100, .inl u13.2)), (htape, .inr (7, [.ref qtape_items, .int ftape_size, .int ftape_came])), (qtape_items, .inl (cI, 100, .inl rtape_items))]) [2, 3, 0, 1] rfl
          have hD := hD.sub (ws' := [(h, .inr (1, [.ref htape, .ref q_steps, .ref q_words, .ref q_numbers, .ref q_starts, .ref q_ends, .int u7.1, .int u13.1, .int f_clauses, .int f_gap, .int f_far])), (q_steps, .inl (cI, 100, .inl u13.2)), (htape, .inr (7, [.ref qtape_items, .int ftape_size, .int ftape_came])), (qtape_items, .inl (cI, 100, .inl rtape_items))]) [2, 3, 0, 1] (by decide) rfl
          refine lv_iconst (v := (1 : Int32)) hx hb (dX1_readFactor 54 rfl) (by decide) ?_
          exact hZ (1 : Int32) (u7.1, u13.1, u13.2) H locs ls 95 hm hP hD hS (dX1_readFactor 55 rfl) rfl
        replace hm := hm.1 c11
        refine lv_iconst (v := (0 : Int32)) hx hb (dX1_readFactor 49 rfl) (by decide) ?_
        exact hZ (0 : Int32) (u7.1, u7.2.1, u7.2.2) H locs ls 88 hm hP hD hS (dX1_readFactor 50 rfl) rfl
      replace hm := hm.1 c5
      refine lv_aload_n hx hb (dX1_readFactor 29 rfl) rfl (lv_at hl 0 rfl) ?_
      refine lv_iload_n hx hb (dX1_readFactor 30 rfl) rfl (lv_at hl 1 rfl) ?_
      refine lv_iconst (v := (1 : Int32)) hx hb (dX1_readFactor 31 rfl) (by decide) ?_
      refine lv_iadd hx hb (dX1_readFactor 32 rfl) ?_
      have hcut := ob_cut (wc := [(h, .inr (1, [.ref htape, .ref q_steps, .ref q_words, .ref q_numbers, .ref q_starts, .ref q_ends, .int (f_place_29 + (1 : Int32)), .int f_stepCount_29, .int f_clauses, .int f_gap, .int f_far])), (q_steps, .inl (cI, 100, .inl r_steps_29)), (htape, .inr (7, [.ref qtape_items, .int ftape_size, .int ftape_came])), (qtape_items, .inl (cI, 100, .inl rtape_items))]) hP hD hS hA [0, 1, 2, 3] rfl (by decide)
      refine ob_i (wr := []) (ob_V (As := [.int (a1 + (1 : Int32))]) (rest := []) ⟨hx, hb, hml, hown, hts⟩ hK hcut (hI.cut hS hcut.2.2) hN (va_recv hK hP (ci := 1) (q0 := 0) rfl rfl) (hF_X1_readEither _ _ _ _ _ _ _ _ _ _ _ _ _ _ _ _ _ _ _ _ hm) (cwV 1 hts (gU_V (inR9 _ (List.mem_of_getElem? (i := 8) rfl)) (inR9 _ (List.mem_of_getElem? (i := 9) rfl)) (inR9 _ (List.mem_of_getElem? (i := 10) rfl)) (inR5 _ (List.mem_of_getElem? (i := 8) rfl)) (inR9 _ (List.mem_of_getElem? (i := 11) rfl))) rfl rfl rfl (by decide +kernel) ⟨(by show d + 20 + 1 ≤ d + 1 + 20; omega), (by show 8 + (5 + 11) + (60 * d + 400) ≤ 60 * (d + 1) + 400; omega)⟩) rfl hl.1 rfl (Nat.le_of_ble_eq_true rfl) (dX1_readFactor 33 rfl) ⟨Nat.zero_le _, Nat.zero_le _⟩) hP hD hS hcut [0, 1, 2, 3] [] rfl rfl (by decide) (by decide) (fun r16 u17 H locs hm hP hD hS => ?_)
      have hP := hP.sub (ws' := [(h, .inr (1, [.ref htape, .ref q_steps, .ref q_words, .ref q_numbers, .ref q_starts, .ref q_ends, .int u17.1, .int u17.2.1, .int f_clauses, .int f_gap, .int f_far])), (q_steps, .inl (cI, 100, .inl u17.2.2)), (htape, .inr (7, [.ref qtape_items, .int ftape_size, .int ftape_came])), (qtape_items, .inl (cI, 100, .inl rtape_items))]) [0, 1, 2, 3] rfl
      have hD := hD.sub (ws' := [(h, .inr (1, [.ref htape, .ref q_steps, .ref q_words, .ref q_numbers, .ref q_starts, .ref q_ends, .int u17.1, .int u17.2.1, .int f_clauses, .int f_gap, .int f_far])), (q_steps, .inl (cI, 100, .inl u17.2.2)), (htape, .inr (7, [.ref qtape_items, .int ftape_size, .int ftape_came])), (qtape_items, .inl (cI, 100, .inl rtape_items))]) [0, 1, 2, 3] (by decide) rfl
      refine lv_if_eq (tgt := 75) hx hb (dX1_readFactor 34 rfl) (by decide) (fun c21 => ?_) (fun c21 => ?_)
      · replace hm := hm.1 c21
        refine lv_iconst (v := (0 : Int32)) hx hb (dX1_readFactor 41 rfl) (by decide) ?_
        exact hZ (0 : Int32) (u17.1, u17.2.1, u17.2.2) H locs ls 76 hm hP hD hS (dX1_readFactor 42 rfl) rfl
      replace hm := hm.2 c21
      refine lv_aload_n hx hb (dX1_readFactor 35 rfl) rfl (lv_at hl 0 rfl) ?_
      refine lv_bipush (v := (41 : Int32)) hx hb (dX1_readFactor 36 rfl) (by decide) ?_
      have hcut := ob_cut (wc := [(h, .inr (1, [.ref htape, .ref q_steps, .ref q_words, .ref q_numbers, .ref q_starts, .ref q_ends, .int u17.1, .int u17.2.1, .int f_clauses, .int f_gap, .int f_far])), (htape, .inr (7, [.ref qtape_items, .int ftape_size, .int ftape_came])), (qtape_items, .inl (cI, 100, .inl rtape_items))]) hP hD hS hA [0, 2, 3] rfl (by decide)
      refine ob_i (wr := [(q_steps, .inl (cI, 100, .inl u17.2.2))]) (ob_V (As := [.int (41 : Int32)]) (rest := []) ⟨hx, hb, hml, hown, hts⟩ hK hcut (hI.cut hS hcut.2.2) hN (va_recv hK hP (ci := 1) (q0 := 0) rfl rfl) (k_X1_take l D cI cZ cL im _ _ _ _ _ _ _ _ _ _ _ _ _ _ _ _ _ _ _ hm) (cwV 1 hts (gU_V (inR8 _ (List.mem_of_getElem? (i := 21) rfl)) (inR8 _ (List.mem_of_getElem? (i := 22) rfl)) (inR8 _ (List.mem_of_getElem? (i := 23) rfl)) (inR5 _ (List.mem_of_getElem? (i := 8) rfl)) (inR9 _ (List.mem_of_getElem? (i := 0) rfl))) rfl rfl rfl (by decide +kernel) ⟨(by show 1 + 1 ≤ d + 1 + 20; omega), (by show 8 + (2 + 11) + 21 ≤ 60 * (d + 1) + 400; omega)⟩) rfl hl.1 rfl (Nat.le_of_ble_eq_true rfl) (dX1_readFactor 37 rfl) ⟨Nat.zero_le _, Nat.zero_le _⟩) hP hD hS hcut [0, 2, 3] [1] rfl rfl (by decide) (by decide) (fun r22 u23 H locs hm hP hD hS => ?_)
      have hP := hP.sub (ws' := [(h, .inr (1, [.ref htape, .ref q_steps, .ref q_words, .ref q_numbers, .ref q_starts, .ref q_ends, .int u23, .int u17.2.1, .int f_clauses, .int f_gap, .int f_far])), (q_steps, .inl (cI, 100, .inl u17.2.2)), (htape, .inr (7, [.ref qtape_items, .int ftape_size, .int ftape_came])), (qtape_items, .inl (cI, 100, .inl rtape_items))]) [1, 0, 2, 3] rfl
      have hD := hD.sub (ws' := [(h, .inr (1, [.ref htape, .ref q_steps, .ref q_words, .ref q_numbers, .ref q_starts, .ref q_ends, .int u23, .int u17.2.1, .int f_clauses, .int f_gap, .int f_far])), (q_steps, .inl (cI, 100, .inl u17.2.2)), (htape, .inr (7, [.ref qtape_items, .int ftape_size, .int ftape_came])), (qtape_items, .inl (cI, 100, .inl rtape_items))]) [1, 0, 2, 3] (by decide) rfl
      refine lv_if_eq (tgt := 75) hx hb (dX1_readFactor 38 rfl) (by decide) (fun c25 => ?_) (fun c25 => ?_)
      · replace hm := hm.1 c25
        refine lv_iconst (v := (0 : Int32)) hx hb (dX1_readFactor 41 rfl) (by decide) ?_
        exact hZ (0 : Int32) (u23, u17.2.1, u17.2.2) H locs ls 76 hm hP hD hS (dX1_readFactor 42 rfl) rfl
      replace hm := hm.2 c25
      refine lv_iconst (v := (1 : Int32)) hx hb (dX1_readFactor 39 rfl) (by decide) ?_
      refine lv_goto (tgt := 76) hx hb (dX1_readFactor 40 rfl) (by decide) ?_
      exact hZ (1 : Int32) (u23, u17.2.1, u17.2.2) H locs ls 76 hm hP hD hS (dX1_readFactor 42 rfl) rfl
    replace hm := hm.2 c4
    refine lv_iconst (v := (0 : Int32)) hx hb (dX1_readFactor 18 rfl) (by decide) ?_
    exact hZ (0 : Int32) (f_place_29, f_stepCount_29, r_steps_29) H locs ls 35 hm hP hD hS (dX1_readFactor 19 rfl) rfl
  obtain ⟨H, hH⟩ : ∃ H, H = s.heap := ⟨_, rfl⟩
  obtain ⟨locs, hlo⟩ : ∃ q : List Loc, q = [] := ⟨_, rfl⟩
  suffices hgo : W p l e (rmR_A (d + 1)) s m args below meth c H locs 0 0 Z (F0 m 0 ls []) by rw [hH, hlo] at hgo; exact hgo
  have hP : va_P D vwCl [(h, .inr (1, [.ref htape, .ref q_steps, .ref q_words, .ref q_numbers, .ref q_starts, .ref q_ends, .int f_place, .int f_stepCount, .int f_clauses, .int f_gap, .int f_far])), (q_steps, .inl (cI, 100, .inl r_steps)), (htape, .inr (7, [.ref qtape_items, .int ftape_size, .int ftape_came])), (qtape_items, .inl (cI, 100, .inl rtape_items))] H := by rw [hH]; exact hP
  have hD : va_D A [(h, .inr (1, [.ref htape, .ref q_steps, .ref q_words, .ref q_numbers, .ref q_starts, .ref q_ends, .int f_place, .int f_stepCount, .int f_clauses, .int f_gap, .int f_far])), (q_steps, .inl (cI, 100, .inl r_steps)), (htape, .inr (7, [.ref qtape_items, .int ftape_size, .int ftape_came])), (qtape_items, .inl (cI, 100, .inl rtape_items))] := hD
  have hS : va_S A s.heap H locs := by rw [hH, hlo]; exact hS
  refine lv_aload_n hx hb (dX1_readFactor 0 rfl) rfl (lv_at hl 0 rfl) ?_
  refine va_get (D := D) (ci := 1) (v := .ref htape) (C := RX1) (T := TX1) (N := 11) hx hb hts inlX1 hown hK hP 0 rfl rfl 0 (by decide) (hts (.fieldLink RX1 9 "OverBacks$Field" "tape" "LOverBacks$Numbers;") (inR5 _ (List.mem_of_getElem? (i := 13) rfl))) (fun _ h9 => h9) rfl (dX1_readFactor 1 rfl) ?_
  refine lv_aload_n hx hb (dX1_readFactor 2 rfl) rfl (lv_at hl 0 rfl) ?_
  refine va_get (D := D) (ci := 1) (v := .int f_place) (C := RX1) (T := TX1) (N := 11) hx hb hts inlX1 hown hK hP 0 rfl rfl 6 (by decide) (hts (.fieldLink RX1 42 "OverBacks$Field" "place" "I") (inR6 _ (List.mem_of_getElem? (i := 1) rfl))) (fun _ h9 => h9) rfl (dX1_readFactor 3 rfl) ?_
  have hcut := ob_cut (wc := [(htape, .inr (7, [.ref qtape_items, .int ftape_size, .int ftape_came])), (qtape_items, .inl (cI, 100, .inl rtape_items))]) hP hD hS hA [2, 3] rfl (by decide)
  refine ob_i (wr := [(h, .inr (1, [.ref htape, .ref q_steps, .ref q_words, .ref q_numbers, .ref q_starts, .ref q_ends, .int f_place, .int f_stepCount, .int f_clauses, .int f_gap, .int f_far])), (q_steps, .inl (cI, 100, .inl r_steps))]) (ob_V (As := [.int f_place]) (rest := []) ⟨hx, hb, hml, hown, hts⟩ hK hcut (hI.cut hS hcut.2.2) hN (va_recv hK hP (ci := 7) (q0 := 2) rfl rfl) (k_X7_at l D cI cZ cL im _ _ _ _ _ _ _ _ _ hm) (cwV 1 hts (gU_V (inR6 _ (List.mem_of_getElem? (i := 12) rfl)) (inR6 _ (List.mem_of_getElem? (i := 13) rfl)) (inR6 _ (List.mem_of_getElem? (i := 14) rfl)) (inR1 _ (List.mem_of_getElem? (i := 23) rfl)) (inR6 _ (List.mem_of_getElem? (i := 15) rfl))) rfl rfl rfl (by decide +kernel) ⟨(by show 0 + 1 ≤ d + 1 + 20; omega), (by show 8 + (2 + 11) + 0 ≤ 60 * (d + 1) + 400; omega)⟩) rfl hl.1 rfl (Nat.le_of_ble_eq_true rfl) (dX1_readFactor 4 rfl) ⟨Nat.zero_le _, Nat.zero_le _⟩) hP hD hS hcut [2, 3] [0, 1] rfl rfl (by decide) (by decide) (fun r1 u2 H locs hm hP hD hS => ?_)
  have hP := hP.sub (ws' := [(h, .inr (1, [.ref htape, .ref q_steps, .ref q_words, .ref q_numbers, .ref q_starts, .ref q_ends, .int f_place, .int f_stepCount, .int f_clauses, .int f_gap, .int f_far])), (q_steps, .inl (cI, 100, .inl r_steps)), (htape, .inr (7, [.ref qtape_items, .int ftape_size, .int ftape_came])), (qtape_items, .inl (cI, 100, .inl rtape_items))]) [0, 1, 2, 3] rfl
  have hD := hD.sub (ws' := [(h, .inr (1, [.ref htape, .ref q_steps, .ref q_words, .ref q_numbers, .ref q_starts, .ref q_ends, .int f_place, .int f_stepCount, .int f_clauses, .int f_gap, .int f_far])), (q_steps, .inl (cI, 100, .inl r_steps)), (htape, .inr (7, [.ref qtape_items, .int ftape_size, .int ftape_came])), (qtape_items, .inl (cI, 100, .inl rtape_items))]) [0, 1, 2, 3] (by decide) rfl
  refine lv_istore_n (lv' := [(2, .int r1), (0, .ref h), (1, .int a1)]) hx hb (dX1_readFactor 5 rfl) rfl hl (by decide) rfl (fun ls hl => ?_)
  refine lv_iload_n hx hb (dX1_readFactor 6 rfl) rfl (lv_at hl 0 rfl) ?_
  refine lv_bipush (v := (33 : Int32)) hx hb (dX1_readFactor 7 rfl) (by decide) ?_
  refine lv_icmp_eq (tgt := 29) hx hb (dX1_readFactor 8 rfl) (by decide) (fun c3 => ?_) (fun c3 => ?_)
  · replace hm := hm.1 c3
    exact lab29 f_place f_stepCount r_steps r1 H locs ls hP hD hS (lv_sub hl [1, 2, 0] rfl) hm
  replace hm := hm.2 c3
  refine lv_iload_n hx hb (dX1_readFactor 9 rfl) rfl (lv_at hl 0 rfl) ?_
  refine lv_bipush (v := (40 : Int32)) hx hb (dX1_readFactor 10 rfl) (by decide) ?_
  refine lv_icmp_eq (tgt := 29) hx hb (dX1_readFactor 11 rfl) (by decide) (fun c26 => ?_) (fun c26 => ?_)
  · replace hm := hm.1 c26
    exact lab29 f_place f_stepCount r_steps r1 H locs ls hP hD hS (lv_sub hl [1, 2, 0] rfl) hm
  replace hm := hm.2 c26
  refine lv_aload_n hx hb (dX1_readFactor 12 rfl) rfl (lv_at hl 1 rfl) ?_
  have hcut := ob_cut (wc := [(h, .inr (1, [.ref htape, .ref q_steps, .ref q_words, .ref q_numbers, .ref q_starts, .ref q_ends, .int f_place, .int f_stepCount, .int f_clauses, .int f_gap, .int f_far])), (q_steps, .inl (cI, 100, .inl r_steps)), (htape, .inr (7, [.ref qtape_items, .int ftape_size, .int ftape_came])), (qtape_items, .inl (cI, 100, .inl rtape_items))]) hP hD hS hA [0, 1, 2, 3] rfl (by decide)
  refine ob_i (wr := []) (ob_V (As := []) (rest := []) ⟨hx, hb, hml, hown, hts⟩ hK hcut (hI.cut hS hcut.2.2) hN (va_recv hK hP (ci := 1) (q0 := 0) rfl rfl) (k_X1_readTest l D cI cZ cL im _ _ _ _ _ _ _ _ _ _ _ _ _ _ _ _ _ _ _ hm) (cwV 0 hts (gU_V (inR9 _ (List.mem_of_getElem? (i := 20) rfl)) (inR9 _ (List.mem_of_getElem? (i := 21) rfl)) (inR9 _ (List.mem_of_getElem? (i := 22) rfl)) (inR5 _ (List.mem_of_getElem? (i := 8) rfl)) (inR9 _ (List.mem_of_getElem? (i := 23) rfl))) rfl rfl rfl (by decide +kernel) ⟨(by show 2 + 1 ≤ d + 1 + 20; omega), (by show 8 + (4 + 11) + 43 ≤ 60 * (d + 1) + 400; omega)⟩) rfl hl.1 rfl (Nat.le_of_ble_eq_true rfl) (dX1_readFactor 13 rfl) ⟨Nat.zero_le _, Nat.zero_le _⟩) hP hD hS hcut [0, 1, 2, 3] [] rfl rfl (by decide) (by decide) (fun r27 u28 H locs hm hP hD hS => ?_)
  have hP := hP.sub (ws' := [(h, .inr (1, [.ref htape, .ref q_steps, .ref q_words, .ref q_numbers, .ref q_starts, .ref q_ends, .int u28.1, .int u28.2.1, .int f_clauses, .int f_gap, .int f_far])), (q_steps, .inl (cI, 100, .inl u28.2.2)), (htape, .inr (7, [.ref qtape_items, .int ftape_size, .int ftape_came])), (qtape_items, .inl (cI, 100, .inl rtape_items))]) [0, 1, 2, 3] rfl
  have hD := hD.sub (ws' := [(h, .inr (1, [.ref htape, .ref q_steps, .ref q_words, .ref q_numbers, .ref q_starts, .ref q_ends, .int u28.1, .int u28.2.1, .int f_clauses, .int f_gap, .int f_far])), (q_steps, .inl (cI, 100, .inl u28.2.2)), (htape, .inr (7, [.ref qtape_items, .int ftape_size, .int ftape_came])), (qtape_items, .inl (cI, 100, .inl rtape_items))]) [0, 1, 2, 3] (by decide) rfl
  exact hZ r27 (u28.1, u28.2.1, u28.2.2) H locs ls 28 hm.2 hP hD hS (dX1_readFactor 14 rfl) hm.1
theorem kR_A (l : Launch) (D : va_G) (cI cZ cL : ClassId) (im : obIM) : ∀ d : Nat, CR_X1_readEither l D cI cZ cL im (mR_A d).1 d ∧ CR_X1_readFactor l D cI cZ cL im (mR_A d).2 d := by
  intro d
  induction d with
  | zero => exact ⟨(fun _ _ _ _ _ _ _ _ _ _ _ _ _ _ _ _ _ _ _ _ hm => hm.elim), (fun _ _ _ _ _ _ _ _ _ _ _ _ _ _ _ _ _ _ _ _ hm => hm.elim)⟩
  | succ d ih => exact ⟨st_X1_readEither l D cI cZ cL im _ _ d ih.1 ih.2, st_X1_readFactor l D cI cZ cL im _ _ d ih.1 ih.2⟩
theorem k_X1_readEither (l : Launch) (D : va_G) (cI cZ cL : ClassId) (im : obIM) : CR_X1_readEither l D cI cZ cL im m_X1_readEither 16 := (kR_A l D cI cZ cL im 16).1
theorem k_X1_readFactor (l : Launch) (D : va_G) (cI cZ cL : ClassId) (im : obIM) : CR_X1_readFactor l D cI cZ cL im m_X1_readFactor 16 := (kR_A l D cI cZ cL im 16).2
