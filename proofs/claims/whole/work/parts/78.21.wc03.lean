abbrev rmX11_count : Room := { frames := 0, cells := 0, slots := 0, locals := 0 }
set_option maxHeartbeats 4000000 in
set_option maxRecDepth 100000 in
theorem k_X11_count (l : Launch) (D : va_G) (cI cZ cL : ClassId) (im : obIM) (sz : Nat) (h : Nat) (q_now : Nat) (q_image : Nat) (q_trial : Nat) (q_trace : Nat) (q_tried : Nat) (q_best : Nat) (f_imaged : Int32) (q_now_line : Nat) (q_now_tape : Nat) (q_now_taken : Nat) (q_now_bookTurns : Nat) (q_now_bookTimes : Nat) (f_now_fields : Int32) (q_now_line_people : Nat) (q_now_line_places : Nat) (q_now_line_breath : Nat) (q_now_line_rows : Nat) (q_now_line_seen : Nat) (q_now_line_ends : Nat) (f_now_line_field : Option Nat) (f_now_line_size : Int32) (f_now_line_turn : Int32) (f_now_line_yards : Int32) (f_now_line_time : Int32) (f_now_line_gap : Int32) (f_now_line_far : Int32) (f_now_line_flat : Int32) (q_now_tape_items : Nat) (f_now_tape_size : Int32) (f_now_tape_came : Int32) (q_now_taken_items : Nat) (f_now_taken_size : Int32) (f_now_taken_came : Int32) (q_now_bookTurns_items : Nat) (f_now_bookTurns_size : Int32) (f_now_bookTurns_came : Int32) (q_trace_items : Nat) (f_trace_size : Int32) (f_trace_came : Int32) (a1 : Int32) (Q : Int32 → Prop) (hm : m_X11_count f_now_fields f_now_line_size f_now_tape_size f_now_taken_size f_now_bookTurns_size f_trace_came a1 Q) : Met l yX11_count (Cond.code yX11_count cX11_count 2 (some .int) :: wsL_law) rmX11_count (obPre D (tyG cI cZ cL) im [(h, .inr (11, [.ref q_now, .ref q_image, .ref q_trial, .ref q_trace, .ref q_tried, .ref q_best, .int f_imaged])), (q_now, .inr (9, [.ref q_now_line, .ref q_now_tape, .ref q_now_taken, .ref q_now_bookTurns, .ref q_now_bookTimes, .int f_now_fields])), (q_now_line, .inr (5, [.ref q_now_line_people, .ref q_now_line_places, .ref q_now_line_breath, .ref q_now_line_rows, .ref q_now_line_seen, .ref q_now_line_ends, va_rf f_now_line_field, .int f_now_line_size, .int f_now_line_turn, .int f_now_line_yards, .int f_now_line_time, .int f_now_line_gap, .int f_now_line_far, .int f_now_line_flat])), (q_now_tape, .inr (7, [.ref q_now_tape_items, .int f_now_tape_size, .int f_now_tape_came])), (q_now_taken, .inr (7, [.ref q_now_taken_items, .int f_now_taken_size, .int f_now_taken_came])), (q_now_bookTurns, .inr (7, [.ref q_now_bookTurns_items, .int f_now_bookTurns_size, .int f_now_bookTurns_came])), (q_trace, .inr (7, [.ref q_trace_items, .int f_trace_size, .int f_trace_came]))] sz [.ref h, .int a1]) (va_Qi (fun (r : Int32) (u : Unit) => Q r) (obB D (va_A [(h, .inr (11, [.ref q_now, .ref q_image, .ref q_trial, .ref q_trace, .ref q_tried, .ref q_best, .int f_imaged])), (q_now, .inr (9, [.ref q_now_line, .ref q_now_tape, .ref q_now_taken, .ref q_now_bookTurns, .ref q_now_bookTimes, .int f_now_fields])), (q_now_line, .inr (5, [.ref q_now_line_people, .ref q_now_line_places, .ref q_now_line_breath, .ref q_now_line_rows, .ref q_now_line_seen, .ref q_now_line_ends, va_rf f_now_line_field, .int f_now_line_size, .int f_now_line_turn, .int f_now_line_yards, .int f_now_line_time, .int f_now_line_gap, .int f_now_line_far, .int f_now_line_flat])), (q_now_tape, .inr (7, [.ref q_now_tape_items, .int f_now_tape_size, .int f_now_tape_came])), (q_now_taken, .inr (7, [.ref q_now_taken_items, .int f_now_taken_size, .int f_now_taken_came])), (q_now_bookTurns, .inr (7, [.ref q_now_bookTurns_items, .int f_now_bookTurns_size, .int f_now_bookTurns_came])), (q_trace, .inr (7, [.ref q_trace_items, .int f_trace_size, .int f_trace_came]))] sz) (fun _ : Unit => [(h, .inr (11, [.ref q_now, .ref q_image, .ref q_trial, .ref q_trace, .ref q_tried, .ref q_best, .int f_imaged])), (q_now, .inr (9, [.ref q_now_line, .ref q_now_tape, .ref q_now_taken, .ref q_now_bookTurns, .ref q_now_bookTimes, .int f_now_fields])), (q_now_line, .inr (5, [.ref q_now_line_people, .ref q_now_line_places, .ref q_now_line_breath, .ref q_now_line_rows, .ref q_now_line_seen, .ref q_now_line_ends, va_rf f_now_line_field, .int f_now_line_size, .int f_now_line_turn, .int f_now_line_yards, .int f_now_line_time, .int f_now_line_gap, .int f_now_line_far, .int f_now_line_flat])), (q_now_tape, .inr (7, [.ref q_now_tape_items, .int f_now_tape_size, .int f_now_tape_came])), (q_now_taken, .inr (7, [.ref q_now_taken_items, .int f_now_taken_size, .int f_now_taken_came])), (q_now_bookTurns, .inr (7, [.ref q_now_bookTurns_items, .int f_now_bookTurns_size, .int f_now_bookTurns_came])), (q_trace, .inr (7, [.ref q_trace_items, .int f_trace_size, .int f_trace_came]))])) (va_A [(h, .inr (11, [.ref q_now, .ref q_image, .ref q_trial, .ref q_trace, .ref q_tried, .ref q_best, .int f_imaged])), (q_now, .inr (9, [.ref q_now_line, .ref q_now_tape, .ref q_now_taken, .ref q_now_bookTurns, .ref q_now_bookTimes, .int f_now_fields])), (q_now_line, .inr (5, [.ref q_now_line_people, .ref q_now_line_places, .ref q_now_line_breath, .ref q_now_line_rows, .ref q_now_line_seen, .ref q_now_line_ends, va_rf f_now_line_field, .int f_now_line_size, .int f_now_line_turn, .int f_now_line_yards, .int f_now_line_time, .int f_now_line_gap, .int f_now_line_far, .int f_now_line_flat])), (q_now_tape, .inr (7, [.ref q_now_tape_items, .int f_now_tape_size, .int f_now_tape_came])), (q_now_taken, .inr (7, [.ref q_now_taken_items, .int f_now_taken_size, .int f_now_taken_came])), (q_now_bookTurns, .inr (7, [.ref q_now_bookTurns_items, .int f_now_bookTurns_size, .int f_now_bookTurns_came])), (q_trace, .inr (7, [.ref q_trace_items, .int f_trace_size, .int f_trace_came]))] sz)) 0 0 (va_A [(h, .inr (11, [.ref q_now, .ref q_image, .ref q_trial, .ref q_trace, .ref q_tried, .ref q_best, .int f_imaged])), (q_now, .inr (9, [.ref q_now_line, .ref q_now_tape, .ref q_now_taken, .ref q_now_bookTurns, .ref q_now_bookTimes, .int f_now_fields])), (q_now_line, .inr (5, [.ref q_now_line_people, .ref q_now_line_places, .ref q_now_line_breath, .ref q_now_line_rows, .ref q_now_line_seen, .ref q_now_line_ends, va_rf f_now_line_field, .int f_now_line_size, .int f_now_line_turn, .int f_now_line_yards, .int f_now_line_time, .int f_now_line_gap, .int f_now_line_far, .int f_now_line_flat])), (q_now_tape, .inr (7, [.ref q_now_tape_items, .int f_now_tape_size, .int f_now_tape_came])), (q_now_taken, .inr (7, [.ref q_now_taken_items, .int f_now_taken_size, .int f_now_taken_came])), (q_now_bookTurns, .inr (7, [.ref q_now_bookTurns_items, .int f_now_bookTurns_size, .int f_now_bookTurns_came])), (q_trace, .inr (7, [.ref q_trace_items, .int f_trace_size, .int f_trace_came]))] sz) := by
  refine ob_met_i (cc := cX11_count) (maxL := 2) (by decide) (Nat.le_of_ble_eq_true rfl) (fun p e s m args below meth c A Z hx hb hml hown hts hnm hN hK hA hI hP hD hS hZ ls hl => ?_)
  have hl : lv_has ls 2 [(0, .ref h), (1, .int a1)] := hl
  unfold m_X11_count at hm
  obtain ⟨H, hH⟩ : ∃ H, H = s.heap := ⟨_, rfl⟩
  obtain ⟨locs, hlo⟩ : ∃ q : List Loc, q = [] := ⟨_, rfl⟩
  suffices hgo : W p l e rmX11_count s m args below meth c H locs 0 0 Z (F0 m 0 ls []) by rw [hH, hlo] at hgo; exact hgo
  have hP : va_P D vwCl [(h, .inr (11, [.ref q_now, .ref q_image, .ref q_trial, .ref q_trace, .ref q_tried, .ref q_best, .int f_imaged])), (q_now, .inr (9, [.ref q_now_line, .ref q_now_tape, .ref q_now_taken, .ref q_now_bookTurns, .ref q_now_bookTimes, .int f_now_fields])), (q_now_line, .inr (5, [.ref q_now_line_people, .ref q_now_line_places, .ref q_now_line_breath, .ref q_now_line_rows, .ref q_now_line_seen, .ref q_now_line_ends, va_rf f_now_line_field, .int f_now_line_size, .int f_now_line_turn, .int f_now_line_yards, .int f_now_line_time, .int f_now_line_gap, .int f_now_line_far, .int f_now_line_flat])), (q_now_tape, .inr (7, [.ref q_now_tape_items, .int f_now_tape_size, .int f_now_tape_came])), (q_now_taken, .inr (7, [.ref q_now_taken_items, .int f_now_taken_size, .int f_now_taken_came])), (q_now_bookTurns, .inr (7, [.ref q_now_bookTurns_items, .int f_now_bookTurns_size, .int f_now_bookTurns_came])), (q_trace, .inr (7, [.ref q_trace_items, .int f_trace_size, .int f_trace_came]))] H := by rw [hH]; exact hP
  have hD : va_D A [(h, .inr (11, [.ref q_now, .ref q_image, .ref q_trial, .ref q_trace, .ref q_tried, .ref q_best, .int f_imaged])), (q_now, .inr (9, [.ref q_now_line, .ref q_now_tape, .ref q_now_taken, .ref q_now_bookTurns, .ref q_now_bookTimes, .int f_now_fields])), (q_now_line, .inr (5, [.ref q_now_line_people, .ref q_now_line_places, .ref q_now_line_breath, .ref q_now_line_rows, .ref q_now_line_seen, .ref q_now_line_ends, va_rf f_now_line_field, .int f_now_line_size, .int f_now_line_turn, .int f_now_line_yards, .int f_now_line_time, .int f_now_line_gap, .int f_now_line_far, .int f_now_line_flat])), (q_now_tape, .inr (7, [.ref q_now_tape_items, .int f_now_tape_size, .int f_now_tape_came])), (q_now_taken, .inr (7, [.ref q_now_taken_items, .int f_now_taken_size, .int f_now_taken_came])), (q_now_bookTurns, .inr (7, [.ref q_now_bookTurns_items, .int f_now_bookTurns_size, .int f_now_bookTurns_came])), (q_trace, .inr (7, [.ref q_trace_items, .int f_trace_size, .int f_trace_came]))] := hD
  have hS : va_S A s.heap H locs := by rw [hH, hlo]; exact hS
  refine lv_iload_n hx hb (dX11_count 0 rfl) rfl (lv_at hl 1 rfl) ?_
  by_cases c1 : a1 = (0 : Int32)
  · refine lv_tableIn (tgt := 40) hx hb (dX11_count 1 rfl) (by rw [c1]; decide) (by rw [c1]; decide) (by rw [c1]; rfl) (by decide) ?_
    replace hm := hm.1 c1
    refine lv_aload_n hx hb (dX11_count 2 rfl) rfl (lv_at hl 0 rfl) ?_
    refine va_get (D := D) (ci := 11) (v := .ref q_now) (C := RX11) (T := TX11) (N := 7) hx hb hts inlX11 hown hK hP 0 rfl rfl 0 (by decide) (hts (.fieldLink RX11 12 "OverBacks" "now" "LOverBacks$State;") (inR1 _ (List.mem_of_getElem? (i := 15) rfl))) (fun _ h9 => h9) rfl (dX11_count 3 rfl) ?_
    refine va_getN (D := D) (ci := 9) (v := .ref q_now_line) (C := RX9) (T := TX9) (N := 6) hx hb hts inlX9 hown hK hP 1 rfl rfl 0 (by decide) (va_Nw.use rfl (hN.1 _ (List.mem_of_getElem? (i := 12) rfl))) (fun _ h9 => h9) rfl (dX11_count 4 rfl) ?_
    refine va_getN (D := D) (ci := 5) (v := .int f_now_line_size) (C := RX5) (T := TX5) (N := 14) hx hb hts inlX5 hown hK hP 2 rfl rfl 7 (by decide) (va_Nw.use rfl (hN.1 _ (List.mem_of_getElem? (i := 2) rfl))) (fun _ h9 => h9) rfl (dX11_count 5 rfl) ?_
    exact hZ f_now_line_size () H locs ls 50 hm hP hD hS (dX11_count 6 rfl) rfl
  replace hm := hm.2
  by_cases c2 : a1 = (1 : Int32)
  · refine lv_tableIn (tgt := 51) hx hb (dX11_count 1 rfl) (by rw [c2]; decide) (by rw [c2]; decide) (by rw [c2]; rfl) (by decide) ?_
    replace hm := hm.1 c2
    refine lv_aload_n hx hb (dX11_count 7 rfl) rfl (lv_at hl 0 rfl) ?_
    refine va_get (D := D) (ci := 11) (v := .ref q_now) (C := RX11) (T := TX11) (N := 7) hx hb hts inlX11 hown hK hP 0 rfl rfl 0 (by decide) (hts (.fieldLink RX11 12 "OverBacks" "now" "LOverBacks$State;") (inR1 _ (List.mem_of_getElem? (i := 15) rfl))) (fun _ h9 => h9) rfl (dX11_count 8 rfl) ?_
    refine va_getN (D := D) (ci := 9) (v := .int f_now_fields) (C := RX9) (T := TX9) (N := 6) hx hb hts inlX9 hown hK hP 1 rfl rfl 5 (by decide) (va_Nw.use rfl (hN.1 _ (List.mem_of_getElem? (i := 17) rfl))) (fun _ h9 => h9) rfl (dX11_count 9 rfl) ?_
    exact hZ f_now_fields () H locs ls 58 hm hP hD hS (dX11_count 10 rfl) rfl
  replace hm := hm.2
  by_cases c3 : a1 = (2 : Int32)
  · refine lv_tableIn (tgt := 59) hx hb (dX11_count 1 rfl) (by rw [c3]; decide) (by rw [c3]; decide) (by rw [c3]; rfl) (by decide) ?_
    replace hm := hm.1 c3
    refine lv_aload_n hx hb (dX11_count 11 rfl) rfl (lv_at hl 0 rfl) ?_
    refine va_get (D := D) (ci := 11) (v := .ref q_now) (C := RX11) (T := TX11) (N := 7) hx hb hts inlX11 hown hK hP 0 rfl rfl 0 (by decide) (hts (.fieldLink RX11 12 "OverBacks" "now" "LOverBacks$State;") (inR1 _ (List.mem_of_getElem? (i := 15) rfl))) (fun _ h9 => h9) rfl (dX11_count 12 rfl) ?_
    refine va_getN (D := D) (ci := 9) (v := .ref q_now_taken) (C := RX9) (T := TX9) (N := 6) hx hb hts inlX9 hown hK hP 1 rfl rfl 2 (by decide) (va_Nw.use rfl (hN.1 _ (List.mem_of_getElem? (i := 14) rfl))) (fun _ h9 => h9) rfl (dX11_count 13 rfl) ?_
    refine va_getN (D := D) (ci := 7) (v := .int f_now_taken_size) (C := RX7) (T := TX7) (N := 3) hx hb hts inlX7 hown hK hP 4 rfl rfl 1 (by decide) (va_Nw.use rfl (hN.1 _ (List.mem_of_getElem? (i := 10) rfl))) (fun _ h9 => h9) rfl (dX11_count 14 rfl) ?_
    exact hZ f_now_taken_size () H locs ls 69 hm hP hD hS (dX11_count 15 rfl) rfl
  replace hm := hm.2
  by_cases c4 : a1 = (3 : Int32)
  · refine lv_tableIn (tgt := 70) hx hb (dX11_count 1 rfl) (by rw [c4]; decide) (by rw [c4]; decide) (by rw [c4]; rfl) (by decide) ?_
    replace hm := hm.1 c4
    refine lv_aload_n hx hb (dX11_count 16 rfl) rfl (lv_at hl 0 rfl) ?_
    refine va_get (D := D) (ci := 11) (v := .ref q_now) (C := RX11) (T := TX11) (N := 7) hx hb hts inlX11 hown hK hP 0 rfl rfl 0 (by decide) (hts (.fieldLink RX11 12 "OverBacks" "now" "LOverBacks$State;") (inR1 _ (List.mem_of_getElem? (i := 15) rfl))) (fun _ h9 => h9) rfl (dX11_count 17 rfl) ?_
    refine va_getN (D := D) (ci := 9) (v := .ref q_now_bookTurns) (C := RX9) (T := TX9) (N := 6) hx hb hts inlX9 hown hK hP 1 rfl rfl 3 (by decide) (va_Nw.use rfl (hN.1 _ (List.mem_of_getElem? (i := 15) rfl))) (fun _ h9 => h9) rfl (dX11_count 18 rfl) ?_
    refine va_getN (D := D) (ci := 7) (v := .int f_now_bookTurns_size) (C := RX7) (T := TX7) (N := 3) hx hb hts inlX7 hown hK hP 5 rfl rfl 1 (by decide) (va_Nw.use rfl (hN.1 _ (List.mem_of_getElem? (i := 10) rfl))) (fun _ h9 => h9) rfl (dX11_count 19 rfl) ?_
    exact hZ f_now_bookTurns_size () H locs ls 80 hm hP hD hS (dX11_count 20 rfl) rfl
  replace hm := hm.2
  by_cases c5 : a1 = (4 : Int32)
  · refine lv_tableIn (tgt := 81) hx hb (dX11_count 1 rfl) (by rw [c5]; decide) (by rw [c5]; decide) (by rw [c5]; rfl) (by decide) ?_
    replace hm := hm.1 c5
    refine lv_aload_n hx hb (dX11_count 21 rfl) rfl (lv_at hl 0 rfl) ?_
    refine va_get (D := D) (ci := 11) (v := .ref q_now) (C := RX11) (T := TX11) (N := 7) hx hb hts inlX11 hown hK hP 0 rfl rfl 0 (by decide) (hts (.fieldLink RX11 12 "OverBacks" "now" "LOverBacks$State;") (inR1 _ (List.mem_of_getElem? (i := 15) rfl))) (fun _ h9 => h9) rfl (dX11_count 22 rfl) ?_
    refine va_getN (D := D) (ci := 9) (v := .ref q_now_tape) (C := RX9) (T := TX9) (N := 6) hx hb hts inlX9 hown hK hP 1 rfl rfl 1 (by decide) (va_Nw.use rfl (hN.1 _ (List.mem_of_getElem? (i := 13) rfl))) (fun _ h9 => h9) rfl (dX11_count 23 rfl) ?_
    refine va_getN (D := D) (ci := 7) (v := .int f_now_tape_size) (C := RX7) (T := TX7) (N := 3) hx hb hts inlX7 hown hK hP 3 rfl rfl 1 (by decide) (va_Nw.use rfl (hN.1 _ (List.mem_of_getElem? (i := 10) rfl))) (fun _ h9 => h9) rfl (dX11_count 24 rfl) ?_
    exact hZ f_now_tape_size () H locs ls 91 hm hP hD hS (dX11_count 25 rfl) rfl
  replace hm := hm.2
  by_cases c6 : a1 = (5 : Int32)
  · refine lv_tableIn (tgt := 92) hx hb (dX11_count 1 rfl) (by rw [c6]; decide) (by rw [c6]; decide) (by rw [c6]; rfl) (by decide) ?_
    replace hm := hm.1 c6
    refine lv_aload_n hx hb (dX11_count 26 rfl) rfl (lv_at hl 0 rfl) ?_
    refine va_get (D := D) (ci := 11) (v := .ref q_trace) (C := RX11) (T := TX11) (N := 7) hx hb hts inlX11 hown hK hP 0 rfl rfl 3 (by decide) (hts (.fieldLink RX11 33 "OverBacks" "trace" "LOverBacks$Numbers;") (inR2 _ (List.mem_of_getElem? (i := 0) rfl))) (fun _ h9 => h9) rfl (dX11_count 27 rfl) ?_
    refine va_getN (D := D) (ci := 7) (v := .int f_trace_came) (C := RX7) (T := TX7) (N := 3) hx hb hts inlX7 hown hK hP 6 rfl rfl 2 (by decide) (va_Nw.use rfl (hN.1 _ (List.mem_of_getElem? (i := 11) rfl))) (fun _ h9 => h9) rfl (dX11_count 28 rfl) ?_
    exact hZ f_trace_came () H locs ls 99 hm hP hD hS (dX11_count 29 rfl) rfl
  replace hm := hm.2
  have c7 : a1.toInt < 0 ∨ 5 < a1.toInt := by skip; have z0 := ob_ne c1; rw [show ((0 : Int32)).toInt = 0 from by decide] at z0; have z1 := ob_ne c2; rw [show ((1 : Int32)).toInt = 1 from by decide] at z1; have z2 := ob_ne c3; rw [show ((2 : Int32)).toInt = 2 from by decide] at z2; have z3 := ob_ne c4; rw [show ((3 : Int32)).toInt = 3 from by decide] at z3; have z4 := ob_ne c5; rw [show ((4 : Int32)).toInt = 4 from by decide] at z4; have z5 := ob_ne c6; rw [show ((5 : Int32)).toInt = 5 from by decide] at z5; omega
  refine lv_tableOut (tgt := 100) hx hb (dX11_count 1 rfl) c7 (by decide) ?_
  replace hm := hm c7
  refine lv_iconst (v := (-1 : Int32)) hx hb (dX11_count 30 rfl) (by decide) ?_
  exact hZ (-1 : Int32) () H locs ls 101 hm hP hD hS (dX11_count 31 rfl) rfl
abbrev rmX11_isKind : Room := { frames := 0, cells := 0, slots := 0, locals := 0 }
set_option maxHeartbeats 4000000 in
set_option maxRecDepth 100000 in
theorem k_X11_isKind (l : Launch) (D : va_G) (cI cZ cL : ClassId) (im : obIM) (sz : Nat) (a1 : Int32) (Q : Int32 → Prop) (hm : m_X11_isKind a1 Q) : Met l yX11_isKind (Cond.code yX11_isKind cX11_isKind 1 (some .boolean) :: wsL_law) rmX11_isKind (obPre D (tyG cI cZ cL) im [] sz [.int a1]) (va_Qi (fun (r : Int32) (u : Unit) => Q r) (obB D (va_A [] sz) (fun _ : Unit => [])) (va_A [] sz)) 0 0 (va_A [] sz) := by
  refine ob_met_i (cc := cX11_isKind) (maxL := 1) (by decide) (Nat.le_of_ble_eq_true rfl) (fun p e s m args below meth c A Z hx hb hml hown hts hnm hN hK hA hI hP hD hS hZ ls hl => ?_)
  have hl : lv_has ls 1 [(0, .int a1)] := hl
  unfold m_X11_isKind at hm
  obtain ⟨H, hH⟩ : ∃ H, H = s.heap := ⟨_, rfl⟩
  obtain ⟨locs, hlo⟩ : ∃ q : List Loc, q = [] := ⟨_, rfl⟩
  suffices hgo : W p l e rmX11_isKind s m args below meth c H locs 0 0 Z (F0 m 0 ls []) by rw [hH, hlo] at hgo; exact hgo
  have hP : va_P D vwCl [] H := by rw [hH]; exact hP
  have hD : va_D A [] := hD
  have hS : va_S A s.heap H locs := by rw [hH, hlo]; exact hS
  refine lv_iload_n hx hb (dX11_isKind 0 rfl) rfl (lv_at hl 0 rfl) ?_
  refine lv_if_lt (tgt := 14) hx hb (dX11_isKind 1 rfl) (by decide) (fun c1 => ?_) (fun c1 => ?_)
  · replace hm := hm.1 c1
    refine lv_iconst (v := (0 : Int32)) hx hb (dX11_isKind 7 rfl) (by decide) ?_
    exact hZ (0 : Int32) () H locs ls 15 hm hP hD hS (dX11_isKind 8 rfl) rfl
  replace hm := hm.2 c1
  refine lv_iload_n hx hb (dX11_isKind 2 rfl) rfl (lv_at hl 0 rfl) ?_
  refine lv_bipush (v := (6 : Int32)) hx hb (dX11_isKind 3 rfl) (by decide) ?_
  refine lv_icmp_gt (tgt := 14) hx hb (dX11_isKind 4 rfl) (by decide) (fun c2 => ?_) (fun c2 => ?_)
  · replace hm := hm.1 c2
    refine lv_iconst (v := (0 : Int32)) hx hb (dX11_isKind 7 rfl) (by decide) ?_
    exact hZ (0 : Int32) () H locs ls 15 hm hP hD hS (dX11_isKind 8 rfl) rfl
  replace hm := hm.2 c2
  refine lv_iconst (v := (1 : Int32)) hx hb (dX11_isKind 5 rfl) (by decide) ?_
  refine lv_goto (tgt := 15) hx hb (dX11_isKind 6 rfl) (by decide) ?_
  exact hZ (1 : Int32) () H locs ls 15 hm hP hD hS (dX11_isKind 8 rfl) rfl
abbrev rmX11_isOneDigit : Room := { frames := 0, cells := 0, slots := 0, locals := 0 }
set_option maxHeartbeats 4000000 in
set_option maxRecDepth 100000 in
theorem k_X11_isOneDigit (l : Launch) (D : va_G) (cI cZ cL : ClassId) (im : obIM) (sz : Nat) (a1 : Int32) (Q : Int32 → Prop) (hm : m_X11_isOneDigit a1 Q) : Met l yX11_isOneDigit (Cond.code yX11_isOneDigit cX11_isOneDigit 1 (some .boolean) :: wsL_law) rmX11_isOneDigit (obPre D (tyG cI cZ cL) im [] sz [.int a1]) (va_Qi (fun (r : Int32) (u : Unit) => Q r) (obB D (va_A [] sz) (fun _ : Unit => [])) (va_A [] sz)) 0 0 (va_A [] sz) := by
  refine ob_met_i (cc := cX11_isOneDigit) (maxL := 1) (by decide) (Nat.le_of_ble_eq_true rfl) (fun p e s m args below meth c A Z hx hb hml hown hts hnm hN hK hA hI hP hD hS hZ ls hl => ?_)
  have hl : lv_has ls 1 [(0, .int a1)] := hl
  unfold m_X11_isOneDigit at hm
  obtain ⟨H, hH⟩ : ∃ H, H = s.heap := ⟨_, rfl⟩
  obtain ⟨locs, hlo⟩ : ∃ q : List Loc, q = [] := ⟨_, rfl⟩
  suffices hgo : W p l e rmX11_isOneDigit s m args below meth c H locs 0 0 Z (F0 m 0 ls []) by rw [hH, hlo] at hgo; exact hgo
  have hP : va_P D vwCl [] H := by rw [hH]; exact hP
  have hD : va_D A [] := hD
  have hS : va_S A s.heap H locs := by rw [hH, hlo]; exact hS
  refine lv_iload_n hx hb (dX11_isOneDigit 0 rfl) rfl (lv_at hl 0 rfl) ?_
  refine lv_if_lt (tgt := 14) hx hb (dX11_isOneDigit 1 rfl) (by decide) (fun c1 => ?_) (fun c1 => ?_)
  · replace hm := hm.1 c1
    refine lv_iconst (v := (0 : Int32)) hx hb (dX11_isOneDigit 7 rfl) (by decide) ?_
    exact hZ (0 : Int32) () H locs ls 15 hm hP hD hS (dX11_isOneDigit 8 rfl) rfl
  replace hm := hm.2 c1
  refine lv_iload_n hx hb (dX11_isOneDigit 2 rfl) rfl (lv_at hl 0 rfl) ?_
  refine lv_bipush (v := (9 : Int32)) hx hb (dX11_isOneDigit 3 rfl) (by decide) ?_
  refine lv_icmp_gt (tgt := 14) hx hb (dX11_isOneDigit 4 rfl) (by decide) (fun c2 => ?_) (fun c2 => ?_)
  · replace hm := hm.1 c2
    refine lv_iconst (v := (0 : Int32)) hx hb (dX11_isOneDigit 7 rfl) (by decide) ?_
    exact hZ (0 : Int32) () H locs ls 15 hm hP hD hS (dX11_isOneDigit 8 rfl) rfl
  replace hm := hm.2 c2
  refine lv_iconst (v := (1 : Int32)) hx hb (dX11_isOneDigit 5 rfl) (by decide) ?_
  refine lv_goto (tgt := 15) hx hb (dX11_isOneDigit 6 rfl) (by decide) ?_
  exact hZ (1 : Int32) () H locs ls 15 hm hP hD hS (dX11_isOneDigit 8 rfl) rfl
abbrev rmX11_isOneOfTwo : Room := { frames := 0, cells := 0, slots := 0, locals := 0 }
set_option maxHeartbeats 4000000 in
set_option maxRecDepth 100000 in
theorem k_X11_isOneOfTwo (l : Launch) (D : va_G) (cI cZ cL : ClassId) (im : obIM) (sz : Nat) (a1 : Int32) (Q : Int32 → Prop) (hm : m_X11_isOneOfTwo a1 Q) : Met l yX11_isOneOfTwo (Cond.code yX11_isOneOfTwo cX11_isOneOfTwo 1 (some .boolean) :: wsL_law) rmX11_isOneOfTwo (obPre D (tyG cI cZ cL) im [] sz [.int a1]) (va_Qi (fun (r : Int32) (u : Unit) => Q r) (obB D (va_A [] sz) (fun _ : Unit => [])) (va_A [] sz)) 0 0 (va_A [] sz) := by
  refine ob_met_i (cc := cX11_isOneOfTwo) (maxL := 1) (by decide) (Nat.le_of_ble_eq_true rfl) (fun p e s m args below meth c A Z hx hb hml hown hts hnm hN hK hA hI hP hD hS hZ ls hl => ?_)
  have hl : lv_has ls 1 [(0, .int a1)] := hl
  unfold m_X11_isOneOfTwo at hm
  obtain ⟨H, hH⟩ : ∃ H, H = s.heap := ⟨_, rfl⟩
  obtain ⟨locs, hlo⟩ : ∃ q : List Loc, q = [] := ⟨_, rfl⟩
  suffices hgo : W p l e rmX11_isOneOfTwo s m args below meth c H locs 0 0 Z (F0 m 0 ls []) by rw [hH, hlo] at hgo; exact hgo
  have hP : va_P D vwCl [] H := by rw [hH]; exact hP
  have hD : va_D A [] := hD
  have hS : va_S A s.heap H locs := by rw [hH, hlo]; exact hS
  refine lv_iload_n hx hb (dX11_isOneOfTwo 0 rfl) rfl (lv_at hl 0 rfl) ?_
  refine lv_if_eq (tgt := 9) hx hb (dX11_isOneOfTwo 1 rfl) (by decide) (fun c1 => ?_) (fun c1 => ?_)
  · replace hm := hm.1 c1
    refine lv_iconst (v := (1 : Int32)) hx hb (dX11_isOneOfTwo 5 rfl) (by decide) ?_
    refine lv_goto (tgt := 14) hx hb (dX11_isOneOfTwo 6 rfl) (by decide) ?_
    exact hZ (1 : Int32) () H locs ls 14 hm hP hD hS (dX11_isOneOfTwo 8 rfl) rfl
  replace hm := hm.2 c1
  refine lv_iload_n hx hb (dX11_isOneOfTwo 2 rfl) rfl (lv_at hl 0 rfl) ?_
  refine lv_iconst (v := (1 : Int32)) hx hb (dX11_isOneOfTwo 3 rfl) (by decide) ?_
  refine lv_icmp_ne (tgt := 13) hx hb (dX11_isOneOfTwo 4 rfl) (by decide) (fun c2 => ?_) (fun c2 => ?_)
  · replace hm := hm.2 c2
    refine lv_iconst (v := (0 : Int32)) hx hb (dX11_isOneOfTwo 7 rfl) (by decide) ?_
    exact hZ (0 : Int32) () H locs ls 14 hm hP hD hS (dX11_isOneOfTwo 8 rfl) rfl
  replace hm := hm.1 c2
  refine lv_iconst (v := (1 : Int32)) hx hb (dX11_isOneOfTwo 5 rfl) (by decide) ?_
  refine lv_goto (tgt := 14) hx hb (dX11_isOneOfTwo 6 rfl) (by decide) ?_
  exact hZ (1 : Int32) () H locs ls 14 hm hP hD hS (dX11_isOneOfTwo 8 rfl) rfl
abbrev rmX11_exchangeAt : Room := { frames := 0, cells := 0, slots := 0, locals := 0 }
set_option maxHeartbeats 4000000 in
set_option maxRecDepth 100000 in
theorem k_X11_exchangeAt (l : Launch) (D : va_G) (cI cZ cL : ClassId) (im : obIM) (sz : Nat) (h1 : Nat) (n1 : Nat) (r1 : Nat → Int32) (a2 : Int32) (a3 : Int32) (Q : (Nat → Int32) → Prop) (hm : m_X11_exchangeAt n1 r1 a2 a3 Q) : Met l yX11_exchangeAt (Cond.code yX11_exchangeAt cX11_exchangeAt 4 none :: wsL_law) rmX11_exchangeAt (obPre D (tyG cI cZ cL) im [(h1, .inl (cI, n1, .inl r1))] sz [.ref h1, .int a2, .int a3]) (va_Qv (fun (u : (Nat → Int32)) => Q u) (obB D (va_A [(h1, .inl (cI, n1, .inl r1))] sz) (fun u : (Nat → Int32) => [(h1, .inl (cI, n1, .inl u))])) (va_A [(h1, .inl (cI, n1, .inl r1))] sz)) 0 0 (va_A [(h1, .inl (cI, n1, .inl r1))] sz) := by
  refine ob_met_v (cc := cX11_exchangeAt) (maxL := 4) (by decide) (Nat.le_of_ble_eq_true rfl) (fun p e s m args below meth c A Z hx hb hml hown hts hnm hN hK hA hI hP hD hS hZ ls hl => ?_)
  have hl : lv_has ls 4 [(0, .ref h1), (1, .int a2), (2, .int a3)] := hl
  unfold m_X11_exchangeAt at hm
  obtain ⟨H, hH⟩ : ∃ H, H = s.heap := ⟨_, rfl⟩
  obtain ⟨locs, hlo⟩ : ∃ q : List Loc, q = [] := ⟨_, rfl⟩
  suffices hgo : W p l e rmX11_exchangeAt s m args below meth c H locs 0 0 Z (F0 m 0 ls []) by rw [hH, hlo] at hgo; exact hgo
  have hP : va_P D vwCl [(h1, .inl (cI, n1, .inl r1))] H := by rw [hH]; exact hP
  have hD : va_D A [(h1, .inl (cI, n1, .inl r1))] := hD
  have hS : va_S A s.heap H locs := by rw [hH, hlo]; exact hS
  refine lv_aload_n hx hb (dX11_exchangeAt 0 rfl) rfl (lv_at hl 0 rfl) ?_
  refine lv_iload_n hx hb (dX11_exchangeAt 1 rfl) rfl (lv_at hl 1 rfl) ?_
  refine va_iald hx hb hK hP 0 0 rfl rfl hm.1 (dX11_exchangeAt 2 rfl) ?_
  replace hm := hm.2
  refine lv_topi (fun x1 ex1 => ?_)
  replace hm := hm x1 ex1
  refine lv_istore_n (lv' := [(3, .int x1), (0, .ref h1), (1, .int a2), (2, .int a3)]) hx hb (dX11_exchangeAt 3 rfl) rfl hl (by decide) rfl (fun ls hl => ?_)
  refine lv_aload_n hx hb (dX11_exchangeAt 4 rfl) rfl (lv_at hl 1 rfl) ?_
  refine lv_iload_n hx hb (dX11_exchangeAt 5 rfl) rfl (lv_at hl 2 rfl) ?_
  refine lv_aload_n hx hb (dX11_exchangeAt 6 rfl) rfl (lv_at hl 1 rfl) ?_
  refine lv_iload_n hx hb (dX11_exchangeAt 7 rfl) rfl (lv_at hl 3 rfl) ?_
  refine va_iald hx hb hK hP 0 0 rfl rfl hm.1 (dX11_exchangeAt 8 rfl) ?_
  replace hm := hm.2
  refine va_iast hx hb hK hP hD hS 0 0 rfl rfl hm.1 (dX11_exchangeAt 9 rfl) (fun H locs hP hD hS => ?_)
  replace hm := hm.2
  obtain ⟨y2, ey2⟩ : ∃ q : Nat → Int32, q = upd r1 a2.toNatClampNeg (r1 a3.toNatClampNeg) := ⟨_, rfl⟩
  replace hm := hm y2 ey2
  have hP : va_P D vwCl [(h1, .inl (cI, n1, .inl y2))] H := by rw [ey2]; exact hP
  have hD : va_D A [(h1, .inl (cI, n1, .inl y2))] := by rw [ey2]; exact hD
  refine lv_aload_n hx hb (dX11_exchangeAt 10 rfl) rfl (lv_at hl 1 rfl) ?_
  refine lv_iload_n hx hb (dX11_exchangeAt 11 rfl) rfl (lv_at hl 3 rfl) ?_
  refine lv_iload_n hx hb (dX11_exchangeAt 12 rfl) rfl (lv_at hl 0 rfl) ?_
  refine va_iast hx hb hK hP hD hS 0 0 rfl rfl hm.1 (dX11_exchangeAt 13 rfl) (fun H locs hP hD hS => ?_)
  replace hm := hm.2
  obtain ⟨y3, ey3⟩ : ∃ q : Nat → Int32, q = upd y2 a3.toNatClampNeg x1 := ⟨_, rfl⟩
  replace hm := hm y3 ey3
  have hP : va_P D vwCl [(h1, .inl (cI, n1, .inl y3))] H := by rw [ey3]; exact hP
  have hD : va_D A [(h1, .inl (cI, n1, .inl y3))] := by rw [ey3]; exact hD
  exact hZ y3 H locs ls 14 hm hP hD hS (dX11_exchangeAt 14 rfl)
abbrev rmX11_lowest : Room := { frames := 0, cells := 0, slots := 0, locals := 0 }
set_option maxHeartbeats 4000000 in
set_option maxRecDepth 100000 in
theorem k_X11_lowest (l : Launch) (D : va_G) (cI cZ cL : ClassId) (im : obIM) (sz : Nat) (a1 : Int64) (a2 : Int64) (a3 : Int32) (Q : Int64 → Prop) (hm : m_X11_lowest a1 a2 a3 Q) : Met l yX11_lowest (Cond.code yX11_lowest cX11_lowest 12 (some .long) :: wsL_law) rmX11_lowest (obPre D (tyG cI cZ cL) im [] sz [.long a1, .long a2, .int a3]) (va_Ql (fun (r : Int64) (u : Unit) => Q r) (obB D (va_A [] sz) (fun _ : Unit => [])) (va_A [] sz)) 0 0 (va_A [] sz) := by
  refine ob_met_l (cc := cX11_lowest) (maxL := 12) (by decide) (Nat.le_of_ble_eq_true rfl) (fun p e s m args below meth c A Z hx hb hml hown hts hnm hN hK hA hI hP hD hS hZ ls hl => ?_)
  have hl : lv_has ls 12 [(0, .long a1), (2, .long a2), (4, .int a3)] := hl
  unfold m_X11_lowest at hm
  have lab45 : ∀ (v5_45 : Int64) , ∀ (H : Heap) (locs : List Loc) (ls : Array Slot), va_P D vwCl [] H → va_D A [] → va_S A s.heap H locs → lv_has ls 12 [(0, .long a1), (2, .long a2), (4, .int a3), (5, .long v5_45)] → m_X11_lowest_L45 a1 a2 a3 v5_45 Q → W p l e rmX11_lowest s m args below meth c H locs 0 0 Z (F0 m 45 ls []) := by
    clear hm
    intro v5_45 H locs ls hP hD hS hl hm
    unfold m_X11_lowest_L45 at hm
    refine lv_lload hx hb (dX11_lowest 23 rfl) (lv_at hl 3 rfl) ?_
    refine lv_lconst (v := 0) hx hb (dX11_lowest 24 rfl) (by decide) ?_
    refine W.lcmp hx hb (dX11_lowest 25 rfl) ?_
    refine lv_if_ne (tgt := 56) hx hb (dX11_lowest 26 rfl) (by decide) (fun c3 => ?_) (fun c3 => ?_)
    · replace hm := hm.2 c3
      refine lv_iload hx hb (dX11_lowest 29 rfl) (lv_at hl 2 rfl) ?_
      refine lv_if_ne (tgt := 68) hx hb (dX11_lowest 30 rfl) (by decide) (fun c4 => ?_) (fun c4 => ?_)
      · replace hm := hm.2 c4
        refine lv_lload_n hx hb (dX11_lowest 35 rfl) rfl (lv_at hl 1 rfl) ?_
        refine lv_lload hx hb (dX11_lowest 36 rfl) (lv_at hl 3 rfl) ?_
        refine lv_ldiv hx hb (dX11_lowest 37 rfl) hm.1 ?_
        replace hm := hm.2
        exact hZ (a2 / v5_45) () H locs ls 72 hm hP hD hS (dX11_lowest 38 rfl)
      replace hm := hm.1 c4
      refine lv_lload_n hx hb (dX11_lowest 31 rfl) rfl (lv_at hl 0 rfl) ?_
      refine lv_lload hx hb (dX11_lowest 32 rfl) (lv_at hl 3 rfl) ?_
      refine lv_ldiv hx hb (dX11_lowest 33 rfl) hm.1 ?_
      replace hm := hm.2
      refine lv_goto (tgt := 72) hx hb (dX11_lowest 34 rfl) (by decide) ?_
      exact hZ (a1 / v5_45) () H locs ls 72 hm hP hD hS (dX11_lowest 38 rfl)
    replace hm := hm.1 c3
    refine lv_ldc2 (own := RX11) (index := 194) (v := (-9223372036854775808 : Int64)) hx hb hown (hts (.constantLong RX11 194 (-9223372036854775808)) (inR33 _ (List.mem_of_getElem? (i := 21) rfl))) (dX11_lowest 27 rfl) ?_
    exact hZ (-9223372036854775808 : Int64) () H locs ls 55 hm hP hD hS (dX11_lowest 28 rfl)
  have lab9 : ∀ (n9 : Nat) (v5_9 : Int64) (v7_9 : Int64) (v9_9 : Int32) , ∀ (H : Heap) (locs : List Loc) (ls : Array Slot), va_P D vwCl [] H → va_D A [] → va_S A s.heap H locs → lv_has ls 12 [(0, .long a1), (2, .long a2), (4, .int a3), (5, .long v5_9), (7, .long v7_9), (9, .int v9_9)] → m_X11_lowest_L9 a1 a2 a3 Q n9 v5_9 v7_9 v9_9 → W p l e rmX11_lowest s m args below meth c H locs 0 0 Z (F0 m 9 ls []) := by
    clear hm
    intro n9
    induction n9 with
    | zero =>
      intro v5_9 v7_9 v9_9 H locs ls hP hD hS hl hm
      exact hm.elim
    | succ n9 ih9 =>
      intro v5_9 v7_9 v9_9 H locs ls hP hD hS hl hm
      unfold m_X11_lowest_L9 at hm
      obtain ⟨K9, hK9⟩ : ∃ K : Int64 → Int64 → Int32 → Prop, K = m_X11_lowest_L9 a1 a2 a3 Q n9 := ⟨_, rfl⟩
      rw [← hK9] at hm ih9
      refine lv_iload hx hb (dX11_lowest 6 rfl) (lv_at hl 5 rfl) ?_
      refine lv_sipush (v := (1000 : Int32)) hx hb (dX11_lowest 7 rfl) (by decide) ?_
      refine lv_icmp_ge (tgt := 45) hx hb (dX11_lowest 8 rfl) (by decide) (fun c2 => ?_) (fun c2 => ?_)
      · replace hm := hm.1 c2
        exact lab45 v5_9 H locs ls hP hD hS (lv_sub hl [0, 1, 2, 3] rfl) hm
      replace hm := hm.2 c2
      refine lv_lload hx hb (dX11_lowest 9 rfl) (lv_at hl 4 rfl) ?_
      refine lv_lconst (v := 0) hx hb (dX11_lowest 10 rfl) (by decide) ?_
      refine W.lcmp hx hb (dX11_lowest 11 rfl) ?_
      refine lv_if_eq (tgt := 45) hx hb (dX11_lowest 12 rfl) (by decide) (fun c5 => ?_) (fun c5 => ?_)
      · replace hm := hm.1 c5
        exact lab45 v5_9 H locs ls hP hD hS (lv_sub hl [0, 1, 2, 3] rfl) hm
      replace hm := hm.2 c5
      refine lv_lload hx hb (dX11_lowest 13 rfl) (lv_at hl 3 rfl) ?_
      refine lv_lload hx hb (dX11_lowest 14 rfl) (lv_at hl 4 rfl) ?_
      refine lv_lrem hx hb (dX11_lowest 15 rfl) hm.1 ?_
      replace hm := hm.2
      refine lv_topl (fun x6 ex6 => ?_)
      replace hm := hm x6 ex6
      refine lv_lstore (lv' := [(10, .long x6), (0, .long a1), (2, .long a2), (4, .int a3), (5, .long v5_9), (7, .long v7_9), (9, .int v9_9)]) hx hb (dX11_lowest 16 rfl) hl (by decide) rfl (fun ls hl => ?_)
      refine lv_lload hx hb (dX11_lowest 17 rfl) (lv_at hl 5 rfl) ?_
      refine lv_lstore (lv' := [(5, .long v7_9), (10, .long x6), (0, .long a1), (2, .long a2), (4, .int a3), (7, .long v7_9), (9, .int v9_9)]) hx hb (dX11_lowest 18 rfl) hl (by decide) rfl (fun ls hl => ?_)
      refine lv_lload hx hb (dX11_lowest 19 rfl) (lv_at hl 1 rfl) ?_
      refine lv_lstore (lv' := [(7, .long x6), (5, .long v7_9), (10, .long x6), (0, .long a1), (2, .long a2), (4, .int a3), (9, .int v9_9)]) hx hb (dX11_lowest 20 rfl) hl (by decide) rfl (fun ls hl => ?_)
      obtain ⟨x7, ex7⟩ : ∃ y : Int32, y = v9_9 + 1 := ⟨_, rfl⟩
      replace hm := hm x7 ex7
      refine lv_iinc (v := x7) (lv' := [(9, .int x7), (7, .long x6), (5, .long v7_9), (10, .long x6), (0, .long a1), (2, .long a2), (4, .int a3)]) hx hb (dX11_lowest 21 rfl) hl (k := 6) rfl (by rw [ex7]; rfl) (by decide) rfl (fun ls hl => ?_)
      refine lv_goto (tgt := 9) hx hb (dX11_lowest 22 rfl) (by decide) ?_
      exact ih9 v7_9 x6 x7 H locs ls hP hD hS (lv_sub hl [4, 5, 6, 2, 1, 0] rfl) hm
  obtain ⟨H, hH⟩ : ∃ H, H = s.heap := ⟨_, rfl⟩
  obtain ⟨locs, hlo⟩ : ∃ q : List Loc, q = [] := ⟨_, rfl⟩
  suffices hgo : W p l e rmX11_lowest s m args below meth c H locs 0 0 Z (F0 m 0 ls []) by rw [hH, hlo] at hgo; exact hgo
  have hP : va_P D vwCl [] H := by rw [hH]; exact hP
  have hD : va_D A [] := hD
  have hS : va_S A s.heap H locs := by rw [hH, hlo]; exact hS
  refine lv_lload_n hx hb (dX11_lowest 0 rfl) rfl (lv_at hl 1 rfl) ?_
  refine lv_lstore (lv' := [(5, .long a2), (0, .long a1), (2, .long a2), (4, .int a3)]) hx hb (dX11_lowest 1 rfl) hl (by decide) rfl (fun ls hl => ?_)
  refine lv_lload_n hx hb (dX11_lowest 2 rfl) rfl (lv_at hl 1 rfl) ?_
  refine lv_lstore (lv' := [(7, .long a1), (5, .long a2), (0, .long a1), (2, .long a2), (4, .int a3)]) hx hb (dX11_lowest 3 rfl) hl (by decide) rfl (fun ls hl => ?_)
  refine lv_iconst (v := (0 : Int32)) hx hb (dX11_lowest 4 rfl) (by decide) ?_
  refine lv_topi (fun x1 ex1 => ?_)
  replace hm := hm x1 ex1
  refine lv_istore (lv' := [(9, .int x1), (7, .long a1), (5, .long a2), (0, .long a1), (2, .long a2), (4, .int a3)]) hx hb (dX11_lowest 5 rfl) hl (by decide) rfl (fun ls hl => ?_)
  obtain ⟨n8, hm⟩ := hm
  exact lab9 n8 a2 a1 x1 H locs ls hP hD hS (lv_sub hl [3, 4, 5, 2, 1, 0] rfl) hm
abbrev rmV_kind : Room := { frames := 0, cells := 0, slots := 0, locals := 0 }
set_option maxHeartbeats 4000000 in
theorem d_V_kind {p : Program} {l : Launch} {e : Env} {R : Room} {s : State} {m : MethodId} {args : Array Value} {below : List Frame} {meth : Method} {c : Code} {H : Heap} {locs : List Loc} {cells slots : Nat} {cc : ByteArray} {nL index pc : Nat} {own : String} {ls : Array Slot} {rest st0 : List Value} {A0 : Nat → Prop} (D : va_G) (cI cZ cL : ClassId) (im : obIM) (lk : Nat → Option (Nat × Int32 × Int32 × Int32)) (hlk : obLK im lk) (h : Nat) (Q : Int32 → Prop) (hm : m_V_kind lk h Q) (S : CallFix p m c cc nL s args wsL_law own) (hK : va_K D vwCl (tyG cI cZ cL) s) (hcut : va_P D vwCl [] H ∧ va_D (fun _ => True) [] ∧ ∀ q, va_A [] H.size q → A0 q) (hI : obI D im (va_A [] H.size) s H) (hN : obW s) (hl : Cond.methodLink own index yX4_kind ∈ wsL_law) (hsize : ls.size = nL) (hstack : st0 = ([] : List Value).reverse ++ .ref h :: rest) (hW : (rest.map fun v => v.category).sum ≤ 8) (hdg : decode cc pc = .ok (.invokevirtual index, 3)) (hR : rmV_kind.frames + 1 ≤ R.frames ∧ 8 + (1 + 11) + rmV_kind.locals ≤ R.locals) (hf : cells + 0 ≤ R.cells ∧ slots + 0 ≤ R.slots) : va_Run p l e R s m args below meth c H locs cells slots 0 0 (F0 m pc ls st0) rest (va_Qi (fun (r : Int32) (u : Unit) => Q r) (obB D (va_A [] H.size) (fun _ : Unit => [])) (va_A [] H.size) (Value.ref h :: []).toArray) (va_A [] H.size) := by
  obtain ⟨ci, n0, v0, t0, ek, hm⟩ := hm
  obtain ⟨hci, k0, hk0⟩ := hlk _ _ _ _ _ ek
  have hts := S.2.2.2.2
  rcases hci with rfl | rfl | rfl | rfl | rfl | rfl | rfl
  · exact ob_U (C := RX0) (As := []) (rest := rest) S hK hcut hI hN (va_recv hK hI.1 (ci := 0) (q0 := k0) rfl hk0) (k_X0_kind l D cI cZ cL im _ _ _ (hm.1 rfl)) (va_cwO (owner := "OverBacks$Leaper") (x := yX4_kind) 0 hts (gU_O hl (inR16 _ (List.mem_of_getElem? (i := 15) rfl)) (inR17 _ (List.mem_of_getElem? (i := 4) rfl)) (inR16 _ (List.mem_of_getElem? (i := 17) rfl)) (inR16 _ (List.mem_of_getElem? (i := 18) rfl)) (inR13 _ (List.mem_of_getElem? (i := 23) rfl)) (inR16 _ (List.mem_of_getElem? (i := 19) rfl))) rfl rfl rfl (inR16 _ (List.mem_of_getElem? (i := 20) rfl)) (by decide +kernel) ⟨Nat.le_trans (Nat.le_of_ble_eq_true rfl) hR.1, Nat.le_trans (Nat.le_of_ble_eq_true rfl) hR.2⟩) rfl hsize hstack hW hdg hf
  · exact ob_U (C := RX2) (As := []) (rest := rest) S hK hcut hI hN (va_recv hK hI.1 (ci := 2) (q0 := k0) rfl hk0) (k_X2_kind l D cI cZ cL im _ _ _ (hm.2.1 rfl)) (va_cwO (owner := "OverBacks$Leaper") (x := yX4_kind) 0 hts (gU_O hl (inR16 _ (List.mem_of_getElem? (i := 15) rfl)) (inR17 _ (List.mem_of_getElem? (i := 4) rfl)) (inR16 _ (List.mem_of_getElem? (i := 21) rfl)) (inR16 _ (List.mem_of_getElem? (i := 22) rfl)) (inR14 _ (List.mem_of_getElem? (i := 5) rfl)) (inR16 _ (List.mem_of_getElem? (i := 23) rfl))) rfl rfl rfl (inR16 _ (List.mem_of_getElem? (i := 20) rfl)) (by decide +kernel) ⟨Nat.le_trans (Nat.le_of_ble_eq_true rfl) hR.1, Nat.le_trans (Nat.le_of_ble_eq_true rfl) hR.2⟩) rfl hsize hstack hW hdg hf
  · exact ob_U (C := RX3) (As := []) (rest := rest) S hK hcut hI hN (va_recv hK hI.1 (ci := 3) (q0 := k0) rfl hk0) (k_X3_kind l D cI cZ cL im _ _ _ (hm.2.2.1 rfl)) (va_cwO (owner := "OverBacks$Leaper") (x := yX4_kind) 0 hts (gU_O hl (inR16 _ (List.mem_of_getElem? (i := 15) rfl)) (inR17 _ (List.mem_of_getElem? (i := 4) rfl)) (inR17 _ (List.mem_of_getElem? (i := 0) rfl)) (inR17 _ (List.mem_of_getElem? (i := 1) rfl)) (inR13 _ (List.mem_of_getElem? (i := 20) rfl)) (inR17 _ (List.mem_of_getElem? (i := 2) rfl))) rfl rfl rfl (inR16 _ (List.mem_of_getElem? (i := 20) rfl)) (by decide +kernel) ⟨Nat.le_trans (Nat.le_of_ble_eq_true rfl) hR.1, Nat.le_trans (Nat.le_of_ble_eq_true rfl) hR.2⟩) rfl hsize hstack hW hdg hf
  · exact ob_V (C := RX4) (As := []) (rest := rest) S hK hcut hI hN (va_recv hK hI.1 (ci := 4) (q0 := k0) rfl hk0) (k_X4_kind l D cI cZ cL im _ _ _ (hm.2.2.2.1 rfl)) (cwV 0 hts (gU_V hl (inR17 _ (List.mem_of_getElem? (i := 4) rfl)) (inR17 _ (List.mem_of_getElem? (i := 5) rfl)) (inR14 _ (List.mem_of_getElem? (i := 11) rfl)) (inR16 _ (List.mem_of_getElem? (i := 20) rfl))) rfl rfl rfl (by decide +kernel) ⟨Nat.le_trans (Nat.le_of_ble_eq_true rfl) hR.1, Nat.le_trans (Nat.le_of_ble_eq_true rfl) hR.2⟩) rfl hsize hstack hW hdg hf
  · exact ob_U (C := RX6) (As := []) (rest := rest) S hK hcut hI hN (va_recv hK hI.1 (ci := 6) (q0 := k0) rfl hk0) (k_X6_kind l D cI cZ cL im _ _ _ (hm.2.2.2.2.1 rfl)) (va_cwO (owner := "OverBacks$Leaper") (x := yX4_kind) 0 hts (gU_O hl (inR16 _ (List.mem_of_getElem? (i := 15) rfl)) (inR17 _ (List.mem_of_getElem? (i := 4) rfl)) (inR17 _ (List.mem_of_getElem? (i := 6) rfl)) (inR17 _ (List.mem_of_getElem? (i := 7) rfl)) (inR13 _ (List.mem_of_getElem? (i := 17) rfl)) (inR17 _ (List.mem_of_getElem? (i := 8) rfl))) rfl rfl rfl (inR16 _ (List.mem_of_getElem? (i := 20) rfl)) (by decide +kernel) ⟨Nat.le_trans (Nat.le_of_ble_eq_true rfl) hR.1, Nat.le_trans (Nat.le_of_ble_eq_true rfl) hR.2⟩) rfl hsize hstack hW hdg hf
  · exact ob_U (C := RX8) (As := []) (rest := rest) S hK hcut hI hN (va_recv hK hI.1 (ci := 8) (q0 := k0) rfl hk0) (k_X8_kind l D cI cZ cL im _ _ _ (hm.2.2.2.2.2.1 rfl)) (va_cwO (owner := "OverBacks$Leaper") (x := yX4_kind) 0 hts (gU_O hl (inR16 _ (List.mem_of_getElem? (i := 15) rfl)) (inR17 _ (List.mem_of_getElem? (i := 4) rfl)) (inR17 _ (List.mem_of_getElem? (i := 9) rfl)) (inR17 _ (List.mem_of_getElem? (i := 10) rfl)) (inR14 _ (List.mem_of_getElem? (i := 2) rfl)) (inR17 _ (List.mem_of_getElem? (i := 11) rfl))) rfl rfl rfl (inR16 _ (List.mem_of_getElem? (i := 20) rfl)) (by decide +kernel) ⟨Nat.le_trans (Nat.le_of_ble_eq_true rfl) hR.1, Nat.le_trans (Nat.le_of_ble_eq_true rfl) hR.2⟩) rfl hsize hstack hW hdg hf
  · exact ob_U (C := RX10) (As := []) (rest := rest) S hK hcut hI hN (va_recv hK hI.1 (ci := 10) (q0 := k0) rfl hk0) (k_X10_kind l D cI cZ cL im _ _ _ (hm.2.2.2.2.2.2 rfl)) (va_cwO (owner := "OverBacks$Leaper") (x := yX4_kind) 0 hts (gU_O hl (inR16 _ (List.mem_of_getElem? (i := 15) rfl)) (inR17 _ (List.mem_of_getElem? (i := 4) rfl)) (inR17 _ (List.mem_of_getElem? (i := 12) rfl)) (inR17 _ (List.mem_of_getElem? (i := 13) rfl)) (inR14 _ (List.mem_of_getElem? (i := 8) rfl)) (inR17 _ (List.mem_of_getElem? (i := 14) rfl))) rfl rfl rfl (inR16 _ (List.mem_of_getElem? (i := 20) rfl)) (by decide +kernel) ⟨Nat.le_trans (Nat.le_of_ble_eq_true rfl) hR.1, Nat.le_trans (Nat.le_of_ble_eq_true rfl) hR.2⟩) rfl hsize hstack hW hdg hf
abbrev rmV_back : Room := { frames := 0, cells := 0, slots := 0, locals := 0 }
set_option maxHeartbeats 4000000 in
theorem d_V_back {p : Program} {l : Launch} {e : Env} {R : Room} {s : State} {m : MethodId} {args : Array Value} {below : List Frame} {meth : Method} {c : Code} {H : Heap} {locs : List Loc} {cells slots : Nat} {cc : ByteArray} {nL index pc : Nat} {own : String} {ls : Array Slot} {rest st0 : List Value} {A0 : Nat → Prop} (D : va_G) (cI cZ cL : ClassId) (im : obIM) (lk : Nat → Option (Nat × Int32 × Int32 × Int32)) (hlk : obLK im lk) (h : Nat) (a1 : Int32) (Q : Int32 → Prop) (hm : m_V_back lk h a1 Q) (S : CallFix p m c cc nL s args wsL_law own) (hK : va_K D vwCl (tyG cI cZ cL) s) (hcut : va_P D vwCl [] H ∧ va_D (fun _ => True) [] ∧ ∀ q, va_A [] H.size q → A0 q) (hI : obI D im (va_A [] H.size) s H) (hN : obW s) (hl : Cond.methodLink own index yX4_back ∈ wsL_law) (hsize : ls.size = nL) (hstack : st0 = ([.int a1] : List Value).reverse ++ .ref h :: rest) (hW : (rest.map fun v => v.category).sum ≤ 8) (hdg : decode cc pc = .ok (.invokevirtual index, 3)) (hR : rmV_back.frames + 1 ≤ R.frames ∧ 8 + (2 + 11) + rmV_back.locals ≤ R.locals) (hf : cells + 0 ≤ R.cells ∧ slots + 0 ≤ R.slots) : va_Run p l e R s m args below meth c H locs cells slots 0 0 (F0 m pc ls st0) rest (va_Qi (fun (r : Int32) (u : Unit) => Q r) (obB D (va_A [] H.size) (fun _ : Unit => [])) (va_A [] H.size) (Value.ref h :: [.int a1]).toArray) (va_A [] H.size) := by
  obtain ⟨ci, n0, v0, t0, ek, hm⟩ := hm
  obtain ⟨hci, k0, hk0⟩ := hlk _ _ _ _ _ ek
  have hts := S.2.2.2.2
  rcases hci with rfl | rfl | rfl | rfl | rfl | rfl | rfl
  · exact ob_U (C := RX0) (As := [.int a1]) (rest := rest) S hK hcut hI hN (va_recv hK hI.1 (ci := 0) (q0 := k0) rfl hk0) (k_X4_back l D cI cZ cL im lk hlk _ _ _ _ (hm.1 rfl)) (va_cwU (owner := "OverBacks$Leaper") (x := yX4_back) 1 hts (gU_U hl (inR17 _ (List.mem_of_getElem? (i := 22) rfl)) (inR0 _ (List.mem_of_getElem? (i := 0) rfl)) (inR18 _ (List.mem_of_getElem? (i := 0) rfl)) (inR14 _ (List.mem_of_getElem? (i := 11) rfl)) (inR18 _ (List.mem_of_getElem? (i := 1) rfl))) rfl rfl rfl rfl (by decide +kernel) ⟨Nat.le_trans (Nat.le_of_ble_eq_true rfl) hR.1, Nat.le_trans (Nat.le_of_ble_eq_true rfl) hR.2⟩) rfl hsize hstack hW hdg hf
  · exact ob_U (C := RX2) (As := [.int a1]) (rest := rest) S hK hcut hI hN (va_recv hK hI.1 (ci := 2) (q0 := k0) rfl hk0) (k_X3_back l D cI cZ cL im lk hlk _ _ _ _ (hm.2.1 rfl)) (va_cwO (owner := "OverBacks$Leaper") (x := yX4_back) 1 hts (gU_O hl (inR17 _ (List.mem_of_getElem? (i := 22) rfl)) (inR18 _ (List.mem_of_getElem? (i := 0) rfl)) (inR18 _ (List.mem_of_getElem? (i := 3) rfl)) (inR18 _ (List.mem_of_getElem? (i := 4) rfl)) (inR13 _ (List.mem_of_getElem? (i := 20) rfl)) (inR18 _ (List.mem_of_getElem? (i := 5) rfl))) rfl rfl rfl (inR18 _ (List.mem_of_getElem? (i := 1) rfl)) (by decide +kernel) ⟨Nat.le_trans (Nat.le_of_ble_eq_true rfl) hR.1, Nat.le_trans (Nat.le_of_ble_eq_true rfl) hR.2⟩) rfl hsize hstack hW hdg hf
  · exact ob_U (C := RX3) (As := [.int a1]) (rest := rest) S hK hcut hI hN (va_recv hK hI.1 (ci := 3) (q0 := k0) rfl hk0) (k_X3_back l D cI cZ cL im lk hlk _ _ _ _ (hm.2.2.1 rfl)) (va_cwO (owner := "OverBacks$Leaper") (x := yX4_back) 1 hts (gU_O hl (inR17 _ (List.mem_of_getElem? (i := 22) rfl)) (inR18 _ (List.mem_of_getElem? (i := 0) rfl)) (inR18 _ (List.mem_of_getElem? (i := 8) rfl)) (inR18 _ (List.mem_of_getElem? (i := 4) rfl)) (inR13 _ (List.mem_of_getElem? (i := 20) rfl)) (inR18 _ (List.mem_of_getElem? (i := 5) rfl))) rfl rfl rfl (inR18 _ (List.mem_of_getElem? (i := 1) rfl)) (by decide +kernel) ⟨Nat.le_trans (Nat.le_of_ble_eq_true rfl) hR.1, Nat.le_trans (Nat.le_of_ble_eq_true rfl) hR.2⟩) rfl hsize hstack hW hdg hf
  · exact ob_V (C := RX4) (As := [.int a1]) (rest := rest) S hK hcut hI hN (va_recv hK hI.1 (ci := 4) (q0 := k0) rfl hk0) (k_X4_back l D cI cZ cL im lk hlk _ _ _ _ (hm.2.2.2.1 rfl)) (cwV 1 hts (gU_V hl (inR18 _ (List.mem_of_getElem? (i := 0) rfl)) (inR18 _ (List.mem_of_getElem? (i := 10) rfl)) (inR14 _ (List.mem_of_getElem? (i := 11) rfl)) (inR18 _ (List.mem_of_getElem? (i := 1) rfl))) rfl rfl rfl (by decide +kernel) ⟨Nat.le_trans (Nat.le_of_ble_eq_true rfl) hR.1, Nat.le_trans (Nat.le_of_ble_eq_true rfl) hR.2⟩) rfl hsize hstack hW hdg hf
  · exact ob_U (C := RX6) (As := [.int a1]) (rest := rest) S hK hcut hI hN (va_recv hK hI.1 (ci := 6) (q0 := k0) rfl hk0) (k_X6_back l D cI cZ cL im lk hlk _ _ _ _ (hm.2.2.2.2.1 rfl)) (va_cwO (owner := "OverBacks$Leaper") (x := yX4_back) 1 hts (gU_O hl (inR17 _ (List.mem_of_getElem? (i := 22) rfl)) (inR18 _ (List.mem_of_getElem? (i := 0) rfl)) (inR18 _ (List.mem_of_getElem? (i := 11) rfl)) (inR18 _ (List.mem_of_getElem? (i := 12) rfl)) (inR13 _ (List.mem_of_getElem? (i := 17) rfl)) (inR18 _ (List.mem_of_getElem? (i := 13) rfl))) rfl rfl rfl (inR18 _ (List.mem_of_getElem? (i := 1) rfl)) (by decide +kernel) ⟨Nat.le_trans (Nat.le_of_ble_eq_true rfl) hR.1, Nat.le_trans (Nat.le_of_ble_eq_true rfl) hR.2⟩) rfl hsize hstack hW hdg hf
  · exact ob_U (C := RX8) (As := [.int a1]) (rest := rest) S hK hcut hI hN (va_recv hK hI.1 (ci := 8) (q0 := k0) rfl hk0) (k_X6_back l D cI cZ cL im lk hlk _ _ _ _ (hm.2.2.2.2.2.1 rfl)) (va_cwO (owner := "OverBacks$Leaper") (x := yX4_back) 1 hts (gU_O hl (inR17 _ (List.mem_of_getElem? (i := 22) rfl)) (inR18 _ (List.mem_of_getElem? (i := 0) rfl)) (inR18 _ (List.mem_of_getElem? (i := 16) rfl)) (inR18 _ (List.mem_of_getElem? (i := 12) rfl)) (inR13 _ (List.mem_of_getElem? (i := 17) rfl)) (inR18 _ (List.mem_of_getElem? (i := 13) rfl))) rfl rfl rfl (inR18 _ (List.mem_of_getElem? (i := 1) rfl)) (by decide +kernel) ⟨Nat.le_trans (Nat.le_of_ble_eq_true rfl) hR.1, Nat.le_trans (Nat.le_of_ble_eq_true rfl) hR.2⟩) rfl hsize hstack hW hdg hf
  · exact ob_U (C := RX10) (As := [.int a1]) (rest := rest) S hK hcut hI hN (va_recv hK hI.1 (ci := 10) (q0 := k0) rfl hk0) (k_X10_back l D cI cZ cL im _ _ _ _ (hm.2.2.2.2.2.2 rfl)) (va_cwO (owner := "OverBacks$Leaper") (x := yX4_back) 1 hts (gU_O hl (inR17 _ (List.mem_of_getElem? (i := 22) rfl)) (inR18 _ (List.mem_of_getElem? (i := 0) rfl)) (inR18 _ (List.mem_of_getElem? (i := 17) rfl)) (inR18 _ (List.mem_of_getElem? (i := 18) rfl)) (inR14 _ (List.mem_of_getElem? (i := 8) rfl)) (inR18 _ (List.mem_of_getElem? (i := 19) rfl))) rfl rfl rfl (inR18 _ (List.mem_of_getElem? (i := 1) rfl)) (by decide +kernel) ⟨Nat.le_trans (Nat.le_of_ble_eq_true rfl) hR.1, Nat.le_trans (Nat.le_of_ble_eq_true rfl) hR.2⟩) rfl hsize hstack hW hdg hf
abbrev rmV_pace : Room := { frames := 0, cells := 0, slots := 0, locals := 0 }
set_option maxHeartbeats 4000000 in
theorem d_V_pace {p : Program} {l : Launch} {e : Env} {R : Room} {s : State} {m : MethodId} {args : Array Value} {below : List Frame} {meth : Method} {c : Code} {H : Heap} {locs : List Loc} {cells slots : Nat} {cc : ByteArray} {nL index pc : Nat} {own : String} {ls : Array Slot} {rest st0 : List Value} {A0 : Nat → Prop} (D : va_G) (cI cZ cL : ClassId) (im : obIM) (lk : Nat → Option (Nat × Int32 × Int32 × Int32)) (hlk : obLK im lk) (h : Nat) (a1 : Int32) (Q : Int32 → Prop) (hm : m_V_pace lk h a1 Q) (S : CallFix p m c cc nL s args wsL_law own) (hK : va_K D vwCl (tyG cI cZ cL) s) (hcut : va_P D vwCl [] H ∧ va_D (fun _ => True) [] ∧ ∀ q, va_A [] H.size q → A0 q) (hI : obI D im (va_A [] H.size) s H) (hN : obW s) (hl : Cond.methodLink own index yX4_pace ∈ wsL_law) (hsize : ls.size = nL) (hstack : st0 = ([.int a1] : List Value).reverse ++ .ref h :: rest) (hW : (rest.map fun v => v.category).sum ≤ 8) (hdg : decode cc pc = .ok (.invokevirtual index, 3)) (hR : rmV_pace.frames + 1 ≤ R.frames ∧ 8 + (2 + 11) + rmV_pace.locals ≤ R.locals) (hf : cells + 0 ≤ R.cells ∧ slots + 0 ≤ R.slots) : va_Run p l e R s m args below meth c H locs cells slots 0 0 (F0 m pc ls st0) rest (va_Qi (fun (r : Int32) (u : Unit) => Q r) (obB D (va_A [] H.size) (fun _ : Unit => [])) (va_A [] H.size) (Value.ref h :: [.int a1]).toArray) (va_A [] H.size) := by
  obtain ⟨ci, n0, v0, t0, ek, hm⟩ := hm
  obtain ⟨hci, k0, hk0⟩ := hlk _ _ _ _ _ ek
  have hts := S.2.2.2.2
  rcases hci with rfl | rfl | rfl | rfl | rfl | rfl | rfl
  · exact ob_U (C := RX0) (As := [.int a1]) (rest := rest) S hK hcut hI hN (va_recv hK hI.1 (ci := 0) (q0 := k0) rfl hk0) (k_X0_pace l D cI cZ cL im lk hlk _ _ _ _ (hm.1 rfl)) (va_cwO (owner := "OverBacks$Leaper") (x := yX4_pace) 1 hts (gU_O hl (inR22 _ (List.mem_of_getElem? (i := 4) rfl)) (inR22 _ (List.mem_of_getElem? (i := 18) rfl)) (inR22 _ (List.mem_of_getElem? (i := 6) rfl)) (inR22 _ (List.mem_of_getElem? (i := 7) rfl)) (inR13 _ (List.mem_of_getElem? (i := 23) rfl)) (inR22 _ (List.mem_of_getElem? (i := 8) rfl))) rfl rfl rfl (inR22 _ (List.mem_of_getElem? (i := 11) rfl)) (by decide +kernel) ⟨Nat.le_trans (Nat.le_of_ble_eq_true rfl) hR.1, Nat.le_trans (Nat.le_of_ble_eq_true rfl) hR.2⟩) rfl hsize hstack hW hdg hf
  · exact ob_U (C := RX2) (As := [.int a1]) (rest := rest) S hK hcut hI hN (va_recv hK hI.1 (ci := 2) (q0 := k0) rfl hk0) (k_X2_pace l D cI cZ cL im lk hlk _ _ _ _ (hm.2.1 rfl)) (va_cwO (owner := "OverBacks$Leaper") (x := yX4_pace) 1 hts (gU_O hl (inR22 _ (List.mem_of_getElem? (i := 4) rfl)) (inR22 _ (List.mem_of_getElem? (i := 18) rfl)) (inR22 _ (List.mem_of_getElem? (i := 12) rfl)) (inR22 _ (List.mem_of_getElem? (i := 13) rfl)) (inR14 _ (List.mem_of_getElem? (i := 5) rfl)) (inR22 _ (List.mem_of_getElem? (i := 14) rfl))) rfl rfl rfl (inR22 _ (List.mem_of_getElem? (i := 11) rfl)) (by decide +kernel) ⟨Nat.le_trans (Nat.le_of_ble_eq_true rfl) hR.1, Nat.le_trans (Nat.le_of_ble_eq_true rfl) hR.2⟩) rfl hsize hstack hW hdg hf
  · exact ob_U (C := RX3) (As := [.int a1]) (rest := rest) S hK hcut hI hN (va_recv hK hI.1 (ci := 3) (q0 := k0) rfl hk0) (k_X4_pace l D cI cZ cL im _ _ _ _ (hm.2.2.1 rfl)) (va_cwU (owner := "OverBacks$Leaper") (x := yX4_pace) 1 hts (gU_U hl (inR22 _ (List.mem_of_getElem? (i := 4) rfl)) (inR0 _ (List.mem_of_getElem? (i := 1) rfl)) (inR22 _ (List.mem_of_getElem? (i := 18) rfl)) (inR14 _ (List.mem_of_getElem? (i := 11) rfl)) (inR22 _ (List.mem_of_getElem? (i := 11) rfl))) rfl rfl rfl rfl (by decide +kernel) ⟨Nat.le_trans (Nat.le_of_ble_eq_true rfl) hR.1, Nat.le_trans (Nat.le_of_ble_eq_true rfl) hR.2⟩) rfl hsize hstack hW hdg hf
  · exact ob_V (C := RX4) (As := [.int a1]) (rest := rest) S hK hcut hI hN (va_recv hK hI.1 (ci := 4) (q0 := k0) rfl hk0) (k_X4_pace l D cI cZ cL im _ _ _ _ (hm.2.2.2.1 rfl)) (cwV 1 hts (gU_V hl (inR22 _ (List.mem_of_getElem? (i := 18) rfl)) (inR22 _ (List.mem_of_getElem? (i := 20) rfl)) (inR14 _ (List.mem_of_getElem? (i := 11) rfl)) (inR22 _ (List.mem_of_getElem? (i := 11) rfl))) rfl rfl rfl (by decide +kernel) ⟨Nat.le_trans (Nat.le_of_ble_eq_true rfl) hR.1, Nat.le_trans (Nat.le_of_ble_eq_true rfl) hR.2⟩) rfl hsize hstack hW hdg hf
  · exact ob_U (C := RX6) (As := [.int a1]) (rest := rest) S hK hcut hI hN (va_recv hK hI.1 (ci := 6) (q0 := k0) rfl hk0) (k_X4_pace l D cI cZ cL im _ _ _ _ (hm.2.2.2.2.1 rfl)) (va_cwU (owner := "OverBacks$Leaper") (x := yX4_pace) 1 hts (gU_U hl (inR22 _ (List.mem_of_getElem? (i := 4) rfl)) (inR0 _ (List.mem_of_getElem? (i := 2) rfl)) (inR22 _ (List.mem_of_getElem? (i := 18) rfl)) (inR14 _ (List.mem_of_getElem? (i := 11) rfl)) (inR22 _ (List.mem_of_getElem? (i := 11) rfl))) rfl rfl rfl rfl (by decide +kernel) ⟨Nat.le_trans (Nat.le_of_ble_eq_true rfl) hR.1, Nat.le_trans (Nat.le_of_ble_eq_true rfl) hR.2⟩) rfl hsize hstack hW hdg hf
  · exact ob_U (C := RX8) (As := [.int a1]) (rest := rest) S hK hcut hI hN (va_recv hK hI.1 (ci := 8) (q0 := k0) rfl hk0) (k_X8_pace l D cI cZ cL im _ _ _ _ (hm.2.2.2.2.2.1 rfl)) (va_cwO (owner := "OverBacks$Leaper") (x := yX4_pace) 1 hts (gU_O hl (inR22 _ (List.mem_of_getElem? (i := 4) rfl)) (inR22 _ (List.mem_of_getElem? (i := 18) rfl)) (inR22 _ (List.mem_of_getElem? (i := 22) rfl)) (inR22 _ (List.mem_of_getElem? (i := 23) rfl)) (inR14 _ (List.mem_of_getElem? (i := 2) rfl)) (inR23 _ (List.mem_of_getElem? (i := 0) rfl))) rfl rfl rfl (inR22 _ (List.mem_of_getElem? (i := 11) rfl)) (by decide +kernel) ⟨Nat.le_trans (Nat.le_of_ble_eq_true rfl) hR.1, Nat.le_trans (Nat.le_of_ble_eq_true rfl) hR.2⟩) rfl hsize hstack hW hdg hf
  · exact ob_U (C := RX10) (As := [.int a1]) (rest := rest) S hK hcut hI hN (va_recv hK hI.1 (ci := 10) (q0 := k0) rfl hk0) (k_X0_pace l D cI cZ cL im lk hlk _ _ _ _ (hm.2.2.2.2.2.2 rfl)) (va_cwO (owner := "OverBacks$Leaper") (x := yX4_pace) 1 hts (gU_O hl (inR22 _ (List.mem_of_getElem? (i := 4) rfl)) (inR22 _ (List.mem_of_getElem? (i := 18) rfl)) (inR23 _ (List.mem_of_getElem? (i := 1) rfl)) (inR22 _ (List.mem_of_getElem? (i := 7) rfl)) (inR13 _ (List.mem_of_getElem? (i := 23) rfl)) (inR22 _ (List.mem_of_getElem? (i := 8) rfl))) rfl rfl rfl (inR22 _ (List.mem_of_getElem? (i := 11) rfl)) (by decide +kernel) ⟨Nat.le_trans (Nat.le_of_ble_eq_true rfl) hR.1, Nat.le_trans (Nat.le_of_ble_eq_true rfl) hR.2⟩) rfl hsize hstack hW hdg hf
abbrev rmX0_isUnder : Room := { frames := 1, cells := 0, slots := 0, locals := 21 }
set_option maxHeartbeats 4000000 in
set_option maxRecDepth 100000 in
theorem k_X0_isUnder (l : Launch) (D : va_G) (cI cZ cL : ClassId) (im : obIM) (lk : Nat → Option (Nat × Int32 × Int32 × Int32)) (hlk : obLK im lk) (sz : Nat) (h : Nat) (a1 : Int32) (Q : Int32 → Prop) (hm : m_X0_isUnder lk h a1 Q) : Met l yX0_isUnder (Cond.code yX0_isUnder cX0_isUnder 2 (some .boolean) :: wsL_law) rmX0_isUnder (obPre D (tyG cI cZ cL) im [] sz [.ref h, .int a1]) (va_Qi (fun (r : Int32) (u : Unit) => Q r) (obB D (va_A [] sz) (fun _ : Unit => [])) (va_A [] sz)) 0 0 (va_A [] sz) := by
  refine ob_met_i (cc := cX0_isUnder) (maxL := 2) (by decide) (Nat.le_of_ble_eq_true rfl) (fun p e s m args below meth c A Z hx hb hml hown hts hnm hN hK hA hI hP hD hS hZ ls hl => ?_)
  have hl : lv_has ls 2 [(0, .ref h), (1, .int a1)] := hl
  unfold m_X0_isUnder at hm
  obtain ⟨H, hH⟩ : ∃ H, H = s.heap := ⟨_, rfl⟩
  obtain ⟨locs, hlo⟩ : ∃ q : List Loc, q = [] := ⟨_, rfl⟩
  suffices hgo : W p l e rmX0_isUnder s m args below meth c H locs 0 0 Z (F0 m 0 ls []) by rw [hH, hlo] at hgo; exact hgo
  have hP : va_P D vwCl [] H := by rw [hH]; exact hP
  have hD : va_D A [] := hD
  have hS : va_S A s.heap H locs := by rw [hH, hlo]; exact hS
  refine lv_iload_n hx hb (dX0_isUnder 0 rfl) rfl (lv_at hl 1 rfl) ?_
  refine lv_iconst (v := (3 : Int32)) hx hb (dX0_isUnder 1 rfl) (by decide) ?_
  refine lv_icmp_eq (tgt := 13) hx hb (dX0_isUnder 2 rfl) (by decide) (fun c1 => ?_) (fun c1 => ?_)
  · replace hm := hm.1 c1
    refine lv_iconst (v := (1 : Int32)) hx hb (dX0_isUnder 7 rfl) (by decide) ?_
    refine lv_goto (tgt := 18) hx hb (dX0_isUnder 8 rfl) (by decide) ?_
    exact hZ (1 : Int32) () H locs ls 18 hm hP hD hS (dX0_isUnder 10 rfl) rfl
  replace hm := hm.2 c1
  refine lv_aload_n hx hb (dX0_isUnder 3 rfl) rfl (lv_at hl 0 rfl) ?_
  refine lv_iload_n hx hb (dX0_isUnder 4 rfl) rfl (lv_at hl 1 rfl) ?_
  obtain ⟨d4, n4, v4, t4, e4, hm⟩ := hm
  obtain ⟨hc4, k4, hk4⟩ := hlk _ _ _ _ _ e4
  obtain ⟨w4, hw4⟩ := obK_cl hc4
  have hcut := ob_cut (wc := []) hP hD hS hA [] rfl (by decide)
  refine ob_i (wr := []) (ob_SU (n := 1) (x := (⟨"OverBacks$Leaper", "isUnder", "(I)Z"⟩ : MethodName)) (owner := "OverBacks$Leaper") (C := w4.1) (As := [.int a1]) (rest := []) (hK.1 d4 w4 hw4).2 ⟨hx, hb, hml, hown, hts⟩ hK hcut (hI.cut hS hcut.2.2) hN (va_recv hK (hI.now hS) hw4 hk4) (k_X4_isUnder l D cI cZ cL im _ _ _ _ hm) (inR41 _ (List.mem_of_getElem? (i := 11) rfl)) (inR41 _ (List.mem_of_getElem? (i := 6) rfl)) (inR38 _ (List.mem_of_getElem? (i := 8) rfl)) (inR41 _ (List.mem_of_getElem? (i := 12) rfl)) (inR14 _ (List.mem_of_getElem? (i := 11) rfl)) (inR41 _ (List.mem_of_getElem? (i := 13) rfl)) (Or.inl rfl) (by decide +kernel) rfl rfl ⟨Nat.le_of_ble_eq_true rfl, Nat.le_of_ble_eq_true rfl⟩ rfl hl.1 rfl (Nat.le_of_ble_eq_true rfl) (dX0_isUnder 5 rfl) ⟨Nat.zero_le _, Nat.zero_le _⟩) hP hD hS hcut [] [] rfl rfl (by decide) (by decide) (fun r2 u3 H locs hm hP hD hS => ?_)
  have hP := hP.sub (ws' := []) [] rfl
  have hD := hD.sub (ws' := []) [] (by decide) rfl
  refine lv_if_eq (tgt := 17) hx hb (dX0_isUnder 6 rfl) (by decide) (fun c5 => ?_) (fun c5 => ?_)
  · replace hm := hm.1 c5
    refine lv_iconst (v := (0 : Int32)) hx hb (dX0_isUnder 9 rfl) (by decide) ?_
    exact hZ (0 : Int32) () H locs ls 18 hm hP hD hS (dX0_isUnder 10 rfl) rfl
  replace hm := hm.2 c5
  refine lv_iconst (v := (1 : Int32)) hx hb (dX0_isUnder 7 rfl) (by decide) ?_
  refine lv_goto (tgt := 18) hx hb (dX0_isUnder 8 rfl) (by decide) ?_
  exact hZ (1 : Int32) () H locs ls 18 hm hP hD hS (dX0_isUnder 10 rfl) rfl
abbrev rmX1_readNumber : Room := { frames := 1, cells := 0, slots := 0, locals := 21 }
set_option maxHeartbeats 4000000 in
set_option maxRecDepth 100000 in
theorem k_X1_readNumber (l : Launch) (D : va_G) (cI cZ cL : ClassId) (im : obIM) (sz : Nat) (h : Nat) (htape : Nat) (q_steps : Nat) (q_words : Nat) (q_numbers : Nat) (q_starts : Nat) (q_ends : Nat) (f_place : Int32) (f_stepCount : Int32) (f_clauses : Int32) (f_gap : Int32) (f_far : Int32) (qtape_items : Nat) (ftape_size : Int32) (ftape_came : Int32) (rtape_items : Nat → Int32) (Q : Int32 → Int32 → Prop) (hm : m_X1_readNumber f_place ftape_size rtape_items Q) : Met l yX1_readNumber (Cond.code yX1_readNumber cX1_readNumber 3 (some .int) :: wsL_law) rmX1_readNumber (obPre D (tyG cI cZ cL) im [(h, .inr (1, [.ref htape, .ref q_steps, .ref q_words, .ref q_numbers, .ref q_starts, .ref q_ends, .int f_place, .int f_stepCount, .int f_clauses, .int f_gap, .int f_far])), (htape, .inr (7, [.ref qtape_items, .int ftape_size, .int ftape_came])), (qtape_items, .inl (cI, 100, .inl rtape_items))] sz [.ref h]) (va_Qi (fun (r : Int32) (u : Int32) => Q r u) (obB D (va_A [(h, .inr (1, [.ref htape, .ref q_steps, .ref q_words, .ref q_numbers, .ref q_starts, .ref q_ends, .int f_place, .int f_stepCount, .int f_clauses, .int f_gap, .int f_far])), (htape, .inr (7, [.ref qtape_items, .int ftape_size, .int ftape_came])), (qtape_items, .inl (cI, 100, .inl rtape_items))] sz) (fun u : Int32 => [(h, .inr (1, [.ref htape, .ref q_steps, .ref q_words, .ref q_numbers, .ref q_starts, .ref q_ends, .int u, .int f_stepCount, .int f_clauses, .int f_gap, .int f_far])), (htape, .inr (7, [.ref qtape_items, .int ftape_size, .int ftape_came])), (qtape_items, .inl (cI, 100, .inl rtape_items))])) (va_A [(h, .inr (1, [.ref htape, .ref q_steps, .ref q_words, .ref q_numbers, .ref q_starts, .ref q_ends, .int f_place, .int f_stepCount, .int f_clauses, .int f_gap, .int f_far])), (htape, .inr (7, [.ref qtape_items, .int ftape_size, .int ftape_came])), (qtape_items, .inl (cI, 100, .inl rtape_items))] sz)) 0 0 (va_A [(h, .inr (1, [.ref htape, .ref q_steps, .ref q_words, .ref q_numbers, .ref q_starts, .ref q_ends, .int f_place, .int f_stepCount, .int f_clauses, .int f_gap, .int f_far])), (htape, .inr (7, [.ref qtape_items, .int ftape_size, .int ftape_came])), (qtape_items, .inl (cI, 100, .inl rtape_items))] sz) := by
  refine ob_met_i (cc := cX1_readNumber) (maxL := 3) (by decide) (Nat.le_of_ble_eq_true rfl) (fun p e s m args below meth c A Z hx hb hml hown hts hnm hN hK hA hI hP hD hS hZ ls hl => ?_)
  have hl : lv_has ls 3 [(0, .ref h)] := hl
  unfold m_X1_readNumber at hm
  obtain ⟨H, hH⟩ : ∃ H, H = s.heap := ⟨_, rfl⟩
  obtain ⟨locs, hlo⟩ : ∃ q : List Loc, q = [] := ⟨_, rfl⟩
  suffices hgo : W p l e rmX1_readNumber s m args below meth c H locs 0 0 Z (F0 m 0 ls []) by rw [hH, hlo] at hgo; exact hgo
  have hP : va_P D vwCl [(h, .inr (1, [.ref htape, .ref q_steps, .ref q_words, .ref q_numbers, .ref q_starts, .ref q_ends, .int f_place, .int f_stepCount, .int f_clauses, .int f_gap, .int f_far])), (htape, .inr (7, [.ref qtape_items, .int ftape_size, .int ftape_came])), (qtape_items, .inl (cI, 100, .inl rtape_items))] H := by rw [hH]; exact hP
  have hD : va_D A [(h, .inr (1, [.ref htape, .ref q_steps, .ref q_words, .ref q_numbers, .ref q_starts, .ref q_ends, .int f_place, .int f_stepCount, .int f_clauses, .int f_gap, .int f_far])), (htape, .inr (7, [.ref qtape_items, .int ftape_size, .int ftape_came])), (qtape_items, .inl (cI, 100, .inl rtape_items))] := hD
  have hS : va_S A s.heap H locs := by rw [hH, hlo]; exact hS
  refine lv_aload_n hx hb (dX1_readNumber 0 rfl) rfl (lv_at hl 0 rfl) ?_
  refine va_get (D := D) (ci := 1) (v := .ref htape) (C := RX1) (T := TX1) (N := 11) hx hb hts inlX1 hown hK hP 0 rfl rfl 0 (by decide) (hts (.fieldLink RX1 9 "OverBacks$Field" "tape" "LOverBacks$Numbers;") (inR5 _ (List.mem_of_getElem? (i := 13) rfl))) (fun _ h9 => h9) rfl (dX1_readNumber 1 rfl) ?_
  refine lv_aload_n hx hb (dX1_readNumber 2 rfl) rfl (lv_at hl 0 rfl) ?_
  refine va_get (D := D) (ci := 1) (v := .int f_place) (C := RX1) (T := TX1) (N := 11) hx hb hts inlX1 hown hK hP 0 rfl rfl 6 (by decide) (hts (.fieldLink RX1 42 "OverBacks$Field" "place" "I") (inR6 _ (List.mem_of_getElem? (i := 1) rfl))) (fun _ h9 => h9) rfl (dX1_readNumber 3 rfl) ?_
  have hcut := ob_cut (wc := [(htape, .inr (7, [.ref qtape_items, .int ftape_size, .int ftape_came])), (qtape_items, .inl (cI, 100, .inl rtape_items))]) hP hD hS hA [1, 2] rfl (by decide)
  refine ob_i (wr := [(h, .inr (1, [.ref htape, .ref q_steps, .ref q_words, .ref q_numbers, .ref q_starts, .ref q_ends, .int f_place, .int f_stepCount, .int f_clauses, .int f_gap, .int f_far]))]) (ob_V (As := [.int f_place]) (rest := []) ⟨hx, hb, hml, hown, hts⟩ hK hcut (hI.cut hS hcut.2.2) hN (va_recv hK hP (ci := 7) (q0 := 1) rfl rfl) (k_X7_at l D cI cZ cL im _ _ _ _ _ _ _ _ _ hm) (cwV 1 hts (gU_V (inR6 _ (List.mem_of_getElem? (i := 12) rfl)) (inR6 _ (List.mem_of_getElem? (i := 13) rfl)) (inR6 _ (List.mem_of_getElem? (i := 14) rfl)) (inR1 _ (List.mem_of_getElem? (i := 23) rfl)) (inR6 _ (List.mem_of_getElem? (i := 15) rfl))) rfl rfl rfl (by decide +kernel) ⟨Nat.le_of_ble_eq_true rfl, Nat.le_of_ble_eq_true rfl⟩) rfl hl.1 rfl (Nat.le_of_ble_eq_true rfl) (dX1_readNumber 4 rfl) ⟨Nat.zero_le _, Nat.zero_le _⟩) hP hD hS hcut [1, 2] [0] rfl rfl (by decide) (by decide) (fun r1 u2 H locs hm hP hD hS => ?_)
  have hP := hP.sub (ws' := [(h, .inr (1, [.ref htape, .ref q_steps, .ref q_words, .ref q_numbers, .ref q_starts, .ref q_ends, .int f_place, .int f_stepCount, .int f_clauses, .int f_gap, .int f_far])), (htape, .inr (7, [.ref qtape_items, .int ftape_size, .int ftape_came])), (qtape_items, .inl (cI, 100, .inl rtape_items))]) [0, 1, 2] rfl
  have hD := hD.sub (ws' := [(h, .inr (1, [.ref htape, .ref q_steps, .ref q_words, .ref q_numbers, .ref q_starts, .ref q_ends, .int f_place, .int f_stepCount, .int f_clauses, .int f_gap, .int f_far])), (htape, .inr (7, [.ref qtape_items, .int ftape_size, .int ftape_came])), (qtape_items, .inl (cI, 100, .inl rtape_items))]) [0, 1, 2] (by decide) rfl
  refine lv_istore_n (lv' := [(1, .int r1), (0, .ref h)]) hx hb (dX1_readNumber 5 rfl) rfl hl (by decide) rfl (fun ls hl => ?_)
  refine lv_iload_n hx hb (dX1_readNumber 6 rfl) rfl (lv_at hl 0 rfl) ?_
  have hcut := ob_cut (wc := []) hP hD hS hA [] rfl (by decide)
  refine ob_i (wr := [(h, .inr (1, [.ref htape, .ref q_steps, .ref q_words, .ref q_numbers, .ref q_starts, .ref q_ends, .int f_place, .int f_stepCount, .int f_clauses, .int f_gap, .int f_far])), (htape, .inr (7, [.ref qtape_items, .int ftape_size, .int ftape_came])), (qtape_items, .inl (cI, 100, .inl rtape_items))]) (ob_S (As := [.int r1]) (rest := []) ⟨hx, hb, hml, hown, hts⟩ hK hcut (hI.cut hS hcut.2.2) hN (k_X1_isDigitSign l D cI cZ cL im _ _ _ hm) (cwS2 1 hts (hts (.methodLink RX1 85 yX1_isDigitSign) (inR9 _ (List.mem_of_getElem? (i := 5) rfl))) (hts (.static yX1_isDigitSign) (inR9 _ (List.mem_of_getElem? (i := 6) rfl))) (hts (.initialized RX1) (inR5 _ (List.mem_of_getElem? (i := 8) rfl))) (goodU_c (inR9 _ (List.mem_of_getElem? (i := 7) rfl))) rfl rfl rfl (by decide +kernel) ⟨Nat.le_of_ble_eq_true rfl, Nat.le_of_ble_eq_true rfl⟩) rfl hl.1 rfl (Nat.le_of_ble_eq_true rfl) (dX1_readNumber 7 rfl) ⟨Nat.zero_le _, Nat.zero_le _⟩) hP hD hS hcut [] [0, 1, 2] rfl rfl (by decide) (by decide) (fun r3 u4 H locs hm hP hD hS => ?_)
  have hP := hP.sub (ws' := [(h, .inr (1, [.ref htape, .ref q_steps, .ref q_words, .ref q_numbers, .ref q_starts, .ref q_ends, .int f_place, .int f_stepCount, .int f_clauses, .int f_gap, .int f_far])), (htape, .inr (7, [.ref qtape_items, .int ftape_size, .int ftape_came])), (qtape_items, .inl (cI, 100, .inl rtape_items))]) [0, 1, 2] rfl
  have hD := hD.sub (ws' := [(h, .inr (1, [.ref htape, .ref q_steps, .ref q_words, .ref q_numbers, .ref q_starts, .ref q_ends, .int f_place, .int f_stepCount, .int f_clauses, .int f_gap, .int f_far])), (htape, .inr (7, [.ref qtape_items, .int ftape_size, .int ftape_came])), (qtape_items, .inl (cI, 100, .inl rtape_items))]) [0, 1, 2] (by decide) rfl
  refine lv_if_ne (tgt := 21) hx hb (dX1_readNumber 8 rfl) (by decide) (fun c5 => ?_) (fun c5 => ?_)
  · replace hm := hm.2 c5
    refine lv_aload_n hx hb (dX1_readNumber 11 rfl) rfl (lv_at hl 1 rfl) ?_
    refine lv_dup hx hb (dX1_readNumber 12 rfl) rfl ?_
    refine va_get (D := D) (ci := 1) (v := .int f_place) (C := RX1) (T := TX1) (N := 11) hx hb hts inlX1 hown hK hP 0 rfl rfl 6 (by decide) (hts (.fieldLink RX1 42 "OverBacks$Field" "place" "I") (inR6 _ (List.mem_of_getElem? (i := 1) rfl))) (fun _ h9 => h9) rfl (dX1_readNumber 13 rfl) ?_
    refine lv_iconst (v := (1 : Int32)) hx hb (dX1_readNumber 14 rfl) (by decide) ?_
    refine lv_iadd hx hb (dX1_readNumber 15 rfl) ?_
    refine va_put (D := D) (ci := 1) (v := .int (f_place + (1 : Int32))) (ty := .int) (C := RX1) (T := TX1) (N := 11) hx hb hts inlX1 tyX1 tyX1_ok nmX1 hown hK hP hD hS 0 rfl rfl 6 (by decide) (hts (.fieldLink RX1 42 "OverBacks$Field" "place" "I") (inR6 _ (List.mem_of_getElem? (i := 1) rfl))) (fun _ h9 => h9) rfl (by decide +kernel) rfl rfl (Nat.le_of_ble_eq_true rfl) (dX1_readNumber 16 rfl) (fun H locs hP hD hS => ?_)
    have hP : va_P D vwCl [(h, .inr (1, [.ref htape, .ref q_steps, .ref q_words, .ref q_numbers, .ref q_starts, .ref q_ends, .int (f_place + (1 : Int32)), .int f_stepCount, .int f_clauses, .int f_gap, .int f_far])), (htape, .inr (7, [.ref qtape_items, .int ftape_size, .int ftape_came])), (qtape_items, .inl (cI, 100, .inl rtape_items))] H := hP
    have hD : va_D A [(h, .inr (1, [.ref htape, .ref q_steps, .ref q_words, .ref q_numbers, .ref q_starts, .ref q_ends, .int (f_place + (1 : Int32)), .int f_stepCount, .int f_clauses, .int f_gap, .int f_far])), (htape, .inr (7, [.ref qtape_items, .int ftape_size, .int ftape_came])), (qtape_items, .inl (cI, 100, .inl rtape_items))] := hD
    refine lv_aload_n hx hb (dX1_readNumber 17 rfl) rfl (lv_at hl 1 rfl) ?_
    refine va_get (D := D) (ci := 1) (v := .ref htape) (C := RX1) (T := TX1) (N := 11) hx hb hts inlX1 hown hK hP 0 rfl rfl 0 (by decide) (hts (.fieldLink RX1 9 "OverBacks$Field" "tape" "LOverBacks$Numbers;") (inR5 _ (List.mem_of_getElem? (i := 13) rfl))) (fun _ h9 => h9) rfl (dX1_readNumber 18 rfl) ?_
    refine lv_aload_n hx hb (dX1_readNumber 19 rfl) rfl (lv_at hl 1 rfl) ?_
    refine va_get (D := D) (ci := 1) (v := .int (f_place + (1 : Int32))) (C := RX1) (T := TX1) (N := 11) hx hb hts inlX1 hown hK hP 0 rfl rfl 6 (by decide) (hts (.fieldLink RX1 42 "OverBacks$Field" "place" "I") (inR6 _ (List.mem_of_getElem? (i := 1) rfl))) (fun _ h9 => h9) rfl (dX1_readNumber 20 rfl) ?_
    have hcut := ob_cut (wc := [(htape, .inr (7, [.ref qtape_items, .int ftape_size, .int ftape_came])), (qtape_items, .inl (cI, 100, .inl rtape_items))]) hP hD hS hA [1, 2] rfl (by decide)
    refine ob_i (wr := [(h, .inr (1, [.ref htape, .ref q_steps, .ref q_words, .ref q_numbers, .ref q_starts, .ref q_ends, .int (f_place + (1 : Int32)), .int f_stepCount, .int f_clauses, .int f_gap, .int f_far]))]) (ob_V (As := [.int (f_place + (1 : Int32))]) (rest := []) ⟨hx, hb, hml, hown, hts⟩ hK hcut (hI.cut hS hcut.2.2) hN (va_recv hK hP (ci := 7) (q0 := 1) rfl rfl) (k_X7_at l D cI cZ cL im _ _ _ _ _ _ _ _ _ hm) (cwV 1 hts (gU_V (inR6 _ (List.mem_of_getElem? (i := 12) rfl)) (inR6 _ (List.mem_of_getElem? (i := 13) rfl)) (inR6 _ (List.mem_of_getElem? (i := 14) rfl)) (inR1 _ (List.mem_of_getElem? (i := 23) rfl)) (inR6 _ (List.mem_of_getElem? (i := 15) rfl))) rfl rfl rfl (by decide +kernel) ⟨Nat.le_of_ble_eq_true rfl, Nat.le_of_ble_eq_true rfl⟩) rfl hl.1 rfl (Nat.le_of_ble_eq_true rfl) (dX1_readNumber 21 rfl) ⟨Nat.zero_le _, Nat.zero_le _⟩) hP hD hS hcut [1, 2] [0] rfl rfl (by decide) (by decide) (fun r6 u7 H locs hm hP hD hS => ?_)
    have hP := hP.sub (ws' := [(h, .inr (1, [.ref htape, .ref q_steps, .ref q_words, .ref q_numbers, .ref q_starts, .ref q_ends, .int (f_place + (1 : Int32)), .int f_stepCount, .int f_clauses, .int f_gap, .int f_far])), (htape, .inr (7, [.ref qtape_items, .int ftape_size, .int ftape_came])), (qtape_items, .inl (cI, 100, .inl rtape_items))]) [0, 1, 2] rfl
    have hD := hD.sub (ws' := [(h, .inr (1, [.ref htape, .ref q_steps, .ref q_words, .ref q_numbers, .ref q_starts, .ref q_ends, .int (f_place + (1 : Int32)), .int f_stepCount, .int f_clauses, .int f_gap, .int f_far])), (htape, .inr (7, [.ref qtape_items, .int ftape_size, .int ftape_came])), (qtape_items, .inl (cI, 100, .inl rtape_items))]) [0, 1, 2] (by decide) rfl
    refine lv_istore_n (lv' := [(2, .int r6), (1, .int r1), (0, .ref h)]) hx hb (dX1_readNumber 22 rfl) rfl hl (by decide) rfl (fun ls hl => ?_)
    refine lv_iload_n hx hb (dX1_readNumber 23 rfl) rfl (lv_at hl 0 rfl) ?_
    have hcut := ob_cut (wc := []) hP hD hS hA [] rfl (by decide)
    refine ob_i (wr := [(h, .inr (1, [.ref htape, .ref q_steps, .ref q_words, .ref q_numbers, .ref q_starts, .ref q_ends, .int (f_place + (1 : Int32)), .int f_stepCount, .int f_clauses, .int f_gap, .int f_far])), (htape, .inr (7, [.ref qtape_items, .int ftape_size, .int ftape_came])), (qtape_items, .inl (cI, 100, .inl rtape_items))]) (ob_S (As := [.int r6]) (rest := []) ⟨hx, hb, hml, hown, hts⟩ hK hcut (hI.cut hS hcut.2.2) hN (k_X1_isDigitSign l D cI cZ cL im _ _ _ hm) (cwS2 1 hts (hts (.methodLink RX1 85 yX1_isDigitSign) (inR9 _ (List.mem_of_getElem? (i := 5) rfl))) (hts (.static yX1_isDigitSign) (inR9 _ (List.mem_of_getElem? (i := 6) rfl))) (hts (.initialized RX1) (inR5 _ (List.mem_of_getElem? (i := 8) rfl))) (goodU_c (inR9 _ (List.mem_of_getElem? (i := 7) rfl))) rfl rfl rfl (by decide +kernel) ⟨Nat.le_of_ble_eq_true rfl, Nat.le_of_ble_eq_true rfl⟩) rfl hl.1 rfl (Nat.le_of_ble_eq_true rfl) (dX1_readNumber 24 rfl) ⟨Nat.zero_le _, Nat.zero_le _⟩) hP hD hS hcut [] [0, 1, 2] rfl rfl (by decide) (by decide) (fun r8 u9 H locs hm hP hD hS => ?_)
    have hP := hP.sub (ws' := [(h, .inr (1, [.ref htape, .ref q_steps, .ref q_words, .ref q_numbers, .ref q_starts, .ref q_ends, .int (f_place + (1 : Int32)), .int f_stepCount, .int f_clauses, .int f_gap, .int f_far])), (htape, .inr (7, [.ref qtape_items, .int ftape_size, .int ftape_came])), (qtape_items, .inl (cI, 100, .inl rtape_items))]) [0, 1, 2] rfl
    have hD := hD.sub (ws' := [(h, .inr (1, [.ref htape, .ref q_steps, .ref q_words, .ref q_numbers, .ref q_starts, .ref q_ends, .int (f_place + (1 : Int32)), .int f_stepCount, .int f_clauses, .int f_gap, .int f_far])), (htape, .inr (7, [.ref qtape_items, .int ftape_size, .int ftape_came])), (qtape_items, .inl (cI, 100, .inl rtape_items))]) [0, 1, 2] (by decide) rfl
    refine lv_if_ne (tgt := 55) hx hb (dX1_readNumber 25 rfl) (by decide) (fun c10 => ?_) (fun c10 => ?_)
    · replace hm := hm.2 c10
      refine lv_iload_n hx hb (dX1_readNumber 30 rfl) rfl (lv_at hl 1 rfl) ?_
      refine lv_bipush (v := (48 : Int32)) hx hb (dX1_readNumber 31 rfl) (by decide) ?_
      refine lv_icmp_ne (tgt := 63) hx hb (dX1_readNumber 32 rfl) (by decide) (fun c11 => ?_) (fun c11 => ?_)
      · replace hm := hm.2 c11
        refine lv_aload_n hx hb (dX1_readNumber 35 rfl) rfl (lv_at hl 2 rfl) ?_
        refine lv_dup hx hb (dX1_readNumber 36 rfl) rfl ?_
        refine va_get (D := D) (ci := 1) (v := .int (f_place + (1 : Int32))) (C := RX1) (T := TX1) (N := 11) hx hb hts inlX1 hown hK hP 0 rfl rfl 6 (by decide) (hts (.fieldLink RX1 42 "OverBacks$Field" "place" "I") (inR6 _ (List.mem_of_getElem? (i := 1) rfl))) (fun _ h9 => h9) rfl (dX1_readNumber 37 rfl) ?_
        refine lv_iconst (v := (1 : Int32)) hx hb (dX1_readNumber 38 rfl) (by decide) ?_
        refine lv_iadd hx hb (dX1_readNumber 39 rfl) ?_
        refine va_put (D := D) (ci := 1) (v := .int ((f_place + (1 : Int32)) + (1 : Int32))) (ty := .int) (C := RX1) (T := TX1) (N := 11) hx hb hts inlX1 tyX1 tyX1_ok nmX1 hown hK hP hD hS 0 rfl rfl 6 (by decide) (hts (.fieldLink RX1 42 "OverBacks$Field" "place" "I") (inR6 _ (List.mem_of_getElem? (i := 1) rfl))) (fun _ h9 => h9) rfl (by decide +kernel) rfl rfl (Nat.le_of_ble_eq_true rfl) (dX1_readNumber 40 rfl) (fun H locs hP hD hS => ?_)
        have hP : va_P D vwCl [(h, .inr (1, [.ref htape, .ref q_steps, .ref q_words, .ref q_numbers, .ref q_starts, .ref q_ends, .int ((f_place + (1 : Int32)) + (1 : Int32)), .int f_stepCount, .int f_clauses, .int f_gap, .int f_far])), (htape, .inr (7, [.ref qtape_items, .int ftape_size, .int ftape_came])), (qtape_items, .inl (cI, 100, .inl rtape_items))] H := hP
        have hD : va_D A [(h, .inr (1, [.ref htape, .ref q_steps, .ref q_words, .ref q_numbers, .ref q_starts, .ref q_ends, .int ((f_place + (1 : Int32)) + (1 : Int32)), .int f_stepCount, .int f_clauses, .int f_gap, .int f_far])), (htape, .inr (7, [.ref qtape_items, .int ftape_size, .int ftape_came])), (qtape_items, .inl (cI, 100, .inl rtape_items))] := hD
        refine lv_iload_n hx hb (dX1_readNumber 41 rfl) rfl (lv_at hl 1 rfl) ?_
        refine lv_bipush (v := (48 : Int32)) hx hb (dX1_readNumber 42 rfl) (by decide) ?_
        refine lv_isub hx hb (dX1_readNumber 43 rfl) ?_
        refine lv_bipush (v := (10 : Int32)) hx hb (dX1_readNumber 44 rfl) (by decide) ?_
        refine lv_imul hx hb (dX1_readNumber 45 rfl) ?_
        refine lv_iload_n hx hb (dX1_readNumber 46 rfl) rfl (lv_at hl 0 rfl) ?_
        refine lv_bipush (v := (48 : Int32)) hx hb (dX1_readNumber 47 rfl) (by decide) ?_
        refine lv_isub hx hb (dX1_readNumber 48 rfl) ?_
        refine lv_iadd hx hb (dX1_readNumber 49 rfl) ?_
        exact hZ (((r1 - (48 : Int32)) * (10 : Int32)) + (r6 - (48 : Int32))) ((f_place + (1 : Int32)) + (1 : Int32)) H locs ls 85 hm hP hD hS (dX1_readNumber 50 rfl) rfl
      replace hm := hm.1 c11
      refine lv_iconst (v := (-1 : Int32)) hx hb (dX1_readNumber 33 rfl) (by decide) ?_
      exact hZ (-1 : Int32) (f_place + (1 : Int32)) H locs ls 62 hm hP hD hS (dX1_readNumber 34 rfl) rfl
    replace hm := hm.1 c10
    refine lv_iload_n hx hb (dX1_readNumber 26 rfl) rfl (lv_at hl 1 rfl) ?_
    refine lv_bipush (v := (48 : Int32)) hx hb (dX1_readNumber 27 rfl) (by decide) ?_
    refine lv_isub hx hb (dX1_readNumber 28 rfl) ?_
    exact hZ (r1 - (48 : Int32)) (f_place + (1 : Int32)) H locs ls 54 hm hP hD hS (dX1_readNumber 29 rfl) rfl
  replace hm := hm.1 c5
  refine lv_iconst (v := (-1 : Int32)) hx hb (dX1_readNumber 9 rfl) (by decide) ?_
  exact hZ (-1 : Int32) f_place H locs ls 20 hm hP hD hS (dX1_readNumber 10 rfl) rfl
abbrev rmX1_readTest : Room := { frames := 2, cells := 0, slots := 0, locals := 43 }
set_option maxHeartbeats 4000000 in
set_option maxRecDepth 100000 in
theorem k_X1_readTest (l : Launch) (D : va_G) (cI cZ cL : ClassId) (im : obIM) (sz : Nat) (h : Nat) (htape : Nat) (q_steps : Nat) (q_words : Nat) (q_numbers : Nat) (q_starts : Nat) (q_ends : Nat) (f_place : Int32) (f_stepCount : Int32) (f_clauses : Int32) (f_gap : Int32) (f_far : Int32) (r_steps : Nat → Int32) (qtape_items : Nat) (ftape_size : Int32) (ftape_came : Int32) (rtape_items : Nat → Int32) (Q : Int32 → Int32 → Int32 → (Nat → Int32) → Prop) (hm : m_X1_readTest f_place f_stepCount r_steps ftape_size rtape_items Q) : Met l yX1_readTest (Cond.code yX1_readTest cX1_readTest 4 (some .boolean) :: wsL_law) rmX1_readTest (obPre D (tyG cI cZ cL) im [(h, .inr (1, [.ref htape, .ref q_steps, .ref q_words, .ref q_numbers, .ref q_starts, .ref q_ends, .int f_place, .int f_stepCount, .int f_clauses, .int f_gap, .int f_far])), (q_steps, .inl (cI, 100, .inl r_steps)), (htape, .inr (7, [.ref qtape_items, .int ftape_size, .int ftape_came])), (qtape_items, .inl (cI, 100, .inl rtape_items))] sz [.ref h]) (va_Qi (fun (r : Int32) (u : Int32 × Int32 × (Nat → Int32)) => Q r u.1 u.2.1 u.2.2) (obB D (va_A [(h, .inr (1, [.ref htape, .ref q_steps, .ref q_words, .ref q_numbers, .ref q_starts, .ref q_ends, .int f_place, .int f_stepCount, .int f_clauses, .int f_gap, .int f_far])), (q_steps, .inl (cI, 100, .inl r_steps)), (htape, .inr (7, [.ref qtape_items, .int ftape_size, .int ftape_came])), (qtape_items, .inl (cI, 100, .inl rtape_items))] sz) (fun u : Int32 × Int32 × (Nat → Int32) => [(h, .inr (1, [.ref htape, .ref q_steps, .ref q_words, .ref q_numbers, .ref q_starts, .ref q_ends, .int u.1, .int u.2.1, .int f_clauses, .int f_gap, .int f_far])), (q_steps, .inl (cI, 100, .inl u.2.2)), (htape, .inr (7, [.ref qtape_items, .int ftape_size, .int ftape_came])), (qtape_items, .inl (cI, 100, .inl rtape_items))])) (va_A [(h, .inr (1, [.ref htape, .ref q_steps, .ref q_words, .ref q_numbers, .ref q_starts, .ref q_ends, .int f_place, .int f_stepCount, .int f_clauses, .int f_gap, .int f_far])), (q_steps, .inl (cI, 100, .inl r_steps)), (htape, .inr (7, [.ref qtape_items, .int ftape_size, .int ftape_came])), (qtape_items, .inl (cI, 100, .inl rtape_items))] sz)) 0 0 (va_A [(h, .inr (1, [.ref htape, .ref q_steps, .ref q_words, .ref q_numbers, .ref q_starts, .ref q_ends, .int f_place, .int f_stepCount, .int f_clauses, .int f_gap, .int f_far])), (q_steps, .inl (cI, 100, .inl r_steps)), (htape, .inr (7, [.ref qtape_items, .int ftape_size, .int ftape_came])), (qtape_items, .inl (cI, 100, .inl rtape_items))] sz) := by
  refine ob_met_i (cc := cX1_readTest) (maxL := 4) (by decide) (Nat.le_of_ble_eq_true rfl) (fun p e s m args below meth c A Z hx hb hml hown hts hnm hN hK hA hI hP hD hS hZ ls hl => ?_)
  have hl : lv_has ls 4 [(0, .ref h)] := hl
  unfold m_X1_readTest at hm
  obtain ⟨H, hH⟩ : ∃ H, H = s.heap := ⟨_, rfl⟩
  obtain ⟨locs, hlo⟩ : ∃ q : List Loc, q = [] := ⟨_, rfl⟩
  suffices hgo : W p l e rmX1_readTest s m args below meth c H locs 0 0 Z (F0 m 0 ls []) by rw [hH, hlo] at hgo; exact hgo
  have hP : va_P D vwCl [(h, .inr (1, [.ref htape, .ref q_steps, .ref q_words, .ref q_numbers, .ref q_starts, .ref q_ends, .int f_place, .int f_stepCount, .int f_clauses, .int f_gap, .int f_far])), (q_steps, .inl (cI, 100, .inl r_steps)), (htape, .inr (7, [.ref qtape_items, .int ftape_size, .int ftape_came])), (qtape_items, .inl (cI, 100, .inl rtape_items))] H := by rw [hH]; exact hP
  have hD : va_D A [(h, .inr (1, [.ref htape, .ref q_steps, .ref q_words, .ref q_numbers, .ref q_starts, .ref q_ends, .int f_place, .int f_stepCount, .int f_clauses, .int f_gap, .int f_far])), (q_steps, .inl (cI, 100, .inl r_steps)), (htape, .inr (7, [.ref qtape_items, .int ftape_size, .int ftape_came])), (qtape_items, .inl (cI, 100, .inl rtape_items))] := hD
  have hS : va_S A s.heap H locs := by rw [hH, hlo]; exact hS
  refine lv_aload_n hx hb (dX1_readTest 0 rfl) rfl (lv_at hl 0 rfl) ?_
  refine va_get (D := D) (ci := 1) (v := .ref htape) (C := RX1) (T := TX1) (N := 11) hx hb hts inlX1 hown hK hP 0 rfl rfl 0 (by decide) (hts (.fieldLink RX1 9 "OverBacks$Field" "tape" "LOverBacks$Numbers;") (inR5 _ (List.mem_of_getElem? (i := 13) rfl))) (fun _ h9 => h9) rfl (dX1_readTest 1 rfl) ?_
  refine lv_aload_n hx hb (dX1_readTest 2 rfl) rfl (lv_at hl 0 rfl) ?_
  refine va_get (D := D) (ci := 1) (v := .int f_place) (C := RX1) (T := TX1) (N := 11) hx hb hts inlX1 hown hK hP 0 rfl rfl 6 (by decide) (hts (.fieldLink RX1 42 "OverBacks$Field" "place" "I") (inR6 _ (List.mem_of_getElem? (i := 1) rfl))) (fun _ h9 => h9) rfl (dX1_readTest 3 rfl) ?_
  have hcut := ob_cut (wc := [(htape, .inr (7, [.ref qtape_items, .int ftape_size, .int ftape_came])), (qtape_items, .inl (cI, 100, .inl rtape_items))]) hP hD hS hA [2, 3] rfl (by decide)
  refine ob_i (wr := [(h, .inr (1, [.ref htape, .ref q_steps, .ref q_words, .ref q_numbers, .ref q_starts, .ref q_ends, .int f_place, .int f_stepCount, .int f_clauses, .int f_gap, .int f_far])), (q_steps, .inl (cI, 100, .inl r_steps))]) (ob_V (As := [.int f_place]) (rest := []) ⟨hx, hb, hml, hown, hts⟩ hK hcut (hI.cut hS hcut.2.2) hN (va_recv hK hP (ci := 7) (q0 := 2) rfl rfl) (k_X7_at l D cI cZ cL im _ _ _ _ _ _ _ _ _ hm) (cwV 1 hts (gU_V (inR6 _ (List.mem_of_getElem? (i := 12) rfl)) (inR6 _ (List.mem_of_getElem? (i := 13) rfl)) (inR6 _ (List.mem_of_getElem? (i := 14) rfl)) (inR1 _ (List.mem_of_getElem? (i := 23) rfl)) (inR6 _ (List.mem_of_getElem? (i := 15) rfl))) rfl rfl rfl (by decide +kernel) ⟨Nat.le_of_ble_eq_true rfl, Nat.le_of_ble_eq_true rfl⟩) rfl hl.1 rfl (Nat.le_of_ble_eq_true rfl) (dX1_readTest 4 rfl) ⟨Nat.zero_le _, Nat.zero_le _⟩) hP hD hS hcut [2, 3] [0, 1] rfl rfl (by decide) (by decide) (fun r1 u2 H locs hm hP hD hS => ?_)
  have hP := hP.sub (ws' := [(h, .inr (1, [.ref htape, .ref q_steps, .ref q_words, .ref q_numbers, .ref q_starts, .ref q_ends, .int f_place, .int f_stepCount, .int f_clauses, .int f_gap, .int f_far])), (q_steps, .inl (cI, 100, .inl r_steps)), (htape, .inr (7, [.ref qtape_items, .int ftape_size, .int ftape_came])), (qtape_items, .inl (cI, 100, .inl rtape_items))]) [0, 1, 2, 3] rfl
  have hD := hD.sub (ws' := [(h, .inr (1, [.ref htape, .ref q_steps, .ref q_words, .ref q_numbers, .ref q_starts, .ref q_ends, .int f_place, .int f_stepCount, .int f_clauses, .int f_gap, .int f_far])), (q_steps, .inl (cI, 100, .inl r_steps)), (htape, .inr (7, [.ref qtape_items, .int ftape_size, .int ftape_came])), (qtape_items, .inl (cI, 100, .inl rtape_items))]) [0, 1, 2, 3] (by decide) rfl
  have hcut := ob_cut (wc := []) hP hD hS hA [] rfl (by decide)
  refine ob_i (wr := [(h, .inr (1, [.ref htape, .ref q_steps, .ref q_words, .ref q_numbers, .ref q_starts, .ref q_ends, .int f_place, .int f_stepCount, .int f_clauses, .int f_gap, .int f_far])), (q_steps, .inl (cI, 100, .inl r_steps)), (htape, .inr (7, [.ref qtape_items, .int ftape_size, .int ftape_came])), (qtape_items, .inl (cI, 100, .inl rtape_items))]) (ob_S (As := [.int r1]) (rest := []) ⟨hx, hb, hml, hown, hts⟩ hK hcut (hI.cut hS hcut.2.2) hN (k_X1_subject l D cI cZ cL im _ _ _ hm) (cwS2 1 hts (hts (.methodLink RX1 99 yX1_subject) (inR10 _ (List.mem_of_getElem? (i := 0) rfl))) (hts (.static yX1_subject) (inR10 _ (List.mem_of_getElem? (i := 1) rfl))) (hts (.initialized RX1) (inR5 _ (List.mem_of_getElem? (i := 8) rfl))) (goodU_c (inR10 _ (List.mem_of_getElem? (i := 2) rfl))) rfl rfl rfl (by decide +kernel) ⟨Nat.le_of_ble_eq_true rfl, Nat.le_of_ble_eq_true rfl⟩) rfl hl.1 rfl (Nat.le_of_ble_eq_true rfl) (dX1_readTest 5 rfl) ⟨Nat.zero_le _, Nat.zero_le _⟩) hP hD hS hcut [] [0, 1, 2, 3] rfl rfl (by decide) (by decide) (fun r3 u4 H locs hm hP hD hS => ?_)
  have hP := hP.sub (ws' := [(h, .inr (1, [.ref htape, .ref q_steps, .ref q_words, .ref q_numbers, .ref q_starts, .ref q_ends, .int f_place, .int f_stepCount, .int f_clauses, .int f_gap, .int f_far])), (q_steps, .inl (cI, 100, .inl r_steps)), (htape, .inr (7, [.ref qtape_items, .int ftape_size, .int ftape_came])), (qtape_items, .inl (cI, 100, .inl rtape_items))]) [0, 1, 2, 3] rfl
  have hD := hD.sub (ws' := [(h, .inr (1, [.ref htape, .ref q_steps, .ref q_words, .ref q_numbers, .ref q_starts, .ref q_ends, .int f_place, .int f_stepCount, .int f_clauses, .int f_gap, .int f_far])), (q_steps, .inl (cI, 100, .inl r_steps)), (htape, .inr (7, [.ref qtape_items, .int ftape_size, .int ftape_came])), (qtape_items, .inl (cI, 100, .inl rtape_items))]) [0, 1, 2, 3] (by decide) rfl
  refine lv_istore_n (lv' := [(1, .int r3), (0, .ref h)]) hx hb (dX1_readTest 6 rfl) rfl hl (by decide) rfl (fun ls hl => ?_)
  refine lv_iload_n hx hb (dX1_readTest 7 rfl) rfl (lv_at hl 0 rfl) ?_
  refine lv_iconst (v := (-1 : Int32)) hx hb (dX1_readTest 8 rfl) (by decide) ?_
  refine lv_icmp_ne (tgt := 22) hx hb (dX1_readTest 9 rfl) (by decide) (fun c5 => ?_) (fun c5 => ?_)
  · replace hm := hm.2 c5
    refine lv_aload_n hx hb (dX1_readTest 12 rfl) rfl (lv_at hl 1 rfl) ?_
    refine lv_dup hx hb (dX1_readTest 13 rfl) rfl ?_
    refine va_get (D := D) (ci := 1) (v := .int f_place) (C := RX1) (T := TX1) (N := 11) hx hb hts inlX1 hown hK hP 0 rfl rfl 6 (by decide) (hts (.fieldLink RX1 42 "OverBacks$Field" "place" "I") (inR6 _ (List.mem_of_getElem? (i := 1) rfl))) (fun _ h9 => h9) rfl (dX1_readTest 14 rfl) ?_
    refine lv_iconst (v := (1 : Int32)) hx hb (dX1_readTest 15 rfl) (by decide) ?_
    refine lv_iadd hx hb (dX1_readTest 16 rfl) ?_
    refine va_put (D := D) (ci := 1) (v := .int (f_place + (1 : Int32))) (ty := .int) (C := RX1) (T := TX1) (N := 11) hx hb hts inlX1 tyX1 tyX1_ok nmX1 hown hK hP hD hS 0 rfl rfl 6 (by decide) (hts (.fieldLink RX1 42 "OverBacks$Field" "place" "I") (inR6 _ (List.mem_of_getElem? (i := 1) rfl))) (fun _ h9 => h9) rfl (by decide +kernel) rfl rfl (Nat.le_of_ble_eq_true rfl) (dX1_readTest 17 rfl) (fun H locs hP hD hS => ?_)
    have hP : va_P D vwCl [(h, .inr (1, [.ref htape, .ref q_steps, .ref q_words, .ref q_numbers, .ref q_starts, .ref q_ends, .int (f_place + (1 : Int32)), .int f_stepCount, .int f_clauses, .int f_gap, .int f_far])), (q_steps, .inl (cI, 100, .inl r_steps)), (htape, .inr (7, [.ref qtape_items, .int ftape_size, .int ftape_came])), (qtape_items, .inl (cI, 100, .inl rtape_items))] H := hP
    have hD : va_D A [(h, .inr (1, [.ref htape, .ref q_steps, .ref q_words, .ref q_numbers, .ref q_starts, .ref q_ends, .int (f_place + (1 : Int32)), .int f_stepCount, .int f_clauses, .int f_gap, .int f_far])), (q_steps, .inl (cI, 100, .inl r_steps)), (htape, .inr (7, [.ref qtape_items, .int ftape_size, .int ftape_came])), (qtape_items, .inl (cI, 100, .inl rtape_items))] := hD
    refine lv_aload_n hx hb (dX1_readTest 18 rfl) rfl (lv_at hl 1 rfl) ?_
    refine va_get (D := D) (ci := 1) (v := .ref htape) (C := RX1) (T := TX1) (N := 11) hx hb hts inlX1 hown hK hP 0 rfl rfl 0 (by decide) (hts (.fieldLink RX1 9 "OverBacks$Field" "tape" "LOverBacks$Numbers;") (inR5 _ (List.mem_of_getElem? (i := 13) rfl))) (fun _ h9 => h9) rfl (dX1_readTest 19 rfl) ?_
    refine lv_aload_n hx hb (dX1_readTest 20 rfl) rfl (lv_at hl 1 rfl) ?_
    refine va_get (D := D) (ci := 1) (v := .int (f_place + (1 : Int32))) (C := RX1) (T := TX1) (N := 11) hx hb hts inlX1 hown hK hP 0 rfl rfl 6 (by decide) (hts (.fieldLink RX1 42 "OverBacks$Field" "place" "I") (inR6 _ (List.mem_of_getElem? (i := 1) rfl))) (fun _ h9 => h9) rfl (dX1_readTest 21 rfl) ?_
    have hcut := ob_cut (wc := [(htape, .inr (7, [.ref qtape_items, .int ftape_size, .int ftape_came])), (qtape_items, .inl (cI, 100, .inl rtape_items))]) hP hD hS hA [2, 3] rfl (by decide)
    refine ob_i (wr := [(h, .inr (1, [.ref htape, .ref q_steps, .ref q_words, .ref q_numbers, .ref q_starts, .ref q_ends, .int (f_place + (1 : Int32)), .int f_stepCount, .int f_clauses, .int f_gap, .int f_far])), (q_steps, .inl (cI, 100, .inl r_steps))]) (ob_V (As := [.int (f_place + (1 : Int32))]) (rest := []) ⟨hx, hb, hml, hown, hts⟩ hK hcut (hI.cut hS hcut.2.2) hN (va_recv hK hP (ci := 7) (q0 := 2) rfl rfl) (k_X7_at l D cI cZ cL im _ _ _ _ _ _ _ _ _ hm) (cwV 1 hts (gU_V (inR6 _ (List.mem_of_getElem? (i := 12) rfl)) (inR6 _ (List.mem_of_getElem? (i := 13) rfl)) (inR6 _ (List.mem_of_getElem? (i := 14) rfl)) (inR1 _ (List.mem_of_getElem? (i := 23) rfl)) (inR6 _ (List.mem_of_getElem? (i := 15) rfl))) rfl rfl rfl (by decide +kernel) ⟨Nat.le_of_ble_eq_true rfl, Nat.le_of_ble_eq_true rfl⟩) rfl hl.1 rfl (Nat.le_of_ble_eq_true rfl) (dX1_readTest 22 rfl) ⟨Nat.zero_le _, Nat.zero_le _⟩) hP hD hS hcut [2, 3] [0, 1] rfl rfl (by decide) (by decide) (fun r6 u7 H locs hm hP hD hS => ?_)
    have hP := hP.sub (ws' := [(h, .inr (1, [.ref htape, .ref q_steps, .ref q_words, .ref q_numbers, .ref q_starts, .ref q_ends, .int (f_place + (1 : Int32)), .int f_stepCount, .int f_clauses, .int f_gap, .int f_far])), (q_steps, .inl (cI, 100, .inl r_steps)), (htape, .inr (7, [.ref qtape_items, .int ftape_size, .int ftape_came])), (qtape_items, .inl (cI, 100, .inl rtape_items))]) [0, 1, 2, 3] rfl
    have hD := hD.sub (ws' := [(h, .inr (1, [.ref htape, .ref q_steps, .ref q_words, .ref q_numbers, .ref q_starts, .ref q_ends, .int (f_place + (1 : Int32)), .int f_stepCount, .int f_clauses, .int f_gap, .int f_far])), (q_steps, .inl (cI, 100, .inl r_steps)), (htape, .inr (7, [.ref qtape_items, .int ftape_size, .int ftape_came])), (qtape_items, .inl (cI, 100, .inl rtape_items))]) [0, 1, 2, 3] (by decide) rfl
    have hcut := ob_cut (wc := []) hP hD hS hA [] rfl (by decide)
    refine ob_i (wr := [(h, .inr (1, [.ref htape, .ref q_steps, .ref q_words, .ref q_numbers, .ref q_starts, .ref q_ends, .int (f_place + (1 : Int32)), .int f_stepCount, .int f_clauses, .int f_gap, .int f_far])), (q_steps, .inl (cI, 100, .inl r_steps)), (htape, .inr (7, [.ref qtape_items, .int ftape_size, .int ftape_came])), (qtape_items, .inl (cI, 100, .inl rtape_items))]) (ob_S (As := [.int r6]) (rest := []) ⟨hx, hb, hml, hown, hts⟩ hK hcut (hI.cut hS hcut.2.2) hN (k_X1_relation l D cI cZ cL im _ _ _ hm) (cwS2 1 hts (hts (.methodLink RX1 102 yX1_relation) (inR10 _ (List.mem_of_getElem? (i := 3) rfl))) (hts (.static yX1_relation) (inR10 _ (List.mem_of_getElem? (i := 4) rfl))) (hts (.initialized RX1) (inR5 _ (List.mem_of_getElem? (i := 8) rfl))) (goodU_c (inR10 _ (List.mem_of_getElem? (i := 5) rfl))) rfl rfl rfl (by decide +kernel) ⟨Nat.le_of_ble_eq_true rfl, Nat.le_of_ble_eq_true rfl⟩) rfl hl.1 rfl (Nat.le_of_ble_eq_true rfl) (dX1_readTest 23 rfl) ⟨Nat.zero_le _, Nat.zero_le _⟩) hP hD hS hcut [] [0, 1, 2, 3] rfl rfl (by decide) (by decide) (fun r8 u9 H locs hm hP hD hS => ?_)
    have hP := hP.sub (ws' := [(h, .inr (1, [.ref htape, .ref q_steps, .ref q_words, .ref q_numbers, .ref q_starts, .ref q_ends, .int (f_place + (1 : Int32)), .int f_stepCount, .int f_clauses, .int f_gap, .int f_far])), (q_steps, .inl (cI, 100, .inl r_steps)), (htape, .inr (7, [.ref qtape_items, .int ftape_size, .int ftape_came])), (qtape_items, .inl (cI, 100, .inl rtape_items))]) [0, 1, 2, 3] rfl
    have hD := hD.sub (ws' := [(h, .inr (1, [.ref htape, .ref q_steps, .ref q_words, .ref q_numbers, .ref q_starts, .ref q_ends, .int (f_place + (1 : Int32)), .int f_stepCount, .int f_clauses, .int f_gap, .int f_far])), (q_steps, .inl (cI, 100, .inl r_steps)), (htape, .inr (7, [.ref qtape_items, .int ftape_size, .int ftape_came])), (qtape_items, .inl (cI, 100, .inl rtape_items))]) [0, 1, 2, 3] (by decide) rfl
    refine lv_istore_n (lv' := [(2, .int r8), (1, .int r3), (0, .ref h)]) hx hb (dX1_readTest 24 rfl) rfl hl (by decide) rfl (fun ls hl => ?_)
    refine lv_iload_n hx hb (dX1_readTest 25 rfl) rfl (lv_at hl 0 rfl) ?_
    refine lv_iconst (v := (-1 : Int32)) hx hb (dX1_readTest 26 rfl) (by decide) ?_
    refine lv_icmp_ne (tgt := 54) hx hb (dX1_readTest 27 rfl) (by decide) (fun c10 => ?_) (fun c10 => ?_)
    · replace hm := hm.2 c10
      refine lv_aload_n hx hb (dX1_readTest 30 rfl) rfl (lv_at hl 2 rfl) ?_
      refine lv_dup hx hb (dX1_readTest 31 rfl) rfl ?_
      refine va_get (D := D) (ci := 1) (v := .int (f_place + (1 : Int32))) (C := RX1) (T := TX1) (N := 11) hx hb hts inlX1 hown hK hP 0 rfl rfl 6 (by decide) (hts (.fieldLink RX1 42 "OverBacks$Field" "place" "I") (inR6 _ (List.mem_of_getElem? (i := 1) rfl))) (fun _ h9 => h9) rfl (dX1_readTest 32 rfl) ?_
      refine lv_iconst (v := (1 : Int32)) hx hb (dX1_readTest 33 rfl) (by decide) ?_
      refine lv_iadd hx hb (dX1_readTest 34 rfl) ?_
      refine va_put (D := D) (ci := 1) (v := .int ((f_place + (1 : Int32)) + (1 : Int32))) (ty := .int) (C := RX1) (T := TX1) (N := 11) hx hb hts inlX1 tyX1 tyX1_ok nmX1 hown hK hP hD hS 0 rfl rfl 6 (by decide) (hts (.fieldLink RX1 42 "OverBacks$Field" "place" "I") (inR6 _ (List.mem_of_getElem? (i := 1) rfl))) (fun _ h9 => h9) rfl (by decide +kernel) rfl rfl (Nat.le_of_ble_eq_true rfl) (dX1_readTest 35 rfl) (fun H locs hP hD hS => ?_)
      have hP : va_P D vwCl [(h, .inr (1, [.ref htape, .ref q_steps, .ref q_words, .ref q_numbers, .ref q_starts, .ref q_ends, .int ((f_place + (1 : Int32)) + (1 : Int32)), .int f_stepCount, .int f_clauses, .int f_gap, .int f_far])), (q_steps, .inl (cI, 100, .inl r_steps)), (htape, .inr (7, [.ref qtape_items, .int ftape_size, .int ftape_came])), (qtape_items, .inl (cI, 100, .inl rtape_items))] H := hP
      have hD : va_D A [(h, .inr (1, [.ref htape, .ref q_steps, .ref q_words, .ref q_numbers, .ref q_starts, .ref q_ends, .int ((f_place + (1 : Int32)) + (1 : Int32)), .int f_stepCount, .int f_clauses, .int f_gap, .int f_far])), (q_steps, .inl (cI, 100, .inl r_steps)), (htape, .inr (7, [.ref qtape_items, .int ftape_size, .int ftape_came])), (qtape_items, .inl (cI, 100, .inl rtape_items))] := hD
      refine lv_aload_n hx hb (dX1_readTest 36 rfl) rfl (lv_at hl 2 rfl) ?_
      have hcut := ob_cut (wc := [(h, .inr (1, [.ref htape, .ref q_steps, .ref q_words, .ref q_numbers, .ref q_starts, .ref q_ends, .int ((f_place + (1 : Int32)) + (1 : Int32)), .int f_stepCount, .int f_clauses, .int f_gap, .int f_far])), (htape, .inr (7, [.ref qtape_items, .int ftape_size, .int ftape_came])), (qtape_items, .inl (cI, 100, .inl rtape_items))]) hP hD hS hA [0, 2, 3] rfl (by decide)
      refine ob_i (wr := [(q_steps, .inl (cI, 100, .inl r_steps))]) (ob_V (As := []) (rest := []) ⟨hx, hb, hml, hown, hts⟩ hK hcut (hI.cut hS hcut.2.2) hN (va_recv hK hP (ci := 1) (q0 := 0) rfl rfl) (k_X1_readNumber l D cI cZ cL im _ _ _ _ _ _ _ _ _ _ _ _ _ _ _ _ _ _ hm) (cwV 0 hts (gU_V (inR9 _ (List.mem_of_getElem? (i := 1) rfl)) (inR9 _ (List.mem_of_getElem? (i := 2) rfl)) (inR9 _ (List.mem_of_getElem? (i := 3) rfl)) (inR5 _ (List.mem_of_getElem? (i := 8) rfl)) (inR9 _ (List.mem_of_getElem? (i := 4) rfl))) rfl rfl rfl (by decide +kernel) ⟨Nat.le_of_ble_eq_true rfl, Nat.le_of_ble_eq_true rfl⟩) rfl hl.1 rfl (Nat.le_of_ble_eq_true rfl) (dX1_readTest 37 rfl) ⟨Nat.zero_le _, Nat.zero_le _⟩) hP hD hS hcut [0, 2, 3] [1] rfl rfl (by decide) (by decide) (fun r11 u12 H locs hm hP hD hS => ?_)
      have hP := hP.sub (ws' := [(h, .inr (1, [.ref htape, .ref q_steps, .ref q_words, .ref q_numbers, .ref q_starts, .ref q_ends, .int u12, .int f_stepCount, .int f_clauses, .int f_gap, .int f_far])), (q_steps, .inl (cI, 100, .inl r_steps)), (htape, .inr (7, [.ref qtape_items, .int ftape_size, .int ftape_came])), (qtape_items, .inl (cI, 100, .inl rtape_items))]) [1, 0, 2, 3] rfl
      have hD := hD.sub (ws' := [(h, .inr (1, [.ref htape, .ref q_steps, .ref q_words, .ref q_numbers, .ref q_starts, .ref q_ends, .int u12, .int f_stepCount, .int f_clauses, .int f_gap, .int f_far])), (q_steps, .inl (cI, 100, .inl r_steps)), (htape, .inr (7, [.ref qtape_items, .int ftape_size, .int ftape_came])), (qtape_items, .inl (cI, 100, .inl rtape_items))]) [1, 0, 2, 3] (by decide) rfl
      refine lv_istore_n (lv' := [(3, .int r11), (2, .int r8), (1, .int r3), (0, .ref h)]) hx hb (dX1_readTest 38 rfl) rfl hl (by decide) rfl (fun ls hl => ?_)
      refine lv_iload_n hx hb (dX1_readTest 39 rfl) rfl (lv_at hl 0 rfl) ?_
      refine lv_iconst (v := (-1 : Int32)) hx hb (dX1_readTest 40 rfl) (by decide) ?_
      refine lv_icmp_ne (tgt := 76) hx hb (dX1_readTest 41 rfl) (by decide) (fun c14 => ?_) (fun c14 => ?_)
      · replace hm := hm.2 c14
        refine lv_aload_n hx hb (dX1_readTest 44 rfl) rfl (lv_at hl 3 rfl) ?_
        refine lv_iload_n hx hb (dX1_readTest 45 rfl) rfl (lv_at hl 2 rfl) ?_
        refine lv_sipush (v := (300 : Int32)) hx hb (dX1_readTest 46 rfl) (by decide) ?_
        refine lv_imul hx hb (dX1_readTest 47 rfl) ?_
        refine lv_iload_n hx hb (dX1_readTest 48 rfl) rfl (lv_at hl 1 rfl) ?_
        refine lv_bipush (v := (100 : Int32)) hx hb (dX1_readTest 49 rfl) (by decide) ?_
        refine lv_imul hx hb (dX1_readTest 50 rfl) ?_
        refine lv_iadd hx hb (dX1_readTest 51 rfl) ?_
        refine lv_iload_n hx hb (dX1_readTest 52 rfl) rfl (lv_at hl 0 rfl) ?_
        refine lv_iadd hx hb (dX1_readTest 53 rfl) ?_
        have hcut := ob_cut (wc := [(h, .inr (1, [.ref htape, .ref q_steps, .ref q_words, .ref q_numbers, .ref q_starts, .ref q_ends, .int u12, .int f_stepCount, .int f_clauses, .int f_gap, .int f_far])), (q_steps, .inl (cI, 100, .inl r_steps))]) hP hD hS hA [0, 1] rfl (by decide)
        refine ob_v (wr := [(htape, .inr (7, [.ref qtape_items, .int ftape_size, .int ftape_came])), (qtape_items, .inl (cI, 100, .inl rtape_items))]) (ob_V (As := [.int (((r3 * (300 : Int32)) + (r8 * (100 : Int32))) + r11)]) (rest := []) ⟨hx, hb, hml, hown, hts⟩ hK hcut (hI.cut hS hcut.2.2) hN (va_recv hK hP (ci := 1) (q0 := 0) rfl rfl) (k_X1_addStep l D cI cZ cL im _ _ _ _ _ _ _ _ _ _ _ _ _ _ _ _ hm) (cwV 1 hts (gU_V (inR9 _ (List.mem_of_getElem? (i := 15) rfl)) (inR9 _ (List.mem_of_getElem? (i := 16) rfl)) (inR9 _ (List.mem_of_getElem? (i := 17) rfl)) (inR5 _ (List.mem_of_getElem? (i := 8) rfl)) (inR9 _ (List.mem_of_getElem? (i := 18) rfl))) rfl rfl rfl (by decide +kernel) ⟨Nat.le_of_ble_eq_true rfl, Nat.le_of_ble_eq_true rfl⟩) rfl hl.1 rfl (Nat.le_of_ble_eq_true rfl) (dX1_readTest 54 rfl) ⟨Nat.zero_le _, Nat.zero_le _⟩) hP hD hS hcut [0, 1] [2, 3] rfl rfl (by decide) (by decide) (fun u16 H locs hm hP hD hS => ?_)
        have hP := hP.sub (ws' := [(h, .inr (1, [.ref htape, .ref q_steps, .ref q_words, .ref q_numbers, .ref q_starts, .ref q_ends, .int u12, .int u16.1, .int f_clauses, .int f_gap, .int f_far])), (q_steps, .inl (cI, 100, .inl u16.2)), (htape, .inr (7, [.ref qtape_items, .int ftape_size, .int ftape_came])), (qtape_items, .inl (cI, 100, .inl rtape_items))]) [2, 3, 0, 1] rfl
        have hD := hD.sub (ws' := [(h, .inr (1, [.ref htape, .ref q_steps, .ref q_words, .ref q_numbers, .ref q_starts, .ref q_ends, .int u12, .int u16.1, .int f_clauses, .int f_gap, .int f_far])), (q_steps, .inl (cI, 100, .inl u16.2)), (htape, .inr (7, [.ref qtape_items, .int ftape_size, .int ftape_came])), (qtape_items, .inl (cI, 100, .inl rtape_items))]) [2, 3, 0, 1] (by decide) rfl
        refine lv_iconst (v := (1 : Int32)) hx hb (dX1_readTest 55 rfl) (by decide) ?_
        exact hZ (1 : Int32) (u12, u16.1, u16.2) H locs ls 93 hm hP hD hS (dX1_readTest 56 rfl) rfl
      replace hm := hm.1 c14
      refine lv_iconst (v := (0 : Int32)) hx hb (dX1_readTest 42 rfl) (by decide) ?_
      exact hZ (0 : Int32) (u12, f_stepCount, r_steps) H locs ls 75 hm hP hD hS (dX1_readTest 43 rfl) rfl
    replace hm := hm.1 c10
    refine lv_iconst (v := (0 : Int32)) hx hb (dX1_readTest 28 rfl) (by decide) ?_
    exact hZ (0 : Int32) (f_place + (1 : Int32), f_stepCount, r_steps) H locs ls 53 hm hP hD hS (dX1_readTest 29 rfl) rfl
  replace hm := hm.1 c5
  refine lv_iconst (v := (0 : Int32)) hx hb (dX1_readTest 10 rfl) (by decide) ?_
  exact hZ (0 : Int32) (f_place, f_stepCount, r_steps) H locs ls 21 hm hP hD hS (dX1_readTest 11 rfl) rfl
abbrev rmX1_take : Room := { frames := 1, cells := 0, slots := 0, locals := 21 }
set_option maxHeartbeats 4000000 in
set_option maxRecDepth 100000 in
theorem k_X1_take (l : Launch) (D : va_G) (cI cZ cL : ClassId) (im : obIM) (sz : Nat) (h : Nat) (htape : Nat) (q_steps : Nat) (q_words : Nat) (q_numbers : Nat) (q_starts : Nat) (q_ends : Nat) (f_place : Int32) (f_stepCount : Int32) (f_clauses : Int32) (f_gap : Int32) (f_far : Int32) (qtape_items : Nat) (ftape_size : Int32) (ftape_came : Int32) (rtape_items : Nat → Int32) (a1 : Int32) (Q : Int32 → Int32 → Prop) (hm : m_X1_take f_place ftape_size rtape_items a1 Q) : Met l yX1_take (Cond.code yX1_take cX1_take 2 (some .boolean) :: wsL_law) rmX1_take (obPre D (tyG cI cZ cL) im [(h, .inr (1, [.ref htape, .ref q_steps, .ref q_words, .ref q_numbers, .ref q_starts, .ref q_ends, .int f_place, .int f_stepCount, .int f_clauses, .int f_gap, .int f_far])), (htape, .inr (7, [.ref qtape_items, .int ftape_size, .int ftape_came])), (qtape_items, .inl (cI, 100, .inl rtape_items))] sz [.ref h, .int a1]) (va_Qi (fun (r : Int32) (u : Int32) => Q r u) (obB D (va_A [(h, .inr (1, [.ref htape, .ref q_steps, .ref q_words, .ref q_numbers, .ref q_starts, .ref q_ends, .int f_place, .int f_stepCount, .int f_clauses, .int f_gap, .int f_far])), (htape, .inr (7, [.ref qtape_items, .int ftape_size, .int ftape_came])), (qtape_items, .inl (cI, 100, .inl rtape_items))] sz) (fun u : Int32 => [(h, .inr (1, [.ref htape, .ref q_steps, .ref q_words, .ref q_numbers, .ref q_starts, .ref q_ends, .int u, .int f_stepCount, .int f_clauses, .int f_gap, .int f_far])), (htape, .inr (7, [.ref qtape_items, .int ftape_size, .int ftape_came])), (qtape_items, .inl (cI, 100, .inl rtape_items))])) (va_A [(h, .inr (1, [.ref htape, .ref q_steps, .ref q_words, .ref q_numbers, .ref q_starts, .ref q_ends, .int f_place, .int f_stepCount, .int f_clauses, .int f_gap, .int f_far])), (htape, .inr (7, [.ref qtape_items, .int ftape_size, .int ftape_came])), (qtape_items, .inl (cI, 100, .inl rtape_items))] sz)) 0 0 (va_A [(h, .inr (1, [.ref htape, .ref q_steps, .ref q_words, .ref q_numbers, .ref q_starts, .ref q_ends, .int f_place, .int f_stepCount, .int f_clauses, .int f_gap, .int f_far])), (htape, .inr (7, [.ref qtape_items, .int ftape_size, .int ftape_came])), (qtape_items, .inl (cI, 100, .inl rtape_items))] sz) := by
  refine ob_met_i (cc := cX1_take) (maxL := 2) (by decide) (Nat.le_of_ble_eq_true rfl) (fun p e s m args below meth c A Z hx hb hml hown hts hnm hN hK hA hI hP hD hS hZ ls hl => ?_)
  have hl : lv_has ls 2 [(0, .ref h), (1, .int a1)] := hl
  unfold m_X1_take at hm
  obtain ⟨H, hH⟩ : ∃ H, H = s.heap := ⟨_, rfl⟩
  obtain ⟨locs, hlo⟩ : ∃ q : List Loc, q = [] := ⟨_, rfl⟩
  suffices hgo : W p l e rmX1_take s m args below meth c H locs 0 0 Z (F0 m 0 ls []) by rw [hH, hlo] at hgo; exact hgo
  have hP : va_P D vwCl [(h, .inr (1, [.ref htape, .ref q_steps, .ref q_words, .ref q_numbers, .ref q_starts, .ref q_ends, .int f_place, .int f_stepCount, .int f_clauses, .int f_gap, .int f_far])), (htape, .inr (7, [.ref qtape_items, .int ftape_size, .int ftape_came])), (qtape_items, .inl (cI, 100, .inl rtape_items))] H := by rw [hH]; exact hP
  have hD : va_D A [(h, .inr (1, [.ref htape, .ref q_steps, .ref q_words, .ref q_numbers, .ref q_starts, .ref q_ends, .int f_place, .int f_stepCount, .int f_clauses, .int f_gap, .int f_far])), (htape, .inr (7, [.ref qtape_items, .int ftape_size, .int ftape_came])), (qtape_items, .inl (cI, 100, .inl rtape_items))] := hD
  have hS : va_S A s.heap H locs := by rw [hH, hlo]; exact hS
  refine lv_aload_n hx hb (dX1_take 0 rfl) rfl (lv_at hl 0 rfl) ?_
  refine va_get (D := D) (ci := 1) (v := .ref htape) (C := RX1) (T := TX1) (N := 11) hx hb hts inlX1 hown hK hP 0 rfl rfl 0 (by decide) (hts (.fieldLink RX1 9 "OverBacks$Field" "tape" "LOverBacks$Numbers;") (inR5 _ (List.mem_of_getElem? (i := 13) rfl))) (fun _ h9 => h9) rfl (dX1_take 1 rfl) ?_
  refine lv_aload_n hx hb (dX1_take 2 rfl) rfl (lv_at hl 0 rfl) ?_
  refine va_get (D := D) (ci := 1) (v := .int f_place) (C := RX1) (T := TX1) (N := 11) hx hb hts inlX1 hown hK hP 0 rfl rfl 6 (by decide) (hts (.fieldLink RX1 42 "OverBacks$Field" "place" "I") (inR6 _ (List.mem_of_getElem? (i := 1) rfl))) (fun _ h9 => h9) rfl (dX1_take 3 rfl) ?_
  have hcut := ob_cut (wc := [(htape, .inr (7, [.ref qtape_items, .int ftape_size, .int ftape_came])), (qtape_items, .inl (cI, 100, .inl rtape_items))]) hP hD hS hA [1, 2] rfl (by decide)
  refine ob_i (wr := [(h, .inr (1, [.ref htape, .ref q_steps, .ref q_words, .ref q_numbers, .ref q_starts, .ref q_ends, .int f_place, .int f_stepCount, .int f_clauses, .int f_gap, .int f_far]))]) (ob_V (As := [.int f_place]) (rest := []) ⟨hx, hb, hml, hown, hts⟩ hK hcut (hI.cut hS hcut.2.2) hN (va_recv hK hP (ci := 7) (q0 := 1) rfl rfl) (k_X7_at l D cI cZ cL im _ _ _ _ _ _ _ _ _ hm) (cwV 1 hts (gU_V (inR6 _ (List.mem_of_getElem? (i := 12) rfl)) (inR6 _ (List.mem_of_getElem? (i := 13) rfl)) (inR6 _ (List.mem_of_getElem? (i := 14) rfl)) (inR1 _ (List.mem_of_getElem? (i := 23) rfl)) (inR6 _ (List.mem_of_getElem? (i := 15) rfl))) rfl rfl rfl (by decide +kernel) ⟨Nat.le_of_ble_eq_true rfl, Nat.le_of_ble_eq_true rfl⟩) rfl hl.1 rfl (Nat.le_of_ble_eq_true rfl) (dX1_take 4 rfl) ⟨Nat.zero_le _, Nat.zero_le _⟩) hP hD hS hcut [1, 2] [0] rfl rfl (by decide) (by decide) (fun r1 u2 H locs hm hP hD hS => ?_)
  have hP := hP.sub (ws' := [(h, .inr (1, [.ref htape, .ref q_steps, .ref q_words, .ref q_numbers, .ref q_starts, .ref q_ends, .int f_place, .int f_stepCount, .int f_clauses, .int f_gap, .int f_far])), (htape, .inr (7, [.ref qtape_items, .int ftape_size, .int ftape_came])), (qtape_items, .inl (cI, 100, .inl rtape_items))]) [0, 1, 2] rfl
  have hD := hD.sub (ws' := [(h, .inr (1, [.ref htape, .ref q_steps, .ref q_words, .ref q_numbers, .ref q_starts, .ref q_ends, .int f_place, .int f_stepCount, .int f_clauses, .int f_gap, .int f_far])), (htape, .inr (7, [.ref qtape_items, .int ftape_size, .int ftape_came])), (qtape_items, .inl (cI, 100, .inl rtape_items))]) [0, 1, 2] (by decide) rfl
  refine lv_iload_n hx hb (dX1_take 5 rfl) rfl (lv_at hl 1 rfl) ?_
  refine lv_icmp_eq (tgt := 17) hx hb (dX1_take 6 rfl) (by decide) (fun c3 => ?_) (fun c3 => ?_)
  · replace hm := hm.1 c3
    refine lv_aload_n hx hb (dX1_take 9 rfl) rfl (lv_at hl 0 rfl) ?_
    refine lv_dup hx hb (dX1_take 10 rfl) rfl ?_
    refine va_get (D := D) (ci := 1) (v := .int f_place) (C := RX1) (T := TX1) (N := 11) hx hb hts inlX1 hown hK hP 0 rfl rfl 6 (by decide) (hts (.fieldLink RX1 42 "OverBacks$Field" "place" "I") (inR6 _ (List.mem_of_getElem? (i := 1) rfl))) (fun _ h9 => h9) rfl (dX1_take 11 rfl) ?_
    refine lv_iconst (v := (1 : Int32)) hx hb (dX1_take 12 rfl) (by decide) ?_
    refine lv_iadd hx hb (dX1_take 13 rfl) ?_
    refine va_put (D := D) (ci := 1) (v := .int (f_place + (1 : Int32))) (ty := .int) (C := RX1) (T := TX1) (N := 11) hx hb hts inlX1 tyX1 tyX1_ok nmX1 hown hK hP hD hS 0 rfl rfl 6 (by decide) (hts (.fieldLink RX1 42 "OverBacks$Field" "place" "I") (inR6 _ (List.mem_of_getElem? (i := 1) rfl))) (fun _ h9 => h9) rfl (by decide +kernel) rfl rfl (Nat.le_of_ble_eq_true rfl) (dX1_take 14 rfl) (fun H locs hP hD hS => ?_)
    have hP : va_P D vwCl [(h, .inr (1, [.ref htape, .ref q_steps, .ref q_words, .ref q_numbers, .ref q_starts, .ref q_ends, .int (f_place + (1 : Int32)), .int f_stepCount, .int f_clauses, .int f_gap, .int f_far])), (htape, .inr (7, [.ref qtape_items, .int ftape_size, .int ftape_came])), (qtape_items, .inl (cI, 100, .inl rtape_items))] H := hP
    have hD : va_D A [(h, .inr (1, [.ref htape, .ref q_steps, .ref q_words, .ref q_numbers, .ref q_starts, .ref q_ends, .int (f_place + (1 : Int32)), .int f_stepCount, .int f_clauses, .int f_gap, .int f_far])), (htape, .inr (7, [.ref qtape_items, .int ftape_size, .int ftape_came])), (qtape_items, .inl (cI, 100, .inl rtape_items))] := hD
    refine lv_iconst (v := (1 : Int32)) hx hb (dX1_take 15 rfl) (by decide) ?_
    exact hZ (1 : Int32) (f_place + (1 : Int32)) H locs ls 28 hm hP hD hS (dX1_take 16 rfl) rfl
  replace hm := hm.2 c3
  refine lv_iconst (v := (0 : Int32)) hx hb (dX1_take 7 rfl) (by decide) ?_
  exact hZ (0 : Int32) f_place H locs ls 16 hm hP hD hS (dX1_take 8 rfl) rfl
abbrev rmX1_takeAll : Room := { frames := 6, cells := 0, slots := 0, locals := 150 }
set_option maxHeartbeats 4000000 in
set_option maxRecDepth 100000 in
theorem k_X1_takeAll (l : Launch) (D : va_G) (cI cZ cL : ClassId) (im : obIM) (sz : Nat) (h : Nat) (i1 : Nat) (htape : Nat) (q_steps : Nat) (q_words : Nat) (q_numbers : Nat) (q_starts : Nat) (q_ends : Nat) (f_place : Int32) (f_stepCount : Int32) (f_clauses : Int32) (f_gap : Int32) (f_far : Int32) (qtape_items : Nat) (ftape_size : Int32) (ftape_came : Int32) (rtape_items : Nat → Int32) (Q : Int32 → Int32 → Prop) (hm : m_X1_takeAll f_place ftape_size rtape_items i1 Q) : Met l yX1_takeAll (Cond.code yX1_takeAll cX1_takeAll 3 (some .boolean) :: wsL_law) rmX1_takeAll (obPre D (tyG cI cZ cL) im [(h, .inr (1, [.ref htape, .ref q_steps, .ref q_words, .ref q_numbers, .ref q_starts, .ref q_ends, .int f_place, .int f_stepCount, .int f_clauses, .int f_gap, .int f_far])), (htape, .inr (7, [.ref qtape_items, .int ftape_size, .int ftape_came])), (qtape_items, .inl (cI, 100, .inl rtape_items))] sz [.ref h, .ref (im.2.1 i1)]) (va_Qi (fun (r : Int32) (u : Int32) => Q r u) (obB D (va_A [(h, .inr (1, [.ref htape, .ref q_steps, .ref q_words, .ref q_numbers, .ref q_starts, .ref q_ends, .int f_place, .int f_stepCount, .int f_clauses, .int f_gap, .int f_far])), (htape, .inr (7, [.ref qtape_items, .int ftape_size, .int ftape_came])), (qtape_items, .inl (cI, 100, .inl rtape_items))] sz) (fun u : Int32 => [(h, .inr (1, [.ref htape, .ref q_steps, .ref q_words, .ref q_numbers, .ref q_starts, .ref q_ends, .int u, .int f_stepCount, .int f_clauses, .int f_gap, .int f_far])), (htape, .inr (7, [.ref qtape_items, .int ftape_size, .int ftape_came])), (qtape_items, .inl (cI, 100, .inl rtape_items))])) (va_A [(h, .inr (1, [.ref htape, .ref q_steps, .ref q_words, .ref q_numbers, .ref q_starts, .ref q_ends, .int f_place, .int f_stepCount, .int f_clauses, .int f_gap, .int f_far])), (htape, .inr (7, [.ref qtape_items, .int ftape_size, .int ftape_came])), (qtape_items, .inl (cI, 100, .inl rtape_items))] sz)) 0 0 (va_A [(h, .inr (1, [.ref htape, .ref q_steps, .ref q_words, .ref q_numbers, .ref q_starts, .ref q_ends, .int f_place, .int f_stepCount, .int f_clauses, .int f_gap, .int f_far])), (htape, .inr (7, [.ref qtape_items, .int ftape_size, .int ftape_came])), (qtape_items, .inl (cI, 100, .inl rtape_items))] sz) := by
  refine ob_met_i (cc := cX1_takeAll) (maxL := 3) (by decide) (Nat.le_of_ble_eq_true rfl) (fun p e s m args below meth c A Z hx hb hml hown hts hnm hN hK hA hI hP hD hS hZ ls hl => ?_)
  have hl : lv_has ls 3 [(0, .ref h), (1, .ref (im.2.1 i1))] := hl
  unfold m_X1_takeAll at hm
  have lab2 : ∀ (n2 : Nat) (f_place_2 : Int32) (v2_2 : Int32) , ∀ (H : Heap) (locs : List Loc) (ls : Array Slot), va_P D vwCl [(h, .inr (1, [.ref htape, .ref q_steps, .ref q_words, .ref q_numbers, .ref q_starts, .ref q_ends, .int f_place_2, .int f_stepCount, .int f_clauses, .int f_gap, .int f_far])), (htape, .inr (7, [.ref qtape_items, .int ftape_size, .int ftape_came])), (qtape_items, .inl (cI, 100, .inl rtape_items))] H → va_D A [(h, .inr (1, [.ref htape, .ref q_steps, .ref q_words, .ref q_numbers, .ref q_starts, .ref q_ends, .int f_place_2, .int f_stepCount, .int f_clauses, .int f_gap, .int f_far])), (htape, .inr (7, [.ref qtape_items, .int ftape_size, .int ftape_came])), (qtape_items, .inl (cI, 100, .inl rtape_items))] → va_S A s.heap H locs → lv_has ls 3 [(0, .ref h), (1, .ref (im.2.1 i1)), (2, .int v2_2)] → m_X1_takeAll_L2 ftape_size rtape_items i1 Q n2 f_place_2 v2_2 → W p l e rmX1_takeAll s m args below meth c H locs 0 0 Z (F0 m 2 ls []) := by
    clear hm
    intro n2
    induction n2 with
    | zero =>
      intro f_place_2 v2_2 H locs ls hP hD hS hl hm
      exact hm.elim
    | succ n2 ih2 =>
      intro f_place_2 v2_2 H locs ls hP hD hS hl hm
      unfold m_X1_takeAll_L2 at hm
      obtain ⟨K2, hK2⟩ : ∃ K : Int32 → Int32 → Prop, K = m_X1_takeAll_L2 ftape_size rtape_items i1 Q n2 := ⟨_, rfl⟩
      rw [← hK2] at hm ih2
      refine lv_iload_n hx hb (dX1_takeAll 2 rfl) rfl (lv_at hl 2 rfl) ?_
      refine lv_aload_n hx hb (dX1_takeAll 3 rfl) rfl (lv_at hl 1 rfl) ?_
      obtain ⟨hi, hm⟩ := hm
      refine ob_length (own := RX1) (index := 105) (im := im) hx hb hml hown hts hK hP hD hS hA hI hN hi (inR6 _ (List.mem_of_getElem? (i := 20) rfl)) hl.1 (rest := [.int v2_2]) (Nat.le_of_ble_eq_true rfl) (dX1_takeAll 4 rfl) (Nat.le_of_ble_eq_true rfl) (Nat.le_of_ble_eq_true rfl) (Nat.zero_le _) (Nat.zero_le _) (fun H locs hP hD hS => ?_)
      refine lv_icmp_ge (tgt := 30) hx hb (dX1_takeAll 5 rfl) (by decide) (fun c2 => ?_) (fun c2 => ?_)
      · replace hm := hm.1 c2
        refine lv_iconst (v := (1 : Int32)) hx hb (dX1_takeAll 16 rfl) (by decide) ?_
        exact hZ (1 : Int32) f_place_2 H locs ls 31 hm hP hD hS (dX1_takeAll 17 rfl) rfl
      replace hm := hm.2 c2
      refine lv_aload_n hx hb (dX1_takeAll 6 rfl) rfl (lv_at hl 0 rfl) ?_
      refine lv_aload_n hx hb (dX1_takeAll 7 rfl) rfl (lv_at hl 1 rfl) ?_
      refine lv_iload_n hx hb (dX1_takeAll 8 rfl) rfl (lv_at hl 2 rfl) ?_
      obtain ⟨hi, hix, hm⟩ := hm
      refine ob_charAt (own := RX1) (index := 110) (im := im) hx hb hml hown hts hK hP hD hS hA hI hN hi hix (inR7 _ (List.mem_of_getElem? (i := 8) rfl)) hl.1 (rest := [.ref h]) (Nat.le_of_ble_eq_true rfl) (dX1_takeAll 9 rfl) (Nat.le_of_ble_eq_true rfl) (Nat.le_of_ble_eq_true rfl) (Nat.zero_le _) (Nat.zero_le _) (fun H locs hP hD hS => ?_)
      have hcut := ob_cut (wc := [(h, .inr (1, [.ref htape, .ref q_steps, .ref q_words, .ref q_numbers, .ref q_starts, .ref q_ends, .int f_place_2, .int f_stepCount, .int f_clauses, .int f_gap, .int f_far])), (htape, .inr (7, [.ref qtape_items, .int ftape_size, .int ftape_came])), (qtape_items, .inl (cI, 100, .inl rtape_items))]) hP hD hS hA [0, 1, 2] rfl (by decide)
      refine ob_i (wr := []) (ob_V (As := [.int (sCh i1 v2_2.toNatClampNeg)]) (rest := []) ⟨hx, hb, hml, hown, hts⟩ hK hcut (hI.cut hS hcut.2.2) hN (va_recv hK hP (ci := 1) (q0 := 0) rfl rfl) (k_X1_take l D cI cZ cL im _ _ _ _ _ _ _ _ _ _ _ _ _ _ _ _ _ _ _ hm) (cwV 1 hts (gU_V (inR8 _ (List.mem_of_getElem? (i := 21) rfl)) (inR8 _ (List.mem_of_getElem? (i := 22) rfl)) (inR8 _ (List.mem_of_getElem? (i := 23) rfl)) (inR5 _ (List.mem_of_getElem? (i := 8) rfl)) (inR9 _ (List.mem_of_getElem? (i := 0) rfl))) rfl rfl rfl (by decide +kernel) ⟨Nat.le_of_ble_eq_true rfl, Nat.le_of_ble_eq_true rfl⟩) rfl hl.1 rfl (Nat.le_of_ble_eq_true rfl) (dX1_takeAll 10 rfl) ⟨Nat.zero_le _, Nat.zero_le _⟩) hP hD hS hcut [0, 1, 2] [] rfl rfl (by decide) (by decide) (fun r3 u4 H locs hm hP hD hS => ?_)
      have hP := hP.sub (ws' := [(h, .inr (1, [.ref htape, .ref q_steps, .ref q_words, .ref q_numbers, .ref q_starts, .ref q_ends, .int u4, .int f_stepCount, .int f_clauses, .int f_gap, .int f_far])), (htape, .inr (7, [.ref qtape_items, .int ftape_size, .int ftape_came])), (qtape_items, .inl (cI, 100, .inl rtape_items))]) [0, 1, 2] rfl
      have hD := hD.sub (ws' := [(h, .inr (1, [.ref htape, .ref q_steps, .ref q_words, .ref q_numbers, .ref q_starts, .ref q_ends, .int u4, .int f_stepCount, .int f_clauses, .int f_gap, .int f_far])), (htape, .inr (7, [.ref qtape_items, .int ftape_size, .int ftape_came])), (qtape_items, .inl (cI, 100, .inl rtape_items))]) [0, 1, 2] (by decide) rfl
      refine lv_if_ne (tgt := 24) hx hb (dX1_takeAll 11 rfl) (by decide) (fun c6 => ?_) (fun c6 => ?_)
      · replace hm := hm.2 c6
        obtain ⟨x7, ex7⟩ : ∃ y : Int32, y = v2_2 + 1 := ⟨_, rfl⟩
        replace hm := hm x7 ex7
        refine lv_iinc (v := x7) (lv' := [(2, .int x7), (0, .ref h), (1, .ref (im.2.1 i1))]) hx hb (dX1_takeAll 14 rfl) hl (k := 2) rfl (by rw [ex7]; rfl) (by decide) rfl (fun ls hl => ?_)
        refine lv_goto (tgt := 2) hx hb (dX1_takeAll 15 rfl) (by decide) ?_
        exact ih2 u4 x7 H locs ls hP hD hS (lv_sub hl [1, 2, 0] rfl) hm
      replace hm := hm.1 c6
      refine lv_iconst (v := (0 : Int32)) hx hb (dX1_takeAll 12 rfl) (by decide) ?_
      exact hZ (0 : Int32) u4 H locs ls 23 hm hP hD hS (dX1_takeAll 13 rfl) rfl
  obtain ⟨H, hH⟩ : ∃ H, H = s.heap := ⟨_, rfl⟩
  obtain ⟨locs, hlo⟩ : ∃ q : List Loc, q = [] := ⟨_, rfl⟩
  suffices hgo : W p l e rmX1_takeAll s m args below meth c H locs 0 0 Z (F0 m 0 ls []) by rw [hH, hlo] at hgo; exact hgo
  have hP : va_P D vwCl [(h, .inr (1, [.ref htape, .ref q_steps, .ref q_words, .ref q_numbers, .ref q_starts, .ref q_ends, .int f_place, .int f_stepCount, .int f_clauses, .int f_gap, .int f_far])), (htape, .inr (7, [.ref qtape_items, .int ftape_size, .int ftape_came])), (qtape_items, .inl (cI, 100, .inl rtape_items))] H := by rw [hH]; exact hP
  have hD : va_D A [(h, .inr (1, [.ref htape, .ref q_steps, .ref q_words, .ref q_numbers, .ref q_starts, .ref q_ends, .int f_place, .int f_stepCount, .int f_clauses, .int f_gap, .int f_far])), (htape, .inr (7, [.ref qtape_items, .int ftape_size, .int ftape_came])), (qtape_items, .inl (cI, 100, .inl rtape_items))] := hD
  have hS : va_S A s.heap H locs := by rw [hH, hlo]; exact hS
  refine lv_iconst (v := (0 : Int32)) hx hb (dX1_takeAll 0 rfl) (by decide) ?_
  refine lv_topi (fun x1 ex1 => ?_)
  replace hm := hm x1 ex1
  refine lv_istore_n (lv' := [(2, .int x1), (0, .ref h), (1, .ref (im.2.1 i1))]) hx hb (dX1_takeAll 1 rfl) rfl hl (by decide) rfl (fun ls hl => ?_)
  obtain ⟨n8, hm⟩ := hm
  exact lab2 n8 f_place x1 H locs ls hP hD hS (lv_sub hl [1, 2, 0] rfl) hm
abbrev rmX1_holds : Room := { frames := 1, cells := 0, slots := 0, locals := 23 }
set_option maxHeartbeats 4000000 in
set_option maxRecDepth 100000 in
theorem k_X1_holds (l : Launch) (D : va_G) (cI cZ cL : ClassId) (im : obIM) (fk : Nat → Option ((Nat → Int32) × (Nat → Int32) × (Nat → Int32) × (Nat → Int32) × (Nat → Int32) × Int32)) (hfk : obFK cI im fk) (sz : Nat) (h : Nat) (h3 : Nat) (n3 : Nat) (r3 : Nat → Int32) (a1 : Int32) (a2 : Int32) (Q : Int32 → Prop) (hm : m_X1_holds fk n3 r3 h a1 a2 Q) : Met l yX1_holds (Cond.code yX1_holds cX1_holds 7 (some .boolean) :: wsL_law) rmX1_holds (obPre D (tyG cI cZ cL) im [(h3, .inl (cI, n3, .inl r3))] sz [.ref h, .int a1, .int a2, .ref h3]) (va_Qi (fun (r : Int32) (u : Unit) => Q r) (obB D (va_A [(h3, .inl (cI, n3, .inl r3))] sz) (fun _ : Unit => [(h3, .inl (cI, n3, .inl r3))])) (va_A [(h3, .inl (cI, n3, .inl r3))] sz)) 0 0 (va_A [(h3, .inl (cI, n3, .inl r3))] sz) := by
  refine ob_met_i (cc := cX1_holds) (maxL := 7) (by decide) (Nat.le_of_ble_eq_true rfl) (fun p e s m args below meth c A Z hx hb hml hown hts hnm hN hK hA hI hP hD hS hZ ls hl => ?_)
  have hl : lv_has ls 7 [(0, .ref h), (1, .int a1), (2, .int a2), (3, .ref h3)] := hl
  unfold m_X1_holds at hm
  obtain ⟨fst, fwo, fnu, fsa, fen, fcl, efk, hm⟩ := hm
  obtain ⟨g0, g1, g2, g3, g4, g5, gpl, gsc, gga, gfa, gk0, gk1, gk2, gk3, gk4, gk5, hg0, hg1, hg2, hg3, hg4, hg5⟩ := hfk _ _ _ _ _ _ _ efk
  have lab6 : ∀ (n6 : Nat) (v4_6 : Int32) (v5_6 : Int32) , ∀ (H : Heap) (locs : List Loc) (ls : Array Slot), va_P D vwCl [(h3, .inl (cI, n3, .inl r3))] H → va_D A [(h3, .inl (cI, n3, .inl r3))] → va_S A s.heap H locs → lv_has ls 7 [(0, .ref h), (2, .int a2), (3, .ref h3), (4, .int v4_6), (5, .int v5_6)] → m_X1_holds_L6 n3 fk r3 fst fwo fnu fsa fen fcl h a2 Q n6 v4_6 v5_6 → W p l e rmX1_holds s m args below meth c H locs 0 0 Z (F0 m 6 ls []) := by
    clear hm
    intro n6
    induction n6 with
    | zero =>
      intro v4_6 v5_6 H locs ls hP hD hS hl hm
      exact hm.elim
    | succ n6 ih6 =>
      intro v4_6 v5_6 H locs ls hP hD hS hl hm
      unfold m_X1_holds_L6 at hm
      obtain ⟨K6, hK6⟩ : ∃ K : Int32 → Int32 → Prop, K = m_X1_holds_L6 n3 fk r3 fst fwo fnu fsa fen fcl h a2 Q n6 := ⟨_, rfl⟩
      rw [← hK6] at hm ih6
      have lab100 : ∀ (v4_100 : Int32) (v5_100 : Int32) , ∀ (H : Heap) (locs : List Loc) (ls : Array Slot), va_P D vwCl [(h3, .inl (cI, n3, .inl r3))] H → va_D A [(h3, .inl (cI, n3, .inl r3))] → va_S A s.heap H locs → lv_has ls 7 [(0, .ref h), (2, .int a2), (3, .ref h3), (4, .int v4_100), (5, .int v5_100)] → m_X1_holds_L100 n3 fk r3 fst fwo fnu fsa fen fcl h a2 v4_100 v5_100 K6 Q → W p l e rmX1_holds s m args below meth c H locs 0 0 Z (F0 m 100 ls []) := by
        clear hm
        intro v4_100 v5_100 H locs ls hP hD hS hl hm
        unfold m_X1_holds_L100 at hm
        obtain ⟨x12, ex12⟩ : ∃ y : Int32, y = v5_100 + 1 := ⟨_, rfl⟩
        replace hm := hm x12 ex12
        refine lv_iinc (v := x12) (lv' := [(5, .int x12), (0, .ref h), (2, .int a2), (3, .ref h3), (4, .int v4_100)]) hx hb (dX1_holds 56 rfl) hl (k := 4) rfl (by rw [ex12]; rfl) (by decide) rfl (fun ls hl => ?_)
        refine lv_goto (tgt := 6) hx hb (dX1_holds 57 rfl) (by decide) ?_
        exact ih6 v4_100 x12 H locs ls hP hD hS (lv_sub hl [1, 2, 3, 4, 0] rfl) hm
      have lab97 : ∀ (v5_97 : Int32) (w0_97 : Int32) (w1_97 : Int32) , ∀ (H : Heap) (locs : List Loc) (ls : Array Slot), va_P D vwCl [(h3, .inl (cI, n3, .inl r3))] H → va_D A [(h3, .inl (cI, n3, .inl r3))] → va_S A s.heap H locs → lv_has ls 7 [(0, .ref h), (2, .int a2), (3, .ref h3), (5, .int v5_97)] → m_X1_holds_L97 n3 fk r3 fst fwo fnu fsa fen fcl h a2 v5_97 w0_97 w1_97 K6 Q → W p l e rmX1_holds s m args below meth c H locs 0 0 Z (F0 m 97 ls [.int w1_97, .int w0_97]) := by
        clear hm
        intro v5_97 w0_97 w1_97 H locs ls hP hD hS hl hm
        unfold m_X1_holds_L97 at hm
        refine lv_ior hx hb (dX1_holds 54 rfl) ?_
        refine lv_topi (fun x11 ex11 => ?_)
        replace hm := hm x11 ex11
        refine lv_istore (lv' := [(4, .int x11), (0, .ref h), (2, .int a2), (3, .ref h3), (5, .int v5_97)]) hx hb (dX1_holds 55 rfl) hl (by decide) rfl (fun ls hl => ?_)
        exact lab100 x11 v5_97 H locs ls hP hD hS (lv_sub hl [1, 2, 3, 0, 4] rfl) hm
      refine lv_iload hx hb (dX1_holds 4 rfl) (lv_at hl 4 rfl) ?_
      refine lv_iload_n hx hb (dX1_holds 5 rfl) rfl (lv_at hl 1 rfl) ?_
      refine lv_icmp_ge (tgt := 106) hx hb (dX1_holds 6 rfl) (by decide) (fun c2 => ?_) (fun c2 => ?_)
      · replace hm := hm.1 c2
        refine lv_iload hx hb (dX1_holds 58 rfl) (lv_at hl 3 rfl) ?_
        refine lv_iconst (v := (1 : Int32)) hx hb (dX1_holds 59 rfl) (by decide) ?_
        refine lv_iand hx hb (dX1_holds 60 rfl) ?_
        refine lv_iconst (v := (1 : Int32)) hx hb (dX1_holds 61 rfl) (by decide) ?_
        refine lv_icmp_ne (tgt := 118) hx hb (dX1_holds 62 rfl) (by decide) (fun c3 => ?_) (fun c3 => ?_)
        · replace hm := hm.2 c3
          refine lv_iconst (v := (0 : Int32)) hx hb (dX1_holds 65 rfl) (by decide) ?_
          exact hZ (0 : Int32) () H locs ls 119 hm hP hD hS (dX1_holds 66 rfl) rfl
        replace hm := hm.1 c3
        refine lv_iconst (v := (1 : Int32)) hx hb (dX1_holds 63 rfl) (by decide) ?_
        refine lv_goto (tgt := 119) hx hb (dX1_holds 64 rfl) (by decide) ?_
        exact hZ (1 : Int32) () H locs ls 119 hm hP hD hS (dX1_holds 66 rfl) rfl
      replace hm := hm.2 c2
      refine lv_aload_n hx hb (dX1_holds 7 rfl) rfl (lv_at hl 0 rfl) ?_
      refine va_get (D := D) (ci := 1) (v := .ref g1) (C := RX1) (T := TX1) (N := 11) hx hb hts inlX1 hown hK (hI.now hS) gk0 hg0 rfl 1 (by decide) (hts (.fieldLink RX1 15 "OverBacks$Field" "steps" "[I") (inR5 _ (List.mem_of_getElem? (i := 14) rfl))) (fun _ h9 => h9) rfl (dX1_holds 8 rfl) ?_
      refine lv_iload hx hb (dX1_holds 9 rfl) (lv_at hl 4 rfl) ?_
      refine va_iald hx hb hK (hI.now hS) gk1 0 hg1 rfl hm.1 (dX1_holds 10 rfl) ?_
      replace hm := hm.2
      refine lv_topi (fun x4 ex4 => ?_)
      replace hm := hm x4 ex4
      refine lv_istore (lv' := [(6, .int x4), (0, .ref h), (2, .int a2), (3, .ref h3), (4, .int v4_6), (5, .int v5_6)]) hx hb (dX1_holds 11 rfl) hl (by decide) rfl (fun ls hl => ?_)
      refine lv_iload hx hb (dX1_holds 12 rfl) (lv_at hl 0 rfl) ?_
      refine lv_iconst (v := (-1 : Int32)) hx hb (dX1_holds 13 rfl) (by decide) ?_
      refine lv_icmp_ne (tgt := 36) hx hb (dX1_holds 14 rfl) (by decide) (fun c5 => ?_) (fun c5 => ?_)
      · replace hm := hm.2 c5
        refine lv_iload hx hb (dX1_holds 20 rfl) (lv_at hl 0 rfl) ?_
        refine lv_bipush (v := (-2 : Int32)) hx hb (dX1_holds 21 rfl) (by decide) ?_
        refine lv_icmp_ne (tgt := 58) hx hb (dX1_holds 22 rfl) (by decide) (fun c6 => ?_) (fun c6 => ?_)
        · replace hm := hm.2 c6
          refine lv_iload hx hb (dX1_holds 32 rfl) (lv_at hl 0 rfl) ?_
          refine lv_bipush (v := (-3 : Int32)) hx hb (dX1_holds 33 rfl) (by decide) ?_
          refine lv_icmp_ne (tgt := 79) hx hb (dX1_holds 34 rfl) (by decide) (fun c7 => ?_) (fun c7 => ?_)
          · replace hm := hm.2 c7
            refine lv_iload hx hb (dX1_holds 44 rfl) (lv_at hl 4 rfl) ?_
            refine lv_iconst (v := (1 : Int32)) hx hb (dX1_holds 45 rfl) (by decide) ?_
            refine lv_ishl hx hb (dX1_holds 46 rfl) ?_
            refine lv_iload hx hb (dX1_holds 47 rfl) (lv_at hl 0 rfl) ?_
            refine lv_aload_n hx hb (dX1_holds 48 rfl) rfl (lv_at hl 3 rfl) ?_
            have hcut := ob_cut (wc := [(h3, .inl (cI, n3, .inl r3))]) hP hD hS hA [0] rfl (by decide)
            refine ob_i (wr := []) (ob_S (As := [.int x4, .ref h3]) (rest := [.int (v4_6 <<< ((1 : Int32) &&& 31))]) ⟨hx, hb, hml, hown, hts⟩ hK hcut (hI.cut hS hcut.2.2) hN (k_X1_isSo l D cI cZ cL im _ _ _ _ _ _ hm) (cwS2 2 hts (hts (.methodLink RX1 118 yX1_isSo) (inR23 _ (List.mem_of_getElem? (i := 17) rfl))) (hts (.static yX1_isSo) (inR23 _ (List.mem_of_getElem? (i := 18) rfl))) (hts (.initialized RX1) (inR5 _ (List.mem_of_getElem? (i := 8) rfl))) (goodU_c (inR23 _ (List.mem_of_getElem? (i := 19) rfl))) rfl rfl rfl (by decide +kernel) ⟨Nat.le_of_ble_eq_true rfl, Nat.le_of_ble_eq_true rfl⟩) rfl hl.1 rfl (Nat.le_of_ble_eq_true rfl) (dX1_holds 49 rfl) ⟨Nat.zero_le _, Nat.zero_le _⟩) hP hD hS hcut [0] [] rfl rfl (by decide) (by decide) (fun r8 u9 H locs hm hP hD hS => ?_)
            have hP := hP.sub (ws' := [(h3, .inl (cI, n3, .inl r3))]) [0] rfl
            have hD := hD.sub (ws' := [(h3, .inl (cI, n3, .inl r3))]) [0] (by decide) rfl
            refine lv_if_eq (tgt := 96) hx hb (dX1_holds 50 rfl) (by decide) (fun c10 => ?_) (fun c10 => ?_)
            · replace hm := hm.1 c10
              refine lv_iconst (v := (0 : Int32)) hx hb (dX1_holds 53 rfl) (by decide) ?_
              exact lab97 v5_6 (v4_6 <<< ((1 : Int32) &&& 31)) (0 : Int32) H locs ls hP hD hS (lv_sub hl [1, 2, 3, 5] rfl) hm
            replace hm := hm.2 c10
            refine lv_iconst (v := (1 : Int32)) hx hb (dX1_holds 51 rfl) (by decide) ?_
            refine lv_goto (tgt := 97) hx hb (dX1_holds 52 rfl) (by decide) ?_
            exact lab97 v5_6 (v4_6 <<< ((1 : Int32) &&& 31)) (1 : Int32) H locs ls hP hD hS (lv_sub hl [1, 2, 3, 5] rfl) hm
          replace hm := hm.1 c7
          refine lv_iload hx hb (dX1_holds 35 rfl) (lv_at hl 4 rfl) ?_
          refine lv_iconst (v := (1 : Int32)) hx hb (dX1_holds 36 rfl) (by decide) ?_
          refine lv_ishr hx hb (dX1_holds 37 rfl) ?_
          refine lv_iload hx hb (dX1_holds 38 rfl) (lv_at hl 4 rfl) ?_
          refine lv_iconst (v := (1 : Int32)) hx hb (dX1_holds 39 rfl) (by decide) ?_
          refine lv_iand hx hb (dX1_holds 40 rfl) ?_
          refine lv_ior hx hb (dX1_holds 41 rfl) ?_
          refine lv_topi (fun x13 ex13 => ?_)
          replace hm := hm x13 ex13
          refine lv_istore (lv' := [(4, .int x13), (6, .int x4), (0, .ref h), (2, .int a2), (3, .ref h3), (5, .int v5_6)]) hx hb (dX1_holds 42 rfl) hl (by decide) rfl (fun ls hl => ?_)
          refine lv_goto (tgt := 100) hx hb (dX1_holds 43 rfl) (by decide) ?_
          exact lab100 x13 v5_6 H locs ls hP hD hS (lv_sub hl [2, 3, 4, 0, 5] rfl) hm
        replace hm := hm.1 c6
        refine lv_iload hx hb (dX1_holds 23 rfl) (lv_at hl 4 rfl) ?_
        refine lv_iconst (v := (1 : Int32)) hx hb (dX1_holds 24 rfl) (by decide) ?_
        refine lv_ishr hx hb (dX1_holds 25 rfl) ?_
        refine lv_iload hx hb (dX1_holds 26 rfl) (lv_at hl 4 rfl) ?_
        refine lv_bipush (v := (-2 : Int32)) hx hb (dX1_holds 27 rfl) (by decide) ?_
        refine lv_ior hx hb (dX1_holds 28 rfl) ?_
        refine lv_iand hx hb (dX1_holds 29 rfl) ?_
        refine lv_topi (fun x14 ex14 => ?_)
        replace hm := hm x14 ex14
        refine lv_istore (lv' := [(4, .int x14), (6, .int x4), (0, .ref h), (2, .int a2), (3, .ref h3), (5, .int v5_6)]) hx hb (dX1_holds 30 rfl) hl (by decide) rfl (fun ls hl => ?_)
        refine lv_goto (tgt := 100) hx hb (dX1_holds 31 rfl) (by decide) ?_
        exact lab100 x14 v5_6 H locs ls hP hD hS (lv_sub hl [2, 3, 4, 0, 5] rfl) hm
      replace hm := hm.1 c5
      refine lv_iload hx hb (dX1_holds 15 rfl) (lv_at hl 4 rfl) ?_
      refine lv_iconst (v := (1 : Int32)) hx hb (dX1_holds 16 rfl) (by decide) ?_
      refine lv_ixor hx hb (dX1_holds 17 rfl) ?_
      refine lv_topi (fun x15 ex15 => ?_)
      replace hm := hm x15 ex15
      refine lv_istore (lv' := [(4, .int x15), (6, .int x4), (0, .ref h), (2, .int a2), (3, .ref h3), (5, .int v5_6)]) hx hb (dX1_holds 18 rfl) hl (by decide) rfl (fun ls hl => ?_)
      refine lv_goto (tgt := 100) hx hb (dX1_holds 19 rfl) (by decide) ?_
      exact lab100 x15 v5_6 H locs ls hP hD hS (lv_sub hl [2, 3, 4, 0, 5] rfl) hm
  obtain ⟨H, hH⟩ : ∃ H, H = s.heap := ⟨_, rfl⟩
  obtain ⟨locs, hlo⟩ : ∃ q : List Loc, q = [] := ⟨_, rfl⟩
  suffices hgo : W p l e rmX1_holds s m args below meth c H locs 0 0 Z (F0 m 0 ls []) by rw [hH, hlo] at hgo; exact hgo
  have hP : va_P D vwCl [(h3, .inl (cI, n3, .inl r3))] H := by rw [hH]; exact hP
  have hD : va_D A [(h3, .inl (cI, n3, .inl r3))] := hD
  have hS : va_S A s.heap H locs := by rw [hH, hlo]; exact hS
  refine lv_iconst (v := (0 : Int32)) hx hb (dX1_holds 0 rfl) (by decide) ?_
  refine lv_topi (fun x1 ex1 => ?_)
  replace hm := hm x1 ex1
  refine lv_istore (lv' := [(4, .int x1), (0, .ref h), (1, .int a1), (2, .int a2), (3, .ref h3)]) hx hb (dX1_holds 1 rfl) hl (by decide) rfl (fun ls hl => ?_)
  refine lv_iload_n hx hb (dX1_holds 2 rfl) rfl (lv_at hl 2 rfl) ?_
  refine lv_istore (lv' := [(5, .int a1), (4, .int x1), (0, .ref h), (1, .int a1), (2, .int a2), (3, .ref h3)]) hx hb (dX1_holds 3 rfl) hl (by decide) rfl (fun ls hl => ?_)
  obtain ⟨n16, hm⟩ := hm
  exact lab6 n16 x1 a1 H locs ls hP hD hS (lv_sub hl [2, 4, 5, 1, 0] rfl) hm
abbrev rmX3_isUnder : Room := { frames := 1, cells := 0, slots := 0, locals := 21 }
set_option maxHeartbeats 4000000 in
set_option maxRecDepth 100000 in
theorem k_X3_isUnder (l : Launch) (D : va_G) (cI cZ cL : ClassId) (im : obIM) (lk : Nat → Option (Nat × Int32 × Int32 × Int32)) (hlk : obLK im lk) (sz : Nat) (h : Nat) (a1 : Int32) (Q : Int32 → Prop) (hm : m_X3_isUnder lk h a1 Q) : Met l yX3_isUnder (Cond.code yX3_isUnder cX3_isUnder 2 (some .boolean) :: wsL_law) rmX3_isUnder (obPre D (tyG cI cZ cL) im [] sz [.ref h, .int a1]) (va_Qi (fun (r : Int32) (u : Unit) => Q r) (obB D (va_A [] sz) (fun _ : Unit => [])) (va_A [] sz)) 0 0 (va_A [] sz) := by
  refine ob_met_i (cc := cX3_isUnder) (maxL := 2) (by decide) (Nat.le_of_ble_eq_true rfl) (fun p e s m args below meth c A Z hx hb hml hown hts hnm hN hK hA hI hP hD hS hZ ls hl => ?_)
  have hl : lv_has ls 2 [(0, .ref h), (1, .int a1)] := hl
  unfold m_X3_isUnder at hm
  obtain ⟨H, hH⟩ : ∃ H, H = s.heap := ⟨_, rfl⟩
  obtain ⟨locs, hlo⟩ : ∃ q : List Loc, q = [] := ⟨_, rfl⟩
  suffices hgo : W p l e rmX3_isUnder s m args below meth c H locs 0 0 Z (F0 m 0 ls []) by rw [hH, hlo] at hgo; exact hgo
  have hP : va_P D vwCl [] H := by rw [hH]; exact hP
  have hD : va_D A [] := hD
  have hS : va_S A s.heap H locs := by rw [hH, hlo]; exact hS
  refine lv_iload_n hx hb (dX3_isUnder 0 rfl) rfl (lv_at hl 1 rfl) ?_
  refine lv_iconst (v := (2 : Int32)) hx hb (dX3_isUnder 1 rfl) (by decide) ?_
  refine lv_icmp_eq (tgt := 13) hx hb (dX3_isUnder 2 rfl) (by decide) (fun c1 => ?_) (fun c1 => ?_)
  · replace hm := hm.1 c1
    refine lv_iconst (v := (1 : Int32)) hx hb (dX3_isUnder 7 rfl) (by decide) ?_
    refine lv_goto (tgt := 18) hx hb (dX3_isUnder 8 rfl) (by decide) ?_
    exact hZ (1 : Int32) () H locs ls 18 hm hP hD hS (dX3_isUnder 10 rfl) rfl
  replace hm := hm.2 c1
  refine lv_aload_n hx hb (dX3_isUnder 3 rfl) rfl (lv_at hl 0 rfl) ?_
  refine lv_iload_n hx hb (dX3_isUnder 4 rfl) rfl (lv_at hl 1 rfl) ?_
  obtain ⟨d4, n4, v4, t4, e4, hm⟩ := hm
  obtain ⟨hc4, k4, hk4⟩ := hlk _ _ _ _ _ e4
  obtain ⟨w4, hw4⟩ := obK_cl hc4
  have hcut := ob_cut (wc := []) hP hD hS hA [] rfl (by decide)
  refine ob_i (wr := []) (ob_SU (n := 1) (x := (⟨"OverBacks$Leaper", "isUnder", "(I)Z"⟩ : MethodName)) (owner := "OverBacks$Leaper") (C := w4.1) (As := [.int a1]) (rest := []) (hK.1 d4 w4 hw4).2 ⟨hx, hb, hml, hown, hts⟩ hK hcut (hI.cut hS hcut.2.2) hN (va_recv hK (hI.now hS) hw4 hk4) (k_X4_isUnder l D cI cZ cL im _ _ _ _ hm) (inR41 _ (List.mem_of_getElem? (i := 22) rfl)) (inR41 _ (List.mem_of_getElem? (i := 6) rfl)) (inR37 _ (List.mem_of_getElem? (i := 12) rfl)) (inR41 _ (List.mem_of_getElem? (i := 12) rfl)) (inR14 _ (List.mem_of_getElem? (i := 11) rfl)) (inR41 _ (List.mem_of_getElem? (i := 13) rfl)) (Or.inl rfl) (by decide +kernel) rfl rfl ⟨Nat.le_of_ble_eq_true rfl, Nat.le_of_ble_eq_true rfl⟩ rfl hl.1 rfl (Nat.le_of_ble_eq_true rfl) (dX3_isUnder 5 rfl) ⟨Nat.zero_le _, Nat.zero_le _⟩) hP hD hS hcut [] [] rfl rfl (by decide) (by decide) (fun r2 u3 H locs hm hP hD hS => ?_)
  have hP := hP.sub (ws' := []) [] rfl
  have hD := hD.sub (ws' := []) [] (by decide) rfl
  refine lv_if_eq (tgt := 17) hx hb (dX3_isUnder 6 rfl) (by decide) (fun c5 => ?_) (fun c5 => ?_)
  · replace hm := hm.1 c5
    refine lv_iconst (v := (0 : Int32)) hx hb (dX3_isUnder 9 rfl) (by decide) ?_
    exact hZ (0 : Int32) () H locs ls 18 hm hP hD hS (dX3_isUnder 10 rfl) rfl
  replace hm := hm.2 c5
  refine lv_iconst (v := (1 : Int32)) hx hb (dX3_isUnder 7 rfl) (by decide) ?_
  refine lv_goto (tgt := 18) hx hb (dX3_isUnder 8 rfl) (by decide) ?_
  exact hZ (1 : Int32) () H locs ls 18 hm hP hD hS (dX3_isUnder 10 rfl) rfl
