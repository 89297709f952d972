set_option maxHeartbeats 4000000 in
set_option maxRecDepth 100000 in
theorem law_loop {p : Program} {l : Launch} {e : Env} {s : State} {m : MethodId} {below : List Frame} {meth : Method} {c : Code} {b L : Nat} {xs : Nat → Int32} {D : va_G} {cI cZ cL : ClassId} {aK : (Nat → Nat) × (Nat → Nat)} {hC qC_now qC_now_line qC_now_line_people qC_now_line_places qC_now_line_breath qC_now_line_rows qC_now_line_seen qC_now_line_ends qC_now_tape qC_now_tape_items qC_now_taken qC_now_taken_items qC_now_bookTurns qC_now_bookTurns_items qC_now_bookTimes qC_now_bookTimes_items qC_image qC_image_line qC_image_line_people qC_image_line_places qC_image_line_breath qC_image_line_rows qC_image_line_seen qC_image_line_ends qC_image_tape qC_image_tape_items qC_image_taken qC_image_taken_items qC_image_bookTurns qC_image_bookTurns_items qC_image_bookTimes qC_image_bookTimes_items qC_trial qC_trial_people qC_trial_places qC_trial_breath qC_trial_rows qC_trial_seen qC_trial_ends qC_trace qC_trace_items qC_tried qC_best hE qE_s qE_image qE_frame qE_by qE_truths qE_known qE_leapt qE_trying qE_bestOrder qE_ended qE_bodies : Nat} (hL : L ≤ 2048) (Cx : LawCx p s m meth c b L xs D cI cZ cL aK) : ∀ (n k0 : Nat), k0 ≤ 512 → LawH p l e s m below meth c b D cI cZ cL aK hC qC_now qC_now_line qC_now_line_people qC_now_line_places qC_now_line_breath qC_now_line_rows qC_now_line_seen qC_now_line_ends qC_now_tape qC_now_tape_items qC_now_taken qC_now_taken_items qC_now_bookTurns qC_now_bookTurns_items qC_now_bookTimes qC_now_bookTimes_items qC_image qC_image_line qC_image_line_people qC_image_line_places qC_image_line_breath qC_image_line_rows qC_image_line_seen qC_image_line_ends qC_image_tape qC_image_tape_items qC_image_taken qC_image_taken_items qC_image_bookTurns qC_image_bookTurns_items qC_image_bookTimes qC_image_bookTimes_items qC_trial qC_trial_people qC_trial_places qC_trial_breath qC_trial_rows qC_trial_seen qC_trial_ends qC_trace qC_trace_items qC_tried qC_best hE qE_s qE_image qE_frame qE_by qE_truths qE_known qE_leapt qE_trying qE_bestOrder qE_ended qE_bodies (m_law xs L n) k0 := by
  intro n
  induction n with
  | zero =>
    intro k0 hk0 Lm lk fk i0 fC_imaged fC_now_fields fC_now_line_field fC_now_line_size fC_now_line_turn fC_now_line_yards fC_now_line_time fC_now_line_gap fC_now_line_far fC_now_line_flat rC_now_line_people rC_now_line_places rC_now_line_breath rC_now_line_rows rC_now_line_seen rC_now_line_ends fC_now_tape_size fC_now_tape_came rC_now_tape_items fC_now_taken_size fC_now_taken_came rC_now_taken_items fC_now_bookTurns_size fC_now_bookTurns_came rC_now_bookTurns_items fC_now_bookTimes_size fC_now_bookTimes_came rC_now_bookTimes_items fC_image_fields fC_image_line_field fC_image_line_size fC_image_line_turn fC_image_line_yards fC_image_line_time fC_image_line_gap fC_image_line_far fC_image_line_flat rC_image_line_people rC_image_line_places rC_image_line_breath rC_image_line_rows rC_image_line_seen rC_image_line_ends fC_image_tape_size fC_image_tape_came rC_image_tape_items fC_image_taken_size fC_image_taken_came rC_image_taken_items fC_image_bookTurns_size fC_image_bookTurns_came rC_image_bookTurns_items fC_image_bookTimes_size fC_image_bookTimes_came rC_image_bookTimes_items fC_trial_field fC_trial_size fC_trial_turn fC_trial_yards fC_trial_time fC_trial_gap fC_trial_far fC_trial_flat rC_trial_people rC_trial_places rC_trial_breath rC_trial_rows rC_trial_seen rC_trial_ends fC_trace_size fC_trace_came rC_trace_items rC_tried rC_best fE_thrown fE_hasImage fE_act fE_spot fE_end fE_isWrong fE_open fE_slowed fE_risked fE_gapNow fE_giver fE_turnsMany fE_leastTime fE_ran fE_kind fE_number fE_tellsV rE_s rE_image rE_frame rE_by rE_truths rE_known rE_leapt rE_trying rE_bestOrder rE_ended rE_bodies H locs ls hi0 hlk hfk hP hD hS hl hm
    exact hm.elim
  | succ n0 ihn =>
    intro k0 hk5 Lm lk fk i0 fC_imaged fC_now_fields fC_now_line_field fC_now_line_size fC_now_line_turn fC_now_line_yards fC_now_line_time fC_now_line_gap fC_now_line_far fC_now_line_flat rC_now_line_people rC_now_line_places rC_now_line_breath rC_now_line_rows rC_now_line_seen rC_now_line_ends fC_now_tape_size fC_now_tape_came rC_now_tape_items fC_now_taken_size fC_now_taken_came rC_now_taken_items fC_now_bookTurns_size fC_now_bookTurns_came rC_now_bookTurns_items fC_now_bookTimes_size fC_now_bookTimes_came rC_now_bookTimes_items fC_image_fields fC_image_line_field fC_image_line_size fC_image_line_turn fC_image_line_yards fC_image_line_time fC_image_line_gap fC_image_line_far fC_image_line_flat rC_image_line_people rC_image_line_places rC_image_line_breath rC_image_line_rows rC_image_line_seen rC_image_line_ends fC_image_tape_size fC_image_tape_came rC_image_tape_items fC_image_taken_size fC_image_taken_came rC_image_taken_items fC_image_bookTurns_size fC_image_bookTurns_came rC_image_bookTurns_items fC_image_bookTimes_size fC_image_bookTimes_came rC_image_bookTimes_items fC_trial_field fC_trial_size fC_trial_turn fC_trial_yards fC_trial_time fC_trial_gap fC_trial_far fC_trial_flat rC_trial_people rC_trial_places rC_trial_breath rC_trial_rows rC_trial_seen rC_trial_ends fC_trace_size fC_trace_came rC_trace_items rC_tried rC_best fE_thrown fE_hasImage fE_act fE_spot fE_end fE_isWrong fE_open fE_slowed fE_risked fE_gapNow fE_giver fE_turnsMany fE_leastTime fE_ran fE_kind fE_number fE_tellsV rE_s rE_image rE_frame rE_by rE_truths rE_known rE_leapt rE_trying rE_bestOrder rE_ended rE_bodies H locs ls hi0 hlk hfk hP hD hS hl hm
    have Cx2 := Cx
    obtain ⟨hx, hb, hr, hml, hown, htu, hX, hbl, hlocks, hA, hbA, hK, hN, hT0⟩ := Cx2
    unfold m_law at hm
    refine lv_iload_n hx hb (dL_law0 10 rfl) rfl (lv_at hl 3 rfl) ?_
    refine lv_aload_n hx hb (dL_law0 11 rfl) rfl (lv_at hl 0 rfl) ?_
    refine va_slen hx hb hX hbl hbA hS (dL_law0 12 rfl) ?_
    refine lv_iconst (v := (4 : Int32)) hx hb (dL_law0 13 rfl) (by decide) ?_
    refine lv_isub hx hb (dL_law0 14 rfl) ?_
    refine lv_icmp_gt (tgt := 926) hx hb (dL_law0 15 rfl) (by decide) (fun c1 => ?_) (fun c1 => ?_)
    · replace hm := hm.1 c1
      refine lv_iconst (v := (1 : Int32)) hx hb (dL_law23 21 rfl) (by decide) ?_
      refine va_forget (fun q hq => hS.2.2 q hq) ?_
      refine W.widen (k := 600000) (n := 7302250) (by omega) (by omega) ?_
      exact lw_ret hx hb hr hlocks (dL_law23 22 rfl)
    replace hm := hm.2 c1
    have hb4 := law_bound hL hk5 hi0 c1
    have hk0 : k0 ≤ 511 := by omega
    have ih := ihn (k0 + 1) (by omega)
    refine lv_aload_n hx hb (dL_law0 16 rfl) rfl (lv_at hl 0 rfl) ?_
    refine lv_iload_n hx hb (dL_law0 17 rfl) rfl (lv_at hl 3 rfl) ?_
    refine va_sld hx hb hX hbl hbA hS hm.1 (dL_law0 18 rfl) ?_
    replace hm := hm.2
    refine lv_bipush (v := (31 : Int32)) hx hb (dL_law0 19 rfl) (by decide) ?_
    refine lv_iand hx hb (dL_law0 20 rfl) ?_
    refine lv_topi (fun x2 ex2 => ?_)
    replace hm := hm x2 ex2
    by_cases c13 : x2 = (0 : Int32)
    · refine lv_tableIn (tgt := 168) hx hb (dL_law0 21 rfl) (by rw [c13]; decide) (by rw [c13]; decide) (by rw [c13]; rfl) (by decide) ?_
      exact law_case_00 Cx hk0 hb4 (K := m_law xs L n0) ih hi0 hlk hfk hP hD hS hl (hm.1 c13)
    replace hm := hm.2
    by_cases c33 : x2 = (1 : Int32)
    · refine lv_tableIn (tgt := 191) hx hb (dL_law0 21 rfl) (by rw [c33]; decide) (by rw [c33]; decide) (by rw [c33]; rfl) (by decide) ?_
      exact law_case_01 Cx hk0 hb4 (K := m_law xs L n0) ih hi0 hlk hfk hP hD hS hl (hm.1 c33)
    replace hm := hm.2
    by_cases c47 : x2 = (2 : Int32)
    · refine lv_tableIn (tgt := 204) hx hb (dL_law0 21 rfl) (by rw [c47]; decide) (by rw [c47]; decide) (by rw [c47]; rfl) (by decide) ?_
      exact law_case_02 Cx hk0 hb4 (K := m_law xs L n0) ih hi0 hlk hfk hP hD hS hl (hm.1 c47)
    replace hm := hm.2
    by_cases c54 : x2 = (3 : Int32)
    · refine lv_tableIn (tgt := 247) hx hb (dL_law0 21 rfl) (by rw [c54]; decide) (by rw [c54]; decide) (by rw [c54]; rfl) (by decide) ?_
      exact law_case_03 Cx hk0 hb4 (K := m_law xs L n0) ih hi0 hlk hfk hP hD hS hl (hm.1 c54)
    replace hm := hm.2
    by_cases c63 : x2 = (4 : Int32)
    · refine lv_tableIn (tgt := 280) hx hb (dL_law0 21 rfl) (by rw [c63]; decide) (by rw [c63]; decide) (by rw [c63]; rfl) (by decide) ?_
      exact law_case_04 Cx hk0 hb4 (K := m_law xs L n0) ih hi0 hlk hfk hP hD hS hl (hm.1 c63)
    replace hm := hm.2
    by_cases c72 : x2 = (5 : Int32)
    · refine lv_tableIn (tgt := 313) hx hb (dL_law0 21 rfl) (by rw [c72]; decide) (by rw [c72]; decide) (by rw [c72]; rfl) (by decide) ?_
      exact law_case_05 Cx hk0 hb4 (K := m_law xs L n0) ih hi0 hlk hfk hP hD hS hl (hm.1 c72)
    replace hm := hm.2
    by_cases c81 : x2 = (6 : Int32)
    · refine lv_tableIn (tgt := 346) hx hb (dL_law0 21 rfl) (by rw [c81]; decide) (by rw [c81]; decide) (by rw [c81]; rfl) (by decide) ?_
      exact law_case_06 Cx hk0 hb4 (K := m_law xs L n0) ih hi0 hlk hfk hP hD hS hl (hm.1 c81)
    replace hm := hm.2
    by_cases c88 : x2 = (7 : Int32)
    · refine lv_tableIn (tgt := 389) hx hb (dL_law0 21 rfl) (by rw [c88]; decide) (by rw [c88]; decide) (by rw [c88]; rfl) (by decide) ?_
      exact law_case_07 Cx hk0 hb4 (K := m_law xs L n0) ih hi0 hlk hfk hP hD hS hl (hm.1 c88)
    replace hm := hm.2
    by_cases c100 : x2 = (8 : Int32)
    · refine lv_tableIn (tgt := 412) hx hb (dL_law0 21 rfl) (by rw [c100]; decide) (by rw [c100]; decide) (by rw [c100]; rfl) (by decide) ?_
      exact law_case_08 Cx hk0 hb4 (K := m_law xs L n0) ih hi0 hlk hfk hP hD hS hl (hm.1 c100)
    replace hm := hm.2
    by_cases c120 : x2 = (9 : Int32)
    · refine lv_tableIn (tgt := 455) hx hb (dL_law0 21 rfl) (by rw [c120]; decide) (by rw [c120]; decide) (by rw [c120]; rfl) (by decide) ?_
      exact law_case_09 Cx hk0 hb4 (K := m_law xs L n0) ih hi0 hlk hfk hP hD hS hl (hm.1 c120)
    replace hm := hm.2
    by_cases c149 : x2 = (10 : Int32)
    · refine lv_tableIn (tgt := 468) hx hb (dL_law0 21 rfl) (by rw [c149]; decide) (by rw [c149]; decide) (by rw [c149]; rfl) (by decide) ?_
      exact law_case_10 Cx hk0 hb4 (K := m_law xs L n0) ih hi0 hlk hfk hP hD hS hl (hm.1 c149)
    replace hm := hm.2
    by_cases c178 : x2 = (11 : Int32)
    · refine lv_tableIn (tgt := 501) hx hb (dL_law0 21 rfl) (by rw [c178]; decide) (by rw [c178]; decide) (by rw [c178]; rfl) (by decide) ?_
      exact law_case_11 Cx hk0 hb4 (K := m_law xs L n0) ih hi0 hlk hfk hP hD hS hl (hm.1 c178)
    replace hm := hm.2
    by_cases c207 : x2 = (12 : Int32)
    · refine lv_tableIn (tgt := 524) hx hb (dL_law0 21 rfl) (by rw [c207]; decide) (by rw [c207]; decide) (by rw [c207]; rfl) (by decide) ?_
      exact law_case_12 Cx hk0 hb4 (K := m_law xs L n0) ih hi0 hlk hfk hP hD hS hl (hm.1 c207)
    replace hm := hm.2
    by_cases c236 : x2 = (13 : Int32)
    · refine lv_tableIn (tgt := 547) hx hb (dL_law0 21 rfl) (by rw [c236]; decide) (by rw [c236]; decide) (by rw [c236]; rfl) (by decide) ?_
      exact law_case_13 Cx hk0 hb4 (K := m_law xs L n0) ih hi0 hlk hfk hP hD hS hl (hm.1 c236)
    replace hm := hm.2
    by_cases c270 : x2 = (14 : Int32)
    · refine lv_tableIn (tgt := 560) hx hb (dL_law0 21 rfl) (by rw [c270]; decide) (by rw [c270]; decide) (by rw [c270]; rfl) (by decide) ?_
      exact law_case_14 Cx hk0 hb4 (K := m_law xs L n0) ih hi0 hlk hfk hP hD hS hl (hm.1 c270)
    replace hm := hm.2
    by_cases c299 : x2 = (15 : Int32)
    · refine lv_tableIn (tgt := 583) hx hb (dL_law0 21 rfl) (by rw [c299]; decide) (by rw [c299]; decide) (by rw [c299]; rfl) (by decide) ?_
      exact law_case_15 Cx hk0 hb4 (K := m_law xs L n0) ih hi0 hlk hfk hP hD hS hl (hm.1 c299)
    replace hm := hm.2
    by_cases c327 : x2 = (16 : Int32)
    · refine lv_tableIn (tgt := 606) hx hb (dL_law0 21 rfl) (by rw [c327]; decide) (by rw [c327]; decide) (by rw [c327]; rfl) (by decide) ?_
      exact law_case_16 Cx hk0 hb4 (K := m_law xs L n0) ih hi0 hlk hfk hP hD hS hl (hm.1 c327)
    replace hm := hm.2
    by_cases c357 : x2 = (17 : Int32)
    · refine lv_tableIn (tgt := 629) hx hb (dL_law0 21 rfl) (by rw [c357]; decide) (by rw [c357]; decide) (by rw [c357]; rfl) (by decide) ?_
      exact law_case_17 Cx hk0 hb4 (K := m_law xs L n0) ih hi0 hlk hfk hP hD hS hl (hm.1 c357)
    replace hm := hm.2
    by_cases c368 : x2 = (18 : Int32)
    · refine lv_tableIn (tgt := 642) hx hb (dL_law0 21 rfl) (by rw [c368]; decide) (by rw [c368]; decide) (by rw [c368]; rfl) (by decide) ?_
      exact law_case_18 Cx hk0 hb4 (K := m_law xs L n0) ih hi0 hlk hfk hP hD hS hl (hm.1 c368)
    replace hm := hm.2
    by_cases c397 : x2 = (19 : Int32)
    · refine lv_tableIn (tgt := 665) hx hb (dL_law0 21 rfl) (by rw [c397]; decide) (by rw [c397]; decide) (by rw [c397]; rfl) (by decide) ?_
      exact law_case_19 Cx hk0 hb4 (K := m_law xs L n0) ih hi0 hlk hfk hP hD hS hl (hm.1 c397)
    replace hm := hm.2
    by_cases c423 : x2 = (20 : Int32)
    · refine lv_tableIn (tgt := 678) hx hb (dL_law0 21 rfl) (by rw [c423]; decide) (by rw [c423]; decide) (by rw [c423]; rfl) (by decide) ?_
      exact law_case_20 Cx hk0 hb4 (K := m_law xs L n0) ih hi0 hlk hfk hP hD hS hl (hm.1 c423)
    replace hm := hm.2
    by_cases c451 : x2 = (21 : Int32)
    · refine lv_tableIn (tgt := 702) hx hb (dL_law0 21 rfl) (by rw [c451]; decide) (by rw [c451]; decide) (by rw [c451]; rfl) (by decide) ?_
      exact law_case_21 Cx hk0 hb4 (K := m_law xs L n0) ih hi0 hlk hfk hP hD hS hl (hm.1 c451)
    replace hm := hm.2
    by_cases c465 : x2 = (22 : Int32)
    · refine lv_tableIn (tgt := 726) hx hb (dL_law0 21 rfl) (by rw [c465]; decide) (by rw [c465]; decide) (by rw [c465]; rfl) (by decide) ?_
      exact law_case_22 Cx hk0 hb4 (K := m_law xs L n0) ih hi0 hlk hfk hP hD hS hl (hm.1 c465)
    replace hm := hm.2
    by_cases c494 : x2 = (23 : Int32)
    · refine lv_tableIn (tgt := 759) hx hb (dL_law0 21 rfl) (by rw [c494]; decide) (by rw [c494]; decide) (by rw [c494]; rfl) (by decide) ?_
      exact law_case_23 Cx hk0 hb4 (K := m_law xs L n0) ih hi0 hlk hfk hP hD hS hl (hm.1 c494)
    replace hm := hm.2
    by_cases c509 : x2 = (24 : Int32)
    · refine lv_tableIn (tgt := 772) hx hb (dL_law0 21 rfl) (by rw [c509]; decide) (by rw [c509]; decide) (by rw [c509]; rfl) (by decide) ?_
      exact law_case_24 Cx hk0 hb4 (K := m_law xs L n0) ih hi0 hlk hfk hP hD hS hl (hm.1 c509)
    replace hm := hm.2
    by_cases c516 : x2 = (25 : Int32)
    · refine lv_tableIn (tgt := 815) hx hb (dL_law0 21 rfl) (by rw [c516]; decide) (by rw [c516]; decide) (by rw [c516]; rfl) (by decide) ?_
      exact law_case_25 Cx hk0 hb4 (K := m_law xs L n0) ih hi0 hlk hfk hP hD hS hl (hm.1 c516)
    replace hm := hm.2
    by_cases c523 : x2 = (26 : Int32)
    · refine lv_tableIn (tgt := 838) hx hb (dL_law0 21 rfl) (by rw [c523]; decide) (by rw [c523]; decide) (by rw [c523]; rfl) (by decide) ?_
      exact law_case_26 Cx hk0 hb4 (K := m_law xs L n0) ih hi0 hlk hfk hP hD hS hl (hm.1 c523)
    replace hm := hm.2
    by_cases c558 : x2 = (27 : Int32)
    · refine lv_tableIn (tgt := 871) hx hb (dL_law0 21 rfl) (by rw [c558]; decide) (by rw [c558]; decide) (by rw [c558]; rfl) (by decide) ?_
      exact law_case_27 Cx hk0 hb4 (K := m_law xs L n0) ih hi0 hlk hfk hP hD hS hl (hm.1 c558)
    replace hm := hm.2
    by_cases c591 : x2 = (28 : Int32)
    · refine lv_tableIn (tgt := 884) hx hb (dL_law0 21 rfl) (by rw [c591]; decide) (by rw [c591]; decide) (by rw [c591]; rfl) (by decide) ?_
      exact law_case_28 Cx hk0 hb4 (K := m_law xs L n0) ih hi0 hlk hfk hP hD hS hl (hm.1 c591)
    replace hm := hm.2
    by_cases c598 : x2 = (29 : Int32)
    · refine lv_tableIn (tgt := 897) hx hb (dL_law0 21 rfl) (by rw [c598]; decide) (by rw [c598]; decide) (by rw [c598]; rfl) (by decide) ?_
      exact law_case_29 Cx hk0 hb4 (K := m_law xs L n0) ih hi0 hlk hfk hP hD hS hl (hm.1 c598)
    replace hm := hm.2
    have c600 : x2.toInt < 0 ∨ 29 < x2.toInt := by have z0 := ob_ne c13; rw [show ((0 : Int32)).toInt = 0 from by decide] at z0; have z1 := ob_ne c33; rw [show ((1 : Int32)).toInt = 1 from by decide] at z1; have z2 := ob_ne c47; rw [show ((2 : Int32)).toInt = 2 from by decide] at z2; have z3 := ob_ne c54; rw [show ((3 : Int32)).toInt = 3 from by decide] at z3; have z4 := ob_ne c63; rw [show ((4 : Int32)).toInt = 4 from by decide] at z4; have z5 := ob_ne c72; rw [show ((5 : Int32)).toInt = 5 from by decide] at z5; have z6 := ob_ne c81; rw [show ((6 : Int32)).toInt = 6 from by decide] at z6; have z7 := ob_ne c88; rw [show ((7 : Int32)).toInt = 7 from by decide] at z7; have z8 := ob_ne c100; rw [show ((8 : Int32)).toInt = 8 from by decide] at z8; have z9 := ob_ne c120; rw [show ((9 : Int32)).toInt = 9 from by decide] at z9; have z10 := ob_ne c149; rw [show ((10 : Int32)).toInt = 10 from by decide] at z10; have z11 := ob_ne c178; rw [show ((11 : Int32)).toInt = 11 from by decide] at z11; have z12 := ob_ne c207; rw [show ((12 : Int32)).toInt = 12 from by decide] at z12; have z13 := ob_ne c236; rw [show ((13 : Int32)).toInt = 13 from by decide] at z13; have z14 := ob_ne c270; rw [show ((14 : Int32)).toInt = 14 from by decide] at z14; have z15 := ob_ne c299; rw [show ((15 : Int32)).toInt = 15 from by decide] at z15; have z16 := ob_ne c327; rw [show ((16 : Int32)).toInt = 16 from by decide] at z16; have z17 := ob_ne c357; rw [show ((17 : Int32)).toInt = 17 from by decide] at z17; have z18 := ob_ne c368; rw [show ((18 : Int32)).toInt = 18 from by decide] at z18; have z19 := ob_ne c397; rw [show ((19 : Int32)).toInt = 19 from by decide] at z19; have z20 := ob_ne c423; rw [show ((20 : Int32)).toInt = 20 from by decide] at z20; have z21 := ob_ne c451; rw [show ((21 : Int32)).toInt = 21 from by decide] at z21; have z22 := ob_ne c465; rw [show ((22 : Int32)).toInt = 22 from by decide] at z22; have z23 := ob_ne c494; rw [show ((23 : Int32)).toInt = 23 from by decide] at z23; have z24 := ob_ne c509; rw [show ((24 : Int32)).toInt = 24 from by decide] at z24; have z25 := ob_ne c516; rw [show ((25 : Int32)).toInt = 25 from by decide] at z25; have z26 := ob_ne c523; rw [show ((26 : Int32)).toInt = 26 from by decide] at z26; have z27 := ob_ne c558; rw [show ((27 : Int32)).toInt = 27 from by decide] at z27; have z28 := ob_ne c591; rw [show ((28 : Int32)).toInt = 28 from by decide] at z28; have z29 := ob_ne c598; rw [show ((29 : Int32)).toInt = 29 from by decide] at z29; omega
    refine lv_tableOut (tgt := 920) hx hb (dL_law0 21 rfl) c600 (by decide) ?_
    replace hm := hm c600
    obtain ⟨x599, ex599⟩ : ∃ y : Int32, y = i0 + 4 := ⟨_, rfl⟩
    replace hm := hm x599 ex599
    refine lv_iinc (v := x599) (lv' := [(3, .int x599), (0, .ref b), (1, .ref hC), (2, .ref hE)]) hx hb (dL_law23 19 rfl) hl (k := 3) rfl (by rw [ex599]; rfl) (by decide) rfl (fun ls hl => ?_)
    refine lv_goto (tgt := 18) hx hb (dL_law23 20 rfl) (by decide) ?_
    refine W.widen (k := 56 + 6 * (k0 + 1)) (n := 4000 + 151 * (k0 + 1)) (by show (56 + 6 * k0) ≤ _; omega) (by show (4000 + 151 * k0) ≤ _; omega) ?_
    exact ih Lm lk fk x599 fC_imaged fC_now_fields fC_now_line_field fC_now_line_size fC_now_line_turn fC_now_line_yards fC_now_line_time fC_now_line_gap fC_now_line_far fC_now_line_flat rC_now_line_people rC_now_line_places rC_now_line_breath rC_now_line_rows rC_now_line_seen rC_now_line_ends fC_now_tape_size fC_now_tape_came rC_now_tape_items fC_now_taken_size fC_now_taken_came rC_now_taken_items fC_now_bookTurns_size fC_now_bookTurns_came rC_now_bookTurns_items fC_now_bookTimes_size fC_now_bookTimes_came rC_now_bookTimes_items fC_image_fields fC_image_line_field fC_image_line_size fC_image_line_turn fC_image_line_yards fC_image_line_time fC_image_line_gap fC_image_line_far fC_image_line_flat rC_image_line_people rC_image_line_places rC_image_line_breath rC_image_line_rows rC_image_line_seen rC_image_line_ends fC_image_tape_size fC_image_tape_came rC_image_tape_items fC_image_taken_size fC_image_taken_came rC_image_taken_items fC_image_bookTurns_size fC_image_bookTurns_came rC_image_bookTurns_items fC_image_bookTimes_size fC_image_bookTimes_came rC_image_bookTimes_items fC_trial_field fC_trial_size fC_trial_turn fC_trial_yards fC_trial_time fC_trial_gap fC_trial_far fC_trial_flat rC_trial_people rC_trial_places rC_trial_breath rC_trial_rows rC_trial_seen rC_trial_ends fC_trace_size fC_trace_came rC_trace_items rC_tried rC_best fE_thrown fE_hasImage fE_act fE_spot fE_end fE_isWrong fE_open fE_slowed fE_risked fE_gapNow fE_giver fE_turnsMany fE_leastTime fE_ran fE_kind fE_number fE_tellsV rE_s rE_image rE_frame rE_by rE_truths rE_known rE_leapt rE_trying rE_bestOrder rE_ended rE_bodies H locs ls (next_i hi0 ex599) hlk hfk hP hD hS (lv_sub hl [1, 2, 3, 0] rfl) hm
