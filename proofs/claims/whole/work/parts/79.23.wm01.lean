abbrev rmX12_clauseHere : Room := { frames := 46, cells := 0, slots := 0, locals := 1883 }
set_option maxHeartbeats 4000000 in
set_option maxRecDepth 100000 in
theorem k_X12_clauseHere (l : Launch) (D : va_G) (cI cZ cL : ClassId) (im : obIM) (sz : Nat) (h : Nat) (f_thrown : Int32) (q_s : Nat) (q_image : Nat) (q_frame : Nat) (f_hasImage : Int32) (f_act : Int32) (f_spot : Int32) (f_end : Int32) (f_isWrong : Int32) (f_open : Int32) (q_by : Nat) (q_truths : Nat) (f_slowed : Int32) (f_risked : Int32) (f_gapNow : Int32) (f_giver : Int32) (q_known : Nat) (q_leapt : Nat) (f_turnsMany : Int32) (q_trying : Nat) (q_bestOrder : Nat) (f_leastTime : Int32) (q_ended : Nat) (q_bodies : Nat) (f_ran : Int32) (f_kind : Int32) (f_number : Int32) (f_tellsV : Int32) (r_s : Nat → Int32) (Q : Int32 → Int32 → Int32 → (Nat → Int32) → Prop) (hm : m_X12_clauseHere f_act f_spot f_end f_isWrong f_open r_s Q) : Met l yX12_clauseHere (Cond.code yX12_clauseHere cX12_clauseHere 1 none :: wsL_law) rmX12_clauseHere (obPre D (tyG cI cZ cL) im [(h, .inr (12, [.int f_thrown, .ref q_s, .ref q_image, .ref q_frame, .int f_hasImage, .int f_act, .int f_spot, .int f_end, .int f_isWrong, .int f_open, .ref q_by, .ref q_truths, .int f_slowed, .int f_risked, .int f_gapNow, .int f_giver, .ref q_known, .ref q_leapt, .int f_turnsMany, .ref q_trying, .ref q_bestOrder, .int f_leastTime, .ref q_ended, .ref q_bodies, .int f_ran, .int f_kind, .int f_number, .int f_tellsV])), (q_s, .inl (cI, 903, .inl r_s))] sz [.ref h]) (va_Qv (fun (u : Int32 × Int32 × Int32 × (Nat → Int32)) => Q u.1 u.2.1 u.2.2.1 u.2.2.2) (obB D (va_A [(h, .inr (12, [.int f_thrown, .ref q_s, .ref q_image, .ref q_frame, .int f_hasImage, .int f_act, .int f_spot, .int f_end, .int f_isWrong, .int f_open, .ref q_by, .ref q_truths, .int f_slowed, .int f_risked, .int f_gapNow, .int f_giver, .ref q_known, .ref q_leapt, .int f_turnsMany, .ref q_trying, .ref q_bestOrder, .int f_leastTime, .ref q_ended, .ref q_bodies, .int f_ran, .int f_kind, .int f_number, .int f_tellsV])), (q_s, .inl (cI, 903, .inl r_s))] sz) (fun u : Int32 × Int32 × Int32 × (Nat → Int32) => [(h, .inr (12, [.int f_thrown, .ref q_s, .ref q_image, .ref q_frame, .int f_hasImage, .int f_act, .int u.1, .int f_end, .int u.2.1, .int u.2.2.1, .ref q_by, .ref q_truths, .int f_slowed, .int f_risked, .int f_gapNow, .int f_giver, .ref q_known, .ref q_leapt, .int f_turnsMany, .ref q_trying, .ref q_bestOrder, .int f_leastTime, .ref q_ended, .ref q_bodies, .int f_ran, .int f_kind, .int f_number, .int f_tellsV])), (q_s, .inl (cI, 903, .inl u.2.2.2))])) (va_A [(h, .inr (12, [.int f_thrown, .ref q_s, .ref q_image, .ref q_frame, .int f_hasImage, .int f_act, .int f_spot, .int f_end, .int f_isWrong, .int f_open, .ref q_by, .ref q_truths, .int f_slowed, .int f_risked, .int f_gapNow, .int f_giver, .ref q_known, .ref q_leapt, .int f_turnsMany, .ref q_trying, .ref q_bestOrder, .int f_leastTime, .ref q_ended, .ref q_bodies, .int f_ran, .int f_kind, .int f_number, .int f_tellsV])), (q_s, .inl (cI, 903, .inl r_s))] sz)) 0 0 (va_A [(h, .inr (12, [.int f_thrown, .ref q_s, .ref q_image, .ref q_frame, .int f_hasImage, .int f_act, .int f_spot, .int f_end, .int f_isWrong, .int f_open, .ref q_by, .ref q_truths, .int f_slowed, .int f_risked, .int f_gapNow, .int f_giver, .ref q_known, .ref q_leapt, .int f_turnsMany, .ref q_trying, .ref q_bestOrder, .int f_leastTime, .ref q_ended, .ref q_bodies, .int f_ran, .int f_kind, .int f_number, .int f_tellsV])), (q_s, .inl (cI, 903, .inl r_s))] sz) := by
  refine ob_met_v (cc := cX12_clauseHere) (maxL := 1) (by decide) (Nat.le_of_ble_eq_true rfl) (fun p e s m args below meth c A Z hx hb hml hown hts hnm hN hK hA hI hP hD hS hZ ls hl => ?_)
  have hl : lv_has ls 1 [(0, .ref h)] := hl
  unfold m_X12_clauseHere at hm
  obtain ⟨H, hH⟩ : ∃ H, H = s.heap := ⟨_, rfl⟩
  obtain ⟨locs, hlo⟩ : ∃ q : List Loc, q = [] := ⟨_, rfl⟩
  suffices hgo : W p l e rmX12_clauseHere s m args below meth c H locs 0 0 Z (F0 m 0 ls []) by rw [hH, hlo] at hgo; exact hgo
  have hP : va_P D vwCl [(h, .inr (12, [.int f_thrown, .ref q_s, .ref q_image, .ref q_frame, .int f_hasImage, .int f_act, .int f_spot, .int f_end, .int f_isWrong, .int f_open, .ref q_by, .ref q_truths, .int f_slowed, .int f_risked, .int f_gapNow, .int f_giver, .ref q_known, .ref q_leapt, .int f_turnsMany, .ref q_trying, .ref q_bestOrder, .int f_leastTime, .ref q_ended, .ref q_bodies, .int f_ran, .int f_kind, .int f_number, .int f_tellsV])), (q_s, .inl (cI, 903, .inl r_s))] H := by rw [hH]; exact hP
  have hD : va_D A [(h, .inr (12, [.int f_thrown, .ref q_s, .ref q_image, .ref q_frame, .int f_hasImage, .int f_act, .int f_spot, .int f_end, .int f_isWrong, .int f_open, .ref q_by, .ref q_truths, .int f_slowed, .int f_risked, .int f_gapNow, .int f_giver, .ref q_known, .ref q_leapt, .int f_turnsMany, .ref q_trying, .ref q_bestOrder, .int f_leastTime, .ref q_ended, .ref q_bodies, .int f_ran, .int f_kind, .int f_number, .int f_tellsV])), (q_s, .inl (cI, 903, .inl r_s))] := hD
  have hS : va_S A s.heap H locs := by rw [hH, hlo]; exact hS
  refine lv_aload_n hx hb (dX12_clauseHere 0 rfl) rfl (lv_at hl 0 rfl) ?_
  have hcut := ob_cut (wc := [(h, .inr (12, [.int f_thrown, .ref q_s, .ref q_image, .ref q_frame, .int f_hasImage, .int f_act, .int f_spot, .int f_end, .int f_isWrong, .int f_open, .ref q_by, .ref q_truths, .int f_slowed, .int f_risked, .int f_gapNow, .int f_giver, .ref q_known, .ref q_leapt, .int f_turnsMany, .ref q_trying, .ref q_bestOrder, .int f_leastTime, .ref q_ended, .ref q_bodies, .int f_ran, .int f_kind, .int f_number, .int f_tellsV])), (q_s, .inl (cI, 903, .inl r_s))]) hP hD hS hA [0, 1] rfl (by decide)
  refine ob_i (wr := []) (ob_V (As := []) (rest := []) ⟨hx, hb, hml, hown, hts⟩ hK hcut (hI.cut hS hcut.2.2) hN (va_recv hK hP (ci := 12) (q0 := 0) rfl rfl) (k_X12_here l D cI cZ cL im _ _ _ _ _ _ _ _ _ _ _ _ _ _ _ _ _ _ _ _ _ _ _ _ _ _ _ _ _ _ _ _ hm) (cwV 0 hts (gU_V (inR11 _ (List.mem_of_getElem? (i := 4) rfl)) (inR11 _ (List.mem_of_getElem? (i := 5) rfl)) (inR11 _ (List.mem_of_getElem? (i := 6) rfl)) (inR1 _ (List.mem_of_getElem? (i := 5) rfl)) (inR11 _ (List.mem_of_getElem? (i := 7) rfl))) rfl rfl rfl (by decide +kernel) ⟨Nat.le_of_ble_eq_true rfl, Nat.le_of_ble_eq_true rfl⟩) rfl hl.1 rfl (Nat.le_of_ble_eq_true rfl) (dX12_clauseHere 1 rfl) ⟨Nat.zero_le _, Nat.zero_le _⟩) hP hD hS hcut [0, 1] [] rfl rfl (by decide) (by decide) (fun r1 u2 H locs hm hP hD hS => ?_)
  have hP := hP.sub (ws' := [(h, .inr (12, [.int f_thrown, .ref q_s, .ref q_image, .ref q_frame, .int f_hasImage, .int f_act, .int f_spot, .int f_end, .int f_isWrong, .int f_open, .ref q_by, .ref q_truths, .int f_slowed, .int f_risked, .int f_gapNow, .int f_giver, .ref q_known, .ref q_leapt, .int f_turnsMany, .ref q_trying, .ref q_bestOrder, .int f_leastTime, .ref q_ended, .ref q_bodies, .int f_ran, .int f_kind, .int f_number, .int f_tellsV])), (q_s, .inl (cI, 903, .inl r_s))]) [0, 1] rfl
  have hD := hD.sub (ws' := [(h, .inr (12, [.int f_thrown, .ref q_s, .ref q_image, .ref q_frame, .int f_hasImage, .int f_act, .int f_spot, .int f_end, .int f_isWrong, .int f_open, .ref q_by, .ref q_truths, .int f_slowed, .int f_risked, .int f_gapNow, .int f_giver, .ref q_known, .ref q_leapt, .int f_turnsMany, .ref q_trying, .ref q_bestOrder, .int f_leastTime, .ref q_ended, .ref q_bodies, .int f_ran, .int f_kind, .int f_number, .int f_tellsV])), (q_s, .inl (cI, 903, .inl r_s))]) [0, 1] (by decide) rfl
  by_cases c8 : r1 = (103 : Int32)
  · refine lv_lookup (off := 44) (tgt := 48) hx hb (dX12_clauseHere 2 rfl) (by decide) (by rw [c8]; rfl) (by decide) ?_
    replace hm := hm.1 c8
    refine lv_aload_n hx hb (dX12_clauseHere 3 rfl) rfl (lv_at hl 0 rfl) ?_
    refine lv_sipush (v := (188 : Int32)) hx hb (dX12_clauseHere 4 rfl) (by decide) ?_
    refine va_ldcS (own := RX12) (index := 117) (q := im.2.1 4) hx hb hown (hI.2.2.2.1 4 _ rfl) (dX12_clauseHere 5 rfl) ?_
    have hcut := ob_cut (wc := [(h, .inr (12, [.int f_thrown, .ref q_s, .ref q_image, .ref q_frame, .int f_hasImage, .int f_act, .int f_spot, .int f_end, .int f_isWrong, .int f_open, .ref q_by, .ref q_truths, .int f_slowed, .int f_risked, .int f_gapNow, .int f_giver, .ref q_known, .ref q_leapt, .int f_turnsMany, .ref q_trying, .ref q_bestOrder, .int f_leastTime, .ref q_ended, .ref q_bodies, .int f_ran, .int f_kind, .int f_number, .int f_tellsV])), (q_s, .inl (cI, 903, .inl r_s))]) hP hD hS hA [0, 1] rfl (by decide)
    refine ob_v (wr := []) (ob_V (As := [.int (188 : Int32), .ref (im.2.1 4)]) (rest := []) ⟨hx, hb, hml, hown, hts⟩ hK hcut (hI.cut hS hcut.2.2) hN (va_recv hK hP (ci := 12) (q0 := 0) rfl rfl) (k_X12_tellsHere l D cI cZ cL im _ _ _ _ _ _ _ _ _ _ _ _ _ _ _ _ _ _ _ _ _ _ _ _ _ _ _ _ _ _ _ _ _ _ hm) (cwV 2 hts (gU_V (inR11 _ (List.mem_of_getElem? (i := 8) rfl)) (inR11 _ (List.mem_of_getElem? (i := 9) rfl)) (inR11 _ (List.mem_of_getElem? (i := 10) rfl)) (inR1 _ (List.mem_of_getElem? (i := 5) rfl)) (inR11 _ (List.mem_of_getElem? (i := 11) rfl))) rfl rfl rfl (by decide +kernel) ⟨Nat.le_of_ble_eq_true rfl, Nat.le_of_ble_eq_true rfl⟩) rfl hl.1 rfl (Nat.le_of_ble_eq_true rfl) (dX12_clauseHere 6 rfl) ⟨Nat.zero_le _, Nat.zero_le _⟩) hP hD hS hcut [0, 1] [] rfl rfl (by decide) (by decide) (fun u4 H locs hm hP hD hS => ?_)
    have hP := hP.sub (ws' := [(h, .inr (12, [.int f_thrown, .ref q_s, .ref q_image, .ref q_frame, .int f_hasImage, .int f_act, .int u4.1, .int f_end, .int u4.2.1, .int f_open, .ref q_by, .ref q_truths, .int f_slowed, .int f_risked, .int f_gapNow, .int f_giver, .ref q_known, .ref q_leapt, .int f_turnsMany, .ref q_trying, .ref q_bestOrder, .int f_leastTime, .ref q_ended, .ref q_bodies, .int f_ran, .int f_kind, .int f_number, .int f_tellsV])), (q_s, .inl (cI, 903, .inl u4.2.2))]) [0, 1] rfl
    have hD := hD.sub (ws' := [(h, .inr (12, [.int f_thrown, .ref q_s, .ref q_image, .ref q_frame, .int f_hasImage, .int f_act, .int u4.1, .int f_end, .int u4.2.1, .int f_open, .ref q_by, .ref q_truths, .int f_slowed, .int f_risked, .int f_gapNow, .int f_giver, .ref q_known, .ref q_leapt, .int f_turnsMany, .ref q_trying, .ref q_bestOrder, .int f_leastTime, .ref q_ended, .ref q_bodies, .int f_ran, .int f_kind, .int f_number, .int f_tellsV])), (q_s, .inl (cI, 903, .inl u4.2.2))]) [0, 1] (by decide) rfl
    refine lv_goto (tgt := 100) hx hb (dX12_clauseHere 7 rfl) (by decide) ?_
    exact hZ (u4.1, u4.2.1, f_open, u4.2.2) H locs ls 100 hm hP hD hS (dX12_clauseHere 26 rfl)
  replace hm := hm.2
  by_cases c15 : r1 = (114 : Int32)
  · refine lv_lookup (off := 79) (tgt := 83) hx hb (dX12_clauseHere 2 rfl) (by decide) (by rw [c15]; rfl) (by decide) ?_
    replace hm := hm.1 c15
    refine lv_aload_n hx hb (dX12_clauseHere 18 rfl) rfl (lv_at hl 0 rfl) ?_
    refine lv_sipush (v := (-200 : Int32)) hx hb (dX12_clauseHere 19 rfl) (by decide) ?_
    refine va_ldcS (own := RX12) (index := 130) (q := im.2.1 7) hx hb hown (hI.2.2.2.1 7 _ rfl) (dX12_clauseHere 20 rfl) ?_
    have hcut := ob_cut (wc := [(h, .inr (12, [.int f_thrown, .ref q_s, .ref q_image, .ref q_frame, .int f_hasImage, .int f_act, .int f_spot, .int f_end, .int f_isWrong, .int f_open, .ref q_by, .ref q_truths, .int f_slowed, .int f_risked, .int f_gapNow, .int f_giver, .ref q_known, .ref q_leapt, .int f_turnsMany, .ref q_trying, .ref q_bestOrder, .int f_leastTime, .ref q_ended, .ref q_bodies, .int f_ran, .int f_kind, .int f_number, .int f_tellsV])), (q_s, .inl (cI, 903, .inl r_s))]) hP hD hS hA [0, 1] rfl (by decide)
    refine ob_v (wr := []) (ob_V (As := [.int (-200 : Int32), .ref (im.2.1 7)]) (rest := []) ⟨hx, hb, hml, hown, hts⟩ hK hcut (hI.cut hS hcut.2.2) hN (va_recv hK hP (ci := 12) (q0 := 0) rfl rfl) (k_X12_much l D cI cZ cL im _ _ _ _ _ _ _ _ _ _ _ _ _ _ _ _ _ _ _ _ _ _ _ _ _ _ _ _ _ _ _ _ _ _ hm) (cwV 2 hts (gU_V (inR12 _ (List.mem_of_getElem? (i := 2) rfl)) (inR12 _ (List.mem_of_getElem? (i := 3) rfl)) (inR12 _ (List.mem_of_getElem? (i := 4) rfl)) (inR1 _ (List.mem_of_getElem? (i := 5) rfl)) (inR12 _ (List.mem_of_getElem? (i := 5) rfl))) rfl rfl rfl (by decide +kernel) ⟨Nat.le_of_ble_eq_true rfl, Nat.le_of_ble_eq_true rfl⟩) rfl hl.1 rfl (Nat.le_of_ble_eq_true rfl) (dX12_clauseHere 21 rfl) ⟨Nat.zero_le _, Nat.zero_le _⟩) hP hD hS hcut [0, 1] [] rfl rfl (by decide) (by decide) (fun u10 H locs hm hP hD hS => ?_)
    have hP := hP.sub (ws' := [(h, .inr (12, [.int f_thrown, .ref q_s, .ref q_image, .ref q_frame, .int f_hasImage, .int f_act, .int u10.1, .int f_end, .int u10.2.1, .int u10.2.2.1, .ref q_by, .ref q_truths, .int f_slowed, .int f_risked, .int f_gapNow, .int f_giver, .ref q_known, .ref q_leapt, .int f_turnsMany, .ref q_trying, .ref q_bestOrder, .int f_leastTime, .ref q_ended, .ref q_bodies, .int f_ran, .int f_kind, .int f_number, .int f_tellsV])), (q_s, .inl (cI, 903, .inl u10.2.2.2))]) [0, 1] rfl
    have hD := hD.sub (ws' := [(h, .inr (12, [.int f_thrown, .ref q_s, .ref q_image, .ref q_frame, .int f_hasImage, .int f_act, .int u10.1, .int f_end, .int u10.2.1, .int u10.2.2.1, .ref q_by, .ref q_truths, .int f_slowed, .int f_risked, .int f_gapNow, .int f_giver, .ref q_known, .ref q_leapt, .int f_turnsMany, .ref q_trying, .ref q_bestOrder, .int f_leastTime, .ref q_ended, .ref q_bodies, .int f_ran, .int f_kind, .int f_number, .int f_tellsV])), (q_s, .inl (cI, 903, .inl u10.2.2.2))]) [0, 1] (by decide) rfl
    refine lv_goto (tgt := 100) hx hb (dX12_clauseHere 22 rfl) (by decide) ?_
    exact hZ (u10.1, u10.2.1, u10.2.2.1, u10.2.2.2) H locs ls 100 hm hP hD hS (dX12_clauseHere 26 rfl)
  replace hm := hm.2
  by_cases c22 : r1 = (115 : Int32)
  · refine lv_lookup (off := 68) (tgt := 72) hx hb (dX12_clauseHere 2 rfl) (by decide) (by rw [c22]; rfl) (by decide) ?_
    replace hm := hm.1 c22
    refine lv_aload_n hx hb (dX12_clauseHere 13 rfl) rfl (lv_at hl 0 rfl) ?_
    refine lv_bipush (v := (-10 : Int32)) hx hb (dX12_clauseHere 14 rfl) (by decide) ?_
    refine va_ldcS (own := RX12) (index := 125) (q := im.2.1 6) hx hb hown (hI.2.2.2.1 6 _ rfl) (dX12_clauseHere 15 rfl) ?_
    have hcut := ob_cut (wc := [(h, .inr (12, [.int f_thrown, .ref q_s, .ref q_image, .ref q_frame, .int f_hasImage, .int f_act, .int f_spot, .int f_end, .int f_isWrong, .int f_open, .ref q_by, .ref q_truths, .int f_slowed, .int f_risked, .int f_gapNow, .int f_giver, .ref q_known, .ref q_leapt, .int f_turnsMany, .ref q_trying, .ref q_bestOrder, .int f_leastTime, .ref q_ended, .ref q_bodies, .int f_ran, .int f_kind, .int f_number, .int f_tellsV])), (q_s, .inl (cI, 903, .inl r_s))]) hP hD hS hA [0, 1] rfl (by decide)
    refine ob_v (wr := []) (ob_V (As := [.int (-10 : Int32), .ref (im.2.1 6)]) (rest := []) ⟨hx, hb, hml, hown, hts⟩ hK hcut (hI.cut hS hcut.2.2) hN (va_recv hK hP (ci := 12) (q0 := 0) rfl rfl) (k_X12_much l D cI cZ cL im _ _ _ _ _ _ _ _ _ _ _ _ _ _ _ _ _ _ _ _ _ _ _ _ _ _ _ _ _ _ _ _ _ _ hm) (cwV 2 hts (gU_V (inR12 _ (List.mem_of_getElem? (i := 2) rfl)) (inR12 _ (List.mem_of_getElem? (i := 3) rfl)) (inR12 _ (List.mem_of_getElem? (i := 4) rfl)) (inR1 _ (List.mem_of_getElem? (i := 5) rfl)) (inR12 _ (List.mem_of_getElem? (i := 5) rfl))) rfl rfl rfl (by decide +kernel) ⟨Nat.le_of_ble_eq_true rfl, Nat.le_of_ble_eq_true rfl⟩) rfl hl.1 rfl (Nat.le_of_ble_eq_true rfl) (dX12_clauseHere 16 rfl) ⟨Nat.zero_le _, Nat.zero_le _⟩) hP hD hS hcut [0, 1] [] rfl rfl (by decide) (by decide) (fun u17 H locs hm hP hD hS => ?_)
    have hP := hP.sub (ws' := [(h, .inr (12, [.int f_thrown, .ref q_s, .ref q_image, .ref q_frame, .int f_hasImage, .int f_act, .int u17.1, .int f_end, .int u17.2.1, .int u17.2.2.1, .ref q_by, .ref q_truths, .int f_slowed, .int f_risked, .int f_gapNow, .int f_giver, .ref q_known, .ref q_leapt, .int f_turnsMany, .ref q_trying, .ref q_bestOrder, .int f_leastTime, .ref q_ended, .ref q_bodies, .int f_ran, .int f_kind, .int f_number, .int f_tellsV])), (q_s, .inl (cI, 903, .inl u17.2.2.2))]) [0, 1] rfl
    have hD := hD.sub (ws' := [(h, .inr (12, [.int f_thrown, .ref q_s, .ref q_image, .ref q_frame, .int f_hasImage, .int f_act, .int u17.1, .int f_end, .int u17.2.1, .int u17.2.2.1, .ref q_by, .ref q_truths, .int f_slowed, .int f_risked, .int f_gapNow, .int f_giver, .ref q_known, .ref q_leapt, .int f_turnsMany, .ref q_trying, .ref q_bestOrder, .int f_leastTime, .ref q_ended, .ref q_bodies, .int f_ran, .int f_kind, .int f_number, .int f_tellsV])), (q_s, .inl (cI, 903, .inl u17.2.2.2))]) [0, 1] (by decide) rfl
    refine lv_goto (tgt := 100) hx hb (dX12_clauseHere 17 rfl) (by decide) ?_
    exact hZ (u17.1, u17.2.1, u17.2.2.1, u17.2.2.2) H locs ls 100 hm hP hD hS (dX12_clauseHere 26 rfl)
  replace hm := hm.2
  by_cases c28 : r1 = (121 : Int32)
  · refine lv_lookup (off := 56) (tgt := 60) hx hb (dX12_clauseHere 2 rfl) (by decide) (by rw [c28]; rfl) (by decide) ?_
    replace hm := hm.1 c28
    refine lv_aload_n hx hb (dX12_clauseHere 8 rfl) rfl (lv_at hl 0 rfl) ?_
    refine lv_sipush (v := (193 : Int32)) hx hb (dX12_clauseHere 9 rfl) (by decide) ?_
    refine va_ldcS (own := RX12) (index := 123) (q := im.2.1 5) hx hb hown (hI.2.2.2.1 5 _ rfl) (dX12_clauseHere 10 rfl) ?_
    have hcut := ob_cut (wc := [(h, .inr (12, [.int f_thrown, .ref q_s, .ref q_image, .ref q_frame, .int f_hasImage, .int f_act, .int f_spot, .int f_end, .int f_isWrong, .int f_open, .ref q_by, .ref q_truths, .int f_slowed, .int f_risked, .int f_gapNow, .int f_giver, .ref q_known, .ref q_leapt, .int f_turnsMany, .ref q_trying, .ref q_bestOrder, .int f_leastTime, .ref q_ended, .ref q_bodies, .int f_ran, .int f_kind, .int f_number, .int f_tellsV])), (q_s, .inl (cI, 903, .inl r_s))]) hP hD hS hA [0, 1] rfl (by decide)
    refine ob_v (wr := []) (ob_V (As := [.int (193 : Int32), .ref (im.2.1 5)]) (rest := []) ⟨hx, hb, hml, hown, hts⟩ hK hcut (hI.cut hS hcut.2.2) hN (va_recv hK hP (ci := 12) (q0 := 0) rfl rfl) (k_X12_tellsHere l D cI cZ cL im _ _ _ _ _ _ _ _ _ _ _ _ _ _ _ _ _ _ _ _ _ _ _ _ _ _ _ _ _ _ _ _ _ _ hm) (cwV 2 hts (gU_V (inR11 _ (List.mem_of_getElem? (i := 8) rfl)) (inR11 _ (List.mem_of_getElem? (i := 9) rfl)) (inR11 _ (List.mem_of_getElem? (i := 10) rfl)) (inR1 _ (List.mem_of_getElem? (i := 5) rfl)) (inR11 _ (List.mem_of_getElem? (i := 11) rfl))) rfl rfl rfl (by decide +kernel) ⟨Nat.le_of_ble_eq_true rfl, Nat.le_of_ble_eq_true rfl⟩) rfl hl.1 rfl (Nat.le_of_ble_eq_true rfl) (dX12_clauseHere 11 rfl) ⟨Nat.zero_le _, Nat.zero_le _⟩) hP hD hS hcut [0, 1] [] rfl rfl (by decide) (by decide) (fun u24 H locs hm hP hD hS => ?_)
    have hP := hP.sub (ws' := [(h, .inr (12, [.int f_thrown, .ref q_s, .ref q_image, .ref q_frame, .int f_hasImage, .int f_act, .int u24.1, .int f_end, .int u24.2.1, .int f_open, .ref q_by, .ref q_truths, .int f_slowed, .int f_risked, .int f_gapNow, .int f_giver, .ref q_known, .ref q_leapt, .int f_turnsMany, .ref q_trying, .ref q_bestOrder, .int f_leastTime, .ref q_ended, .ref q_bodies, .int f_ran, .int f_kind, .int f_number, .int f_tellsV])), (q_s, .inl (cI, 903, .inl u24.2.2))]) [0, 1] rfl
    have hD := hD.sub (ws' := [(h, .inr (12, [.int f_thrown, .ref q_s, .ref q_image, .ref q_frame, .int f_hasImage, .int f_act, .int u24.1, .int f_end, .int u24.2.1, .int f_open, .ref q_by, .ref q_truths, .int f_slowed, .int f_risked, .int f_gapNow, .int f_giver, .ref q_known, .ref q_leapt, .int f_turnsMany, .ref q_trying, .ref q_bestOrder, .int f_leastTime, .ref q_ended, .ref q_bodies, .int f_ran, .int f_kind, .int f_number, .int f_tellsV])), (q_s, .inl (cI, 903, .inl u24.2.2))]) [0, 1] (by decide) rfl
    refine lv_goto (tgt := 100) hx hb (dX12_clauseHere 12 rfl) (by decide) ?_
    exact hZ (u24.1, u24.2.1, f_open, u24.2.2) H locs ls 100 hm hP hD hS (dX12_clauseHere 26 rfl)
  replace hm := hm.2
  refine lv_lookup (off := 91) (tgt := 95) hx hb (dX12_clauseHere 2 rfl) (by decide) (by simp [Op.lookupswitch.offset, ob_nes (n := 103) c8 (by decide), ob_nes (n := 114) c15 (by decide), ob_nes (n := 115) c22 (by decide), ob_nes (n := 121) c28 (by decide)]) (by decide) ?_
  replace hm := hm c8 c15 c22 c28
  refine lv_aload_n hx hb (dX12_clauseHere 23 rfl) rfl (lv_at hl 0 rfl) ?_
  refine lv_iconst (v := (1 : Int32)) hx hb (dX12_clauseHere 24 rfl) (by decide) ?_
  refine va_put (D := D) (ci := 12) (v := .int (1 : Int32)) (ty := .boolean) (C := RX12) (T := TX12) (N := 28) hx hb hts inlX12 tyX12 tyX12_ok nmX12 hown hK hP hD hS 0 rfl rfl 8 (by decide) (hts (.fieldLink RX12 63 "OverBacksModel" "isWrong" "Z") (inR10 _ (List.mem_of_getElem? (i := 22) rfl))) (fun _ h9 => h9) rfl (by decide +kernel) rfl rfl (Nat.le_of_ble_eq_true rfl) (dX12_clauseHere 25 rfl) (fun H locs hP hD hS => ?_)
  have hP : va_P D vwCl [(h, .inr (12, [.int f_thrown, .ref q_s, .ref q_image, .ref q_frame, .int f_hasImage, .int f_act, .int f_spot, .int f_end, .int (1 : Int32), .int f_open, .ref q_by, .ref q_truths, .int f_slowed, .int f_risked, .int f_gapNow, .int f_giver, .ref q_known, .ref q_leapt, .int f_turnsMany, .ref q_trying, .ref q_bestOrder, .int f_leastTime, .ref q_ended, .ref q_bodies, .int f_ran, .int f_kind, .int f_number, .int f_tellsV])), (q_s, .inl (cI, 903, .inl r_s))] H := hP
  have hD : va_D A [(h, .inr (12, [.int f_thrown, .ref q_s, .ref q_image, .ref q_frame, .int f_hasImage, .int f_act, .int f_spot, .int f_end, .int (1 : Int32), .int f_open, .ref q_by, .ref q_truths, .int f_slowed, .int f_risked, .int f_gapNow, .int f_giver, .ref q_known, .ref q_leapt, .int f_turnsMany, .ref q_trying, .ref q_bestOrder, .int f_leastTime, .ref q_ended, .ref q_bodies, .int f_ran, .int f_kind, .int f_number, .int f_tellsV])), (q_s, .inl (cI, 903, .inl r_s))] := hD
  exact hZ (f_spot, (1 : Int32), f_open, r_s) H locs ls 100 hm hP hD hS (dX12_clauseHere 26 rfl)
abbrev rmX12_field : Room := { frames := 47, cells := 0, slots := 0, locals := 1903 }
set_option maxHeartbeats 4000000 in
set_option maxRecDepth 100000 in
theorem k_X12_field (l : Launch) (D : va_G) (cI cZ cL : ClassId) (im : obIM) (sz : Nat) (h : Nat) (f_thrown : Int32) (q_s : Nat) (q_image : Nat) (q_frame : Nat) (f_hasImage : Int32) (f_act : Int32) (f_spot : Int32) (f_end : Int32) (f_isWrong : Int32) (f_open : Int32) (q_by : Nat) (q_truths : Nat) (f_slowed : Int32) (f_risked : Int32) (f_gapNow : Int32) (f_giver : Int32) (q_known : Nat) (q_leapt : Nat) (f_turnsMany : Int32) (q_trying : Nat) (q_bestOrder : Nat) (f_leastTime : Int32) (q_ended : Nat) (q_bodies : Nat) (f_ran : Int32) (f_kind : Int32) (f_number : Int32) (f_tellsV : Int32) (r_s : Nat → Int32) (Q : Int32 → Int32 → Int32 → Int32 → Int32 → Int32 → (Nat → Int32) → Prop) (hm : m_X12_field f_act f_spot f_end f_isWrong f_open r_s Q) : Met l yX12_field (Cond.code yX12_field cX12_field 2 (some .int) :: wsL_law) rmX12_field (obPre D (tyG cI cZ cL) im [(h, .inr (12, [.int f_thrown, .ref q_s, .ref q_image, .ref q_frame, .int f_hasImage, .int f_act, .int f_spot, .int f_end, .int f_isWrong, .int f_open, .ref q_by, .ref q_truths, .int f_slowed, .int f_risked, .int f_gapNow, .int f_giver, .ref q_known, .ref q_leapt, .int f_turnsMany, .ref q_trying, .ref q_bestOrder, .int f_leastTime, .ref q_ended, .ref q_bodies, .int f_ran, .int f_kind, .int f_number, .int f_tellsV])), (q_s, .inl (cI, 903, .inl r_s))] sz [.ref h]) (va_Qi (fun (r : Int32) (u : Int32 × Int32 × Int32 × Int32 × Int32 × (Nat → Int32)) => Q r u.1 u.2.1 u.2.2.1 u.2.2.2.1 u.2.2.2.2.1 u.2.2.2.2.2) (obB D (va_A [(h, .inr (12, [.int f_thrown, .ref q_s, .ref q_image, .ref q_frame, .int f_hasImage, .int f_act, .int f_spot, .int f_end, .int f_isWrong, .int f_open, .ref q_by, .ref q_truths, .int f_slowed, .int f_risked, .int f_gapNow, .int f_giver, .ref q_known, .ref q_leapt, .int f_turnsMany, .ref q_trying, .ref q_bestOrder, .int f_leastTime, .ref q_ended, .ref q_bodies, .int f_ran, .int f_kind, .int f_number, .int f_tellsV])), (q_s, .inl (cI, 903, .inl r_s))] sz) (fun u : Int32 × Int32 × Int32 × Int32 × Int32 × (Nat → Int32) => [(h, .inr (12, [.int f_thrown, .ref q_s, .ref q_image, .ref q_frame, .int f_hasImage, .int u.1, .int u.2.1, .int u.2.2.1, .int u.2.2.2.1, .int u.2.2.2.2.1, .ref q_by, .ref q_truths, .int f_slowed, .int f_risked, .int f_gapNow, .int f_giver, .ref q_known, .ref q_leapt, .int f_turnsMany, .ref q_trying, .ref q_bestOrder, .int f_leastTime, .ref q_ended, .ref q_bodies, .int f_ran, .int f_kind, .int f_number, .int f_tellsV])), (q_s, .inl (cI, 903, .inl u.2.2.2.2.2))])) (va_A [(h, .inr (12, [.int f_thrown, .ref q_s, .ref q_image, .ref q_frame, .int f_hasImage, .int f_act, .int f_spot, .int f_end, .int f_isWrong, .int f_open, .ref q_by, .ref q_truths, .int f_slowed, .int f_risked, .int f_gapNow, .int f_giver, .ref q_known, .ref q_leapt, .int f_turnsMany, .ref q_trying, .ref q_bestOrder, .int f_leastTime, .ref q_ended, .ref q_bodies, .int f_ran, .int f_kind, .int f_number, .int f_tellsV])), (q_s, .inl (cI, 903, .inl r_s))] sz)) 0 0 (va_A [(h, .inr (12, [.int f_thrown, .ref q_s, .ref q_image, .ref q_frame, .int f_hasImage, .int f_act, .int f_spot, .int f_end, .int f_isWrong, .int f_open, .ref q_by, .ref q_truths, .int f_slowed, .int f_risked, .int f_gapNow, .int f_giver, .ref q_known, .ref q_leapt, .int f_turnsMany, .ref q_trying, .ref q_bestOrder, .int f_leastTime, .ref q_ended, .ref q_bodies, .int f_ran, .int f_kind, .int f_number, .int f_tellsV])), (q_s, .inl (cI, 903, .inl r_s))] sz) := by
  refine ob_met_i (cc := cX12_field) (maxL := 2) (by decide) (Nat.le_of_ble_eq_true rfl) (fun p e s m args below meth c A Z hx hb hml hown hts hnm hN hK hA hI hP hD hS hZ ls hl => ?_)
  have hl : lv_has ls 2 [(0, .ref h)] := hl
  unfold m_X12_field at hm
  have lab150 : ∀ (f_act_150 : Int32) (f_spot_150 : Int32) (f_end_150 : Int32) (f_isWrong_150 : Int32) (f_open_150 : Int32) (r_s_150 : Nat → Int32) , ∀ (H : Heap) (locs : List Loc) (ls : Array Slot), va_P D vwCl [(h, .inr (12, [.int f_thrown, .ref q_s, .ref q_image, .ref q_frame, .int f_hasImage, .int f_act_150, .int f_spot_150, .int f_end_150, .int f_isWrong_150, .int f_open_150, .ref q_by, .ref q_truths, .int f_slowed, .int f_risked, .int f_gapNow, .int f_giver, .ref q_known, .ref q_leapt, .int f_turnsMany, .ref q_trying, .ref q_bestOrder, .int f_leastTime, .ref q_ended, .ref q_bodies, .int f_ran, .int f_kind, .int f_number, .int f_tellsV])), (q_s, .inl (cI, 903, .inl r_s_150))] H → va_D A [(h, .inr (12, [.int f_thrown, .ref q_s, .ref q_image, .ref q_frame, .int f_hasImage, .int f_act_150, .int f_spot_150, .int f_end_150, .int f_isWrong_150, .int f_open_150, .ref q_by, .ref q_truths, .int f_slowed, .int f_risked, .int f_gapNow, .int f_giver, .ref q_known, .ref q_leapt, .int f_turnsMany, .ref q_trying, .ref q_bestOrder, .int f_leastTime, .ref q_ended, .ref q_bodies, .int f_ran, .int f_kind, .int f_number, .int f_tellsV])), (q_s, .inl (cI, 903, .inl r_s_150))] → va_S A s.heap H locs → lv_has ls 2 [(0, .ref h)] → m_X12_field_L150 f_act_150 f_spot_150 f_end_150 f_isWrong_150 f_open_150 r_s_150 Q → W p l e rmX12_field s m args below meth c H locs 0 0 Z (F0 m 150 ls []) := by
    clear hm
    intro f_act_150 f_spot_150 f_end_150 f_isWrong_150 f_open_150 r_s_150 H locs ls hP hD hS hl hm
    unfold m_X12_field_L150 at hm
    refine lv_aload_n hx hb (dX12_field 82 rfl) rfl (lv_at hl 0 rfl) ?_
    refine va_get (D := D) (ci := 12) (v := .int f_isWrong_150) (C := RX12) (T := TX12) (N := 28) hx hb hts inlX12 hown hK hP 0 rfl rfl 8 (by decide) (hts (.fieldLink RX12 63 "OverBacksModel" "isWrong" "Z") (inR10 _ (List.mem_of_getElem? (i := 22) rfl))) (fun _ h9 => h9) rfl (dX12_field 83 rfl) ?_
    refine lv_if_ne (tgt := 168) hx hb (dX12_field 84 rfl) (by decide) (fun c14 => ?_) (fun c14 => ?_)
    · replace hm := hm.2 c14
      refine lv_bipush (v := (-10 : Int32)) hx hb (dX12_field 90 rfl) (by decide) ?_
      refine lv_aload_n hx hb (dX12_field 91 rfl) rfl (lv_at hl 0 rfl) ?_
      refine va_get (D := D) (ci := 12) (v := .int f_spot_150) (C := RX12) (T := TX12) (N := 28) hx hb hts inlX12 hown hK hP 0 rfl rfl 6 (by decide) (hts (.fieldLink RX12 57 "OverBacksModel" "spot" "I") (inR10 _ (List.mem_of_getElem? (i := 21) rfl))) (fun _ h9 => h9) rfl (dX12_field 92 rfl) ?_
      refine lv_isub hx hb (dX12_field 93 rfl) ?_
      exact hZ ((-10 : Int32) - f_spot_150) (f_act_150, f_spot_150, f_end_150, f_isWrong_150, f_open_150, r_s_150) H locs ls 175 hm hP hD hS (dX12_field 94 rfl) rfl
    replace hm := hm.1 c14
    refine lv_aload_n hx hb (dX12_field 85 rfl) rfl (lv_at hl 0 rfl) ?_
    refine va_get (D := D) (ci := 12) (v := .int f_spot_150) (C := RX12) (T := TX12) (N := 28) hx hb hts inlX12 hown hK hP 0 rfl rfl 6 (by decide) (hts (.fieldLink RX12 57 "OverBacksModel" "spot" "I") (inR10 _ (List.mem_of_getElem? (i := 21) rfl))) (fun _ h9 => h9) rfl (dX12_field 86 rfl) ?_
    refine lv_aload_n hx hb (dX12_field 87 rfl) rfl (lv_at hl 0 rfl) ?_
    refine va_get (D := D) (ci := 12) (v := .int f_end_150) (C := RX12) (T := TX12) (N := 28) hx hb hts inlX12 hown hK hP 0 rfl rfl 7 (by decide) (hts (.fieldLink RX12 60 "OverBacksModel" "end" "I") (inR10 _ (List.mem_of_getElem? (i := 20) rfl))) (fun _ h9 => h9) rfl (dX12_field 88 rfl) ?_
    refine lv_icmp_eq (tgt := 176) hx hb (dX12_field 89 rfl) (by decide) (fun c15 => ?_) (fun c15 => ?_)
    · replace hm := hm.1 c15
      refine lv_aload_n hx hb (dX12_field 95 rfl) rfl (lv_at hl 0 rfl) ?_
      refine va_get (D := D) (ci := 12) (v := .ref q_s) (C := RX12) (T := TX12) (N := 28) hx hb hts inlX12 hown hK hP 0 rfl rfl 1 (by decide) (hts (.fieldLink RX12 9 "OverBacksModel" "s" "[I") (inR3 _ (List.mem_of_getElem? (i := 20) rfl))) (fun _ h9 => h9) rfl (dX12_field 96 rfl) ?_
      refine lv_bipush (v := (19 : Int32)) hx hb (dX12_field 97 rfl) (by decide) ?_
      refine lv_dup2_11 hx hb (dX12_field 98 rfl) rfl rfl ?_
      refine va_iald hx hb hK hP 1 0 rfl rfl (ob_in (by decide)) (dX12_field 99 rfl) ?_
      refine lv_iconst (v := (1 : Int32)) hx hb (dX12_field 100 rfl) (by decide) ?_
      refine lv_iadd hx hb (dX12_field 101 rfl) ?_
      refine va_iast hx hb hK hP hD hS 1 0 rfl rfl (ob_in (by decide)) (dX12_field 102 rfl) (fun H locs hP hD hS => ?_)
      obtain ⟨y16, ey16⟩ : ∃ q : Nat → Int32, q = upd r_s_150 (19 : Int32).toNatClampNeg ((r_s_150 (19 : Int32).toNatClampNeg) + (1 : Int32)) := ⟨_, rfl⟩
      replace hm := hm y16 ey16
      have hP : va_P D vwCl [(h, .inr (12, [.int f_thrown, .ref q_s, .ref q_image, .ref q_frame, .int f_hasImage, .int f_act_150, .int f_spot_150, .int f_end_150, .int f_isWrong_150, .int f_open_150, .ref q_by, .ref q_truths, .int f_slowed, .int f_risked, .int f_gapNow, .int f_giver, .ref q_known, .ref q_leapt, .int f_turnsMany, .ref q_trying, .ref q_bestOrder, .int f_leastTime, .ref q_ended, .ref q_bodies, .int f_ran, .int f_kind, .int f_number, .int f_tellsV])), (q_s, .inl (cI, 903, .inl y16))] H := by rw [ey16]; exact hP
      have hD : va_D A [(h, .inr (12, [.int f_thrown, .ref q_s, .ref q_image, .ref q_frame, .int f_hasImage, .int f_act_150, .int f_spot_150, .int f_end_150, .int f_isWrong_150, .int f_open_150, .ref q_by, .ref q_truths, .int f_slowed, .int f_risked, .int f_gapNow, .int f_giver, .ref q_known, .ref q_leapt, .int f_turnsMany, .ref q_trying, .ref q_bestOrder, .int f_leastTime, .ref q_ended, .ref q_bodies, .int f_ran, .int f_kind, .int f_number, .int f_tellsV])), (q_s, .inl (cI, 903, .inl y16))] := by rw [ey16]; exact hD
      refine lv_aload_n hx hb (dX12_field 103 rfl) rfl (lv_at hl 0 rfl) ?_
      refine va_get (D := D) (ci := 12) (v := .ref q_s) (C := RX12) (T := TX12) (N := 28) hx hb hts inlX12 hown hK hP 0 rfl rfl 1 (by decide) (hts (.fieldLink RX12 9 "OverBacksModel" "s" "[I") (inR3 _ (List.mem_of_getElem? (i := 20) rfl))) (fun _ h9 => h9) rfl (dX12_field 104 rfl) ?_
      refine lv_bipush (v := (23 : Int32)) hx hb (dX12_field 105 rfl) (by decide) ?_
      refine lv_aload_n hx hb (dX12_field 106 rfl) rfl (lv_at hl 0 rfl) ?_
      refine va_get (D := D) (ci := 12) (v := .int f_act_150) (C := RX12) (T := TX12) (N := 28) hx hb hts inlX12 hown hK hP 0 rfl rfl 5 (by decide) (hts (.fieldLink RX12 84 "OverBacksModel" "act" "I") (inR10 _ (List.mem_of_getElem? (i := 19) rfl))) (fun _ h9 => h9) rfl (dX12_field 107 rfl) ?_
      refine va_iast hx hb hK hP hD hS 1 0 rfl rfl (ob_in (by decide)) (dX12_field 108 rfl) (fun H locs hP hD hS => ?_)
      obtain ⟨y17, ey17⟩ : ∃ q : Nat → Int32, q = upd y16 (23 : Int32).toNatClampNeg f_act_150 := ⟨_, rfl⟩
      replace hm := hm y17 ey17
      have hP : va_P D vwCl [(h, .inr (12, [.int f_thrown, .ref q_s, .ref q_image, .ref q_frame, .int f_hasImage, .int f_act_150, .int f_spot_150, .int f_end_150, .int f_isWrong_150, .int f_open_150, .ref q_by, .ref q_truths, .int f_slowed, .int f_risked, .int f_gapNow, .int f_giver, .ref q_known, .ref q_leapt, .int f_turnsMany, .ref q_trying, .ref q_bestOrder, .int f_leastTime, .ref q_ended, .ref q_bodies, .int f_ran, .int f_kind, .int f_number, .int f_tellsV])), (q_s, .inl (cI, 903, .inl y17))] H := by rw [ey17]; exact hP
      have hD : va_D A [(h, .inr (12, [.int f_thrown, .ref q_s, .ref q_image, .ref q_frame, .int f_hasImage, .int f_act_150, .int f_spot_150, .int f_end_150, .int f_isWrong_150, .int f_open_150, .ref q_by, .ref q_truths, .int f_slowed, .int f_risked, .int f_gapNow, .int f_giver, .ref q_known, .ref q_leapt, .int f_turnsMany, .ref q_trying, .ref q_bestOrder, .int f_leastTime, .ref q_ended, .ref q_bodies, .int f_ran, .int f_kind, .int f_number, .int f_tellsV])), (q_s, .inl (cI, 903, .inl y17))] := by rw [ey17]; exact hD
      refine lv_aload_n hx hb (dX12_field 109 rfl) rfl (lv_at hl 0 rfl) ?_
      refine va_get (D := D) (ci := 12) (v := .int f_act_150) (C := RX12) (T := TX12) (N := 28) hx hb hts inlX12 hown hK hP 0 rfl rfl 5 (by decide) (hts (.fieldLink RX12 84 "OverBacksModel" "act" "I") (inR10 _ (List.mem_of_getElem? (i := 19) rfl))) (fun _ h9 => h9) rfl (dX12_field 110 rfl) ?_
      exact hZ f_act_150 (f_act_150, f_spot_150, f_end_150, f_isWrong_150, f_open_150, y17) H locs ls 202 hm hP hD hS (dX12_field 111 rfl) rfl
    replace hm := hm.2 c15
    refine lv_bipush (v := (-10 : Int32)) hx hb (dX12_field 90 rfl) (by decide) ?_
    refine lv_aload_n hx hb (dX12_field 91 rfl) rfl (lv_at hl 0 rfl) ?_
    refine va_get (D := D) (ci := 12) (v := .int f_spot_150) (C := RX12) (T := TX12) (N := 28) hx hb hts inlX12 hown hK hP 0 rfl rfl 6 (by decide) (hts (.fieldLink RX12 57 "OverBacksModel" "spot" "I") (inR10 _ (List.mem_of_getElem? (i := 21) rfl))) (fun _ h9 => h9) rfl (dX12_field 92 rfl) ?_
    refine lv_isub hx hb (dX12_field 93 rfl) ?_
    exact hZ ((-10 : Int32) - f_spot_150) (f_act_150, f_spot_150, f_end_150, f_isWrong_150, f_open_150, r_s_150) H locs ls 175 hm hP hD hS (dX12_field 94 rfl) rfl
  have lab108 : ∀ (f_act_108 : Int32) (f_end_108 : Int32) (n108 : Nat) (f_spot_108 : Int32) (f_isWrong_108 : Int32) (f_open_108 : Int32) (r_s_108 : Nat → Int32) (v1_108 : Int32) , ∀ (H : Heap) (locs : List Loc) (ls : Array Slot), va_P D vwCl [(h, .inr (12, [.int f_thrown, .ref q_s, .ref q_image, .ref q_frame, .int f_hasImage, .int f_act_108, .int f_spot_108, .int f_end_108, .int f_isWrong_108, .int f_open_108, .ref q_by, .ref q_truths, .int f_slowed, .int f_risked, .int f_gapNow, .int f_giver, .ref q_known, .ref q_leapt, .int f_turnsMany, .ref q_trying, .ref q_bestOrder, .int f_leastTime, .ref q_ended, .ref q_bodies, .int f_ran, .int f_kind, .int f_number, .int f_tellsV])), (q_s, .inl (cI, 903, .inl r_s_108))] H → va_D A [(h, .inr (12, [.int f_thrown, .ref q_s, .ref q_image, .ref q_frame, .int f_hasImage, .int f_act_108, .int f_spot_108, .int f_end_108, .int f_isWrong_108, .int f_open_108, .ref q_by, .ref q_truths, .int f_slowed, .int f_risked, .int f_gapNow, .int f_giver, .ref q_known, .ref q_leapt, .int f_turnsMany, .ref q_trying, .ref q_bestOrder, .int f_leastTime, .ref q_ended, .ref q_bodies, .int f_ran, .int f_kind, .int f_number, .int f_tellsV])), (q_s, .inl (cI, 903, .inl r_s_108))] → va_S A s.heap H locs → lv_has ls 2 [(0, .ref h), (1, .int v1_108)] → m_X12_field_L108 f_act_108 f_end_108 Q n108 f_spot_108 f_isWrong_108 f_open_108 r_s_108 v1_108 → W p l e rmX12_field s m args below meth c H locs 0 0 Z (F0 m 108 ls []) := by
    clear hm
    intro f_act_108 f_end_108
    intro n108
    induction n108 with
    | zero =>
      intro f_spot_108 f_isWrong_108 f_open_108 r_s_108 v1_108 H locs ls hP hD hS hl hm
      exact hm.elim
    | succ n108 ih108 =>
      intro f_spot_108 f_isWrong_108 f_open_108 r_s_108 v1_108 H locs ls hP hD hS hl hm
      unfold m_X12_field_L108 at hm
      obtain ⟨K108, hK108⟩ : ∃ K : Int32 → Int32 → Int32 → (Nat → Int32) → Int32 → Prop, K = m_X12_field_L108 f_act_108 f_end_108 Q n108 := ⟨_, rfl⟩
      rw [← hK108] at hm ih108
      refine lv_aload_n hx hb (dX12_field 62 rfl) rfl (lv_at hl 0 rfl) ?_
      refine va_get (D := D) (ci := 12) (v := .int f_isWrong_108) (C := RX12) (T := TX12) (N := 28) hx hb hts inlX12 hown hK hP 0 rfl rfl 8 (by decide) (hts (.fieldLink RX12 63 "OverBacksModel" "isWrong" "Z") (inR10 _ (List.mem_of_getElem? (i := 22) rfl))) (fun _ h9 => h9) rfl (dX12_field 63 rfl) ?_
      refine lv_if_ne (tgt := 150) hx hb (dX12_field 64 rfl) (by decide) (fun c13 => ?_) (fun c13 => ?_)
      · replace hm := hm.2 c13
        exact lab150 f_act_108 f_spot_108 f_end_108 f_isWrong_108 f_open_108 r_s_108 H locs ls hP hD hS (lv_sub hl [0] rfl) hm
      replace hm := hm.1 c13
      refine lv_iload_n hx hb (dX12_field 65 rfl) rfl (lv_at hl 1 rfl) ?_
      refine lv_bipush (v := (10 : Int32)) hx hb (dX12_field 66 rfl) (by decide) ?_
      refine lv_icmp_ge (tgt := 150) hx hb (dX12_field 67 rfl) (by decide) (fun c18 => ?_) (fun c18 => ?_)
      · replace hm := hm.1 c18
        exact lab150 f_act_108 f_spot_108 f_end_108 f_isWrong_108 f_open_108 r_s_108 H locs ls hP hD hS (lv_sub hl [0] rfl) hm
      replace hm := hm.2 c18
      refine lv_aload_n hx hb (dX12_field 68 rfl) rfl (lv_at hl 0 rfl) ?_
      have hcut := ob_cut (wc := [(h, .inr (12, [.int f_thrown, .ref q_s, .ref q_image, .ref q_frame, .int f_hasImage, .int f_act_108, .int f_spot_108, .int f_end_108, .int f_isWrong_108, .int f_open_108, .ref q_by, .ref q_truths, .int f_slowed, .int f_risked, .int f_gapNow, .int f_giver, .ref q_known, .ref q_leapt, .int f_turnsMany, .ref q_trying, .ref q_bestOrder, .int f_leastTime, .ref q_ended, .ref q_bodies, .int f_ran, .int f_kind, .int f_number, .int f_tellsV])), (q_s, .inl (cI, 903, .inl r_s_108))]) hP hD hS hA [0, 1] rfl (by decide)
      refine ob_i (wr := []) (ob_V (As := []) (rest := []) ⟨hx, hb, hml, hown, hts⟩ hK hcut (hI.cut hS hcut.2.2) hN (va_recv hK hP (ci := 12) (q0 := 0) rfl rfl) (k_X12_here l D cI cZ cL im _ _ _ _ _ _ _ _ _ _ _ _ _ _ _ _ _ _ _ _ _ _ _ _ _ _ _ _ _ _ _ _ hm) (cwV 0 hts (gU_V (inR11 _ (List.mem_of_getElem? (i := 4) rfl)) (inR11 _ (List.mem_of_getElem? (i := 5) rfl)) (inR11 _ (List.mem_of_getElem? (i := 6) rfl)) (inR1 _ (List.mem_of_getElem? (i := 5) rfl)) (inR11 _ (List.mem_of_getElem? (i := 7) rfl))) rfl rfl rfl (by decide +kernel) ⟨Nat.le_of_ble_eq_true rfl, Nat.le_of_ble_eq_true rfl⟩) rfl hl.1 rfl (Nat.le_of_ble_eq_true rfl) (dX12_field 69 rfl) ⟨Nat.zero_le _, Nat.zero_le _⟩) hP hD hS hcut [0, 1] [] rfl rfl (by decide) (by decide) (fun r19 u20 H locs hm hP hD hS => ?_)
      have hP := hP.sub (ws' := [(h, .inr (12, [.int f_thrown, .ref q_s, .ref q_image, .ref q_frame, .int f_hasImage, .int f_act_108, .int f_spot_108, .int f_end_108, .int f_isWrong_108, .int f_open_108, .ref q_by, .ref q_truths, .int f_slowed, .int f_risked, .int f_gapNow, .int f_giver, .ref q_known, .ref q_leapt, .int f_turnsMany, .ref q_trying, .ref q_bestOrder, .int f_leastTime, .ref q_ended, .ref q_bodies, .int f_ran, .int f_kind, .int f_number, .int f_tellsV])), (q_s, .inl (cI, 903, .inl r_s_108))]) [0, 1] rfl
      have hD := hD.sub (ws' := [(h, .inr (12, [.int f_thrown, .ref q_s, .ref q_image, .ref q_frame, .int f_hasImage, .int f_act_108, .int f_spot_108, .int f_end_108, .int f_isWrong_108, .int f_open_108, .ref q_by, .ref q_truths, .int f_slowed, .int f_risked, .int f_gapNow, .int f_giver, .ref q_known, .ref q_leapt, .int f_turnsMany, .ref q_trying, .ref q_bestOrder, .int f_leastTime, .ref q_ended, .ref q_bodies, .int f_ran, .int f_kind, .int f_number, .int f_tellsV])), (q_s, .inl (cI, 903, .inl r_s_108))]) [0, 1] (by decide) rfl
      refine lv_bipush (v := (59 : Int32)) hx hb (dX12_field 70 rfl) (by decide) ?_
      refine lv_icmp_ne (tgt := 150) hx hb (dX12_field 71 rfl) (by decide) (fun c21 => ?_) (fun c21 => ?_)
      · replace hm := hm.2 c21
        exact lab150 f_act_108 f_spot_108 f_end_108 f_isWrong_108 f_open_108 r_s_108 H locs ls hP hD hS (lv_sub hl [0] rfl) hm
      replace hm := hm.1 c21
      refine lv_aload_n hx hb (dX12_field 72 rfl) rfl (lv_at hl 0 rfl) ?_
      refine lv_dup hx hb (dX12_field 73 rfl) rfl ?_
      refine va_get (D := D) (ci := 12) (v := .int f_spot_108) (C := RX12) (T := TX12) (N := 28) hx hb hts inlX12 hown hK hP 0 rfl rfl 6 (by decide) (hts (.fieldLink RX12 57 "OverBacksModel" "spot" "I") (inR10 _ (List.mem_of_getElem? (i := 21) rfl))) (fun _ h9 => h9) rfl (dX12_field 74 rfl) ?_
      refine lv_iconst (v := (1 : Int32)) hx hb (dX12_field 75 rfl) (by decide) ?_
      refine lv_iadd hx hb (dX12_field 76 rfl) ?_
      refine va_put (D := D) (ci := 12) (v := .int (f_spot_108 + (1 : Int32))) (ty := .int) (C := RX12) (T := TX12) (N := 28) hx hb hts inlX12 tyX12 tyX12_ok nmX12 hown hK hP hD hS 0 rfl rfl 6 (by decide) (hts (.fieldLink RX12 57 "OverBacksModel" "spot" "I") (inR10 _ (List.mem_of_getElem? (i := 21) rfl))) (fun _ h9 => h9) rfl (by decide +kernel) rfl rfl (Nat.le_of_ble_eq_true rfl) (dX12_field 77 rfl) (fun H locs hP hD hS => ?_)
      have hP : va_P D vwCl [(h, .inr (12, [.int f_thrown, .ref q_s, .ref q_image, .ref q_frame, .int f_hasImage, .int f_act_108, .int (f_spot_108 + (1 : Int32)), .int f_end_108, .int f_isWrong_108, .int f_open_108, .ref q_by, .ref q_truths, .int f_slowed, .int f_risked, .int f_gapNow, .int f_giver, .ref q_known, .ref q_leapt, .int f_turnsMany, .ref q_trying, .ref q_bestOrder, .int f_leastTime, .ref q_ended, .ref q_bodies, .int f_ran, .int f_kind, .int f_number, .int f_tellsV])), (q_s, .inl (cI, 903, .inl r_s_108))] H := hP
      have hD : va_D A [(h, .inr (12, [.int f_thrown, .ref q_s, .ref q_image, .ref q_frame, .int f_hasImage, .int f_act_108, .int (f_spot_108 + (1 : Int32)), .int f_end_108, .int f_isWrong_108, .int f_open_108, .ref q_by, .ref q_truths, .int f_slowed, .int f_risked, .int f_gapNow, .int f_giver, .ref q_known, .ref q_leapt, .int f_turnsMany, .ref q_trying, .ref q_bestOrder, .int f_leastTime, .ref q_ended, .ref q_bodies, .int f_ran, .int f_kind, .int f_number, .int f_tellsV])), (q_s, .inl (cI, 903, .inl r_s_108))] := hD
      refine lv_aload_n hx hb (dX12_field 78 rfl) rfl (lv_at hl 0 rfl) ?_
      have hcut := ob_cut (wc := [(h, .inr (12, [.int f_thrown, .ref q_s, .ref q_image, .ref q_frame, .int f_hasImage, .int f_act_108, .int (f_spot_108 + (1 : Int32)), .int f_end_108, .int f_isWrong_108, .int f_open_108, .ref q_by, .ref q_truths, .int f_slowed, .int f_risked, .int f_gapNow, .int f_giver, .ref q_known, .ref q_leapt, .int f_turnsMany, .ref q_trying, .ref q_bestOrder, .int f_leastTime, .ref q_ended, .ref q_bodies, .int f_ran, .int f_kind, .int f_number, .int f_tellsV])), (q_s, .inl (cI, 903, .inl r_s_108))]) hP hD hS hA [0, 1] rfl (by decide)
      refine ob_v (wr := []) (ob_V (As := []) (rest := []) ⟨hx, hb, hml, hown, hts⟩ hK hcut (hI.cut hS hcut.2.2) hN (va_recv hK hP (ci := 12) (q0 := 0) rfl rfl) (k_X12_clauseHere l D cI cZ cL im _ _ _ _ _ _ _ _ _ _ _ _ _ _ _ _ _ _ _ _ _ _ _ _ _ _ _ _ _ _ _ _ hm) (cwV 0 hts (gU_V (inR11 _ (List.mem_of_getElem? (i := 0) rfl)) (inR11 _ (List.mem_of_getElem? (i := 1) rfl)) (inR11 _ (List.mem_of_getElem? (i := 2) rfl)) (inR1 _ (List.mem_of_getElem? (i := 5) rfl)) (inR11 _ (List.mem_of_getElem? (i := 3) rfl))) rfl rfl rfl (by decide +kernel) ⟨Nat.le_of_ble_eq_true rfl, Nat.le_of_ble_eq_true rfl⟩) rfl hl.1 rfl (Nat.le_of_ble_eq_true rfl) (dX12_field 79 rfl) ⟨Nat.zero_le _, Nat.zero_le _⟩) hP hD hS hcut [0, 1] [] rfl rfl (by decide) (by decide) (fun u23 H locs hm hP hD hS => ?_)
      have hP := hP.sub (ws' := [(h, .inr (12, [.int f_thrown, .ref q_s, .ref q_image, .ref q_frame, .int f_hasImage, .int f_act_108, .int u23.1, .int f_end_108, .int u23.2.1, .int u23.2.2.1, .ref q_by, .ref q_truths, .int f_slowed, .int f_risked, .int f_gapNow, .int f_giver, .ref q_known, .ref q_leapt, .int f_turnsMany, .ref q_trying, .ref q_bestOrder, .int f_leastTime, .ref q_ended, .ref q_bodies, .int f_ran, .int f_kind, .int f_number, .int f_tellsV])), (q_s, .inl (cI, 903, .inl u23.2.2.2))]) [0, 1] rfl
      have hD := hD.sub (ws' := [(h, .inr (12, [.int f_thrown, .ref q_s, .ref q_image, .ref q_frame, .int f_hasImage, .int f_act_108, .int u23.1, .int f_end_108, .int u23.2.1, .int u23.2.2.1, .ref q_by, .ref q_truths, .int f_slowed, .int f_risked, .int f_gapNow, .int f_giver, .ref q_known, .ref q_leapt, .int f_turnsMany, .ref q_trying, .ref q_bestOrder, .int f_leastTime, .ref q_ended, .ref q_bodies, .int f_ran, .int f_kind, .int f_number, .int f_tellsV])), (q_s, .inl (cI, 903, .inl u23.2.2.2))]) [0, 1] (by decide) rfl
      obtain ⟨x28, ex28⟩ : ∃ y : Int32, y = v1_108 + 1 := ⟨_, rfl⟩
      replace hm := hm x28 ex28
      refine lv_iinc (v := x28) (lv' := [(1, .int x28), (0, .ref h)]) hx hb (dX12_field 80 rfl) hl (k := 1) rfl (by rw [ex28]; rfl) (by decide) rfl (fun ls hl => ?_)
      refine lv_goto (tgt := 108) hx hb (dX12_field 81 rfl) (by decide) ?_
      exact ih108 u23.1 u23.2.1 u23.2.2.1 u23.2.2.2 x28 H locs ls hP hD hS (lv_sub hl [1, 0] rfl) hm
  obtain ⟨H, hH⟩ : ∃ H, H = s.heap := ⟨_, rfl⟩
  obtain ⟨locs, hlo⟩ : ∃ q : List Loc, q = [] := ⟨_, rfl⟩
  suffices hgo : W p l e rmX12_field s m args below meth c H locs 0 0 Z (F0 m 0 ls []) by rw [hH, hlo] at hgo; exact hgo
  have hP : va_P D vwCl [(h, .inr (12, [.int f_thrown, .ref q_s, .ref q_image, .ref q_frame, .int f_hasImage, .int f_act, .int f_spot, .int f_end, .int f_isWrong, .int f_open, .ref q_by, .ref q_truths, .int f_slowed, .int f_risked, .int f_gapNow, .int f_giver, .ref q_known, .ref q_leapt, .int f_turnsMany, .ref q_trying, .ref q_bestOrder, .int f_leastTime, .ref q_ended, .ref q_bodies, .int f_ran, .int f_kind, .int f_number, .int f_tellsV])), (q_s, .inl (cI, 903, .inl r_s))] H := by rw [hH]; exact hP
  have hD : va_D A [(h, .inr (12, [.int f_thrown, .ref q_s, .ref q_image, .ref q_frame, .int f_hasImage, .int f_act, .int f_spot, .int f_end, .int f_isWrong, .int f_open, .ref q_by, .ref q_truths, .int f_slowed, .int f_risked, .int f_gapNow, .int f_giver, .ref q_known, .ref q_leapt, .int f_turnsMany, .ref q_trying, .ref q_bestOrder, .int f_leastTime, .ref q_ended, .ref q_bodies, .int f_ran, .int f_kind, .int f_number, .int f_tellsV])), (q_s, .inl (cI, 903, .inl r_s))] := hD
  have hS : va_S A s.heap H locs := by rw [hH, hlo]; exact hS
  refine lv_aload_n hx hb (dX12_field 0 rfl) rfl (lv_at hl 0 rfl) ?_
  refine va_get (D := D) (ci := 12) (v := .ref q_s) (C := RX12) (T := TX12) (N := 28) hx hb hts inlX12 hown hK hP 0 rfl rfl 1 (by decide) (hts (.fieldLink RX12 9 "OverBacksModel" "s" "[I") (inR3 _ (List.mem_of_getElem? (i := 20) rfl))) (fun _ h9 => h9) rfl (dX12_field 1 rfl) ?_
  refine lv_bipush (v := (19 : Int32)) hx hb (dX12_field 2 rfl) (by decide) ?_
  refine va_iald hx hb hK hP 1 0 rfl rfl (ob_in (by decide)) (dX12_field 3 rfl) ?_
  refine lv_iconst (v := (5 : Int32)) hx hb (dX12_field 4 rfl) (by decide) ?_
  refine lv_icmp_ne (tgt := 14) hx hb (dX12_field 5 rfl) (by decide) (fun c1 => ?_) (fun c1 => ?_)
  · replace hm := hm.2 c1
    refine lv_aload_n hx hb (dX12_field 8 rfl) rfl (lv_at hl 0 rfl) ?_
    refine lv_aload_n hx hb (dX12_field 9 rfl) rfl (lv_at hl 0 rfl) ?_
    refine va_get (D := D) (ci := 12) (v := .ref q_s) (C := RX12) (T := TX12) (N := 28) hx hb hts inlX12 hown hK hP 0 rfl rfl 1 (by decide) (hts (.fieldLink RX12 9 "OverBacksModel" "s" "[I") (inR3 _ (List.mem_of_getElem? (i := 20) rfl))) (fun _ h9 => h9) rfl (dX12_field 10 rfl) ?_
    refine lv_bipush (v := (19 : Int32)) hx hb (dX12_field 11 rfl) (by decide) ?_
    refine va_iald hx hb hK hP 1 0 rfl rfl (ob_in (by decide)) (dX12_field 12 rfl) ?_
    refine va_put (D := D) (ci := 12) (v := .int (r_s (19 : Int32).toNatClampNeg)) (ty := .int) (C := RX12) (T := TX12) (N := 28) hx hb hts inlX12 tyX12 tyX12_ok nmX12 hown hK hP hD hS 0 rfl rfl 5 (by decide) (hts (.fieldLink RX12 84 "OverBacksModel" "act" "I") (inR10 _ (List.mem_of_getElem? (i := 19) rfl))) (fun _ h9 => h9) rfl (by decide +kernel) rfl rfl (Nat.le_of_ble_eq_true rfl) (dX12_field 13 rfl) (fun H locs hP hD hS => ?_)
    have hP : va_P D vwCl [(h, .inr (12, [.int f_thrown, .ref q_s, .ref q_image, .ref q_frame, .int f_hasImage, .int (r_s (19 : Int32).toNatClampNeg), .int f_spot, .int f_end, .int f_isWrong, .int f_open, .ref q_by, .ref q_truths, .int f_slowed, .int f_risked, .int f_gapNow, .int f_giver, .ref q_known, .ref q_leapt, .int f_turnsMany, .ref q_trying, .ref q_bestOrder, .int f_leastTime, .ref q_ended, .ref q_bodies, .int f_ran, .int f_kind, .int f_number, .int f_tellsV])), (q_s, .inl (cI, 903, .inl r_s))] H := hP
    have hD : va_D A [(h, .inr (12, [.int f_thrown, .ref q_s, .ref q_image, .ref q_frame, .int f_hasImage, .int (r_s (19 : Int32).toNatClampNeg), .int f_spot, .int f_end, .int f_isWrong, .int f_open, .ref q_by, .ref q_truths, .int f_slowed, .int f_risked, .int f_gapNow, .int f_giver, .ref q_known, .ref q_leapt, .int f_turnsMany, .ref q_trying, .ref q_bestOrder, .int f_leastTime, .ref q_ended, .ref q_bodies, .int f_ran, .int f_kind, .int f_number, .int f_tellsV])), (q_s, .inl (cI, 903, .inl r_s))] := hD
    refine lv_aload_n hx hb (dX12_field 14 rfl) rfl (lv_at hl 0 rfl) ?_
    refine lv_aload_n hx hb (dX12_field 15 rfl) rfl (lv_at hl 0 rfl) ?_
    refine va_get (D := D) (ci := 12) (v := .ref q_s) (C := RX12) (T := TX12) (N := 28) hx hb hts inlX12 hown hK hP 0 rfl rfl 1 (by decide) (hts (.fieldLink RX12 9 "OverBacksModel" "s" "[I") (inR3 _ (List.mem_of_getElem? (i := 20) rfl))) (fun _ h9 => h9) rfl (dX12_field 16 rfl) ?_
    refine lv_bipush (v := (22 : Int32)) hx hb (dX12_field 17 rfl) (by decide) ?_
    refine va_iald hx hb hK hP 1 0 rfl rfl (ob_in (by decide)) (dX12_field 18 rfl) ?_
    refine va_put (D := D) (ci := 12) (v := .int (r_s (22 : Int32).toNatClampNeg)) (ty := .int) (C := RX12) (T := TX12) (N := 28) hx hb hts inlX12 tyX12 tyX12_ok nmX12 hown hK hP hD hS 0 rfl rfl 7 (by decide) (hts (.fieldLink RX12 60 "OverBacksModel" "end" "I") (inR10 _ (List.mem_of_getElem? (i := 20) rfl))) (fun _ h9 => h9) rfl (by decide +kernel) rfl rfl (Nat.le_of_ble_eq_true rfl) (dX12_field 19 rfl) (fun H locs hP hD hS => ?_)
    have hP : va_P D vwCl [(h, .inr (12, [.int f_thrown, .ref q_s, .ref q_image, .ref q_frame, .int f_hasImage, .int (r_s (19 : Int32).toNatClampNeg), .int f_spot, .int (r_s (22 : Int32).toNatClampNeg), .int f_isWrong, .int f_open, .ref q_by, .ref q_truths, .int f_slowed, .int f_risked, .int f_gapNow, .int f_giver, .ref q_known, .ref q_leapt, .int f_turnsMany, .ref q_trying, .ref q_bestOrder, .int f_leastTime, .ref q_ended, .ref q_bodies, .int f_ran, .int f_kind, .int f_number, .int f_tellsV])), (q_s, .inl (cI, 903, .inl r_s))] H := hP
    have hD : va_D A [(h, .inr (12, [.int f_thrown, .ref q_s, .ref q_image, .ref q_frame, .int f_hasImage, .int (r_s (19 : Int32).toNatClampNeg), .int f_spot, .int (r_s (22 : Int32).toNatClampNeg), .int f_isWrong, .int f_open, .ref q_by, .ref q_truths, .int f_slowed, .int f_risked, .int f_gapNow, .int f_giver, .ref q_known, .ref q_leapt, .int f_turnsMany, .ref q_trying, .ref q_bestOrder, .int f_leastTime, .ref q_ended, .ref q_bodies, .int f_ran, .int f_kind, .int f_number, .int f_tellsV])), (q_s, .inl (cI, 903, .inl r_s))] := hD
    refine lv_aload_n hx hb (dX12_field 20 rfl) rfl (lv_at hl 0 rfl) ?_
    refine va_get (D := D) (ci := 12) (v := .ref q_s) (C := RX12) (T := TX12) (N := 28) hx hb hts inlX12 hown hK hP 0 rfl rfl 1 (by decide) (hts (.fieldLink RX12 9 "OverBacksModel" "s" "[I") (inR3 _ (List.mem_of_getElem? (i := 20) rfl))) (fun _ h9 => h9) rfl (dX12_field 21 rfl) ?_
    refine lv_bipush (v := (22 : Int32)) hx hb (dX12_field 22 rfl) (by decide) ?_
    refine lv_iconst (v := (0 : Int32)) hx hb (dX12_field 23 rfl) (by decide) ?_
    refine va_iast hx hb hK hP hD hS 1 0 rfl rfl (ob_in (by decide)) (dX12_field 24 rfl) (fun H locs hP hD hS => ?_)
    obtain ⟨y2, ey2⟩ : ∃ q : Nat → Int32, q = upd r_s (22 : Int32).toNatClampNeg (0 : Int32) := ⟨_, rfl⟩
    replace hm := hm y2 ey2
    have hP : va_P D vwCl [(h, .inr (12, [.int f_thrown, .ref q_s, .ref q_image, .ref q_frame, .int f_hasImage, .int (r_s (19 : Int32).toNatClampNeg), .int f_spot, .int (r_s (22 : Int32).toNatClampNeg), .int f_isWrong, .int f_open, .ref q_by, .ref q_truths, .int f_slowed, .int f_risked, .int f_gapNow, .int f_giver, .ref q_known, .ref q_leapt, .int f_turnsMany, .ref q_trying, .ref q_bestOrder, .int f_leastTime, .ref q_ended, .ref q_bodies, .int f_ran, .int f_kind, .int f_number, .int f_tellsV])), (q_s, .inl (cI, 903, .inl y2))] H := by rw [ey2]; exact hP
    have hD : va_D A [(h, .inr (12, [.int f_thrown, .ref q_s, .ref q_image, .ref q_frame, .int f_hasImage, .int (r_s (19 : Int32).toNatClampNeg), .int f_spot, .int (r_s (22 : Int32).toNatClampNeg), .int f_isWrong, .int f_open, .ref q_by, .ref q_truths, .int f_slowed, .int f_risked, .int f_gapNow, .int f_giver, .ref q_known, .ref q_leapt, .int f_turnsMany, .ref q_trying, .ref q_bestOrder, .int f_leastTime, .ref q_ended, .ref q_bodies, .int f_ran, .int f_kind, .int f_number, .int f_tellsV])), (q_s, .inl (cI, 903, .inl y2))] := by rw [ey2]; exact hD
    refine lv_aload_n hx hb (dX12_field 25 rfl) rfl (lv_at hl 0 rfl) ?_
    refine va_get (D := D) (ci := 12) (v := .ref q_s) (C := RX12) (T := TX12) (N := 28) hx hb hts inlX12 hown hK hP 0 rfl rfl 1 (by decide) (hts (.fieldLink RX12 9 "OverBacksModel" "s" "[I") (inR3 _ (List.mem_of_getElem? (i := 20) rfl))) (fun _ h9 => h9) rfl (dX12_field 26 rfl) ?_
    refine lv_sipush (v := (188 : Int32)) hx hb (dX12_field 27 rfl) (by decide) ?_
    refine lv_aload_n hx hb (dX12_field 28 rfl) rfl (lv_at hl 0 rfl) ?_
    refine va_get (D := D) (ci := 12) (v := .int (r_s (19 : Int32).toNatClampNeg)) (C := RX12) (T := TX12) (N := 28) hx hb hts inlX12 hown hK hP 0 rfl rfl 5 (by decide) (hts (.fieldLink RX12 84 "OverBacksModel" "act" "I") (inR10 _ (List.mem_of_getElem? (i := 19) rfl))) (fun _ h9 => h9) rfl (dX12_field 29 rfl) ?_
    refine lv_iadd hx hb (dX12_field 30 rfl) ?_
    refine lv_iconst (v := (2 : Int32)) hx hb (dX12_field 31 rfl) (by decide) ?_
    refine va_iast hx hb hK hP hD hS 1 0 rfl rfl hm.1 (dX12_field 32 rfl) (fun H locs hP hD hS => ?_)
    replace hm := hm.2
    obtain ⟨y3, ey3⟩ : ∃ q : Nat → Int32, q = upd y2 ((188 : Int32) + (r_s (19 : Int32).toNatClampNeg)).toNatClampNeg (2 : Int32) := ⟨_, rfl⟩
    replace hm := hm y3 ey3
    have hP : va_P D vwCl [(h, .inr (12, [.int f_thrown, .ref q_s, .ref q_image, .ref q_frame, .int f_hasImage, .int (r_s (19 : Int32).toNatClampNeg), .int f_spot, .int (r_s (22 : Int32).toNatClampNeg), .int f_isWrong, .int f_open, .ref q_by, .ref q_truths, .int f_slowed, .int f_risked, .int f_gapNow, .int f_giver, .ref q_known, .ref q_leapt, .int f_turnsMany, .ref q_trying, .ref q_bestOrder, .int f_leastTime, .ref q_ended, .ref q_bodies, .int f_ran, .int f_kind, .int f_number, .int f_tellsV])), (q_s, .inl (cI, 903, .inl y3))] H := by rw [ey3]; exact hP
    have hD : va_D A [(h, .inr (12, [.int f_thrown, .ref q_s, .ref q_image, .ref q_frame, .int f_hasImage, .int (r_s (19 : Int32).toNatClampNeg), .int f_spot, .int (r_s (22 : Int32).toNatClampNeg), .int f_isWrong, .int f_open, .ref q_by, .ref q_truths, .int f_slowed, .int f_risked, .int f_gapNow, .int f_giver, .ref q_known, .ref q_leapt, .int f_turnsMany, .ref q_trying, .ref q_bestOrder, .int f_leastTime, .ref q_ended, .ref q_bodies, .int f_ran, .int f_kind, .int f_number, .int f_tellsV])), (q_s, .inl (cI, 903, .inl y3))] := by rw [ey3]; exact hD
    refine lv_aload_n hx hb (dX12_field 33 rfl) rfl (lv_at hl 0 rfl) ?_
    refine va_get (D := D) (ci := 12) (v := .ref q_s) (C := RX12) (T := TX12) (N := 28) hx hb hts inlX12 hown hK hP 0 rfl rfl 1 (by decide) (hts (.fieldLink RX12 9 "OverBacksModel" "s" "[I") (inR3 _ (List.mem_of_getElem? (i := 20) rfl))) (fun _ h9 => h9) rfl (dX12_field 34 rfl) ?_
    refine lv_sipush (v := (193 : Int32)) hx hb (dX12_field 35 rfl) (by decide) ?_
    refine lv_aload_n hx hb (dX12_field 36 rfl) rfl (lv_at hl 0 rfl) ?_
    refine va_get (D := D) (ci := 12) (v := .int (r_s (19 : Int32).toNatClampNeg)) (C := RX12) (T := TX12) (N := 28) hx hb hts inlX12 hown hK hP 0 rfl rfl 5 (by decide) (hts (.fieldLink RX12 84 "OverBacksModel" "act" "I") (inR10 _ (List.mem_of_getElem? (i := 19) rfl))) (fun _ h9 => h9) rfl (dX12_field 37 rfl) ?_
    refine lv_iadd hx hb (dX12_field 38 rfl) ?_
    refine lv_bipush (v := (60 : Int32)) hx hb (dX12_field 39 rfl) (by decide) ?_
    refine va_iast hx hb hK hP hD hS 1 0 rfl rfl hm.1 (dX12_field 40 rfl) (fun H locs hP hD hS => ?_)
    replace hm := hm.2
    obtain ⟨y4, ey4⟩ : ∃ q : Nat → Int32, q = upd y3 ((193 : Int32) + (r_s (19 : Int32).toNatClampNeg)).toNatClampNeg (60 : Int32) := ⟨_, rfl⟩
    replace hm := hm y4 ey4
    have hP : va_P D vwCl [(h, .inr (12, [.int f_thrown, .ref q_s, .ref q_image, .ref q_frame, .int f_hasImage, .int (r_s (19 : Int32).toNatClampNeg), .int f_spot, .int (r_s (22 : Int32).toNatClampNeg), .int f_isWrong, .int f_open, .ref q_by, .ref q_truths, .int f_slowed, .int f_risked, .int f_gapNow, .int f_giver, .ref q_known, .ref q_leapt, .int f_turnsMany, .ref q_trying, .ref q_bestOrder, .int f_leastTime, .ref q_ended, .ref q_bodies, .int f_ran, .int f_kind, .int f_number, .int f_tellsV])), (q_s, .inl (cI, 903, .inl y4))] H := by rw [ey4]; exact hP
    have hD : va_D A [(h, .inr (12, [.int f_thrown, .ref q_s, .ref q_image, .ref q_frame, .int f_hasImage, .int (r_s (19 : Int32).toNatClampNeg), .int f_spot, .int (r_s (22 : Int32).toNatClampNeg), .int f_isWrong, .int f_open, .ref q_by, .ref q_truths, .int f_slowed, .int f_risked, .int f_gapNow, .int f_giver, .ref q_known, .ref q_leapt, .int f_turnsMany, .ref q_trying, .ref q_bestOrder, .int f_leastTime, .ref q_ended, .ref q_bodies, .int f_ran, .int f_kind, .int f_number, .int f_tellsV])), (q_s, .inl (cI, 903, .inl y4))] := by rw [ey4]; exact hD
    refine lv_aload_n hx hb (dX12_field 41 rfl) rfl (lv_at hl 0 rfl) ?_
    refine va_get (D := D) (ci := 12) (v := .ref q_s) (C := RX12) (T := TX12) (N := 28) hx hb hts inlX12 hown hK hP 0 rfl rfl 1 (by decide) (hts (.fieldLink RX12 9 "OverBacksModel" "s" "[I") (inR3 _ (List.mem_of_getElem? (i := 20) rfl))) (fun _ h9 => h9) rfl (dX12_field 42 rfl) ?_
    refine lv_sipush (v := (198 : Int32)) hx hb (dX12_field 43 rfl) (by decide) ?_
    refine lv_aload_n hx hb (dX12_field 44 rfl) rfl (lv_at hl 0 rfl) ?_
    refine va_get (D := D) (ci := 12) (v := .int (r_s (19 : Int32).toNatClampNeg)) (C := RX12) (T := TX12) (N := 28) hx hb hts inlX12 hown hK hP 0 rfl rfl 5 (by decide) (hts (.fieldLink RX12 84 "OverBacksModel" "act" "I") (inR10 _ (List.mem_of_getElem? (i := 19) rfl))) (fun _ h9 => h9) rfl (dX12_field 45 rfl) ?_
    refine lv_iadd hx hb (dX12_field 46 rfl) ?_
    refine lv_iconst (v := (0 : Int32)) hx hb (dX12_field 47 rfl) (by decide) ?_
    refine va_iast hx hb hK hP hD hS 1 0 rfl rfl hm.1 (dX12_field 48 rfl) (fun H locs hP hD hS => ?_)
    replace hm := hm.2
    obtain ⟨y5, ey5⟩ : ∃ q : Nat → Int32, q = upd y4 ((198 : Int32) + (r_s (19 : Int32).toNatClampNeg)).toNatClampNeg (0 : Int32) := ⟨_, rfl⟩
    replace hm := hm y5 ey5
    have hP : va_P D vwCl [(h, .inr (12, [.int f_thrown, .ref q_s, .ref q_image, .ref q_frame, .int f_hasImage, .int (r_s (19 : Int32).toNatClampNeg), .int f_spot, .int (r_s (22 : Int32).toNatClampNeg), .int f_isWrong, .int f_open, .ref q_by, .ref q_truths, .int f_slowed, .int f_risked, .int f_gapNow, .int f_giver, .ref q_known, .ref q_leapt, .int f_turnsMany, .ref q_trying, .ref q_bestOrder, .int f_leastTime, .ref q_ended, .ref q_bodies, .int f_ran, .int f_kind, .int f_number, .int f_tellsV])), (q_s, .inl (cI, 903, .inl y5))] H := by rw [ey5]; exact hP
    have hD : va_D A [(h, .inr (12, [.int f_thrown, .ref q_s, .ref q_image, .ref q_frame, .int f_hasImage, .int (r_s (19 : Int32).toNatClampNeg), .int f_spot, .int (r_s (22 : Int32).toNatClampNeg), .int f_isWrong, .int f_open, .ref q_by, .ref q_truths, .int f_slowed, .int f_risked, .int f_gapNow, .int f_giver, .ref q_known, .ref q_leapt, .int f_turnsMany, .ref q_trying, .ref q_bestOrder, .int f_leastTime, .ref q_ended, .ref q_bodies, .int f_ran, .int f_kind, .int f_number, .int f_tellsV])), (q_s, .inl (cI, 903, .inl y5))] := by rw [ey5]; exact hD
    refine lv_aload_n hx hb (dX12_field 49 rfl) rfl (lv_at hl 0 rfl) ?_
    refine lv_iconst (v := (0 : Int32)) hx hb (dX12_field 50 rfl) (by decide) ?_
    refine va_put (D := D) (ci := 12) (v := .int (0 : Int32)) (ty := .int) (C := RX12) (T := TX12) (N := 28) hx hb hts inlX12 tyX12 tyX12_ok nmX12 hown hK hP hD hS 0 rfl rfl 6 (by decide) (hts (.fieldLink RX12 57 "OverBacksModel" "spot" "I") (inR10 _ (List.mem_of_getElem? (i := 21) rfl))) (fun _ h9 => h9) rfl (by decide +kernel) rfl rfl (Nat.le_of_ble_eq_true rfl) (dX12_field 51 rfl) (fun H locs hP hD hS => ?_)
    have hP : va_P D vwCl [(h, .inr (12, [.int f_thrown, .ref q_s, .ref q_image, .ref q_frame, .int f_hasImage, .int (r_s (19 : Int32).toNatClampNeg), .int (0 : Int32), .int (r_s (22 : Int32).toNatClampNeg), .int f_isWrong, .int f_open, .ref q_by, .ref q_truths, .int f_slowed, .int f_risked, .int f_gapNow, .int f_giver, .ref q_known, .ref q_leapt, .int f_turnsMany, .ref q_trying, .ref q_bestOrder, .int f_leastTime, .ref q_ended, .ref q_bodies, .int f_ran, .int f_kind, .int f_number, .int f_tellsV])), (q_s, .inl (cI, 903, .inl y5))] H := hP
    have hD : va_D A [(h, .inr (12, [.int f_thrown, .ref q_s, .ref q_image, .ref q_frame, .int f_hasImage, .int (r_s (19 : Int32).toNatClampNeg), .int (0 : Int32), .int (r_s (22 : Int32).toNatClampNeg), .int f_isWrong, .int f_open, .ref q_by, .ref q_truths, .int f_slowed, .int f_risked, .int f_gapNow, .int f_giver, .ref q_known, .ref q_leapt, .int f_turnsMany, .ref q_trying, .ref q_bestOrder, .int f_leastTime, .ref q_ended, .ref q_bodies, .int f_ran, .int f_kind, .int f_number, .int f_tellsV])), (q_s, .inl (cI, 903, .inl y5))] := hD
    refine lv_aload_n hx hb (dX12_field 52 rfl) rfl (lv_at hl 0 rfl) ?_
    refine lv_iconst (v := (0 : Int32)) hx hb (dX12_field 53 rfl) (by decide) ?_
    refine va_put (D := D) (ci := 12) (v := .int (0 : Int32)) (ty := .boolean) (C := RX12) (T := TX12) (N := 28) hx hb hts inlX12 tyX12 tyX12_ok nmX12 hown hK hP hD hS 0 rfl rfl 8 (by decide) (hts (.fieldLink RX12 63 "OverBacksModel" "isWrong" "Z") (inR10 _ (List.mem_of_getElem? (i := 22) rfl))) (fun _ h9 => h9) rfl (by decide +kernel) rfl rfl (Nat.le_of_ble_eq_true rfl) (dX12_field 54 rfl) (fun H locs hP hD hS => ?_)
    have hP : va_P D vwCl [(h, .inr (12, [.int f_thrown, .ref q_s, .ref q_image, .ref q_frame, .int f_hasImage, .int (r_s (19 : Int32).toNatClampNeg), .int (0 : Int32), .int (r_s (22 : Int32).toNatClampNeg), .int (0 : Int32), .int f_open, .ref q_by, .ref q_truths, .int f_slowed, .int f_risked, .int f_gapNow, .int f_giver, .ref q_known, .ref q_leapt, .int f_turnsMany, .ref q_trying, .ref q_bestOrder, .int f_leastTime, .ref q_ended, .ref q_bodies, .int f_ran, .int f_kind, .int f_number, .int f_tellsV])), (q_s, .inl (cI, 903, .inl y5))] H := hP
    have hD : va_D A [(h, .inr (12, [.int f_thrown, .ref q_s, .ref q_image, .ref q_frame, .int f_hasImage, .int (r_s (19 : Int32).toNatClampNeg), .int (0 : Int32), .int (r_s (22 : Int32).toNatClampNeg), .int (0 : Int32), .int f_open, .ref q_by, .ref q_truths, .int f_slowed, .int f_risked, .int f_gapNow, .int f_giver, .ref q_known, .ref q_leapt, .int f_turnsMany, .ref q_trying, .ref q_bestOrder, .int f_leastTime, .ref q_ended, .ref q_bodies, .int f_ran, .int f_kind, .int f_number, .int f_tellsV])), (q_s, .inl (cI, 903, .inl y5))] := hD
    refine lv_aload_n hx hb (dX12_field 55 rfl) rfl (lv_at hl 0 rfl) ?_
    refine lv_iconst (v := (0 : Int32)) hx hb (dX12_field 56 rfl) (by decide) ?_
    refine va_put (D := D) (ci := 12) (v := .int (0 : Int32)) (ty := .int) (C := RX12) (T := TX12) (N := 28) hx hb hts inlX12 tyX12 tyX12_ok nmX12 hown hK hP hD hS 0 rfl rfl 9 (by decide) (hts (.fieldLink RX12 87 "OverBacksModel" "open" "I") (inR10 _ (List.mem_of_getElem? (i := 23) rfl))) (fun _ h9 => h9) rfl (by decide +kernel) rfl rfl (Nat.le_of_ble_eq_true rfl) (dX12_field 57 rfl) (fun H locs hP hD hS => ?_)
    have hP : va_P D vwCl [(h, .inr (12, [.int f_thrown, .ref q_s, .ref q_image, .ref q_frame, .int f_hasImage, .int (r_s (19 : Int32).toNatClampNeg), .int (0 : Int32), .int (r_s (22 : Int32).toNatClampNeg), .int (0 : Int32), .int (0 : Int32), .ref q_by, .ref q_truths, .int f_slowed, .int f_risked, .int f_gapNow, .int f_giver, .ref q_known, .ref q_leapt, .int f_turnsMany, .ref q_trying, .ref q_bestOrder, .int f_leastTime, .ref q_ended, .ref q_bodies, .int f_ran, .int f_kind, .int f_number, .int f_tellsV])), (q_s, .inl (cI, 903, .inl y5))] H := hP
    have hD : va_D A [(h, .inr (12, [.int f_thrown, .ref q_s, .ref q_image, .ref q_frame, .int f_hasImage, .int (r_s (19 : Int32).toNatClampNeg), .int (0 : Int32), .int (r_s (22 : Int32).toNatClampNeg), .int (0 : Int32), .int (0 : Int32), .ref q_by, .ref q_truths, .int f_slowed, .int f_risked, .int f_gapNow, .int f_giver, .ref q_known, .ref q_leapt, .int f_turnsMany, .ref q_trying, .ref q_bestOrder, .int f_leastTime, .ref q_ended, .ref q_bodies, .int f_ran, .int f_kind, .int f_number, .int f_tellsV])), (q_s, .inl (cI, 903, .inl y5))] := hD
    refine lv_iconst (v := (1 : Int32)) hx hb (dX12_field 58 rfl) (by decide) ?_
    refine lv_topi (fun x6 ex6 => ?_)
    replace hm := hm x6 ex6
    refine lv_istore_n (lv' := [(1, .int x6), (0, .ref h)]) hx hb (dX12_field 59 rfl) rfl hl (by decide) rfl (fun ls hl => ?_)
    refine lv_aload_n hx hb (dX12_field 60 rfl) rfl (lv_at hl 1 rfl) ?_
    have hcut := ob_cut (wc := [(h, .inr (12, [.int f_thrown, .ref q_s, .ref q_image, .ref q_frame, .int f_hasImage, .int (r_s (19 : Int32).toNatClampNeg), .int (0 : Int32), .int (r_s (22 : Int32).toNatClampNeg), .int (0 : Int32), .int (0 : Int32), .ref q_by, .ref q_truths, .int f_slowed, .int f_risked, .int f_gapNow, .int f_giver, .ref q_known, .ref q_leapt, .int f_turnsMany, .ref q_trying, .ref q_bestOrder, .int f_leastTime, .ref q_ended, .ref q_bodies, .int f_ran, .int f_kind, .int f_number, .int f_tellsV])), (q_s, .inl (cI, 903, .inl y5))]) hP hD hS hA [0, 1] rfl (by decide)
    refine ob_v (wr := []) (ob_V (As := []) (rest := []) ⟨hx, hb, hml, hown, hts⟩ hK hcut (hI.cut hS hcut.2.2) hN (va_recv hK hP (ci := 12) (q0 := 0) rfl rfl) (k_X12_clauseHere l D cI cZ cL im _ _ _ _ _ _ _ _ _ _ _ _ _ _ _ _ _ _ _ _ _ _ _ _ _ _ _ _ _ _ _ _ hm) (cwV 0 hts (gU_V (inR11 _ (List.mem_of_getElem? (i := 0) rfl)) (inR11 _ (List.mem_of_getElem? (i := 1) rfl)) (inR11 _ (List.mem_of_getElem? (i := 2) rfl)) (inR1 _ (List.mem_of_getElem? (i := 5) rfl)) (inR11 _ (List.mem_of_getElem? (i := 3) rfl))) rfl rfl rfl (by decide +kernel) ⟨Nat.le_of_ble_eq_true rfl, Nat.le_of_ble_eq_true rfl⟩) rfl hl.1 rfl (Nat.le_of_ble_eq_true rfl) (dX12_field 61 rfl) ⟨Nat.zero_le _, Nat.zero_le _⟩) hP hD hS hcut [0, 1] [] rfl rfl (by decide) (by decide) (fun u8 H locs hm hP hD hS => ?_)
    have hP := hP.sub (ws' := [(h, .inr (12, [.int f_thrown, .ref q_s, .ref q_image, .ref q_frame, .int f_hasImage, .int (r_s (19 : Int32).toNatClampNeg), .int u8.1, .int (r_s (22 : Int32).toNatClampNeg), .int u8.2.1, .int u8.2.2.1, .ref q_by, .ref q_truths, .int f_slowed, .int f_risked, .int f_gapNow, .int f_giver, .ref q_known, .ref q_leapt, .int f_turnsMany, .ref q_trying, .ref q_bestOrder, .int f_leastTime, .ref q_ended, .ref q_bodies, .int f_ran, .int f_kind, .int f_number, .int f_tellsV])), (q_s, .inl (cI, 903, .inl u8.2.2.2))]) [0, 1] rfl
    have hD := hD.sub (ws' := [(h, .inr (12, [.int f_thrown, .ref q_s, .ref q_image, .ref q_frame, .int f_hasImage, .int (r_s (19 : Int32).toNatClampNeg), .int u8.1, .int (r_s (22 : Int32).toNatClampNeg), .int u8.2.1, .int u8.2.2.1, .ref q_by, .ref q_truths, .int f_slowed, .int f_risked, .int f_gapNow, .int f_giver, .ref q_known, .ref q_leapt, .int f_turnsMany, .ref q_trying, .ref q_bestOrder, .int f_leastTime, .ref q_ended, .ref q_bodies, .int f_ran, .int f_kind, .int f_number, .int f_tellsV])), (q_s, .inl (cI, 903, .inl u8.2.2.2))]) [0, 1] (by decide) rfl
    obtain ⟨n29, hm⟩ := hm
    exact lab108 (r_s (19 : Int32).toNatClampNeg) (r_s (22 : Int32).toNatClampNeg) n29 u8.1 u8.2.1 u8.2.2.1 u8.2.2.2 x6 H locs ls hP hD hS (lv_sub hl [1, 0] rfl) hm
  replace hm := hm.1 c1
  refine lv_bipush (v := (-4 : Int32)) hx hb (dX12_field 6 rfl) (by decide) ?_
  exact hZ (-4 : Int32) (f_act, f_spot, f_end, f_isWrong, f_open, r_s) H locs ls 13 hm hP hD hS (dX12_field 7 rfl) rfl
abbrev rmX12_tellsOf : Room := { frames := 0, cells := 0, slots := 0, locals := 0 }
set_option maxHeartbeats 4000000 in
set_option maxRecDepth 100000 in
theorem k_X12_tellsOf (l : Launch) (D : va_G) (cI cZ cL : ClassId) (im : obIM) (sz : Nat) (h : Nat) (f_thrown : Int32) (q_s : Nat) (q_image : Nat) (q_frame : Nat) (f_hasImage : Int32) (f_act : Int32) (f_spot : Int32) (f_end : Int32) (f_isWrong : Int32) (f_open : Int32) (q_by : Nat) (q_truths : Nat) (f_slowed : Int32) (f_risked : Int32) (f_gapNow : Int32) (f_giver : Int32) (q_known : Nat) (q_leapt : Nat) (f_turnsMany : Int32) (q_trying : Nat) (q_bestOrder : Nat) (f_leastTime : Int32) (q_ended : Nat) (q_bodies : Nat) (f_ran : Int32) (f_kind : Int32) (f_number : Int32) (f_tellsV : Int32) (r_s : Nat → Int32) (a1 : Int32) (a2 : Int32) (Q : Int32 → Prop) (hm : m_X12_tellsOf r_s a1 a2 Q) : Met l yX12_tellsOf (Cond.code yX12_tellsOf cX12_tellsOf 3 (some .int) :: wsL_law) rmX12_tellsOf (obPre D (tyG cI cZ cL) im [(h, .inr (12, [.int f_thrown, .ref q_s, .ref q_image, .ref q_frame, .int f_hasImage, .int f_act, .int f_spot, .int f_end, .int f_isWrong, .int f_open, .ref q_by, .ref q_truths, .int f_slowed, .int f_risked, .int f_gapNow, .int f_giver, .ref q_known, .ref q_leapt, .int f_turnsMany, .ref q_trying, .ref q_bestOrder, .int f_leastTime, .ref q_ended, .ref q_bodies, .int f_ran, .int f_kind, .int f_number, .int f_tellsV])), (q_s, .inl (cI, 903, .inl r_s))] sz [.ref h, .int a1, .int a2]) (va_Qi (fun (r : Int32) (u : Unit) => Q r) (obB D (va_A [(h, .inr (12, [.int f_thrown, .ref q_s, .ref q_image, .ref q_frame, .int f_hasImage, .int f_act, .int f_spot, .int f_end, .int f_isWrong, .int f_open, .ref q_by, .ref q_truths, .int f_slowed, .int f_risked, .int f_gapNow, .int f_giver, .ref q_known, .ref q_leapt, .int f_turnsMany, .ref q_trying, .ref q_bestOrder, .int f_leastTime, .ref q_ended, .ref q_bodies, .int f_ran, .int f_kind, .int f_number, .int f_tellsV])), (q_s, .inl (cI, 903, .inl r_s))] sz) (fun _ : Unit => [(h, .inr (12, [.int f_thrown, .ref q_s, .ref q_image, .ref q_frame, .int f_hasImage, .int f_act, .int f_spot, .int f_end, .int f_isWrong, .int f_open, .ref q_by, .ref q_truths, .int f_slowed, .int f_risked, .int f_gapNow, .int f_giver, .ref q_known, .ref q_leapt, .int f_turnsMany, .ref q_trying, .ref q_bestOrder, .int f_leastTime, .ref q_ended, .ref q_bodies, .int f_ran, .int f_kind, .int f_number, .int f_tellsV])), (q_s, .inl (cI, 903, .inl r_s))])) (va_A [(h, .inr (12, [.int f_thrown, .ref q_s, .ref q_image, .ref q_frame, .int f_hasImage, .int f_act, .int f_spot, .int f_end, .int f_isWrong, .int f_open, .ref q_by, .ref q_truths, .int f_slowed, .int f_risked, .int f_gapNow, .int f_giver, .ref q_known, .ref q_leapt, .int f_turnsMany, .ref q_trying, .ref q_bestOrder, .int f_leastTime, .ref q_ended, .ref q_bodies, .int f_ran, .int f_kind, .int f_number, .int f_tellsV])), (q_s, .inl (cI, 903, .inl r_s))] sz)) 0 0 (va_A [(h, .inr (12, [.int f_thrown, .ref q_s, .ref q_image, .ref q_frame, .int f_hasImage, .int f_act, .int f_spot, .int f_end, .int f_isWrong, .int f_open, .ref q_by, .ref q_truths, .int f_slowed, .int f_risked, .int f_gapNow, .int f_giver, .ref q_known, .ref q_leapt, .int f_turnsMany, .ref q_trying, .ref q_bestOrder, .int f_leastTime, .ref q_ended, .ref q_bodies, .int f_ran, .int f_kind, .int f_number, .int f_tellsV])), (q_s, .inl (cI, 903, .inl r_s))] sz) := by
  refine ob_met_i (cc := cX12_tellsOf) (maxL := 3) (by decide) (Nat.le_of_ble_eq_true rfl) (fun p e s m args below meth c A Z hx hb hml hown hts hnm hN hK hA hI hP hD hS hZ ls hl => ?_)
  have hl : lv_has ls 3 [(0, .ref h), (1, .int a1), (2, .int a2)] := hl
  unfold m_X12_tellsOf at hm
  obtain ⟨H, hH⟩ : ∃ H, H = s.heap := ⟨_, rfl⟩
  obtain ⟨locs, hlo⟩ : ∃ q : List Loc, q = [] := ⟨_, rfl⟩
  suffices hgo : W p l e rmX12_tellsOf s m args below meth c H locs 0 0 Z (F0 m 0 ls []) by rw [hH, hlo] at hgo; exact hgo
  have hP : va_P D vwCl [(h, .inr (12, [.int f_thrown, .ref q_s, .ref q_image, .ref q_frame, .int f_hasImage, .int f_act, .int f_spot, .int f_end, .int f_isWrong, .int f_open, .ref q_by, .ref q_truths, .int f_slowed, .int f_risked, .int f_gapNow, .int f_giver, .ref q_known, .ref q_leapt, .int f_turnsMany, .ref q_trying, .ref q_bestOrder, .int f_leastTime, .ref q_ended, .ref q_bodies, .int f_ran, .int f_kind, .int f_number, .int f_tellsV])), (q_s, .inl (cI, 903, .inl r_s))] H := by rw [hH]; exact hP
  have hD : va_D A [(h, .inr (12, [.int f_thrown, .ref q_s, .ref q_image, .ref q_frame, .int f_hasImage, .int f_act, .int f_spot, .int f_end, .int f_isWrong, .int f_open, .ref q_by, .ref q_truths, .int f_slowed, .int f_risked, .int f_gapNow, .int f_giver, .ref q_known, .ref q_leapt, .int f_turnsMany, .ref q_trying, .ref q_bestOrder, .int f_leastTime, .ref q_ended, .ref q_bodies, .int f_ran, .int f_kind, .int f_number, .int f_tellsV])), (q_s, .inl (cI, 903, .inl r_s))] := hD
  have hS : va_S A s.heap H locs := by rw [hH, hlo]; exact hS
  refine lv_aload_n hx hb (dX12_tellsOf 0 rfl) rfl (lv_at hl 0 rfl) ?_
  refine va_get (D := D) (ci := 12) (v := .ref q_s) (C := RX12) (T := TX12) (N := 28) hx hb hts inlX12 hown hK hP 0 rfl rfl 1 (by decide) (hts (.fieldLink RX12 9 "OverBacksModel" "s" "[I") (inR3 _ (List.mem_of_getElem? (i := 20) rfl))) (fun _ h9 => h9) rfl (dX12_tellsOf 1 rfl) ?_
  refine lv_bipush (v := (23 : Int32)) hx hb (dX12_tellsOf 2 rfl) (by decide) ?_
  refine va_iald hx hb hK hP 1 0 rfl rfl (ob_in (by decide)) (dX12_tellsOf 3 rfl) ?_
  refine lv_iconst (v := (-1 : Int32)) hx hb (dX12_tellsOf 4 rfl) (by decide) ?_
  refine lv_icmp_ne (tgt := 15) hx hb (dX12_tellsOf 5 rfl) (by decide) (fun c1 => ?_) (fun c1 => ?_)
  · replace hm := hm.2 c1
    refine lv_aload_n hx hb (dX12_tellsOf 8 rfl) rfl (lv_at hl 0 rfl) ?_
    refine va_get (D := D) (ci := 12) (v := .ref q_s) (C := RX12) (T := TX12) (N := 28) hx hb hts inlX12 hown hK hP 0 rfl rfl 1 (by decide) (hts (.fieldLink RX12 9 "OverBacksModel" "s" "[I") (inR3 _ (List.mem_of_getElem? (i := 20) rfl))) (fun _ h9 => h9) rfl (dX12_tellsOf 9 rfl) ?_
    refine lv_iload_n hx hb (dX12_tellsOf 10 rfl) rfl (lv_at hl 1 rfl) ?_
    refine lv_aload_n hx hb (dX12_tellsOf 11 rfl) rfl (lv_at hl 0 rfl) ?_
    refine va_get (D := D) (ci := 12) (v := .ref q_s) (C := RX12) (T := TX12) (N := 28) hx hb hts inlX12 hown hK hP 0 rfl rfl 1 (by decide) (hts (.fieldLink RX12 9 "OverBacksModel" "s" "[I") (inR3 _ (List.mem_of_getElem? (i := 20) rfl))) (fun _ h9 => h9) rfl (dX12_tellsOf 12 rfl) ?_
    refine lv_bipush (v := (23 : Int32)) hx hb (dX12_tellsOf 13 rfl) (by decide) ?_
    refine va_iald hx hb hK hP 1 0 rfl rfl (ob_in (by decide)) (dX12_tellsOf 14 rfl) ?_
    refine lv_iadd hx hb (dX12_tellsOf 15 rfl) ?_
    refine va_iald hx hb hK hP 1 0 rfl rfl hm.1 (dX12_tellsOf 16 rfl) ?_
    replace hm := hm.2
    exact hZ (r_s (a1 + (r_s (23 : Int32).toNatClampNeg)).toNatClampNeg) () H locs ls 29 hm hP hD hS (dX12_tellsOf 17 rfl) rfl
  replace hm := hm.1 c1
  refine lv_iload_n hx hb (dX12_tellsOf 6 rfl) rfl (lv_at hl 2 rfl) ?_
  refine lv_goto (tgt := 29) hx hb (dX12_tellsOf 7 rfl) (by decide) ?_
  exact hZ a2 () H locs ls 29 hm hP hD hS (dX12_tellsOf 17 rfl) rfl
abbrev rmX12_looks : Room := { frames := 1, cells := 0, slots := 0, locals := 22 }
set_option maxHeartbeats 4000000 in
set_option maxRecDepth 100000 in
theorem k_X12_looks (l : Launch) (D : va_G) (cI cZ cL : ClassId) (im : obIM) (sz : Nat) (h : Nat) (f_thrown : Int32) (q_s : Nat) (q_image : Nat) (q_frame : Nat) (f_hasImage : Int32) (f_act : Int32) (f_spot : Int32) (f_end : Int32) (f_isWrong : Int32) (f_open : Int32) (q_by : Nat) (q_truths : Nat) (f_slowed : Int32) (f_risked : Int32) (f_gapNow : Int32) (f_giver : Int32) (q_known : Nat) (q_leapt : Nat) (f_turnsMany : Int32) (q_trying : Nat) (q_bestOrder : Nat) (f_leastTime : Int32) (q_ended : Nat) (q_bodies : Nat) (f_ran : Int32) (f_kind : Int32) (f_number : Int32) (f_tellsV : Int32) (r_s : Nat → Int32) (r_by : Nat → Int32) (r_truths : Nat → Int32) (a1 : Int32) (a2 : Int32) (a3 : Int32) (a4 : Int32) (Q : Int32 → Int32 → (Nat → Int32) → (Nat → Int32) → Prop) (hm : m_X12_looks f_slowed f_risked r_s r_by r_truths a1 a2 a3 a4 Q) : Met l yX12_looks (Cond.code yX12_looks cX12_looks 13 none :: wsL_law) rmX12_looks (obPre D (tyG cI cZ cL) im [(h, .inr (12, [.int f_thrown, .ref q_s, .ref q_image, .ref q_frame, .int f_hasImage, .int f_act, .int f_spot, .int f_end, .int f_isWrong, .int f_open, .ref q_by, .ref q_truths, .int f_slowed, .int f_risked, .int f_gapNow, .int f_giver, .ref q_known, .ref q_leapt, .int f_turnsMany, .ref q_trying, .ref q_bestOrder, .int f_leastTime, .ref q_ended, .ref q_bodies, .int f_ran, .int f_kind, .int f_number, .int f_tellsV])), (q_s, .inl (cI, 903, .inl r_s)), (q_by, .inl (cI, 5, .inl r_by)), (q_truths, .inl (cZ, 64, .inl r_truths))] sz [.ref h, .int a1, .int a2, .int a3, .int a4]) (va_Qv (fun (u : Int32 × Int32 × (Nat → Int32) × (Nat → Int32)) => Q u.1 u.2.1 u.2.2.1 u.2.2.2) (obB D (va_A [(h, .inr (12, [.int f_thrown, .ref q_s, .ref q_image, .ref q_frame, .int f_hasImage, .int f_act, .int f_spot, .int f_end, .int f_isWrong, .int f_open, .ref q_by, .ref q_truths, .int f_slowed, .int f_risked, .int f_gapNow, .int f_giver, .ref q_known, .ref q_leapt, .int f_turnsMany, .ref q_trying, .ref q_bestOrder, .int f_leastTime, .ref q_ended, .ref q_bodies, .int f_ran, .int f_kind, .int f_number, .int f_tellsV])), (q_s, .inl (cI, 903, .inl r_s)), (q_by, .inl (cI, 5, .inl r_by)), (q_truths, .inl (cZ, 64, .inl r_truths))] sz) (fun u : Int32 × Int32 × (Nat → Int32) × (Nat → Int32) => [(h, .inr (12, [.int f_thrown, .ref q_s, .ref q_image, .ref q_frame, .int f_hasImage, .int f_act, .int f_spot, .int f_end, .int f_isWrong, .int f_open, .ref q_by, .ref q_truths, .int u.1, .int u.2.1, .int f_gapNow, .int f_giver, .ref q_known, .ref q_leapt, .int f_turnsMany, .ref q_trying, .ref q_bestOrder, .int f_leastTime, .ref q_ended, .ref q_bodies, .int f_ran, .int f_kind, .int f_number, .int f_tellsV])), (q_s, .inl (cI, 903, .inl r_s)), (q_by, .inl (cI, 5, .inl u.2.2.1)), (q_truths, .inl (cZ, 64, .inl u.2.2.2))])) (va_A [(h, .inr (12, [.int f_thrown, .ref q_s, .ref q_image, .ref q_frame, .int f_hasImage, .int f_act, .int f_spot, .int f_end, .int f_isWrong, .int f_open, .ref q_by, .ref q_truths, .int f_slowed, .int f_risked, .int f_gapNow, .int f_giver, .ref q_known, .ref q_leapt, .int f_turnsMany, .ref q_trying, .ref q_bestOrder, .int f_leastTime, .ref q_ended, .ref q_bodies, .int f_ran, .int f_kind, .int f_number, .int f_tellsV])), (q_s, .inl (cI, 903, .inl r_s)), (q_by, .inl (cI, 5, .inl r_by)), (q_truths, .inl (cZ, 64, .inl r_truths))] sz)) 0 0 (va_A [(h, .inr (12, [.int f_thrown, .ref q_s, .ref q_image, .ref q_frame, .int f_hasImage, .int f_act, .int f_spot, .int f_end, .int f_isWrong, .int f_open, .ref q_by, .ref q_truths, .int f_slowed, .int f_risked, .int f_gapNow, .int f_giver, .ref q_known, .ref q_leapt, .int f_turnsMany, .ref q_trying, .ref q_bestOrder, .int f_leastTime, .ref q_ended, .ref q_bodies, .int f_ran, .int f_kind, .int f_number, .int f_tellsV])), (q_s, .inl (cI, 903, .inl r_s)), (q_by, .inl (cI, 5, .inl r_by)), (q_truths, .inl (cZ, 64, .inl r_truths))] sz) := by
  refine ob_met_v (cc := cX12_looks) (maxL := 13) (by decide) (Nat.le_of_ble_eq_true rfl) (fun p e s m args below meth c A Z hx hb hml hown hts hnm hN hK hA hI hP hD hS hZ ls hl => ?_)
  have hl : lv_has ls 13 [(0, .ref h), (1, .int a1), (2, .int a2), (3, .int a3), (4, .int a4)] := hl
  unfold m_X12_looks at hm
  have lab426 : ∀ (f_slowed_426 : Int32) (f_risked_426 : Int32) (r_by_426 : Nat → Int32) (r_truths_426 : Nat → Int32) (w1_426 : Int32) , ∀ (H : Heap) (locs : List Loc) (ls : Array Slot), va_P D vwCl [(h, .inr (12, [.int f_thrown, .ref q_s, .ref q_image, .ref q_frame, .int f_hasImage, .int f_act, .int f_spot, .int f_end, .int f_isWrong, .int f_open, .ref q_by, .ref q_truths, .int f_slowed_426, .int f_risked_426, .int f_gapNow, .int f_giver, .ref q_known, .ref q_leapt, .int f_turnsMany, .ref q_trying, .ref q_bestOrder, .int f_leastTime, .ref q_ended, .ref q_bodies, .int f_ran, .int f_kind, .int f_number, .int f_tellsV])), (q_s, .inl (cI, 903, .inl r_s)), (q_by, .inl (cI, 5, .inl r_by_426)), (q_truths, .inl (cZ, 64, .inl r_truths_426))] H → va_D A [(h, .inr (12, [.int f_thrown, .ref q_s, .ref q_image, .ref q_frame, .int f_hasImage, .int f_act, .int f_spot, .int f_end, .int f_isWrong, .int f_open, .ref q_by, .ref q_truths, .int f_slowed_426, .int f_risked_426, .int f_gapNow, .int f_giver, .ref q_known, .ref q_leapt, .int f_turnsMany, .ref q_trying, .ref q_bestOrder, .int f_leastTime, .ref q_ended, .ref q_bodies, .int f_ran, .int f_kind, .int f_number, .int f_tellsV])), (q_s, .inl (cI, 903, .inl r_s)), (q_by, .inl (cI, 5, .inl r_by_426)), (q_truths, .inl (cZ, 64, .inl r_truths_426))] → va_S A s.heap H locs → lv_has ls 13 [] → m_X12_looks_L426 f_slowed_426 f_risked_426 r_by_426 r_truths_426 w1_426 Q → W p l e rmX12_looks s m args below meth c H locs 0 0 Z (F0 m 426 ls [.int w1_426, .ref h]) := by
    clear hm
    intro f_slowed_426 f_risked_426 r_by_426 r_truths_426 w1_426 H locs ls hP hD hS hl hm
    unfold m_X12_looks_L426 at hm
    refine va_put (D := D) (ci := 12) (v := .int w1_426) (ty := .int) (C := RX12) (T := TX12) (N := 28) hx hb hts inlX12 tyX12 tyX12_ok nmX12 hown hK hP hD hS 0 rfl rfl 13 (by decide) (hts (.fieldLink RX12 138 "OverBacksModel" "risked" "I") (inR24 _ (List.mem_of_getElem? (i := 7) rfl))) (fun _ h9 => h9) rfl (by decide +kernel) rfl rfl (Nat.le_of_ble_eq_true rfl) (dX12_looks 227 rfl) (fun H locs hP hD hS => ?_)
    have hP : va_P D vwCl [(h, .inr (12, [.int f_thrown, .ref q_s, .ref q_image, .ref q_frame, .int f_hasImage, .int f_act, .int f_spot, .int f_end, .int f_isWrong, .int f_open, .ref q_by, .ref q_truths, .int f_slowed_426, .int w1_426, .int f_gapNow, .int f_giver, .ref q_known, .ref q_leapt, .int f_turnsMany, .ref q_trying, .ref q_bestOrder, .int f_leastTime, .ref q_ended, .ref q_bodies, .int f_ran, .int f_kind, .int f_number, .int f_tellsV])), (q_s, .inl (cI, 903, .inl r_s)), (q_by, .inl (cI, 5, .inl r_by_426)), (q_truths, .inl (cZ, 64, .inl r_truths_426))] H := hP
    have hD : va_D A [(h, .inr (12, [.int f_thrown, .ref q_s, .ref q_image, .ref q_frame, .int f_hasImage, .int f_act, .int f_spot, .int f_end, .int f_isWrong, .int f_open, .ref q_by, .ref q_truths, .int f_slowed_426, .int w1_426, .int f_gapNow, .int f_giver, .ref q_known, .ref q_leapt, .int f_turnsMany, .ref q_trying, .ref q_bestOrder, .int f_leastTime, .ref q_ended, .ref q_bodies, .int f_ran, .int f_kind, .int f_number, .int f_tellsV])), (q_s, .inl (cI, 903, .inl r_s)), (q_by, .inl (cI, 5, .inl r_by_426)), (q_truths, .inl (cZ, 64, .inl r_truths_426))] := hD
    exact hZ (f_slowed_426, w1_426, r_by_426, r_truths_426) H locs ls 429 hm hP hD hS (dX12_looks 228 rfl)
  have lab88 : ∀ (r_by_88 : Nat → Int32) (v5_88 : Int32) (v6_88 : Int32) (n88 : Nat) (f_slowed_88 : Int32) (f_risked_88 : Int32) (r_truths_88 : Nat → Int32) (v7_88 : Int32) (v8_88 : Int32) , ∀ (H : Heap) (locs : List Loc) (ls : Array Slot), va_P D vwCl [(h, .inr (12, [.int f_thrown, .ref q_s, .ref q_image, .ref q_frame, .int f_hasImage, .int f_act, .int f_spot, .int f_end, .int f_isWrong, .int f_open, .ref q_by, .ref q_truths, .int f_slowed_88, .int f_risked_88, .int f_gapNow, .int f_giver, .ref q_known, .ref q_leapt, .int f_turnsMany, .ref q_trying, .ref q_bestOrder, .int f_leastTime, .ref q_ended, .ref q_bodies, .int f_ran, .int f_kind, .int f_number, .int f_tellsV])), (q_s, .inl (cI, 903, .inl r_s)), (q_by, .inl (cI, 5, .inl r_by_88)), (q_truths, .inl (cZ, 64, .inl r_truths_88))] H → va_D A [(h, .inr (12, [.int f_thrown, .ref q_s, .ref q_image, .ref q_frame, .int f_hasImage, .int f_act, .int f_spot, .int f_end, .int f_isWrong, .int f_open, .ref q_by, .ref q_truths, .int f_slowed_88, .int f_risked_88, .int f_gapNow, .int f_giver, .ref q_known, .ref q_leapt, .int f_turnsMany, .ref q_trying, .ref q_bestOrder, .int f_leastTime, .ref q_ended, .ref q_bodies, .int f_ran, .int f_kind, .int f_number, .int f_tellsV])), (q_s, .inl (cI, 903, .inl r_s)), (q_by, .inl (cI, 5, .inl r_by_88)), (q_truths, .inl (cZ, 64, .inl r_truths_88))] → va_S A s.heap H locs → lv_has ls 13 [(0, .ref h), (5, .int v5_88), (6, .int v6_88), (7, .int v7_88), (8, .int v8_88)] → m_X12_looks_L88 r_s r_by_88 v5_88 v6_88 Q n88 f_slowed_88 f_risked_88 r_truths_88 v7_88 v8_88 → W p l e rmX12_looks s m args below meth c H locs 0 0 Z (F0 m 88 ls []) := by
    clear hm
    intro r_by_88 v5_88 v6_88
    intro n88
    induction n88 with
    | zero =>
      intro f_slowed_88 f_risked_88 r_truths_88 v7_88 v8_88 H locs ls hP hD hS hl hm
      exact hm.elim
    | succ n88 ih88 =>
      intro f_slowed_88 f_risked_88 r_truths_88 v7_88 v8_88 H locs ls hP hD hS hl hm
      unfold m_X12_looks_L88 at hm
      obtain ⟨K88, hK88⟩ : ∃ K : Int32 → Int32 → (Nat → Int32) → Int32 → Int32 → Prop, K = m_X12_looks_L88 r_s r_by_88 v5_88 v6_88 Q n88 := ⟨_, rfl⟩
      rw [← hK88] at hm ih88
      have lab401 : ∀ (f_slowed_401 : Int32) (f_risked_401 : Int32) (r_truths_401 : Nat → Int32) (v7_401 : Int32) (v8_401 : Int32) , ∀ (H : Heap) (locs : List Loc) (ls : Array Slot), va_P D vwCl [(h, .inr (12, [.int f_thrown, .ref q_s, .ref q_image, .ref q_frame, .int f_hasImage, .int f_act, .int f_spot, .int f_end, .int f_isWrong, .int f_open, .ref q_by, .ref q_truths, .int f_slowed_401, .int f_risked_401, .int f_gapNow, .int f_giver, .ref q_known, .ref q_leapt, .int f_turnsMany, .ref q_trying, .ref q_bestOrder, .int f_leastTime, .ref q_ended, .ref q_bodies, .int f_ran, .int f_kind, .int f_number, .int f_tellsV])), (q_s, .inl (cI, 903, .inl r_s)), (q_by, .inl (cI, 5, .inl r_by_88)), (q_truths, .inl (cZ, 64, .inl r_truths_401))] H → va_D A [(h, .inr (12, [.int f_thrown, .ref q_s, .ref q_image, .ref q_frame, .int f_hasImage, .int f_act, .int f_spot, .int f_end, .int f_isWrong, .int f_open, .ref q_by, .ref q_truths, .int f_slowed_401, .int f_risked_401, .int f_gapNow, .int f_giver, .ref q_known, .ref q_leapt, .int f_turnsMany, .ref q_trying, .ref q_bestOrder, .int f_leastTime, .ref q_ended, .ref q_bodies, .int f_ran, .int f_kind, .int f_number, .int f_tellsV])), (q_s, .inl (cI, 903, .inl r_s)), (q_by, .inl (cI, 5, .inl r_by_88)), (q_truths, .inl (cZ, 64, .inl r_truths_401))] → va_S A s.heap H locs → lv_has ls 13 [(0, .ref h), (5, .int v5_88), (6, .int v6_88), (7, .int v7_401), (8, .int v8_401)] → m_X12_looks_L401 r_s r_by_88 v5_88 v6_88 f_slowed_401 f_risked_401 r_truths_401 v7_401 v8_401 K88 Q → W p l e rmX12_looks s m args below meth c H locs 0 0 Z (F0 m 401 ls []) := by
        clear hm
        intro f_slowed_401 f_risked_401 r_truths_401 v7_401 v8_401 H locs ls hP hD hS hl hm
        unfold m_X12_looks_L401 at hm
        obtain ⟨x20, ex20⟩ : ∃ y : Int32, y = v8_401 + 1 := ⟨_, rfl⟩
        replace hm := hm x20 ex20
        refine lv_iinc (v := x20) (lv' := [(8, .int x20), (0, .ref h), (5, .int v5_88), (6, .int v6_88), (7, .int v7_401)]) hx hb (dX12_looks 216 rfl) hl (k := 4) rfl (by rw [ex20]; rfl) (by decide) rfl (fun ls hl => ?_)
        refine lv_goto (tgt := 88) hx hb (dX12_looks 217 rfl) (by decide) ?_
        exact ih88 f_slowed_401 f_risked_401 r_truths_401 v7_401 x20 H locs ls hP hD hS (lv_sub hl [1, 2, 3, 4, 0] rfl) hm
      have lab397 : ∀ (f_slowed_397 : Int32) (f_risked_397 : Int32) (r_truths_397 : Nat → Int32) (v7_397 : Int32) (v8_397 : Int32) (w1_397 : Int32) (w2_397 : Int32) , ∀ (H : Heap) (locs : List Loc) (ls : Array Slot), va_P D vwCl [(h, .inr (12, [.int f_thrown, .ref q_s, .ref q_image, .ref q_frame, .int f_hasImage, .int f_act, .int f_spot, .int f_end, .int f_isWrong, .int f_open, .ref q_by, .ref q_truths, .int f_slowed_397, .int f_risked_397, .int f_gapNow, .int f_giver, .ref q_known, .ref q_leapt, .int f_turnsMany, .ref q_trying, .ref q_bestOrder, .int f_leastTime, .ref q_ended, .ref q_bodies, .int f_ran, .int f_kind, .int f_number, .int f_tellsV])), (q_s, .inl (cI, 903, .inl r_s)), (q_by, .inl (cI, 5, .inl r_by_88)), (q_truths, .inl (cZ, 64, .inl r_truths_397))] H → va_D A [(h, .inr (12, [.int f_thrown, .ref q_s, .ref q_image, .ref q_frame, .int f_hasImage, .int f_act, .int f_spot, .int f_end, .int f_isWrong, .int f_open, .ref q_by, .ref q_truths, .int f_slowed_397, .int f_risked_397, .int f_gapNow, .int f_giver, .ref q_known, .ref q_leapt, .int f_turnsMany, .ref q_trying, .ref q_bestOrder, .int f_leastTime, .ref q_ended, .ref q_bodies, .int f_ran, .int f_kind, .int f_number, .int f_tellsV])), (q_s, .inl (cI, 903, .inl r_s)), (q_by, .inl (cI, 5, .inl r_by_88)), (q_truths, .inl (cZ, 64, .inl r_truths_397))] → va_S A s.heap H locs → lv_has ls 13 [(0, .ref h), (5, .int v5_88), (6, .int v6_88), (7, .int v7_397), (8, .int v8_397)] → m_X12_looks_L397 r_s r_by_88 v5_88 v6_88 f_slowed_397 f_risked_397 r_truths_397 v7_397 v8_397 w1_397 w2_397 K88 Q → W p l e rmX12_looks s m args below meth c H locs 0 0 Z (F0 m 397 ls [.int w2_397, .int w1_397, .ref h]) := by
        clear hm
        intro f_slowed_397 f_risked_397 r_truths_397 v7_397 v8_397 w1_397 w2_397 H locs ls hP hD hS hl hm
        unfold m_X12_looks_L397 at hm
        refine lv_iadd hx hb (dX12_looks 214 rfl) ?_
        refine va_put (D := D) (ci := 12) (v := .int (w1_397 + w2_397)) (ty := .int) (C := RX12) (T := TX12) (N := 28) hx hb hts inlX12 tyX12 tyX12_ok nmX12 hown hK hP hD hS 0 rfl rfl 13 (by decide) (hts (.fieldLink RX12 138 "OverBacksModel" "risked" "I") (inR24 _ (List.mem_of_getElem? (i := 7) rfl))) (fun _ h9 => h9) rfl (by decide +kernel) rfl rfl (Nat.le_of_ble_eq_true rfl) (dX12_looks 215 rfl) (fun H locs hP hD hS => ?_)
        have hP : va_P D vwCl [(h, .inr (12, [.int f_thrown, .ref q_s, .ref q_image, .ref q_frame, .int f_hasImage, .int f_act, .int f_spot, .int f_end, .int f_isWrong, .int f_open, .ref q_by, .ref q_truths, .int f_slowed_397, .int (w1_397 + w2_397), .int f_gapNow, .int f_giver, .ref q_known, .ref q_leapt, .int f_turnsMany, .ref q_trying, .ref q_bestOrder, .int f_leastTime, .ref q_ended, .ref q_bodies, .int f_ran, .int f_kind, .int f_number, .int f_tellsV])), (q_s, .inl (cI, 903, .inl r_s)), (q_by, .inl (cI, 5, .inl r_by_88)), (q_truths, .inl (cZ, 64, .inl r_truths_397))] H := hP
        have hD : va_D A [(h, .inr (12, [.int f_thrown, .ref q_s, .ref q_image, .ref q_frame, .int f_hasImage, .int f_act, .int f_spot, .int f_end, .int f_isWrong, .int f_open, .ref q_by, .ref q_truths, .int f_slowed_397, .int (w1_397 + w2_397), .int f_gapNow, .int f_giver, .ref q_known, .ref q_leapt, .int f_turnsMany, .ref q_trying, .ref q_bestOrder, .int f_leastTime, .ref q_ended, .ref q_bodies, .int f_ran, .int f_kind, .int f_number, .int f_tellsV])), (q_s, .inl (cI, 903, .inl r_s)), (q_by, .inl (cI, 5, .inl r_by_88)), (q_truths, .inl (cZ, 64, .inl r_truths_397))] := hD
        exact lab401 f_slowed_397 (w1_397 + w2_397) r_truths_397 v7_397 v8_397 H locs ls hP hD hS (lv_sub hl [0, 1, 2, 3, 4] rfl) hm
      have lab396 : ∀ (f_slowed_396 : Int32) (f_risked_396 : Int32) (r_truths_396 : Nat → Int32) (v7_396 : Int32) (v8_396 : Int32) (w1_396 : Int32) , ∀ (H : Heap) (locs : List Loc) (ls : Array Slot), va_P D vwCl [(h, .inr (12, [.int f_thrown, .ref q_s, .ref q_image, .ref q_frame, .int f_hasImage, .int f_act, .int f_spot, .int f_end, .int f_isWrong, .int f_open, .ref q_by, .ref q_truths, .int f_slowed_396, .int f_risked_396, .int f_gapNow, .int f_giver, .ref q_known, .ref q_leapt, .int f_turnsMany, .ref q_trying, .ref q_bestOrder, .int f_leastTime, .ref q_ended, .ref q_bodies, .int f_ran, .int f_kind, .int f_number, .int f_tellsV])), (q_s, .inl (cI, 903, .inl r_s)), (q_by, .inl (cI, 5, .inl r_by_88)), (q_truths, .inl (cZ, 64, .inl r_truths_396))] H → va_D A [(h, .inr (12, [.int f_thrown, .ref q_s, .ref q_image, .ref q_frame, .int f_hasImage, .int f_act, .int f_spot, .int f_end, .int f_isWrong, .int f_open, .ref q_by, .ref q_truths, .int f_slowed_396, .int f_risked_396, .int f_gapNow, .int f_giver, .ref q_known, .ref q_leapt, .int f_turnsMany, .ref q_trying, .ref q_bestOrder, .int f_leastTime, .ref q_ended, .ref q_bodies, .int f_ran, .int f_kind, .int f_number, .int f_tellsV])), (q_s, .inl (cI, 903, .inl r_s)), (q_by, .inl (cI, 5, .inl r_by_88)), (q_truths, .inl (cZ, 64, .inl r_truths_396))] → va_S A s.heap H locs → lv_has ls 13 [(0, .ref h), (5, .int v5_88), (6, .int v6_88), (7, .int v7_396), (8, .int v8_396)] → m_X12_looks_L396 r_s r_by_88 v5_88 v6_88 f_slowed_396 f_risked_396 r_truths_396 v7_396 v8_396 w1_396 K88 Q → W p l e rmX12_looks s m args below meth c H locs 0 0 Z (F0 m 396 ls [.int w1_396, .ref h]) := by
        clear hm
        intro f_slowed_396 f_risked_396 r_truths_396 v7_396 v8_396 w1_396 H locs ls hP hD hS hl hm
        unfold m_X12_looks_L396 at hm
        refine lv_iconst (v := (0 : Int32)) hx hb (dX12_looks 213 rfl) (by decide) ?_
        exact lab397 f_slowed_396 f_risked_396 r_truths_396 v7_396 v8_396 w1_396 (0 : Int32) H locs ls hP hD hS (lv_sub hl [0, 1, 2, 3, 4] rfl) hm
      have lab365 : ∀ (f_slowed_365 : Int32) (f_risked_365 : Int32) (r_truths_365 : Nat → Int32) (v7_365 : Int32) (v8_365 : Int32) (v9_365 : Int32) (v10_365 : Int32) (w1_365 : Int32) (w2_365 : Int32) , ∀ (H : Heap) (locs : List Loc) (ls : Array Slot), va_P D vwCl [(h, .inr (12, [.int f_thrown, .ref q_s, .ref q_image, .ref q_frame, .int f_hasImage, .int f_act, .int f_spot, .int f_end, .int f_isWrong, .int f_open, .ref q_by, .ref q_truths, .int f_slowed_365, .int f_risked_365, .int f_gapNow, .int f_giver, .ref q_known, .ref q_leapt, .int f_turnsMany, .ref q_trying, .ref q_bestOrder, .int f_leastTime, .ref q_ended, .ref q_bodies, .int f_ran, .int f_kind, .int f_number, .int f_tellsV])), (q_s, .inl (cI, 903, .inl r_s)), (q_by, .inl (cI, 5, .inl r_by_88)), (q_truths, .inl (cZ, 64, .inl r_truths_365))] H → va_D A [(h, .inr (12, [.int f_thrown, .ref q_s, .ref q_image, .ref q_frame, .int f_hasImage, .int f_act, .int f_spot, .int f_end, .int f_isWrong, .int f_open, .ref q_by, .ref q_truths, .int f_slowed_365, .int f_risked_365, .int f_gapNow, .int f_giver, .ref q_known, .ref q_leapt, .int f_turnsMany, .ref q_trying, .ref q_bestOrder, .int f_leastTime, .ref q_ended, .ref q_bodies, .int f_ran, .int f_kind, .int f_number, .int f_tellsV])), (q_s, .inl (cI, 903, .inl r_s)), (q_by, .inl (cI, 5, .inl r_by_88)), (q_truths, .inl (cZ, 64, .inl r_truths_365))] → va_S A s.heap H locs → lv_has ls 13 [(0, .ref h), (5, .int v5_88), (6, .int v6_88), (7, .int v7_365), (8, .int v8_365), (9, .int v9_365), (10, .int v10_365)] → m_X12_looks_L365 r_s r_by_88 v5_88 v6_88 f_slowed_365 f_risked_365 r_truths_365 v7_365 v8_365 v9_365 v10_365 w1_365 w2_365 K88 Q → W p l e rmX12_looks s m args below meth c H locs 0 0 Z (F0 m 365 ls [.int w2_365, .int w1_365, .ref h]) := by
        clear hm
        intro f_slowed_365 f_risked_365 r_truths_365 v7_365 v8_365 v9_365 v10_365 w1_365 w2_365 H locs ls hP hD hS hl hm
        unfold m_X12_looks_L365 at hm
        refine lv_iadd hx hb (dX12_looks 199 rfl) ?_
        refine va_put (D := D) (ci := 12) (v := .int (w1_365 + w2_365)) (ty := .int) (C := RX12) (T := TX12) (N := 28) hx hb hts inlX12 tyX12 tyX12_ok nmX12 hown hK hP hD hS 0 rfl rfl 12 (by decide) (hts (.fieldLink RX12 135 "OverBacksModel" "slowed" "I") (inR24 _ (List.mem_of_getElem? (i := 12) rfl))) (fun _ h9 => h9) rfl (by decide +kernel) rfl rfl (Nat.le_of_ble_eq_true rfl) (dX12_looks 200 rfl) (fun H locs hP hD hS => ?_)
        have hP : va_P D vwCl [(h, .inr (12, [.int f_thrown, .ref q_s, .ref q_image, .ref q_frame, .int f_hasImage, .int f_act, .int f_spot, .int f_end, .int f_isWrong, .int f_open, .ref q_by, .ref q_truths, .int (w1_365 + w2_365), .int f_risked_365, .int f_gapNow, .int f_giver, .ref q_known, .ref q_leapt, .int f_turnsMany, .ref q_trying, .ref q_bestOrder, .int f_leastTime, .ref q_ended, .ref q_bodies, .int f_ran, .int f_kind, .int f_number, .int f_tellsV])), (q_s, .inl (cI, 903, .inl r_s)), (q_by, .inl (cI, 5, .inl r_by_88)), (q_truths, .inl (cZ, 64, .inl r_truths_365))] H := hP
        have hD : va_D A [(h, .inr (12, [.int f_thrown, .ref q_s, .ref q_image, .ref q_frame, .int f_hasImage, .int f_act, .int f_spot, .int f_end, .int f_isWrong, .int f_open, .ref q_by, .ref q_truths, .int (w1_365 + w2_365), .int f_risked_365, .int f_gapNow, .int f_giver, .ref q_known, .ref q_leapt, .int f_turnsMany, .ref q_trying, .ref q_bestOrder, .int f_leastTime, .ref q_ended, .ref q_bodies, .int f_ran, .int f_kind, .int f_number, .int f_tellsV])), (q_s, .inl (cI, 903, .inl r_s)), (q_by, .inl (cI, 5, .inl r_by_88)), (q_truths, .inl (cZ, 64, .inl r_truths_365))] := hD
        refine lv_aload_n hx hb (dX12_looks 201 rfl) rfl (lv_at hl 0 rfl) ?_
        refine lv_dup hx hb (dX12_looks 202 rfl) rfl ?_
        refine va_get (D := D) (ci := 12) (v := .int f_risked_365) (C := RX12) (T := TX12) (N := 28) hx hb hts inlX12 hown hK hP 0 rfl rfl 13 (by decide) (hts (.fieldLink RX12 138 "OverBacksModel" "risked" "I") (inR24 _ (List.mem_of_getElem? (i := 7) rfl))) (fun _ h9 => h9) rfl (dX12_looks 203 rfl) ?_
        refine lv_iload hx hb (dX12_looks 204 rfl) (lv_at hl 6 rfl) ?_
        refine lv_if_eq (tgt := 396) hx hb (dX12_looks 205 rfl) (by decide) (fun c19 => ?_) (fun c19 => ?_)
        · replace hm := hm.1 c19
          exact lab396 (w1_365 + w2_365) f_risked_365 r_truths_365 v7_365 v8_365 f_risked_365 H locs ls hP hD hS (lv_sub hl [0, 1, 2, 3, 4] rfl) hm
        replace hm := hm.2 c19
        refine lv_iload hx hb (dX12_looks 206 rfl) (lv_at hl 5 rfl) ?_
        refine lv_sipush (v := (-200 : Int32)) hx hb (dX12_looks 207 rfl) (by decide) ?_
        refine lv_icmp_gt (tgt := 396) hx hb (dX12_looks 208 rfl) (by decide) (fun c21 => ?_) (fun c21 => ?_)
        · replace hm := hm.1 c21
          exact lab396 (w1_365 + w2_365) f_risked_365 r_truths_365 v7_365 v8_365 f_risked_365 H locs ls hP hD hS (lv_sub hl [0, 1, 2, 3, 4] rfl) hm
        replace hm := hm.2 c21
        refine lv_sipush (v := (-200 : Int32)) hx hb (dX12_looks 209 rfl) (by decide) ?_
        refine lv_iload hx hb (dX12_looks 210 rfl) (lv_at hl 5 rfl) ?_
        refine lv_isub hx hb (dX12_looks 211 rfl) ?_
        refine lv_goto (tgt := 397) hx hb (dX12_looks 212 rfl) (by decide) ?_
        exact lab397 (w1_365 + w2_365) f_risked_365 r_truths_365 v7_365 v8_365 f_risked_365 ((-200 : Int32) - v9_365) H locs ls hP hD hS (lv_sub hl [0, 1, 2, 3, 4] rfl) hm
      have lab364 : ∀ (f_slowed_364 : Int32) (f_risked_364 : Int32) (r_truths_364 : Nat → Int32) (v7_364 : Int32) (v8_364 : Int32) (v9_364 : Int32) (v10_364 : Int32) (w1_364 : Int32) , ∀ (H : Heap) (locs : List Loc) (ls : Array Slot), va_P D vwCl [(h, .inr (12, [.int f_thrown, .ref q_s, .ref q_image, .ref q_frame, .int f_hasImage, .int f_act, .int f_spot, .int f_end, .int f_isWrong, .int f_open, .ref q_by, .ref q_truths, .int f_slowed_364, .int f_risked_364, .int f_gapNow, .int f_giver, .ref q_known, .ref q_leapt, .int f_turnsMany, .ref q_trying, .ref q_bestOrder, .int f_leastTime, .ref q_ended, .ref q_bodies, .int f_ran, .int f_kind, .int f_number, .int f_tellsV])), (q_s, .inl (cI, 903, .inl r_s)), (q_by, .inl (cI, 5, .inl r_by_88)), (q_truths, .inl (cZ, 64, .inl r_truths_364))] H → va_D A [(h, .inr (12, [.int f_thrown, .ref q_s, .ref q_image, .ref q_frame, .int f_hasImage, .int f_act, .int f_spot, .int f_end, .int f_isWrong, .int f_open, .ref q_by, .ref q_truths, .int f_slowed_364, .int f_risked_364, .int f_gapNow, .int f_giver, .ref q_known, .ref q_leapt, .int f_turnsMany, .ref q_trying, .ref q_bestOrder, .int f_leastTime, .ref q_ended, .ref q_bodies, .int f_ran, .int f_kind, .int f_number, .int f_tellsV])), (q_s, .inl (cI, 903, .inl r_s)), (q_by, .inl (cI, 5, .inl r_by_88)), (q_truths, .inl (cZ, 64, .inl r_truths_364))] → va_S A s.heap H locs → lv_has ls 13 [(0, .ref h), (5, .int v5_88), (6, .int v6_88), (7, .int v7_364), (8, .int v8_364), (9, .int v9_364), (10, .int v10_364)] → m_X12_looks_L364 r_s r_by_88 v5_88 v6_88 f_slowed_364 f_risked_364 r_truths_364 v7_364 v8_364 v9_364 v10_364 w1_364 K88 Q → W p l e rmX12_looks s m args below meth c H locs 0 0 Z (F0 m 364 ls [.int w1_364, .ref h]) := by
        clear hm
        intro f_slowed_364 f_risked_364 r_truths_364 v7_364 v8_364 v9_364 v10_364 w1_364 H locs ls hP hD hS hl hm
        unfold m_X12_looks_L364 at hm
        refine lv_iconst (v := (0 : Int32)) hx hb (dX12_looks 198 rfl) (by decide) ?_
        exact lab365 f_slowed_364 f_risked_364 r_truths_364 v7_364 v8_364 v9_364 v10_364 w1_364 (0 : Int32) H locs ls hP hD hS (lv_sub hl [0, 1, 2, 3, 4, 5, 6] rfl) hm
      have lab323 : ∀ (f_slowed_323 : Int32) (f_risked_323 : Int32) (r_truths_323 : Nat → Int32) (v7_323 : Int32) (v8_323 : Int32) (w1_323 : Int32) (w2_323 : Int32) , ∀ (H : Heap) (locs : List Loc) (ls : Array Slot), va_P D vwCl [(h, .inr (12, [.int f_thrown, .ref q_s, .ref q_image, .ref q_frame, .int f_hasImage, .int f_act, .int f_spot, .int f_end, .int f_isWrong, .int f_open, .ref q_by, .ref q_truths, .int f_slowed_323, .int f_risked_323, .int f_gapNow, .int f_giver, .ref q_known, .ref q_leapt, .int f_turnsMany, .ref q_trying, .ref q_bestOrder, .int f_leastTime, .ref q_ended, .ref q_bodies, .int f_ran, .int f_kind, .int f_number, .int f_tellsV])), (q_s, .inl (cI, 903, .inl r_s)), (q_by, .inl (cI, 5, .inl r_by_88)), (q_truths, .inl (cZ, 64, .inl r_truths_323))] H → va_D A [(h, .inr (12, [.int f_thrown, .ref q_s, .ref q_image, .ref q_frame, .int f_hasImage, .int f_act, .int f_spot, .int f_end, .int f_isWrong, .int f_open, .ref q_by, .ref q_truths, .int f_slowed_323, .int f_risked_323, .int f_gapNow, .int f_giver, .ref q_known, .ref q_leapt, .int f_turnsMany, .ref q_trying, .ref q_bestOrder, .int f_leastTime, .ref q_ended, .ref q_bodies, .int f_ran, .int f_kind, .int f_number, .int f_tellsV])), (q_s, .inl (cI, 903, .inl r_s)), (q_by, .inl (cI, 5, .inl r_by_88)), (q_truths, .inl (cZ, 64, .inl r_truths_323))] → va_S A s.heap H locs → lv_has ls 13 [(0, .ref h), (5, .int v5_88), (6, .int v6_88), (7, .int v7_323), (8, .int v8_323)] → m_X12_looks_L323 r_s r_by_88 v5_88 v6_88 f_slowed_323 f_risked_323 r_truths_323 v7_323 v8_323 w1_323 w2_323 K88 Q → W p l e rmX12_looks s m args below meth c H locs 0 0 Z (F0 m 323 ls [.int w2_323, .int w1_323, .ref q_truths]) := by
        clear hm
        intro f_slowed_323 f_risked_323 r_truths_323 v7_323 v8_323 w1_323 w2_323 H locs ls hP hD hS hl hm
        unfold m_X12_looks_L323 at hm
        refine va_zast hx hb hK hP hD hS 3 1 rfl rfl hm.1 (dX12_looks 177 rfl) (fun H locs hP hD hS => ?_)
        replace hm := hm.2
        obtain ⟨y26, ey26⟩ : ∃ q : Nat → Int32, q = upd r_truths_323 w1_323.toNatClampNeg (vp_nar .boolean w2_323) := ⟨_, rfl⟩
        replace hm := hm y26 ey26
        have hP : va_P D vwCl [(h, .inr (12, [.int f_thrown, .ref q_s, .ref q_image, .ref q_frame, .int f_hasImage, .int f_act, .int f_spot, .int f_end, .int f_isWrong, .int f_open, .ref q_by, .ref q_truths, .int f_slowed_323, .int f_risked_323, .int f_gapNow, .int f_giver, .ref q_known, .ref q_leapt, .int f_turnsMany, .ref q_trying, .ref q_bestOrder, .int f_leastTime, .ref q_ended, .ref q_bodies, .int f_ran, .int f_kind, .int f_number, .int f_tellsV])), (q_s, .inl (cI, 903, .inl r_s)), (q_by, .inl (cI, 5, .inl r_by_88)), (q_truths, .inl (cZ, 64, .inl y26))] H := by rw [ey26]; exact hP
        have hD : va_D A [(h, .inr (12, [.int f_thrown, .ref q_s, .ref q_image, .ref q_frame, .int f_hasImage, .int f_act, .int f_spot, .int f_end, .int f_isWrong, .int f_open, .ref q_by, .ref q_truths, .int f_slowed_323, .int f_risked_323, .int f_gapNow, .int f_giver, .ref q_known, .ref q_leapt, .int f_turnsMany, .ref q_trying, .ref q_bestOrder, .int f_leastTime, .ref q_ended, .ref q_bodies, .int f_ran, .int f_kind, .int f_number, .int f_tellsV])), (q_s, .inl (cI, 903, .inl r_s)), (q_by, .inl (cI, 5, .inl r_by_88)), (q_truths, .inl (cZ, 64, .inl y26))] := by rw [ey26]; exact hD
        refine lv_goto (tgt := 401) hx hb (dX12_looks 178 rfl) (by decide) ?_
        exact lab401 f_slowed_323 f_risked_323 y26 v7_323 v8_323 H locs ls hP hD hS (lv_sub hl [0, 1, 2, 3, 4] rfl) hm
      have lab318 : ∀ (f_slowed_318 : Int32) (f_risked_318 : Int32) (r_truths_318 : Nat → Int32) (v7_318 : Int32) (v8_318 : Int32) (w1_318 : Int32) , ∀ (H : Heap) (locs : List Loc) (ls : Array Slot), va_P D vwCl [(h, .inr (12, [.int f_thrown, .ref q_s, .ref q_image, .ref q_frame, .int f_hasImage, .int f_act, .int f_spot, .int f_end, .int f_isWrong, .int f_open, .ref q_by, .ref q_truths, .int f_slowed_318, .int f_risked_318, .int f_gapNow, .int f_giver, .ref q_known, .ref q_leapt, .int f_turnsMany, .ref q_trying, .ref q_bestOrder, .int f_leastTime, .ref q_ended, .ref q_bodies, .int f_ran, .int f_kind, .int f_number, .int f_tellsV])), (q_s, .inl (cI, 903, .inl r_s)), (q_by, .inl (cI, 5, .inl r_by_88)), (q_truths, .inl (cZ, 64, .inl r_truths_318))] H → va_D A [(h, .inr (12, [.int f_thrown, .ref q_s, .ref q_image, .ref q_frame, .int f_hasImage, .int f_act, .int f_spot, .int f_end, .int f_isWrong, .int f_open, .ref q_by, .ref q_truths, .int f_slowed_318, .int f_risked_318, .int f_gapNow, .int f_giver, .ref q_known, .ref q_leapt, .int f_turnsMany, .ref q_trying, .ref q_bestOrder, .int f_leastTime, .ref q_ended, .ref q_bodies, .int f_ran, .int f_kind, .int f_number, .int f_tellsV])), (q_s, .inl (cI, 903, .inl r_s)), (q_by, .inl (cI, 5, .inl r_by_88)), (q_truths, .inl (cZ, 64, .inl r_truths_318))] → va_S A s.heap H locs → lv_has ls 13 [(0, .ref h), (5, .int v5_88), (6, .int v6_88), (7, .int v7_318), (8, .int v8_318)] → m_X12_looks_L318 r_s r_by_88 v5_88 v6_88 f_slowed_318 f_risked_318 r_truths_318 v7_318 v8_318 w1_318 K88 Q → W p l e rmX12_looks s m args below meth c H locs 0 0 Z (F0 m 318 ls [.int w1_318, .ref q_truths]) := by
        clear hm
        intro f_slowed_318 f_risked_318 r_truths_318 v7_318 v8_318 w1_318 H locs ls hP hD hS hl hm
        unfold m_X12_looks_L318 at hm
        refine lv_iconst (v := (1 : Int32)) hx hb (dX12_looks 174 rfl) (by decide) ?_
        refine lv_goto (tgt := 323) hx hb (dX12_looks 175 rfl) (by decide) ?_
        exact lab323 f_slowed_318 f_risked_318 r_truths_318 v7_318 v8_318 w1_318 (1 : Int32) H locs ls hP hD hS (lv_sub hl [0, 1, 2, 3, 4] rfl) hm
      have lab292 : ∀ (f_slowed_292 : Int32) (f_risked_292 : Int32) (r_truths_292 : Nat → Int32) (v7_292 : Int32) (v8_292 : Int32) (w1_292 : Int32) , ∀ (H : Heap) (locs : List Loc) (ls : Array Slot), va_P D vwCl [(h, .inr (12, [.int f_thrown, .ref q_s, .ref q_image, .ref q_frame, .int f_hasImage, .int f_act, .int f_spot, .int f_end, .int f_isWrong, .int f_open, .ref q_by, .ref q_truths, .int f_slowed_292, .int f_risked_292, .int f_gapNow, .int f_giver, .ref q_known, .ref q_leapt, .int f_turnsMany, .ref q_trying, .ref q_bestOrder, .int f_leastTime, .ref q_ended, .ref q_bodies, .int f_ran, .int f_kind, .int f_number, .int f_tellsV])), (q_s, .inl (cI, 903, .inl r_s)), (q_by, .inl (cI, 5, .inl r_by_88)), (q_truths, .inl (cZ, 64, .inl r_truths_292))] H → va_D A [(h, .inr (12, [.int f_thrown, .ref q_s, .ref q_image, .ref q_frame, .int f_hasImage, .int f_act, .int f_spot, .int f_end, .int f_isWrong, .int f_open, .ref q_by, .ref q_truths, .int f_slowed_292, .int f_risked_292, .int f_gapNow, .int f_giver, .ref q_known, .ref q_leapt, .int f_turnsMany, .ref q_trying, .ref q_bestOrder, .int f_leastTime, .ref q_ended, .ref q_bodies, .int f_ran, .int f_kind, .int f_number, .int f_tellsV])), (q_s, .inl (cI, 903, .inl r_s)), (q_by, .inl (cI, 5, .inl r_by_88)), (q_truths, .inl (cZ, 64, .inl r_truths_292))] → va_S A s.heap H locs → lv_has ls 13 [(0, .ref h), (5, .int v5_88), (6, .int v6_88), (7, .int v7_292), (8, .int v8_292)] → m_X12_looks_L292 r_s r_by_88 v5_88 v6_88 f_slowed_292 f_risked_292 r_truths_292 v7_292 v8_292 w1_292 K88 Q → W p l e rmX12_looks s m args below meth c H locs 0 0 Z (F0 m 292 ls [.int w1_292, .ref q_truths]) := by
        clear hm
        intro f_slowed_292 f_risked_292 r_truths_292 v7_292 v8_292 w1_292 H locs ls hP hD hS hl hm
        unfold m_X12_looks_L292 at hm
        refine lv_iconst (v := (0 : Int32)) hx hb (dX12_looks 160 rfl) (by decide) ?_
        refine lv_goto (tgt := 323) hx hb (dX12_looks 161 rfl) (by decide) ?_
        exact lab323 f_slowed_292 f_risked_292 r_truths_292 v7_292 v8_292 w1_292 (0 : Int32) H locs ls hP hD hS (lv_sub hl [0, 1, 2, 3, 4] rfl) hm
      have lab237 : ∀ (f_slowed_237 : Int32) (f_risked_237 : Int32) (r_truths_237 : Nat → Int32) (v7_237 : Int32) (v8_237 : Int32) (w1_237 : Int32) (w2_237 : Int32) , ∀ (H : Heap) (locs : List Loc) (ls : Array Slot), va_P D vwCl [(h, .inr (12, [.int f_thrown, .ref q_s, .ref q_image, .ref q_frame, .int f_hasImage, .int f_act, .int f_spot, .int f_end, .int f_isWrong, .int f_open, .ref q_by, .ref q_truths, .int f_slowed_237, .int f_risked_237, .int f_gapNow, .int f_giver, .ref q_known, .ref q_leapt, .int f_turnsMany, .ref q_trying, .ref q_bestOrder, .int f_leastTime, .ref q_ended, .ref q_bodies, .int f_ran, .int f_kind, .int f_number, .int f_tellsV])), (q_s, .inl (cI, 903, .inl r_s)), (q_by, .inl (cI, 5, .inl r_by_88)), (q_truths, .inl (cZ, 64, .inl r_truths_237))] H → va_D A [(h, .inr (12, [.int f_thrown, .ref q_s, .ref q_image, .ref q_frame, .int f_hasImage, .int f_act, .int f_spot, .int f_end, .int f_isWrong, .int f_open, .ref q_by, .ref q_truths, .int f_slowed_237, .int f_risked_237, .int f_gapNow, .int f_giver, .ref q_known, .ref q_leapt, .int f_turnsMany, .ref q_trying, .ref q_bestOrder, .int f_leastTime, .ref q_ended, .ref q_bodies, .int f_ran, .int f_kind, .int f_number, .int f_tellsV])), (q_s, .inl (cI, 903, .inl r_s)), (q_by, .inl (cI, 5, .inl r_by_88)), (q_truths, .inl (cZ, 64, .inl r_truths_237))] → va_S A s.heap H locs → lv_has ls 13 [(0, .ref h), (5, .int v5_88), (6, .int v6_88), (7, .int v7_237), (8, .int v8_237)] → m_X12_looks_L237 r_s r_by_88 v5_88 v6_88 f_slowed_237 f_risked_237 r_truths_237 v7_237 v8_237 w1_237 w2_237 K88 Q → W p l e rmX12_looks s m args below meth c H locs 0 0 Z (F0 m 237 ls [.int w2_237, .int w1_237, .ref q_truths]) := by
        clear hm
        intro f_slowed_237 f_risked_237 r_truths_237 v7_237 v8_237 w1_237 w2_237 H locs ls hP hD hS hl hm
        unfold m_X12_looks_L237 at hm
        refine va_zast hx hb hK hP hD hS 3 1 rfl rfl hm.1 (dX12_looks 132 rfl) (fun H locs hP hD hS => ?_)
        replace hm := hm.2
        obtain ⟨y31, ey31⟩ : ∃ q : Nat → Int32, q = upd r_truths_237 w1_237.toNatClampNeg (vp_nar .boolean w2_237) := ⟨_, rfl⟩
        replace hm := hm y31 ey31
        have hP : va_P D vwCl [(h, .inr (12, [.int f_thrown, .ref q_s, .ref q_image, .ref q_frame, .int f_hasImage, .int f_act, .int f_spot, .int f_end, .int f_isWrong, .int f_open, .ref q_by, .ref q_truths, .int f_slowed_237, .int f_risked_237, .int f_gapNow, .int f_giver, .ref q_known, .ref q_leapt, .int f_turnsMany, .ref q_trying, .ref q_bestOrder, .int f_leastTime, .ref q_ended, .ref q_bodies, .int f_ran, .int f_kind, .int f_number, .int f_tellsV])), (q_s, .inl (cI, 903, .inl r_s)), (q_by, .inl (cI, 5, .inl r_by_88)), (q_truths, .inl (cZ, 64, .inl y31))] H := by rw [ey31]; exact hP
        have hD : va_D A [(h, .inr (12, [.int f_thrown, .ref q_s, .ref q_image, .ref q_frame, .int f_hasImage, .int f_act, .int f_spot, .int f_end, .int f_isWrong, .int f_open, .ref q_by, .ref q_truths, .int f_slowed_237, .int f_risked_237, .int f_gapNow, .int f_giver, .ref q_known, .ref q_leapt, .int f_turnsMany, .ref q_trying, .ref q_bestOrder, .int f_leastTime, .ref q_ended, .ref q_bodies, .int f_ran, .int f_kind, .int f_number, .int f_tellsV])), (q_s, .inl (cI, 903, .inl r_s)), (q_by, .inl (cI, 5, .inl r_by_88)), (q_truths, .inl (cZ, 64, .inl y31))] := by rw [ey31]; exact hD
        refine lv_goto (tgt := 401) hx hb (dX12_looks 133 rfl) (by decide) ?_
        exact lab401 f_slowed_237 f_risked_237 y31 v7_237 v8_237 H locs ls hP hD hS (lv_sub hl [0, 1, 2, 3, 4] rfl) hm
      have lab199 : ∀ (f_slowed_199 : Int32) (f_risked_199 : Int32) (r_truths_199 : Nat → Int32) (v7_199 : Int32) (v8_199 : Int32) (w1_199 : Int32) (w2_199 : Int32) , ∀ (H : Heap) (locs : List Loc) (ls : Array Slot), va_P D vwCl [(h, .inr (12, [.int f_thrown, .ref q_s, .ref q_image, .ref q_frame, .int f_hasImage, .int f_act, .int f_spot, .int f_end, .int f_isWrong, .int f_open, .ref q_by, .ref q_truths, .int f_slowed_199, .int f_risked_199, .int f_gapNow, .int f_giver, .ref q_known, .ref q_leapt, .int f_turnsMany, .ref q_trying, .ref q_bestOrder, .int f_leastTime, .ref q_ended, .ref q_bodies, .int f_ran, .int f_kind, .int f_number, .int f_tellsV])), (q_s, .inl (cI, 903, .inl r_s)), (q_by, .inl (cI, 5, .inl r_by_88)), (q_truths, .inl (cZ, 64, .inl r_truths_199))] H → va_D A [(h, .inr (12, [.int f_thrown, .ref q_s, .ref q_image, .ref q_frame, .int f_hasImage, .int f_act, .int f_spot, .int f_end, .int f_isWrong, .int f_open, .ref q_by, .ref q_truths, .int f_slowed_199, .int f_risked_199, .int f_gapNow, .int f_giver, .ref q_known, .ref q_leapt, .int f_turnsMany, .ref q_trying, .ref q_bestOrder, .int f_leastTime, .ref q_ended, .ref q_bodies, .int f_ran, .int f_kind, .int f_number, .int f_tellsV])), (q_s, .inl (cI, 903, .inl r_s)), (q_by, .inl (cI, 5, .inl r_by_88)), (q_truths, .inl (cZ, 64, .inl r_truths_199))] → va_S A s.heap H locs → lv_has ls 13 [(0, .ref h), (5, .int v5_88), (6, .int v6_88), (7, .int v7_199), (8, .int v8_199)] → m_X12_looks_L199 r_s r_by_88 v5_88 v6_88 f_slowed_199 f_risked_199 r_truths_199 v7_199 v8_199 w1_199 w2_199 K88 Q → W p l e rmX12_looks s m args below meth c H locs 0 0 Z (F0 m 199 ls [.int w2_199, .int w1_199, .ref q_truths]) := by
        clear hm
        intro f_slowed_199 f_risked_199 r_truths_199 v7_199 v8_199 w1_199 w2_199 H locs ls hP hD hS hl hm
        unfold m_X12_looks_L199 at hm
        refine va_zast hx hb hK hP hD hS 3 1 rfl rfl hm.1 (dX12_looks 111 rfl) (fun H locs hP hD hS => ?_)
        replace hm := hm.2
        obtain ⟨y38, ey38⟩ : ∃ q : Nat → Int32, q = upd r_truths_199 w1_199.toNatClampNeg (vp_nar .boolean w2_199) := ⟨_, rfl⟩
        replace hm := hm y38 ey38
        have hP : va_P D vwCl [(h, .inr (12, [.int f_thrown, .ref q_s, .ref q_image, .ref q_frame, .int f_hasImage, .int f_act, .int f_spot, .int f_end, .int f_isWrong, .int f_open, .ref q_by, .ref q_truths, .int f_slowed_199, .int f_risked_199, .int f_gapNow, .int f_giver, .ref q_known, .ref q_leapt, .int f_turnsMany, .ref q_trying, .ref q_bestOrder, .int f_leastTime, .ref q_ended, .ref q_bodies, .int f_ran, .int f_kind, .int f_number, .int f_tellsV])), (q_s, .inl (cI, 903, .inl r_s)), (q_by, .inl (cI, 5, .inl r_by_88)), (q_truths, .inl (cZ, 64, .inl y38))] H := by rw [ey38]; exact hP
        have hD : va_D A [(h, .inr (12, [.int f_thrown, .ref q_s, .ref q_image, .ref q_frame, .int f_hasImage, .int f_act, .int f_spot, .int f_end, .int f_isWrong, .int f_open, .ref q_by, .ref q_truths, .int f_slowed_199, .int f_risked_199, .int f_gapNow, .int f_giver, .ref q_known, .ref q_leapt, .int f_turnsMany, .ref q_trying, .ref q_bestOrder, .int f_leastTime, .ref q_ended, .ref q_bodies, .int f_ran, .int f_kind, .int f_number, .int f_tellsV])), (q_s, .inl (cI, 903, .inl r_s)), (q_by, .inl (cI, 5, .inl r_by_88)), (q_truths, .inl (cZ, 64, .inl y38))] := by rw [ey38]; exact hD
        obtain ⟨x39, ex39⟩ : ∃ y : Int32, y = v7_199 + 1 := ⟨_, rfl⟩
        replace hm := hm x39 ex39
        refine lv_iinc (v := x39) (lv' := [(7, .int x39), (0, .ref h), (5, .int v5_88), (6, .int v6_88), (8, .int v8_199)]) hx hb (dX12_looks 112 rfl) hl (k := 3) rfl (by rw [ex39]; rfl) (by decide) rfl (fun ls hl => ?_)
        refine lv_goto (tgt := 401) hx hb (dX12_looks 113 rfl) (by decide) ?_
        exact lab401 f_slowed_199 f_risked_199 y38 x39 v8_199 H locs ls hP hD hS (lv_sub hl [1, 2, 3, 0, 4] rfl) hm
      refine lv_iload hx hb (dX12_looks 54 rfl) (lv_at hl 4 rfl) ?_
      refine lv_iload hx hb (dX12_looks 55 rfl) (lv_at hl 2 rfl) ?_
      refine lv_iload hx hb (dX12_looks 56 rfl) (lv_at hl 1 rfl) ?_
      refine lv_iadd hx hb (dX12_looks 57 rfl) ?_
      refine lv_icmp_ge (tgt := 407) hx hb (dX12_looks 58 rfl) (by decide) (fun c10 => ?_) (fun c10 => ?_)
      · replace hm := hm.1 c10
        refine lv_aload_n hx hb (dX12_looks 218 rfl) rfl (lv_at hl 0 rfl) ?_
        refine lv_aload_n hx hb (dX12_looks 219 rfl) rfl (lv_at hl 0 rfl) ?_
        refine va_get (D := D) (ci := 12) (v := .int f_risked_88) (C := RX12) (T := TX12) (N := 28) hx hb hts inlX12 hown hK hP 0 rfl rfl 13 (by decide) (hts (.fieldLink RX12 138 "OverBacksModel" "risked" "I") (inR24 _ (List.mem_of_getElem? (i := 7) rfl))) (fun _ h9 => h9) rfl (dX12_looks 220 rfl) ?_
        refine lv_bipush (v := (100 : Int32)) hx hb (dX12_looks 221 rfl) (by decide) ?_
        refine lv_icmp_le (tgt := 422) hx hb (dX12_looks 222 rfl) (by decide) (fun c11 => ?_) (fun c11 => ?_)
        · replace hm := hm.1 c11
          refine lv_aload_n hx hb (dX12_looks 225 rfl) rfl (lv_at hl 0 rfl) ?_
          refine va_get (D := D) (ci := 12) (v := .int f_risked_88) (C := RX12) (T := TX12) (N := 28) hx hb hts inlX12 hown hK hP 0 rfl rfl 13 (by decide) (hts (.fieldLink RX12 138 "OverBacksModel" "risked" "I") (inR24 _ (List.mem_of_getElem? (i := 7) rfl))) (fun _ h9 => h9) rfl (dX12_looks 226 rfl) ?_
          exact lab426 f_slowed_88 f_risked_88 r_by_88 r_truths_88 f_risked_88 H locs ls hP hD hS (lv_sub hl [] rfl) hm
        replace hm := hm.2 c11
        refine lv_bipush (v := (100 : Int32)) hx hb (dX12_looks 223 rfl) (by decide) ?_
        refine lv_goto (tgt := 426) hx hb (dX12_looks 224 rfl) (by decide) ?_
        exact lab426 f_slowed_88 f_risked_88 r_by_88 r_truths_88 (100 : Int32) H locs ls hP hD hS (lv_sub hl [] rfl) hm
      replace hm := hm.2 c10
      refine lv_aload_n hx hb (dX12_looks 59 rfl) rfl (lv_at hl 0 rfl) ?_
      refine va_get (D := D) (ci := 12) (v := .ref q_s) (C := RX12) (T := TX12) (N := 28) hx hb hts inlX12 hown hK hP 0 rfl rfl 1 (by decide) (hts (.fieldLink RX12 9 "OverBacksModel" "s" "[I") (inR3 _ (List.mem_of_getElem? (i := 20) rfl))) (fun _ h9 => h9) rfl (dX12_looks 60 rfl) ?_
      refine lv_iload hx hb (dX12_looks 61 rfl) (lv_at hl 4 rfl) ?_
      refine va_iald hx hb hK hP 1 0 rfl rfl hm.1 (dX12_looks 62 rfl) ?_
      replace hm := hm.2
      refine lv_topi (fun x12 ex12 => ?_)
      replace hm := hm x12 ex12
      refine lv_istore (lv' := [(9, .int x12), (0, .ref h), (5, .int v5_88), (6, .int v6_88), (7, .int v7_88), (8, .int v8_88)]) hx hb (dX12_looks 63 rfl) hl (by decide) rfl (fun ls hl => ?_)
      refine lv_iload hx hb (dX12_looks 64 rfl) (lv_at hl 0 rfl) ?_
      refine lv_if_lt (tgt := 206) hx hb (dX12_looks 65 rfl) (by decide) (fun c13 => ?_) (fun c13 => ?_)
      · replace hm := hm.1 c13
        refine lv_iload hx hb (dX12_looks 114 rfl) (lv_at hl 0 rfl) ?_
        refine lv_iconst (v := (-1 : Int32)) hx hb (dX12_looks 115 rfl) (by decide) ?_
        refine lv_icmp_ne (tgt := 241) hx hb (dX12_looks 116 rfl) (by decide) (fun c14 => ?_) (fun c14 => ?_)
        · replace hm := hm.2 c14
          refine lv_iload hx hb (dX12_looks 134 rfl) (lv_at hl 0 rfl) ?_
          refine lv_bipush (v := (-10 : Int32)) hx hb (dX12_looks 135 rfl) (by decide) ?_
          refine lv_icmp_le (tgt := 327) hx hb (dX12_looks 136 rfl) (by decide) (fun c15 => ?_) (fun c15 => ?_)
          · replace hm := hm.1 c15
            refine lv_iconst (v := (0 : Int32)) hx hb (dX12_looks 179 rfl) (by decide) ?_
            refine lv_topi (fun x16 ex16 => ?_)
            replace hm := hm x16 ex16
            refine lv_istore (lv' := [(7, .int x16), (9, .int x12), (0, .ref h), (5, .int v5_88), (6, .int v6_88), (8, .int v8_88)]) hx hb (dX12_looks 180 rfl) hl (by decide) rfl (fun ls hl => ?_)
            refine lv_aload_n hx hb (dX12_looks 181 rfl) rfl (lv_at hl 2 rfl) ?_
            refine va_get (D := D) (ci := 12) (v := .ref q_truths) (C := RX12) (T := TX12) (N := 28) hx hb hts inlX12 hown hK hP 0 rfl rfl 11 (by decide) (hts (.fieldLink RX12 24 "OverBacksModel" "truths" "[Z") (inR4 _ (List.mem_of_getElem? (i := 1) rfl))) (fun _ h9 => h9) rfl (dX12_looks 182 rfl) ?_
            refine lv_iconst (v := (0 : Int32)) hx hb (dX12_looks 183 rfl) (by decide) ?_
            refine va_zald hx hb hK hP 3 1 rfl rfl (ob_in (by decide)) (dX12_looks 184 rfl) ?_
            refine lv_topi (fun x17 ex17 => ?_)
            replace hm := hm x17 ex17
            refine lv_istore (lv' := [(10, .int x17), (7, .int x16), (9, .int x12), (0, .ref h), (5, .int v5_88), (6, .int v6_88), (8, .int v8_88)]) hx hb (dX12_looks 185 rfl) hl (by decide) rfl (fun ls hl => ?_)
            refine lv_aload_n hx hb (dX12_looks 186 rfl) rfl (lv_at hl 3 rfl) ?_
            refine lv_dup hx hb (dX12_looks 187 rfl) rfl ?_
            refine va_get (D := D) (ci := 12) (v := .int f_slowed_88) (C := RX12) (T := TX12) (N := 28) hx hb hts inlX12 hown hK hP 0 rfl rfl 12 (by decide) (hts (.fieldLink RX12 135 "OverBacksModel" "slowed" "I") (inR24 _ (List.mem_of_getElem? (i := 12) rfl))) (fun _ h9 => h9) rfl (dX12_looks 188 rfl) ?_
            refine lv_iload hx hb (dX12_looks 189 rfl) (lv_at hl 0 rfl) ?_
            refine lv_if_eq (tgt := 364) hx hb (dX12_looks 190 rfl) (by decide) (fun c18 => ?_) (fun c18 => ?_)
            · replace hm := hm.1 c18
              exact lab364 f_slowed_88 f_risked_88 r_truths_88 x16 v8_88 x12 x17 f_slowed_88 H locs ls hP hD hS (lv_sub hl [3, 4, 5, 1, 6, 2, 0] rfl) hm
            replace hm := hm.2 c18
            refine lv_iload hx hb (dX12_looks 191 rfl) (lv_at hl 2 rfl) ?_
            refine lv_sipush (v := (-200 : Int32)) hx hb (dX12_looks 192 rfl) (by decide) ?_
            refine lv_icmp_le (tgt := 364) hx hb (dX12_looks 193 rfl) (by decide) (fun c22 => ?_) (fun c22 => ?_)
            · replace hm := hm.1 c22
              exact lab364 f_slowed_88 f_risked_88 r_truths_88 x16 v8_88 x12 x17 f_slowed_88 H locs ls hP hD hS (lv_sub hl [3, 4, 5, 1, 6, 2, 0] rfl) hm
            replace hm := hm.2 c22
            refine lv_bipush (v := (-10 : Int32)) hx hb (dX12_looks 194 rfl) (by decide) ?_
            refine lv_iload hx hb (dX12_looks 195 rfl) (lv_at hl 2 rfl) ?_
            refine lv_isub hx hb (dX12_looks 196 rfl) ?_
            refine lv_goto (tgt := 365) hx hb (dX12_looks 197 rfl) (by decide) ?_
            exact lab365 f_slowed_88 f_risked_88 r_truths_88 x16 v8_88 x12 x17 f_slowed_88 ((-10 : Int32) - x12) H locs ls hP hD hS (lv_sub hl [3, 4, 5, 1, 6, 2, 0] rfl) hm
          replace hm := hm.2 c15
          obtain ⟨x23, ex23⟩ : ∃ y : Int32, y = v7_88 + (-1 : Int32) := ⟨_, rfl⟩
          replace hm := hm x23 ex23
          refine lv_iinc (v := x23) (lv' := [(7, .int x23), (9, .int x12), (0, .ref h), (5, .int v5_88), (6, .int v6_88), (8, .int v8_88)]) hx hb (dX12_looks 137 rfl) hl (k := 4) rfl (by rw [ex23]; rfl) (by decide) rfl (fun ls hl => ?_)
          refine lv_aload_n hx hb (dX12_looks 138 rfl) rfl (lv_at hl 2 rfl) ?_
          refine va_get (D := D) (ci := 12) (v := .ref q_truths) (C := RX12) (T := TX12) (N := 28) hx hb hts inlX12 hown hK hP 0 rfl rfl 11 (by decide) (hts (.fieldLink RX12 24 "OverBacksModel" "truths" "[Z") (inR4 _ (List.mem_of_getElem? (i := 1) rfl))) (fun _ h9 => h9) rfl (dX12_looks 139 rfl) ?_
          refine lv_iload hx hb (dX12_looks 140 rfl) (lv_at hl 0 rfl) ?_
          refine lv_iconst (v := (1 : Int32)) hx hb (dX12_looks 141 rfl) (by decide) ?_
          refine lv_isub hx hb (dX12_looks 142 rfl) ?_
          refine lv_iload hx hb (dX12_looks 143 rfl) (lv_at hl 1 rfl) ?_
          refine lv_bipush (v := (-2 : Int32)) hx hb (dX12_looks 144 rfl) (by decide) ?_
          refine lv_icmp_ne (tgt := 296) hx hb (dX12_looks 145 rfl) (by decide) (fun c24 => ?_) (fun c24 => ?_)
          · replace hm := hm.2 c24
            refine lv_aload_n hx hb (dX12_looks 162 rfl) rfl (lv_at hl 2 rfl) ?_
            refine va_get (D := D) (ci := 12) (v := .ref q_truths) (C := RX12) (T := TX12) (N := 28) hx hb hts inlX12 hown hK hP 0 rfl rfl 11 (by decide) (hts (.fieldLink RX12 24 "OverBacksModel" "truths" "[Z") (inR4 _ (List.mem_of_getElem? (i := 1) rfl))) (fun _ h9 => h9) rfl (dX12_looks 163 rfl) ?_
            refine lv_iload hx hb (dX12_looks 164 rfl) (lv_at hl 0 rfl) ?_
            refine lv_iconst (v := (1 : Int32)) hx hb (dX12_looks 165 rfl) (by decide) ?_
            refine lv_isub hx hb (dX12_looks 166 rfl) ?_
            refine va_zald hx hb hK hP 3 1 rfl rfl hm.1 (dX12_looks 167 rfl) ?_
            replace hm := hm.2
            refine lv_if_ne (tgt := 318) hx hb (dX12_looks 168 rfl) (by decide) (fun c25 => ?_) (fun c25 => ?_)
            · replace hm := hm.2 c25
              exact lab318 f_slowed_88 f_risked_88 r_truths_88 x23 v8_88 (x23 - (1 : Int32)) H locs ls hP hD hS (lv_sub hl [2, 3, 4, 0, 5] rfl) hm
            replace hm := hm.1 c25
            refine lv_aload_n hx hb (dX12_looks 169 rfl) rfl (lv_at hl 2 rfl) ?_
            refine va_get (D := D) (ci := 12) (v := .ref q_truths) (C := RX12) (T := TX12) (N := 28) hx hb hts inlX12 hown hK hP 0 rfl rfl 11 (by decide) (hts (.fieldLink RX12 24 "OverBacksModel" "truths" "[Z") (inR4 _ (List.mem_of_getElem? (i := 1) rfl))) (fun _ h9 => h9) rfl (dX12_looks 170 rfl) ?_
            refine lv_iload hx hb (dX12_looks 171 rfl) (lv_at hl 0 rfl) ?_
            refine va_zald hx hb hK hP 3 1 rfl rfl hm.1 (dX12_looks 172 rfl) ?_
            replace hm := hm.2
            refine lv_if_eq (tgt := 322) hx hb (dX12_looks 173 rfl) (by decide) (fun c27 => ?_) (fun c27 => ?_)
            · replace hm := hm.1 c27
              refine lv_iconst (v := (0 : Int32)) hx hb (dX12_looks 176 rfl) (by decide) ?_
              exact lab323 f_slowed_88 f_risked_88 r_truths_88 x23 v8_88 (x23 - (1 : Int32)) (0 : Int32) H locs ls hP hD hS (lv_sub hl [2, 3, 4, 0, 5] rfl) hm
            replace hm := hm.2 c27
            exact lab318 f_slowed_88 f_risked_88 r_truths_88 x23 v8_88 (x23 - (1 : Int32)) H locs ls hP hD hS (lv_sub hl [2, 3, 4, 0, 5] rfl) hm
          replace hm := hm.1 c24
          refine lv_aload_n hx hb (dX12_looks 146 rfl) rfl (lv_at hl 2 rfl) ?_
          refine va_get (D := D) (ci := 12) (v := .ref q_truths) (C := RX12) (T := TX12) (N := 28) hx hb hts inlX12 hown hK hP 0 rfl rfl 11 (by decide) (hts (.fieldLink RX12 24 "OverBacksModel" "truths" "[Z") (inR4 _ (List.mem_of_getElem? (i := 1) rfl))) (fun _ h9 => h9) rfl (dX12_looks 147 rfl) ?_
          refine lv_iload hx hb (dX12_looks 148 rfl) (lv_at hl 0 rfl) ?_
          refine lv_iconst (v := (1 : Int32)) hx hb (dX12_looks 149 rfl) (by decide) ?_
          refine lv_isub hx hb (dX12_looks 150 rfl) ?_
          refine va_zald hx hb hK hP 3 1 rfl rfl hm.1 (dX12_looks 151 rfl) ?_
          replace hm := hm.2
          refine lv_if_eq (tgt := 292) hx hb (dX12_looks 152 rfl) (by decide) (fun c28 => ?_) (fun c28 => ?_)
          · replace hm := hm.1 c28
            exact lab292 f_slowed_88 f_risked_88 r_truths_88 x23 v8_88 (x23 - (1 : Int32)) H locs ls hP hD hS (lv_sub hl [2, 3, 4, 0, 5] rfl) hm
          replace hm := hm.2 c28
          refine lv_aload_n hx hb (dX12_looks 153 rfl) rfl (lv_at hl 2 rfl) ?_
          refine va_get (D := D) (ci := 12) (v := .ref q_truths) (C := RX12) (T := TX12) (N := 28) hx hb hts inlX12 hown hK hP 0 rfl rfl 11 (by decide) (hts (.fieldLink RX12 24 "OverBacksModel" "truths" "[Z") (inR4 _ (List.mem_of_getElem? (i := 1) rfl))) (fun _ h9 => h9) rfl (dX12_looks 154 rfl) ?_
          refine lv_iload hx hb (dX12_looks 155 rfl) (lv_at hl 0 rfl) ?_
          refine va_zald hx hb hK hP 3 1 rfl rfl hm.1 (dX12_looks 156 rfl) ?_
          replace hm := hm.2
          refine lv_if_eq (tgt := 292) hx hb (dX12_looks 157 rfl) (by decide) (fun c29 => ?_) (fun c29 => ?_)
          · replace hm := hm.1 c29
            exact lab292 f_slowed_88 f_risked_88 r_truths_88 x23 v8_88 (x23 - (1 : Int32)) H locs ls hP hD hS (lv_sub hl [2, 3, 4, 0, 5] rfl) hm
          replace hm := hm.2 c29
          refine lv_iconst (v := (1 : Int32)) hx hb (dX12_looks 158 rfl) (by decide) ?_
          refine lv_goto (tgt := 323) hx hb (dX12_looks 159 rfl) (by decide) ?_
          exact lab323 f_slowed_88 f_risked_88 r_truths_88 x23 v8_88 (x23 - (1 : Int32)) (1 : Int32) H locs ls hP hD hS (lv_sub hl [2, 3, 4, 0, 5] rfl) hm
        replace hm := hm.1 c14
        refine lv_aload_n hx hb (dX12_looks 117 rfl) rfl (lv_at hl 1 rfl) ?_
        refine va_get (D := D) (ci := 12) (v := .ref q_truths) (C := RX12) (T := TX12) (N := 28) hx hb hts inlX12 hown hK hP 0 rfl rfl 11 (by decide) (hts (.fieldLink RX12 24 "OverBacksModel" "truths" "[Z") (inR4 _ (List.mem_of_getElem? (i := 1) rfl))) (fun _ h9 => h9) rfl (dX12_looks 118 rfl) ?_
        refine lv_iload hx hb (dX12_looks 119 rfl) (lv_at hl 4 rfl) ?_
        refine lv_iconst (v := (1 : Int32)) hx hb (dX12_looks 120 rfl) (by decide) ?_
        refine lv_isub hx hb (dX12_looks 121 rfl) ?_
        refine lv_aload_n hx hb (dX12_looks 122 rfl) rfl (lv_at hl 1 rfl) ?_
        refine va_get (D := D) (ci := 12) (v := .ref q_truths) (C := RX12) (T := TX12) (N := 28) hx hb hts inlX12 hown hK hP 0 rfl rfl 11 (by decide) (hts (.fieldLink RX12 24 "OverBacksModel" "truths" "[Z") (inR4 _ (List.mem_of_getElem? (i := 1) rfl))) (fun _ h9 => h9) rfl (dX12_looks 123 rfl) ?_
        refine lv_iload hx hb (dX12_looks 124 rfl) (lv_at hl 4 rfl) ?_
        refine lv_iconst (v := (1 : Int32)) hx hb (dX12_looks 125 rfl) (by decide) ?_
        refine lv_isub hx hb (dX12_looks 126 rfl) ?_
        refine va_zald hx hb hK hP 3 1 rfl rfl hm.1 (dX12_looks 127 rfl) ?_
        replace hm := hm.2
        refine lv_if_ne (tgt := 236) hx hb (dX12_looks 128 rfl) (by decide) (fun c30 => ?_) (fun c30 => ?_)
        · replace hm := hm.2 c30
          refine lv_iconst (v := (0 : Int32)) hx hb (dX12_looks 131 rfl) (by decide) ?_
          exact lab237 f_slowed_88 f_risked_88 r_truths_88 v7_88 v8_88 (v7_88 - (1 : Int32)) (0 : Int32) H locs ls hP hD hS (lv_sub hl [1, 2, 3, 4, 5] rfl) hm
        replace hm := hm.1 c30
        refine lv_iconst (v := (1 : Int32)) hx hb (dX12_looks 129 rfl) (by decide) ?_
        refine lv_goto (tgt := 237) hx hb (dX12_looks 130 rfl) (by decide) ?_
        exact lab237 f_slowed_88 f_risked_88 r_truths_88 v7_88 v8_88 (v7_88 - (1 : Int32)) (1 : Int32) H locs ls hP hD hS (lv_sub hl [1, 2, 3, 4, 5] rfl) hm
      replace hm := hm.2 c13
      refine lv_aload_n hx hb (dX12_looks 66 rfl) rfl (lv_at hl 1 rfl) ?_
      refine va_get (D := D) (ci := 12) (v := .ref q_by) (C := RX12) (T := TX12) (N := 28) hx hb hts inlX12 hown hK hP 0 rfl rfl 10 (by decide) (hts (.fieldLink RX12 21 "OverBacksModel" "by" "[I") (inR3 _ (List.mem_of_getElem? (i := 23) rfl))) (fun _ h9 => h9) rfl (dX12_looks 67 rfl) ?_
      refine lv_iload hx hb (dX12_looks 68 rfl) (lv_at hl 0 rfl) ?_
      refine lv_bipush (v := (8 : Int32)) hx hb (dX12_looks 69 rfl) (by decide) ?_
      refine lv_irem hx hb (dX12_looks 70 rfl) (by decide) ?_
      refine va_iald hx hb hK hP 2 0 rfl rfl hm.1 (dX12_looks 71 rfl) ?_
      replace hm := hm.2
      refine lv_topi (fun x32 ex32 => ?_)
      replace hm := hm x32 ex32
      refine lv_istore (lv' := [(10, .int x32), (9, .int x12), (0, .ref h), (5, .int v5_88), (6, .int v6_88), (7, .int v7_88), (8, .int v8_88)]) hx hb (dX12_looks 72 rfl) hl (by decide) rfl (fun ls hl => ?_)
      refine lv_iload hx hb (dX12_looks 73 rfl) (lv_at hl 1 rfl) ?_
      refine lv_bipush (v := (8 : Int32)) hx hb (dX12_looks 74 rfl) (by decide) ?_
      refine lv_idiv hx hb (dX12_looks 75 rfl) (by decide) ?_
      refine lv_iconst (v := (4 : Int32)) hx hb (dX12_looks 76 rfl) (by decide) ?_
      refine lv_irem hx hb (dX12_looks 77 rfl) (by decide) ?_
      refine lv_topi (fun x33 ex33 => ?_)
      replace hm := hm x33 ex33
      refine lv_istore (lv' := [(11, .int x33), (10, .int x32), (9, .int x12), (0, .ref h), (5, .int v5_88), (6, .int v6_88), (7, .int v7_88), (8, .int v8_88)]) hx hb (dX12_looks 78 rfl) hl (by decide) rfl (fun ls hl => ?_)
      refine lv_iload hx hb (dX12_looks 79 rfl) (lv_at hl 2 rfl) ?_
      refine lv_bipush (v := (32 : Int32)) hx hb (dX12_looks 80 rfl) (by decide) ?_
      refine lv_idiv hx hb (dX12_looks 81 rfl) (by decide) ?_
      refine lv_topi (fun x34 ex34 => ?_)
      replace hm := hm x34 ex34
      refine lv_istore (lv' := [(12, .int x34), (11, .int x33), (10, .int x32), (9, .int x12), (0, .ref h), (5, .int v5_88), (6, .int v6_88), (7, .int v7_88), (8, .int v8_88)]) hx hb (dX12_looks 82 rfl) hl (by decide) rfl (fun ls hl => ?_)
      refine lv_aload_n hx hb (dX12_looks 83 rfl) rfl (lv_at hl 4 rfl) ?_
      refine va_get (D := D) (ci := 12) (v := .ref q_truths) (C := RX12) (T := TX12) (N := 28) hx hb hts inlX12 hown hK hP 0 rfl rfl 11 (by decide) (hts (.fieldLink RX12 24 "OverBacksModel" "truths" "[Z") (inR4 _ (List.mem_of_getElem? (i := 1) rfl))) (fun _ h9 => h9) rfl (dX12_looks 84 rfl) ?_
      refine lv_iload hx hb (dX12_looks 85 rfl) (lv_at hl 7 rfl) ?_
      refine lv_iload hx hb (dX12_looks 86 rfl) (lv_at hl 1 rfl) ?_
      refine lv_if_ne (tgt := 166) hx hb (dX12_looks 87 rfl) (by decide) (fun c35 => ?_) (fun c35 => ?_)
      · replace hm := hm.2 c35
        refine lv_iload hx hb (dX12_looks 95 rfl) (lv_at hl 1 rfl) ?_
        refine lv_iconst (v := (1 : Int32)) hx hb (dX12_looks 96 rfl) (by decide) ?_
        refine lv_icmp_ne (tgt := 187) hx hb (dX12_looks 97 rfl) (by decide) (fun c36 => ?_) (fun c36 => ?_)
        · replace hm := hm.2 c36
          refine lv_iload hx hb (dX12_looks 105 rfl) (lv_at hl 2 rfl) ?_
          refine lv_iload hx hb (dX12_looks 106 rfl) (lv_at hl 0 rfl) ?_
          refine lv_icmp_le (tgt := 198) hx hb (dX12_looks 107 rfl) (by decide) (fun c37 => ?_) (fun c37 => ?_)
          · replace hm := hm.1 c37
            refine lv_iconst (v := (0 : Int32)) hx hb (dX12_looks 110 rfl) (by decide) ?_
            exact lab199 f_slowed_88 f_risked_88 r_truths_88 v7_88 v8_88 v7_88 (0 : Int32) H locs ls hP hD hS (lv_sub hl [4, 5, 6, 7, 8] rfl) hm
          replace hm := hm.2 c37
          refine lv_iconst (v := (1 : Int32)) hx hb (dX12_looks 108 rfl) (by decide) ?_
          refine lv_goto (tgt := 199) hx hb (dX12_looks 109 rfl) (by decide) ?_
          exact lab199 f_slowed_88 f_risked_88 r_truths_88 v7_88 v8_88 v7_88 (1 : Int32) H locs ls hP hD hS (lv_sub hl [4, 5, 6, 7, 8] rfl) hm
        replace hm := hm.1 c36
        refine lv_iload hx hb (dX12_looks 98 rfl) (lv_at hl 2 rfl) ?_
        refine lv_iload hx hb (dX12_looks 99 rfl) (lv_at hl 0 rfl) ?_
        refine lv_icmp_ne (tgt := 183) hx hb (dX12_looks 100 rfl) (by decide) (fun c40 => ?_) (fun c40 => ?_)
        · replace hm := hm.2 c40
          refine lv_iconst (v := (0 : Int32)) hx hb (dX12_looks 103 rfl) (by decide) ?_
          refine lv_goto (tgt := 199) hx hb (dX12_looks 104 rfl) (by decide) ?_
          exact lab199 f_slowed_88 f_risked_88 r_truths_88 v7_88 v8_88 v7_88 (0 : Int32) H locs ls hP hD hS (lv_sub hl [4, 5, 6, 7, 8] rfl) hm
        replace hm := hm.1 c40
        refine lv_iconst (v := (1 : Int32)) hx hb (dX12_looks 101 rfl) (by decide) ?_
        refine lv_goto (tgt := 199) hx hb (dX12_looks 102 rfl) (by decide) ?_
        exact lab199 f_slowed_88 f_risked_88 r_truths_88 v7_88 v8_88 v7_88 (1 : Int32) H locs ls hP hD hS (lv_sub hl [4, 5, 6, 7, 8] rfl) hm
      replace hm := hm.1 c35
      refine lv_iload hx hb (dX12_looks 88 rfl) (lv_at hl 2 rfl) ?_
      refine lv_iload hx hb (dX12_looks 89 rfl) (lv_at hl 0 rfl) ?_
      refine lv_icmp_ge (tgt := 162) hx hb (dX12_looks 90 rfl) (by decide) (fun c41 => ?_) (fun c41 => ?_)
      · replace hm := hm.1 c41
        refine lv_iconst (v := (0 : Int32)) hx hb (dX12_looks 93 rfl) (by decide) ?_
        refine lv_goto (tgt := 199) hx hb (dX12_looks 94 rfl) (by decide) ?_
        exact lab199 f_slowed_88 f_risked_88 r_truths_88 v7_88 v8_88 v7_88 (0 : Int32) H locs ls hP hD hS (lv_sub hl [4, 5, 6, 7, 8] rfl) hm
      replace hm := hm.2 c41
      refine lv_iconst (v := (1 : Int32)) hx hb (dX12_looks 91 rfl) (by decide) ?_
      refine lv_goto (tgt := 199) hx hb (dX12_looks 92 rfl) (by decide) ?_
      exact lab199 f_slowed_88 f_risked_88 r_truths_88 v7_88 v8_88 v7_88 (1 : Int32) H locs ls hP hD hS (lv_sub hl [4, 5, 6, 7, 8] rfl) hm
  obtain ⟨H, hH⟩ : ∃ H, H = s.heap := ⟨_, rfl⟩
  obtain ⟨locs, hlo⟩ : ∃ q : List Loc, q = [] := ⟨_, rfl⟩
  suffices hgo : W p l e rmX12_looks s m args below meth c H locs 0 0 Z (F0 m 0 ls []) by rw [hH, hlo] at hgo; exact hgo
  have hP : va_P D vwCl [(h, .inr (12, [.int f_thrown, .ref q_s, .ref q_image, .ref q_frame, .int f_hasImage, .int f_act, .int f_spot, .int f_end, .int f_isWrong, .int f_open, .ref q_by, .ref q_truths, .int f_slowed, .int f_risked, .int f_gapNow, .int f_giver, .ref q_known, .ref q_leapt, .int f_turnsMany, .ref q_trying, .ref q_bestOrder, .int f_leastTime, .ref q_ended, .ref q_bodies, .int f_ran, .int f_kind, .int f_number, .int f_tellsV])), (q_s, .inl (cI, 903, .inl r_s)), (q_by, .inl (cI, 5, .inl r_by)), (q_truths, .inl (cZ, 64, .inl r_truths))] H := by rw [hH]; exact hP
  have hD : va_D A [(h, .inr (12, [.int f_thrown, .ref q_s, .ref q_image, .ref q_frame, .int f_hasImage, .int f_act, .int f_spot, .int f_end, .int f_isWrong, .int f_open, .ref q_by, .ref q_truths, .int f_slowed, .int f_risked, .int f_gapNow, .int f_giver, .ref q_known, .ref q_leapt, .int f_turnsMany, .ref q_trying, .ref q_bestOrder, .int f_leastTime, .ref q_ended, .ref q_bodies, .int f_ran, .int f_kind, .int f_number, .int f_tellsV])), (q_s, .inl (cI, 903, .inl r_s)), (q_by, .inl (cI, 5, .inl r_by)), (q_truths, .inl (cZ, 64, .inl r_truths))] := hD
  have hS : va_S A s.heap H locs := by rw [hH, hlo]; exact hS
  refine lv_aload_n hx hb (dX12_looks 0 rfl) rfl (lv_at hl 0 rfl) ?_
  refine va_get (D := D) (ci := 12) (v := .ref q_by) (C := RX12) (T := TX12) (N := 28) hx hb hts inlX12 hown hK hP 0 rfl rfl 10 (by decide) (hts (.fieldLink RX12 21 "OverBacksModel" "by" "[I") (inR3 _ (List.mem_of_getElem? (i := 23) rfl))) (fun _ h9 => h9) rfl (dX12_looks 1 rfl) ?_
  refine lv_iconst (v := (0 : Int32)) hx hb (dX12_looks 2 rfl) (by decide) ?_
  refine lv_iload_n hx hb (dX12_looks 3 rfl) rfl (lv_at hl 1 rfl) ?_
  refine va_iast hx hb hK hP hD hS 2 0 rfl rfl (ob_in (by decide)) (dX12_looks 4 rfl) (fun H locs hP hD hS => ?_)
  obtain ⟨y1, ey1⟩ : ∃ q : Nat → Int32, q = upd r_by (0 : Int32).toNatClampNeg a1 := ⟨_, rfl⟩
  replace hm := hm y1 ey1
  have hP : va_P D vwCl [(h, .inr (12, [.int f_thrown, .ref q_s, .ref q_image, .ref q_frame, .int f_hasImage, .int f_act, .int f_spot, .int f_end, .int f_isWrong, .int f_open, .ref q_by, .ref q_truths, .int f_slowed, .int f_risked, .int f_gapNow, .int f_giver, .ref q_known, .ref q_leapt, .int f_turnsMany, .ref q_trying, .ref q_bestOrder, .int f_leastTime, .ref q_ended, .ref q_bodies, .int f_ran, .int f_kind, .int f_number, .int f_tellsV])), (q_s, .inl (cI, 903, .inl r_s)), (q_by, .inl (cI, 5, .inl y1)), (q_truths, .inl (cZ, 64, .inl r_truths))] H := by rw [ey1]; exact hP
  have hD : va_D A [(h, .inr (12, [.int f_thrown, .ref q_s, .ref q_image, .ref q_frame, .int f_hasImage, .int f_act, .int f_spot, .int f_end, .int f_isWrong, .int f_open, .ref q_by, .ref q_truths, .int f_slowed, .int f_risked, .int f_gapNow, .int f_giver, .ref q_known, .ref q_leapt, .int f_turnsMany, .ref q_trying, .ref q_bestOrder, .int f_leastTime, .ref q_ended, .ref q_bodies, .int f_ran, .int f_kind, .int f_number, .int f_tellsV])), (q_s, .inl (cI, 903, .inl r_s)), (q_by, .inl (cI, 5, .inl y1)), (q_truths, .inl (cZ, 64, .inl r_truths))] := by rw [ey1]; exact hD
  refine lv_aload_n hx hb (dX12_looks 5 rfl) rfl (lv_at hl 0 rfl) ?_
  refine va_get (D := D) (ci := 12) (v := .ref q_by) (C := RX12) (T := TX12) (N := 28) hx hb hts inlX12 hown hK hP 0 rfl rfl 10 (by decide) (hts (.fieldLink RX12 21 "OverBacksModel" "by" "[I") (inR3 _ (List.mem_of_getElem? (i := 23) rfl))) (fun _ h9 => h9) rfl (dX12_looks 6 rfl) ?_
  refine lv_iconst (v := (1 : Int32)) hx hb (dX12_looks 7 rfl) (by decide) ?_
  refine lv_iload_n hx hb (dX12_looks 8 rfl) rfl (lv_at hl 2 rfl) ?_
  refine va_iast hx hb hK hP hD hS 2 0 rfl rfl (ob_in (by decide)) (dX12_looks 9 rfl) (fun H locs hP hD hS => ?_)
  obtain ⟨y2, ey2⟩ : ∃ q : Nat → Int32, q = upd y1 (1 : Int32).toNatClampNeg a2 := ⟨_, rfl⟩
  replace hm := hm y2 ey2
  have hP : va_P D vwCl [(h, .inr (12, [.int f_thrown, .ref q_s, .ref q_image, .ref q_frame, .int f_hasImage, .int f_act, .int f_spot, .int f_end, .int f_isWrong, .int f_open, .ref q_by, .ref q_truths, .int f_slowed, .int f_risked, .int f_gapNow, .int f_giver, .ref q_known, .ref q_leapt, .int f_turnsMany, .ref q_trying, .ref q_bestOrder, .int f_leastTime, .ref q_ended, .ref q_bodies, .int f_ran, .int f_kind, .int f_number, .int f_tellsV])), (q_s, .inl (cI, 903, .inl r_s)), (q_by, .inl (cI, 5, .inl y2)), (q_truths, .inl (cZ, 64, .inl r_truths))] H := by rw [ey2]; exact hP
  have hD : va_D A [(h, .inr (12, [.int f_thrown, .ref q_s, .ref q_image, .ref q_frame, .int f_hasImage, .int f_act, .int f_spot, .int f_end, .int f_isWrong, .int f_open, .ref q_by, .ref q_truths, .int f_slowed, .int f_risked, .int f_gapNow, .int f_giver, .ref q_known, .ref q_leapt, .int f_turnsMany, .ref q_trying, .ref q_bestOrder, .int f_leastTime, .ref q_ended, .ref q_bodies, .int f_ran, .int f_kind, .int f_number, .int f_tellsV])), (q_s, .inl (cI, 903, .inl r_s)), (q_by, .inl (cI, 5, .inl y2)), (q_truths, .inl (cZ, 64, .inl r_truths))] := by rw [ey2]; exact hD
  refine lv_aload_n hx hb (dX12_looks 10 rfl) rfl (lv_at hl 0 rfl) ?_
  refine va_get (D := D) (ci := 12) (v := .ref q_by) (C := RX12) (T := TX12) (N := 28) hx hb hts inlX12 hown hK hP 0 rfl rfl 10 (by decide) (hts (.fieldLink RX12 21 "OverBacksModel" "by" "[I") (inR3 _ (List.mem_of_getElem? (i := 23) rfl))) (fun _ h9 => h9) rfl (dX12_looks 11 rfl) ?_
  refine lv_iconst (v := (2 : Int32)) hx hb (dX12_looks 12 rfl) (by decide) ?_
  refine lv_aload_n hx hb (dX12_looks 13 rfl) rfl (lv_at hl 0 rfl) ?_
  refine va_get (D := D) (ci := 12) (v := .ref q_s) (C := RX12) (T := TX12) (N := 28) hx hb hts inlX12 hown hK hP 0 rfl rfl 1 (by decide) (hts (.fieldLink RX12 9 "OverBacksModel" "s" "[I") (inR3 _ (List.mem_of_getElem? (i := 20) rfl))) (fun _ h9 => h9) rfl (dX12_looks 14 rfl) ?_
  refine lv_bipush (v := (24 : Int32)) hx hb (dX12_looks 15 rfl) (by decide) ?_
  refine lv_iload_n hx hb (dX12_looks 16 rfl) rfl (lv_at hl 1 rfl) ?_
  refine lv_iadd hx hb (dX12_looks 17 rfl) ?_
  refine va_iald hx hb hK hP 1 0 rfl rfl hm.1 (dX12_looks 18 rfl) ?_
  replace hm := hm.2
  refine va_iast hx hb hK hP hD hS 2 0 rfl rfl (ob_in (by decide)) (dX12_looks 19 rfl) (fun H locs hP hD hS => ?_)
  obtain ⟨y3, ey3⟩ : ∃ q : Nat → Int32, q = upd y2 (2 : Int32).toNatClampNeg (r_s ((24 : Int32) + a1).toNatClampNeg) := ⟨_, rfl⟩
  replace hm := hm y3 ey3
  have hP : va_P D vwCl [(h, .inr (12, [.int f_thrown, .ref q_s, .ref q_image, .ref q_frame, .int f_hasImage, .int f_act, .int f_spot, .int f_end, .int f_isWrong, .int f_open, .ref q_by, .ref q_truths, .int f_slowed, .int f_risked, .int f_gapNow, .int f_giver, .ref q_known, .ref q_leapt, .int f_turnsMany, .ref q_trying, .ref q_bestOrder, .int f_leastTime, .ref q_ended, .ref q_bodies, .int f_ran, .int f_kind, .int f_number, .int f_tellsV])), (q_s, .inl (cI, 903, .inl r_s)), (q_by, .inl (cI, 5, .inl y3)), (q_truths, .inl (cZ, 64, .inl r_truths))] H := by rw [ey3]; exact hP
  have hD : va_D A [(h, .inr (12, [.int f_thrown, .ref q_s, .ref q_image, .ref q_frame, .int f_hasImage, .int f_act, .int f_spot, .int f_end, .int f_isWrong, .int f_open, .ref q_by, .ref q_truths, .int f_slowed, .int f_risked, .int f_gapNow, .int f_giver, .ref q_known, .ref q_leapt, .int f_turnsMany, .ref q_trying, .ref q_bestOrder, .int f_leastTime, .ref q_ended, .ref q_bodies, .int f_ran, .int f_kind, .int f_number, .int f_tellsV])), (q_s, .inl (cI, 903, .inl r_s)), (q_by, .inl (cI, 5, .inl y3)), (q_truths, .inl (cZ, 64, .inl r_truths))] := by rw [ey3]; exact hD
  refine lv_aload_n hx hb (dX12_looks 20 rfl) rfl (lv_at hl 0 rfl) ?_
  refine va_get (D := D) (ci := 12) (v := .ref q_by) (C := RX12) (T := TX12) (N := 28) hx hb hts inlX12 hown hK hP 0 rfl rfl 10 (by decide) (hts (.fieldLink RX12 21 "OverBacksModel" "by" "[I") (inR3 _ (List.mem_of_getElem? (i := 23) rfl))) (fun _ h9 => h9) rfl (dX12_looks 21 rfl) ?_
  refine lv_iconst (v := (3 : Int32)) hx hb (dX12_looks 22 rfl) (by decide) ?_
  refine lv_iload_n hx hb (dX12_looks 23 rfl) rfl (lv_at hl 3 rfl) ?_
  refine va_iast hx hb hK hP hD hS 2 0 rfl rfl (ob_in (by decide)) (dX12_looks 24 rfl) (fun H locs hP hD hS => ?_)
  obtain ⟨y4, ey4⟩ : ∃ q : Nat → Int32, q = upd y3 (3 : Int32).toNatClampNeg a3 := ⟨_, rfl⟩
  replace hm := hm y4 ey4
  have hP : va_P D vwCl [(h, .inr (12, [.int f_thrown, .ref q_s, .ref q_image, .ref q_frame, .int f_hasImage, .int f_act, .int f_spot, .int f_end, .int f_isWrong, .int f_open, .ref q_by, .ref q_truths, .int f_slowed, .int f_risked, .int f_gapNow, .int f_giver, .ref q_known, .ref q_leapt, .int f_turnsMany, .ref q_trying, .ref q_bestOrder, .int f_leastTime, .ref q_ended, .ref q_bodies, .int f_ran, .int f_kind, .int f_number, .int f_tellsV])), (q_s, .inl (cI, 903, .inl r_s)), (q_by, .inl (cI, 5, .inl y4)), (q_truths, .inl (cZ, 64, .inl r_truths))] H := by rw [ey4]; exact hP
  have hD : va_D A [(h, .inr (12, [.int f_thrown, .ref q_s, .ref q_image, .ref q_frame, .int f_hasImage, .int f_act, .int f_spot, .int f_end, .int f_isWrong, .int f_open, .ref q_by, .ref q_truths, .int f_slowed, .int f_risked, .int f_gapNow, .int f_giver, .ref q_known, .ref q_leapt, .int f_turnsMany, .ref q_trying, .ref q_bestOrder, .int f_leastTime, .ref q_ended, .ref q_bodies, .int f_ran, .int f_kind, .int f_number, .int f_tellsV])), (q_s, .inl (cI, 903, .inl r_s)), (q_by, .inl (cI, 5, .inl y4)), (q_truths, .inl (cZ, 64, .inl r_truths))] := by rw [ey4]; exact hD
  refine lv_aload_n hx hb (dX12_looks 25 rfl) rfl (lv_at hl 0 rfl) ?_
  refine va_get (D := D) (ci := 12) (v := .ref q_by) (C := RX12) (T := TX12) (N := 28) hx hb hts inlX12 hown hK hP 0 rfl rfl 10 (by decide) (hts (.fieldLink RX12 21 "OverBacksModel" "by" "[I") (inR3 _ (List.mem_of_getElem? (i := 23) rfl))) (fun _ h9 => h9) rfl (dX12_looks 26 rfl) ?_
  refine lv_iconst (v := (4 : Int32)) hx hb (dX12_looks 27 rfl) (by decide) ?_
  refine lv_iload hx hb (dX12_looks 28 rfl) (lv_at hl 4 rfl) ?_
  refine va_iast hx hb hK hP hD hS 2 0 rfl rfl (ob_in (by decide)) (dX12_looks 29 rfl) (fun H locs hP hD hS => ?_)
  obtain ⟨y5, ey5⟩ : ∃ q : Nat → Int32, q = upd y4 (4 : Int32).toNatClampNeg a4 := ⟨_, rfl⟩
  replace hm := hm y5 ey5
  have hP : va_P D vwCl [(h, .inr (12, [.int f_thrown, .ref q_s, .ref q_image, .ref q_frame, .int f_hasImage, .int f_act, .int f_spot, .int f_end, .int f_isWrong, .int f_open, .ref q_by, .ref q_truths, .int f_slowed, .int f_risked, .int f_gapNow, .int f_giver, .ref q_known, .ref q_leapt, .int f_turnsMany, .ref q_trying, .ref q_bestOrder, .int f_leastTime, .ref q_ended, .ref q_bodies, .int f_ran, .int f_kind, .int f_number, .int f_tellsV])), (q_s, .inl (cI, 903, .inl r_s)), (q_by, .inl (cI, 5, .inl y5)), (q_truths, .inl (cZ, 64, .inl r_truths))] H := by rw [ey5]; exact hP
  have hD : va_D A [(h, .inr (12, [.int f_thrown, .ref q_s, .ref q_image, .ref q_frame, .int f_hasImage, .int f_act, .int f_spot, .int f_end, .int f_isWrong, .int f_open, .ref q_by, .ref q_truths, .int f_slowed, .int f_risked, .int f_gapNow, .int f_giver, .ref q_known, .ref q_leapt, .int f_turnsMany, .ref q_trying, .ref q_bestOrder, .int f_leastTime, .ref q_ended, .ref q_bodies, .int f_ran, .int f_kind, .int f_number, .int f_tellsV])), (q_s, .inl (cI, 903, .inl r_s)), (q_by, .inl (cI, 5, .inl y5)), (q_truths, .inl (cZ, 64, .inl r_truths))] := by rw [ey5]; exact hD
  refine lv_aload_n hx hb (dX12_looks 30 rfl) rfl (lv_at hl 0 rfl) ?_
  refine lv_iconst (v := (0 : Int32)) hx hb (dX12_looks 31 rfl) (by decide) ?_
  refine va_put (D := D) (ci := 12) (v := .int (0 : Int32)) (ty := .int) (C := RX12) (T := TX12) (N := 28) hx hb hts inlX12 tyX12 tyX12_ok nmX12 hown hK hP hD hS 0 rfl rfl 12 (by decide) (hts (.fieldLink RX12 135 "OverBacksModel" "slowed" "I") (inR24 _ (List.mem_of_getElem? (i := 12) rfl))) (fun _ h9 => h9) rfl (by decide +kernel) rfl rfl (Nat.le_of_ble_eq_true rfl) (dX12_looks 32 rfl) (fun H locs hP hD hS => ?_)
  have hP : va_P D vwCl [(h, .inr (12, [.int f_thrown, .ref q_s, .ref q_image, .ref q_frame, .int f_hasImage, .int f_act, .int f_spot, .int f_end, .int f_isWrong, .int f_open, .ref q_by, .ref q_truths, .int (0 : Int32), .int f_risked, .int f_gapNow, .int f_giver, .ref q_known, .ref q_leapt, .int f_turnsMany, .ref q_trying, .ref q_bestOrder, .int f_leastTime, .ref q_ended, .ref q_bodies, .int f_ran, .int f_kind, .int f_number, .int f_tellsV])), (q_s, .inl (cI, 903, .inl r_s)), (q_by, .inl (cI, 5, .inl y5)), (q_truths, .inl (cZ, 64, .inl r_truths))] H := hP
  have hD : va_D A [(h, .inr (12, [.int f_thrown, .ref q_s, .ref q_image, .ref q_frame, .int f_hasImage, .int f_act, .int f_spot, .int f_end, .int f_isWrong, .int f_open, .ref q_by, .ref q_truths, .int (0 : Int32), .int f_risked, .int f_gapNow, .int f_giver, .ref q_known, .ref q_leapt, .int f_turnsMany, .ref q_trying, .ref q_bestOrder, .int f_leastTime, .ref q_ended, .ref q_bodies, .int f_ran, .int f_kind, .int f_number, .int f_tellsV])), (q_s, .inl (cI, 903, .inl r_s)), (q_by, .inl (cI, 5, .inl y5)), (q_truths, .inl (cZ, 64, .inl r_truths))] := hD
  refine lv_aload_n hx hb (dX12_looks 33 rfl) rfl (lv_at hl 0 rfl) ?_
  refine lv_iconst (v := (0 : Int32)) hx hb (dX12_looks 34 rfl) (by decide) ?_
  refine va_put (D := D) (ci := 12) (v := .int (0 : Int32)) (ty := .int) (C := RX12) (T := TX12) (N := 28) hx hb hts inlX12 tyX12 tyX12_ok nmX12 hown hK hP hD hS 0 rfl rfl 13 (by decide) (hts (.fieldLink RX12 138 "OverBacksModel" "risked" "I") (inR24 _ (List.mem_of_getElem? (i := 7) rfl))) (fun _ h9 => h9) rfl (by decide +kernel) rfl rfl (Nat.le_of_ble_eq_true rfl) (dX12_looks 35 rfl) (fun H locs hP hD hS => ?_)
  have hP : va_P D vwCl [(h, .inr (12, [.int f_thrown, .ref q_s, .ref q_image, .ref q_frame, .int f_hasImage, .int f_act, .int f_spot, .int f_end, .int f_isWrong, .int f_open, .ref q_by, .ref q_truths, .int (0 : Int32), .int (0 : Int32), .int f_gapNow, .int f_giver, .ref q_known, .ref q_leapt, .int f_turnsMany, .ref q_trying, .ref q_bestOrder, .int f_leastTime, .ref q_ended, .ref q_bodies, .int f_ran, .int f_kind, .int f_number, .int f_tellsV])), (q_s, .inl (cI, 903, .inl r_s)), (q_by, .inl (cI, 5, .inl y5)), (q_truths, .inl (cZ, 64, .inl r_truths))] H := hP
  have hD : va_D A [(h, .inr (12, [.int f_thrown, .ref q_s, .ref q_image, .ref q_frame, .int f_hasImage, .int f_act, .int f_spot, .int f_end, .int f_isWrong, .int f_open, .ref q_by, .ref q_truths, .int (0 : Int32), .int (0 : Int32), .int f_gapNow, .int f_giver, .ref q_known, .ref q_leapt, .int f_turnsMany, .ref q_trying, .ref q_bestOrder, .int f_leastTime, .ref q_ended, .ref q_bodies, .int f_ran, .int f_kind, .int f_number, .int f_tellsV])), (q_s, .inl (cI, 903, .inl r_s)), (q_by, .inl (cI, 5, .inl y5)), (q_truths, .inl (cZ, 64, .inl r_truths))] := hD
  refine lv_aload_n hx hb (dX12_looks 36 rfl) rfl (lv_at hl 0 rfl) ?_
  refine lv_sipush (v := (198 : Int32)) hx hb (dX12_looks 37 rfl) (by decide) ?_
  refine lv_iconst (v := (0 : Int32)) hx hb (dX12_looks 38 rfl) (by decide) ?_
  have hcut := ob_cut (wc := [(h, .inr (12, [.int f_thrown, .ref q_s, .ref q_image, .ref q_frame, .int f_hasImage, .int f_act, .int f_spot, .int f_end, .int f_isWrong, .int f_open, .ref q_by, .ref q_truths, .int (0 : Int32), .int (0 : Int32), .int f_gapNow, .int f_giver, .ref q_known, .ref q_leapt, .int f_turnsMany, .ref q_trying, .ref q_bestOrder, .int f_leastTime, .ref q_ended, .ref q_bodies, .int f_ran, .int f_kind, .int f_number, .int f_tellsV])), (q_s, .inl (cI, 903, .inl r_s))]) hP hD hS hA [0, 1] rfl (by decide)
  refine ob_i (wr := [(q_by, .inl (cI, 5, .inl y5)), (q_truths, .inl (cZ, 64, .inl r_truths))]) (ob_V (As := [.int (198 : Int32), .int (0 : Int32)]) (rest := []) ⟨hx, hb, hml, hown, hts⟩ hK hcut (hI.cut hS hcut.2.2) hN (va_recv hK hP (ci := 12) (q0 := 0) rfl rfl) (k_X12_tellsOf l D cI cZ cL im _ _ _ _ _ _ _ _ _ _ _ _ _ _ _ _ _ _ _ _ _ _ _ _ _ _ _ _ _ _ _ _ _ _ hm) (cwV 2 hts (gU_V (inR21 _ (List.mem_of_getElem? (i := 11) rfl)) (inR21 _ (List.mem_of_getElem? (i := 12) rfl)) (inR21 _ (List.mem_of_getElem? (i := 13) rfl)) (inR1 _ (List.mem_of_getElem? (i := 5) rfl)) (inR21 _ (List.mem_of_getElem? (i := 14) rfl))) rfl rfl rfl (by decide +kernel) ⟨Nat.le_of_ble_eq_true rfl, Nat.le_of_ble_eq_true rfl⟩) rfl hl.1 rfl (Nat.le_of_ble_eq_true rfl) (dX12_looks 39 rfl) ⟨Nat.zero_le _, Nat.zero_le _⟩) hP hD hS hcut [0, 1] [2, 3] rfl rfl (by decide) (by decide) (fun r6 u7 H locs hm hP hD hS => ?_)
  have hP := hP.sub (ws' := [(h, .inr (12, [.int f_thrown, .ref q_s, .ref q_image, .ref q_frame, .int f_hasImage, .int f_act, .int f_spot, .int f_end, .int f_isWrong, .int f_open, .ref q_by, .ref q_truths, .int (0 : Int32), .int (0 : Int32), .int f_gapNow, .int f_giver, .ref q_known, .ref q_leapt, .int f_turnsMany, .ref q_trying, .ref q_bestOrder, .int f_leastTime, .ref q_ended, .ref q_bodies, .int f_ran, .int f_kind, .int f_number, .int f_tellsV])), (q_s, .inl (cI, 903, .inl r_s)), (q_by, .inl (cI, 5, .inl y5)), (q_truths, .inl (cZ, 64, .inl r_truths))]) [2, 3, 0, 1] rfl
  have hD := hD.sub (ws' := [(h, .inr (12, [.int f_thrown, .ref q_s, .ref q_image, .ref q_frame, .int f_hasImage, .int f_act, .int f_spot, .int f_end, .int f_isWrong, .int f_open, .ref q_by, .ref q_truths, .int (0 : Int32), .int (0 : Int32), .int f_gapNow, .int f_giver, .ref q_known, .ref q_leapt, .int f_turnsMany, .ref q_trying, .ref q_bestOrder, .int f_leastTime, .ref q_ended, .ref q_bodies, .int f_ran, .int f_kind, .int f_number, .int f_tellsV])), (q_s, .inl (cI, 903, .inl r_s)), (q_by, .inl (cI, 5, .inl y5)), (q_truths, .inl (cZ, 64, .inl r_truths))]) [2, 3, 0, 1] (by decide) rfl
  refine lv_istore (lv' := [(5, .int r6), (0, .ref h), (1, .int a1), (2, .int a2), (3, .int a3), (4, .int a4)]) hx hb (dX12_looks 40 rfl) hl (by decide) rfl (fun ls hl => ?_)
  refine lv_sipush (v := (203 : Int32)) hx hb (dX12_looks 41 rfl) (by decide) ?_
  refine lv_sipush (v := (140 : Int32)) hx hb (dX12_looks 42 rfl) (by decide) ?_
  refine lv_aload_n hx hb (dX12_looks 43 rfl) rfl (lv_at hl 1 rfl) ?_
  refine va_get (D := D) (ci := 12) (v := .ref q_s) (C := RX12) (T := TX12) (N := 28) hx hb hts inlX12 hown hK hP 0 rfl rfl 1 (by decide) (hts (.fieldLink RX12 9 "OverBacksModel" "s" "[I") (inR3 _ (List.mem_of_getElem? (i := 20) rfl))) (fun _ h9 => h9) rfl (dX12_looks 44 rfl) ?_
  refine lv_bipush (v := (23 : Int32)) hx hb (dX12_looks 45 rfl) (by decide) ?_
  refine va_iald hx hb hK hP 1 0 rfl rfl (ob_in (by decide)) (dX12_looks 46 rfl) ?_
  refine lv_imul hx hb (dX12_looks 47 rfl) ?_
  refine lv_iadd hx hb (dX12_looks 48 rfl) ?_
  refine lv_topi (fun x8 ex8 => ?_)
  replace hm := hm x8 ex8
  refine lv_istore (lv' := [(6, .int x8), (5, .int r6), (0, .ref h), (1, .int a1), (2, .int a2), (3, .int a3), (4, .int a4)]) hx hb (dX12_looks 49 rfl) hl (by decide) rfl (fun ls hl => ?_)
  refine lv_iconst (v := (0 : Int32)) hx hb (dX12_looks 50 rfl) (by decide) ?_
  refine lv_topi (fun x9 ex9 => ?_)
  replace hm := hm x9 ex9
  refine lv_istore (lv' := [(7, .int x9), (6, .int x8), (5, .int r6), (0, .ref h), (1, .int a1), (2, .int a2), (3, .int a3), (4, .int a4)]) hx hb (dX12_looks 51 rfl) hl (by decide) rfl (fun ls hl => ?_)
  refine lv_iload hx hb (dX12_looks 52 rfl) (lv_at hl 1 rfl) ?_
  refine lv_istore (lv' := [(8, .int x8), (7, .int x9), (6, .int x8), (5, .int r6), (0, .ref h), (1, .int a1), (2, .int a2), (3, .int a3), (4, .int a4)]) hx hb (dX12_looks 53 rfl) hl (by decide) rfl (fun ls hl => ?_)
  obtain ⟨n42, hm⟩ := hm
  exact lab88 y5 r6 x8 n42 (0 : Int32) (0 : Int32) r_truths x9 x8 H locs ls hP hD hS (lv_sub hl [4, 3, 2, 1, 0] rfl) hm
abbrev rmX12_person : Room := { frames := 1, cells := 0, slots := 0, locals := 22 }
set_option maxHeartbeats 4000000 in
set_option maxRecDepth 100000 in
theorem k_X12_person (l : Launch) (D : va_G) (cI cZ cL : ClassId) (im : obIM) (sz : Nat) (h : Nat) (f_thrown : Int32) (q_s : Nat) (q_image : Nat) (q_frame : Nat) (f_hasImage : Int32) (f_act : Int32) (f_spot : Int32) (f_end : Int32) (f_isWrong : Int32) (f_open : Int32) (q_by : Nat) (q_truths : Nat) (f_slowed : Int32) (f_risked : Int32) (f_gapNow : Int32) (f_giver : Int32) (q_known : Nat) (q_leapt : Nat) (f_turnsMany : Int32) (q_trying : Nat) (q_bestOrder : Nat) (f_leastTime : Int32) (q_ended : Nat) (q_bodies : Nat) (f_ran : Int32) (f_kind : Int32) (f_number : Int32) (f_tellsV : Int32) (r_s : Nat → Int32) (a1 : Int32) (a2 : Int32) (a3 : Int32) (Q : Int32 → (Nat → Int32) → Prop) (hm : m_X12_person r_s a1 a2 a3 Q) : Met l yX12_person (Cond.code yX12_person cX12_person 6 (some .int) :: wsL_law) rmX12_person (obPre D (tyG cI cZ cL) im [(h, .inr (12, [.int f_thrown, .ref q_s, .ref q_image, .ref q_frame, .int f_hasImage, .int f_act, .int f_spot, .int f_end, .int f_isWrong, .int f_open, .ref q_by, .ref q_truths, .int f_slowed, .int f_risked, .int f_gapNow, .int f_giver, .ref q_known, .ref q_leapt, .int f_turnsMany, .ref q_trying, .ref q_bestOrder, .int f_leastTime, .ref q_ended, .ref q_bodies, .int f_ran, .int f_kind, .int f_number, .int f_tellsV])), (q_s, .inl (cI, 903, .inl r_s))] sz [.ref h, .int a1, .int a2, .int a3]) (va_Qi (fun (r : Int32) (u : (Nat → Int32)) => Q r u) (obB D (va_A [(h, .inr (12, [.int f_thrown, .ref q_s, .ref q_image, .ref q_frame, .int f_hasImage, .int f_act, .int f_spot, .int f_end, .int f_isWrong, .int f_open, .ref q_by, .ref q_truths, .int f_slowed, .int f_risked, .int f_gapNow, .int f_giver, .ref q_known, .ref q_leapt, .int f_turnsMany, .ref q_trying, .ref q_bestOrder, .int f_leastTime, .ref q_ended, .ref q_bodies, .int f_ran, .int f_kind, .int f_number, .int f_tellsV])), (q_s, .inl (cI, 903, .inl r_s))] sz) (fun u : (Nat → Int32) => [(h, .inr (12, [.int f_thrown, .ref q_s, .ref q_image, .ref q_frame, .int f_hasImage, .int f_act, .int f_spot, .int f_end, .int f_isWrong, .int f_open, .ref q_by, .ref q_truths, .int f_slowed, .int f_risked, .int f_gapNow, .int f_giver, .ref q_known, .ref q_leapt, .int f_turnsMany, .ref q_trying, .ref q_bestOrder, .int f_leastTime, .ref q_ended, .ref q_bodies, .int f_ran, .int f_kind, .int f_number, .int f_tellsV])), (q_s, .inl (cI, 903, .inl u))])) (va_A [(h, .inr (12, [.int f_thrown, .ref q_s, .ref q_image, .ref q_frame, .int f_hasImage, .int f_act, .int f_spot, .int f_end, .int f_isWrong, .int f_open, .ref q_by, .ref q_truths, .int f_slowed, .int f_risked, .int f_gapNow, .int f_giver, .ref q_known, .ref q_leapt, .int f_turnsMany, .ref q_trying, .ref q_bestOrder, .int f_leastTime, .ref q_ended, .ref q_bodies, .int f_ran, .int f_kind, .int f_number, .int f_tellsV])), (q_s, .inl (cI, 903, .inl r_s))] sz)) 0 0 (va_A [(h, .inr (12, [.int f_thrown, .ref q_s, .ref q_image, .ref q_frame, .int f_hasImage, .int f_act, .int f_spot, .int f_end, .int f_isWrong, .int f_open, .ref q_by, .ref q_truths, .int f_slowed, .int f_risked, .int f_gapNow, .int f_giver, .ref q_known, .ref q_leapt, .int f_turnsMany, .ref q_trying, .ref q_bestOrder, .int f_leastTime, .ref q_ended, .ref q_bodies, .int f_ran, .int f_kind, .int f_number, .int f_tellsV])), (q_s, .inl (cI, 903, .inl r_s))] sz) := by
  refine ob_met_i (cc := cX12_person) (maxL := 6) (by decide) (Nat.le_of_ble_eq_true rfl) (fun p e s m args below meth c A Z hx hb hml hown hts hnm hN hK hA hI hP hD hS hZ ls hl => ?_)
  have hl : lv_has ls 6 [(0, .ref h), (1, .int a1), (2, .int a2), (3, .int a3)] := hl
  unfold m_X12_person at hm
  have lab107 : ∀ (v4_107 : Int32) (n107 : Nat) (r_s_107 : Nat → Int32) (v5_107 : Int32) , ∀ (H : Heap) (locs : List Loc) (ls : Array Slot), va_P D vwCl [(h, .inr (12, [.int f_thrown, .ref q_s, .ref q_image, .ref q_frame, .int f_hasImage, .int f_act, .int f_spot, .int f_end, .int f_isWrong, .int f_open, .ref q_by, .ref q_truths, .int f_slowed, .int f_risked, .int f_gapNow, .int f_giver, .ref q_known, .ref q_leapt, .int f_turnsMany, .ref q_trying, .ref q_bestOrder, .int f_leastTime, .ref q_ended, .ref q_bodies, .int f_ran, .int f_kind, .int f_number, .int f_tellsV])), (q_s, .inl (cI, 903, .inl r_s_107))] H → va_D A [(h, .inr (12, [.int f_thrown, .ref q_s, .ref q_image, .ref q_frame, .int f_hasImage, .int f_act, .int f_spot, .int f_end, .int f_isWrong, .int f_open, .ref q_by, .ref q_truths, .int f_slowed, .int f_risked, .int f_gapNow, .int f_giver, .ref q_known, .ref q_leapt, .int f_turnsMany, .ref q_trying, .ref q_bestOrder, .int f_leastTime, .ref q_ended, .ref q_bodies, .int f_ran, .int f_kind, .int f_number, .int f_tellsV])), (q_s, .inl (cI, 903, .inl r_s_107))] → va_S A s.heap H locs → lv_has ls 6 [(0, .ref h), (4, .int v4_107), (5, .int v5_107)] → m_X12_person_L107 v4_107 Q n107 r_s_107 v5_107 → W p l e rmX12_person s m args below meth c H locs 0 0 Z (F0 m 107 ls []) := by
    clear hm
    intro v4_107
    intro n107
    induction n107 with
    | zero =>
      intro r_s_107 v5_107 H locs ls hP hD hS hl hm
      exact hm.elim
    | succ n107 ih107 =>
      intro r_s_107 v5_107 H locs ls hP hD hS hl hm
      unfold m_X12_person_L107 at hm
      obtain ⟨K107, hK107⟩ : ∃ K : (Nat → Int32) → Int32 → Prop, K = m_X12_person_L107 v4_107 Q n107 := ⟨_, rfl⟩
      rw [← hK107] at hm ih107
      refine lv_iload hx hb (dX12_person 62 rfl) (lv_at hl 2 rfl) ?_
      refine lv_iconst (v := (3 : Int32)) hx hb (dX12_person 63 rfl) (by decide) ?_
      refine lv_icmp_ge (tgt := 135) hx hb (dX12_person 64 rfl) (by decide) (fun c17 => ?_) (fun c17 => ?_)
      · replace hm := hm.1 c17
        refine lv_aload_n hx hb (dX12_person 78 rfl) rfl (lv_at hl 0 rfl) ?_
        refine va_get (D := D) (ci := 12) (v := .ref q_s) (C := RX12) (T := TX12) (N := 28) hx hb hts inlX12 hown hK hP 0 rfl rfl 1 (by decide) (hts (.fieldLink RX12 9 "OverBacksModel" "s" "[I") (inR3 _ (List.mem_of_getElem? (i := 20) rfl))) (fun _ h9 => h9) rfl (dX12_person 79 rfl) ?_
        refine lv_iconst (v := (4 : Int32)) hx hb (dX12_person 80 rfl) (by decide) ?_
        refine lv_aload_n hx hb (dX12_person 81 rfl) rfl (lv_at hl 0 rfl) ?_
        refine va_get (D := D) (ci := 12) (v := .ref q_s) (C := RX12) (T := TX12) (N := 28) hx hb hts inlX12 hown hK hP 0 rfl rfl 1 (by decide) (hts (.fieldLink RX12 9 "OverBacksModel" "s" "[I") (inR3 _ (List.mem_of_getElem? (i := 20) rfl))) (fun _ h9 => h9) rfl (dX12_person 82 rfl) ?_
        refine lv_iconst (v := (3 : Int32)) hx hb (dX12_person 83 rfl) (by decide) ?_
        refine va_iald hx hb hK hP 1 0 rfl rfl (ob_in (by decide)) (dX12_person 84 rfl) ?_
        refine lv_iadd hx hb (dX12_person 85 rfl) ?_
        refine lv_iload hx hb (dX12_person 86 rfl) (lv_at hl 1 rfl) ?_
        refine va_iast hx hb hK hP hD hS 1 0 rfl rfl hm.1 (dX12_person 87 rfl) (fun H locs hP hD hS => ?_)
        replace hm := hm.2
        obtain ⟨y18, ey18⟩ : ∃ q : Nat → Int32, q = upd r_s_107 ((4 : Int32) + (r_s_107 (3 : Int32).toNatClampNeg)).toNatClampNeg v4_107 := ⟨_, rfl⟩
        replace hm := hm y18 ey18
        have hP : va_P D vwCl [(h, .inr (12, [.int f_thrown, .ref q_s, .ref q_image, .ref q_frame, .int f_hasImage, .int f_act, .int f_spot, .int f_end, .int f_isWrong, .int f_open, .ref q_by, .ref q_truths, .int f_slowed, .int f_risked, .int f_gapNow, .int f_giver, .ref q_known, .ref q_leapt, .int f_turnsMany, .ref q_trying, .ref q_bestOrder, .int f_leastTime, .ref q_ended, .ref q_bodies, .int f_ran, .int f_kind, .int f_number, .int f_tellsV])), (q_s, .inl (cI, 903, .inl y18))] H := by rw [ey18]; exact hP
        have hD : va_D A [(h, .inr (12, [.int f_thrown, .ref q_s, .ref q_image, .ref q_frame, .int f_hasImage, .int f_act, .int f_spot, .int f_end, .int f_isWrong, .int f_open, .ref q_by, .ref q_truths, .int f_slowed, .int f_risked, .int f_gapNow, .int f_giver, .ref q_known, .ref q_leapt, .int f_turnsMany, .ref q_trying, .ref q_bestOrder, .int f_leastTime, .ref q_ended, .ref q_bodies, .int f_ran, .int f_kind, .int f_number, .int f_tellsV])), (q_s, .inl (cI, 903, .inl y18))] := by rw [ey18]; exact hD
        refine lv_aload_n hx hb (dX12_person 88 rfl) rfl (lv_at hl 0 rfl) ?_
        refine va_get (D := D) (ci := 12) (v := .ref q_s) (C := RX12) (T := TX12) (N := 28) hx hb hts inlX12 hown hK hP 0 rfl rfl 1 (by decide) (hts (.fieldLink RX12 9 "OverBacksModel" "s" "[I") (inR3 _ (List.mem_of_getElem? (i := 20) rfl))) (fun _ h9 => h9) rfl (dX12_person 89 rfl) ?_
        refine lv_iconst (v := (3 : Int32)) hx hb (dX12_person 90 rfl) (by decide) ?_
        refine lv_dup2_11 hx hb (dX12_person 91 rfl) rfl rfl ?_
        refine va_iald hx hb hK hP 1 0 rfl rfl (ob_in (by decide)) (dX12_person 92 rfl) ?_
        refine lv_iconst (v := (1 : Int32)) hx hb (dX12_person 93 rfl) (by decide) ?_
        refine lv_iadd hx hb (dX12_person 94 rfl) ?_
        refine va_iast hx hb hK hP hD hS 1 0 rfl rfl (ob_in (by decide)) (dX12_person 95 rfl) (fun H locs hP hD hS => ?_)
        obtain ⟨y19, ey19⟩ : ∃ q : Nat → Int32, q = upd y18 (3 : Int32).toNatClampNeg ((y18 (3 : Int32).toNatClampNeg) + (1 : Int32)) := ⟨_, rfl⟩
        replace hm := hm y19 ey19
        have hP : va_P D vwCl [(h, .inr (12, [.int f_thrown, .ref q_s, .ref q_image, .ref q_frame, .int f_hasImage, .int f_act, .int f_spot, .int f_end, .int f_isWrong, .int f_open, .ref q_by, .ref q_truths, .int f_slowed, .int f_risked, .int f_gapNow, .int f_giver, .ref q_known, .ref q_leapt, .int f_turnsMany, .ref q_trying, .ref q_bestOrder, .int f_leastTime, .ref q_ended, .ref q_bodies, .int f_ran, .int f_kind, .int f_number, .int f_tellsV])), (q_s, .inl (cI, 903, .inl y19))] H := by rw [ey19]; exact hP
        have hD : va_D A [(h, .inr (12, [.int f_thrown, .ref q_s, .ref q_image, .ref q_frame, .int f_hasImage, .int f_act, .int f_spot, .int f_end, .int f_isWrong, .int f_open, .ref q_by, .ref q_truths, .int f_slowed, .int f_risked, .int f_gapNow, .int f_giver, .ref q_known, .ref q_leapt, .int f_turnsMany, .ref q_trying, .ref q_bestOrder, .int f_leastTime, .ref q_ended, .ref q_bodies, .int f_ran, .int f_kind, .int f_number, .int f_tellsV])), (q_s, .inl (cI, 903, .inl y19))] := by rw [ey19]; exact hD
        refine lv_aload_n hx hb (dX12_person 96 rfl) rfl (lv_at hl 0 rfl) ?_
        refine va_get (D := D) (ci := 12) (v := .ref q_s) (C := RX12) (T := TX12) (N := 28) hx hb hts inlX12 hown hK hP 0 rfl rfl 1 (by decide) (hts (.fieldLink RX12 9 "OverBacksModel" "s" "[I") (inR3 _ (List.mem_of_getElem? (i := 20) rfl))) (fun _ h9 => h9) rfl (dX12_person 97 rfl) ?_
        refine lv_bipush (v := (18 : Int32)) hx hb (dX12_person 98 rfl) (by decide) ?_
        refine lv_dup2_11 hx hb (dX12_person 99 rfl) rfl rfl ?_
        refine va_iald hx hb hK hP 1 0 rfl rfl (ob_in (by decide)) (dX12_person 100 rfl) ?_
        refine lv_iconst (v := (1 : Int32)) hx hb (dX12_person 101 rfl) (by decide) ?_
        refine lv_iadd hx hb (dX12_person 102 rfl) ?_
        refine va_iast hx hb hK hP hD hS 1 0 rfl rfl (ob_in (by decide)) (dX12_person 103 rfl) (fun H locs hP hD hS => ?_)
        obtain ⟨y20, ey20⟩ : ∃ q : Nat → Int32, q = upd y19 (18 : Int32).toNatClampNeg ((y19 (18 : Int32).toNatClampNeg) + (1 : Int32)) := ⟨_, rfl⟩
        replace hm := hm y20 ey20
        have hP : va_P D vwCl [(h, .inr (12, [.int f_thrown, .ref q_s, .ref q_image, .ref q_frame, .int f_hasImage, .int f_act, .int f_spot, .int f_end, .int f_isWrong, .int f_open, .ref q_by, .ref q_truths, .int f_slowed, .int f_risked, .int f_gapNow, .int f_giver, .ref q_known, .ref q_leapt, .int f_turnsMany, .ref q_trying, .ref q_bestOrder, .int f_leastTime, .ref q_ended, .ref q_bodies, .int f_ran, .int f_kind, .int f_number, .int f_tellsV])), (q_s, .inl (cI, 903, .inl y20))] H := by rw [ey20]; exact hP
        have hD : va_D A [(h, .inr (12, [.int f_thrown, .ref q_s, .ref q_image, .ref q_frame, .int f_hasImage, .int f_act, .int f_spot, .int f_end, .int f_isWrong, .int f_open, .ref q_by, .ref q_truths, .int f_slowed, .int f_risked, .int f_gapNow, .int f_giver, .ref q_known, .ref q_leapt, .int f_turnsMany, .ref q_trying, .ref q_bestOrder, .int f_leastTime, .ref q_ended, .ref q_bodies, .int f_ran, .int f_kind, .int f_number, .int f_tellsV])), (q_s, .inl (cI, 903, .inl y20))] := by rw [ey20]; exact hD
        refine lv_iload hx hb (dX12_person 104 rfl) (lv_at hl 1 rfl) ?_
        exact hZ v4_107 y20 H locs ls 173 hm hP hD hS (dX12_person 105 rfl) rfl
      replace hm := hm.2 c17
      refine lv_aload_n hx hb (dX12_person 65 rfl) rfl (lv_at hl 0 rfl) ?_
      refine va_get (D := D) (ci := 12) (v := .ref q_s) (C := RX12) (T := TX12) (N := 28) hx hb hts inlX12 hown hK hP 0 rfl rfl 1 (by decide) (hts (.fieldLink RX12 9 "OverBacksModel" "s" "[I") (inR3 _ (List.mem_of_getElem? (i := 20) rfl))) (fun _ h9 => h9) rfl (dX12_person 66 rfl) ?_
      refine lv_bipush (v := (45 : Int32)) hx hb (dX12_person 67 rfl) (by decide) ?_
      refine lv_iconst (v := (3 : Int32)) hx hb (dX12_person 68 rfl) (by decide) ?_
      refine lv_iload hx hb (dX12_person 69 rfl) (lv_at hl 1 rfl) ?_
      refine lv_imul hx hb (dX12_person 70 rfl) ?_
      refine lv_iadd hx hb (dX12_person 71 rfl) ?_
      refine lv_iload hx hb (dX12_person 72 rfl) (lv_at hl 2 rfl) ?_
      refine lv_iadd hx hb (dX12_person 73 rfl) ?_
      refine lv_iconst (v := (0 : Int32)) hx hb (dX12_person 74 rfl) (by decide) ?_
      refine va_iast hx hb hK hP hD hS 1 0 rfl rfl hm.1 (dX12_person 75 rfl) (fun H locs hP hD hS => ?_)
      replace hm := hm.2
      obtain ⟨y21, ey21⟩ : ∃ q : Nat → Int32, q = upd r_s_107 (((45 : Int32) + ((3 : Int32) * v4_107)) + v5_107).toNatClampNeg (0 : Int32) := ⟨_, rfl⟩
      replace hm := hm y21 ey21
      have hP : va_P D vwCl [(h, .inr (12, [.int f_thrown, .ref q_s, .ref q_image, .ref q_frame, .int f_hasImage, .int f_act, .int f_spot, .int f_end, .int f_isWrong, .int f_open, .ref q_by, .ref q_truths, .int f_slowed, .int f_risked, .int f_gapNow, .int f_giver, .ref q_known, .ref q_leapt, .int f_turnsMany, .ref q_trying, .ref q_bestOrder, .int f_leastTime, .ref q_ended, .ref q_bodies, .int f_ran, .int f_kind, .int f_number, .int f_tellsV])), (q_s, .inl (cI, 903, .inl y21))] H := by rw [ey21]; exact hP
      have hD : va_D A [(h, .inr (12, [.int f_thrown, .ref q_s, .ref q_image, .ref q_frame, .int f_hasImage, .int f_act, .int f_spot, .int f_end, .int f_isWrong, .int f_open, .ref q_by, .ref q_truths, .int f_slowed, .int f_risked, .int f_gapNow, .int f_giver, .ref q_known, .ref q_leapt, .int f_turnsMany, .ref q_trying, .ref q_bestOrder, .int f_leastTime, .ref q_ended, .ref q_bodies, .int f_ran, .int f_kind, .int f_number, .int f_tellsV])), (q_s, .inl (cI, 903, .inl y21))] := by rw [ey21]; exact hD
      obtain ⟨x22, ex22⟩ : ∃ y : Int32, y = v5_107 + 1 := ⟨_, rfl⟩
      replace hm := hm x22 ex22
      refine lv_iinc (v := x22) (lv' := [(5, .int x22), (0, .ref h), (4, .int v4_107)]) hx hb (dX12_person 76 rfl) hl (k := 2) rfl (by rw [ex22]; rfl) (by decide) rfl (fun ls hl => ?_)
      refine lv_goto (tgt := 107) hx hb (dX12_person 77 rfl) (by decide) ?_
      exact ih107 y21 x22 H locs ls hP hD hS (lv_sub hl [1, 2, 0] rfl) hm
  obtain ⟨H, hH⟩ : ∃ H, H = s.heap := ⟨_, rfl⟩
  obtain ⟨locs, hlo⟩ : ∃ q : List Loc, q = [] := ⟨_, rfl⟩
  suffices hgo : W p l e rmX12_person s m args below meth c H locs 0 0 Z (F0 m 0 ls []) by rw [hH, hlo] at hgo; exact hgo
  have hP : va_P D vwCl [(h, .inr (12, [.int f_thrown, .ref q_s, .ref q_image, .ref q_frame, .int f_hasImage, .int f_act, .int f_spot, .int f_end, .int f_isWrong, .int f_open, .ref q_by, .ref q_truths, .int f_slowed, .int f_risked, .int f_gapNow, .int f_giver, .ref q_known, .ref q_leapt, .int f_turnsMany, .ref q_trying, .ref q_bestOrder, .int f_leastTime, .ref q_ended, .ref q_bodies, .int f_ran, .int f_kind, .int f_number, .int f_tellsV])), (q_s, .inl (cI, 903, .inl r_s))] H := by rw [hH]; exact hP
  have hD : va_D A [(h, .inr (12, [.int f_thrown, .ref q_s, .ref q_image, .ref q_frame, .int f_hasImage, .int f_act, .int f_spot, .int f_end, .int f_isWrong, .int f_open, .ref q_by, .ref q_truths, .int f_slowed, .int f_risked, .int f_gapNow, .int f_giver, .ref q_known, .ref q_leapt, .int f_turnsMany, .ref q_trying, .ref q_bestOrder, .int f_leastTime, .ref q_ended, .ref q_bodies, .int f_ran, .int f_kind, .int f_number, .int f_tellsV])), (q_s, .inl (cI, 903, .inl r_s))] := hD
  have hS : va_S A s.heap H locs := by rw [hH, hlo]; exact hS
  refine lv_iload_n hx hb (dX12_person 0 rfl) rfl (lv_at hl 1 rfl) ?_
  refine lv_iconst (v := (0 : Int32)) hx hb (dX12_person 1 rfl) (by decide) ?_
  refine lv_bipush (v := (6 : Int32)) hx hb (dX12_person 2 rfl) (by decide) ?_
  have hcut := ob_cut (wc := []) hP hD hS hA [] rfl (by decide)
  refine ob_i (wr := [(h, .inr (12, [.int f_thrown, .ref q_s, .ref q_image, .ref q_frame, .int f_hasImage, .int f_act, .int f_spot, .int f_end, .int f_isWrong, .int f_open, .ref q_by, .ref q_truths, .int f_slowed, .int f_risked, .int f_gapNow, .int f_giver, .ref q_known, .ref q_leapt, .int f_turnsMany, .ref q_trying, .ref q_bestOrder, .int f_leastTime, .ref q_ended, .ref q_bodies, .int f_ran, .int f_kind, .int f_number, .int f_tellsV])), (q_s, .inl (cI, 903, .inl r_s))]) (ob_S (As := [.int a1, .int (0 : Int32), .int (6 : Int32)]) (rest := []) ⟨hx, hb, hml, hown, hts⟩ hK hcut (hI.cut hS hcut.2.2) hN (k_X12_in l D cI cZ cL im _ _ _ _ _ hm) (cwS2 3 hts (hts (.methodLink RX12 53 yX12_in) (inR4 _ (List.mem_of_getElem? (i := 23) rfl))) (hts (.static yX12_in) (inR5 _ (List.mem_of_getElem? (i := 0) rfl))) (hts (.initialized RX12) (inR1 _ (List.mem_of_getElem? (i := 5) rfl))) (goodU_c (inR5 _ (List.mem_of_getElem? (i := 1) rfl))) rfl rfl rfl (by decide +kernel) ⟨Nat.le_of_ble_eq_true rfl, Nat.le_of_ble_eq_true rfl⟩) rfl hl.1 rfl (Nat.le_of_ble_eq_true rfl) (dX12_person 3 rfl) ⟨Nat.zero_le _, Nat.zero_le _⟩) hP hD hS hcut [] [0, 1] rfl rfl (by decide) (by decide) (fun r1 u2 H locs hm hP hD hS => ?_)
  have hP := hP.sub (ws' := [(h, .inr (12, [.int f_thrown, .ref q_s, .ref q_image, .ref q_frame, .int f_hasImage, .int f_act, .int f_spot, .int f_end, .int f_isWrong, .int f_open, .ref q_by, .ref q_truths, .int f_slowed, .int f_risked, .int f_gapNow, .int f_giver, .ref q_known, .ref q_leapt, .int f_turnsMany, .ref q_trying, .ref q_bestOrder, .int f_leastTime, .ref q_ended, .ref q_bodies, .int f_ran, .int f_kind, .int f_number, .int f_tellsV])), (q_s, .inl (cI, 903, .inl r_s))]) [0, 1] rfl
  have hD := hD.sub (ws' := [(h, .inr (12, [.int f_thrown, .ref q_s, .ref q_image, .ref q_frame, .int f_hasImage, .int f_act, .int f_spot, .int f_end, .int f_isWrong, .int f_open, .ref q_by, .ref q_truths, .int f_slowed, .int f_risked, .int f_gapNow, .int f_giver, .ref q_known, .ref q_leapt, .int f_turnsMany, .ref q_trying, .ref q_bestOrder, .int f_leastTime, .ref q_ended, .ref q_bodies, .int f_ran, .int f_kind, .int f_number, .int f_tellsV])), (q_s, .inl (cI, 903, .inl r_s))]) [0, 1] (by decide) rfl
  refine lv_if_ne (tgt := 12) hx hb (dX12_person 4 rfl) (by decide) (fun c3 => ?_) (fun c3 => ?_)
  · replace hm := hm.2 c3
    refine lv_iload_n hx hb (dX12_person 7 rfl) rfl (lv_at hl 2 rfl) ?_
    refine lv_iconst (v := (0 : Int32)) hx hb (dX12_person 8 rfl) (by decide) ?_
    refine lv_bipush (v := (9 : Int32)) hx hb (dX12_person 9 rfl) (by decide) ?_
    have hcut := ob_cut (wc := []) hP hD hS hA [] rfl (by decide)
    refine ob_i (wr := [(h, .inr (12, [.int f_thrown, .ref q_s, .ref q_image, .ref q_frame, .int f_hasImage, .int f_act, .int f_spot, .int f_end, .int f_isWrong, .int f_open, .ref q_by, .ref q_truths, .int f_slowed, .int f_risked, .int f_gapNow, .int f_giver, .ref q_known, .ref q_leapt, .int f_turnsMany, .ref q_trying, .ref q_bestOrder, .int f_leastTime, .ref q_ended, .ref q_bodies, .int f_ran, .int f_kind, .int f_number, .int f_tellsV])), (q_s, .inl (cI, 903, .inl r_s))]) (ob_S (As := [.int a2, .int (0 : Int32), .int (9 : Int32)]) (rest := []) ⟨hx, hb, hml, hown, hts⟩ hK hcut (hI.cut hS hcut.2.2) hN (k_X12_in l D cI cZ cL im _ _ _ _ _ hm) (cwS2 3 hts (hts (.methodLink RX12 53 yX12_in) (inR4 _ (List.mem_of_getElem? (i := 23) rfl))) (hts (.static yX12_in) (inR5 _ (List.mem_of_getElem? (i := 0) rfl))) (hts (.initialized RX12) (inR1 _ (List.mem_of_getElem? (i := 5) rfl))) (goodU_c (inR5 _ (List.mem_of_getElem? (i := 1) rfl))) rfl rfl rfl (by decide +kernel) ⟨Nat.le_of_ble_eq_true rfl, Nat.le_of_ble_eq_true rfl⟩) rfl hl.1 rfl (Nat.le_of_ble_eq_true rfl) (dX12_person 10 rfl) ⟨Nat.zero_le _, Nat.zero_le _⟩) hP hD hS hcut [] [0, 1] rfl rfl (by decide) (by decide) (fun r4 u5 H locs hm hP hD hS => ?_)
    have hP := hP.sub (ws' := [(h, .inr (12, [.int f_thrown, .ref q_s, .ref q_image, .ref q_frame, .int f_hasImage, .int f_act, .int f_spot, .int f_end, .int f_isWrong, .int f_open, .ref q_by, .ref q_truths, .int f_slowed, .int f_risked, .int f_gapNow, .int f_giver, .ref q_known, .ref q_leapt, .int f_turnsMany, .ref q_trying, .ref q_bestOrder, .int f_leastTime, .ref q_ended, .ref q_bodies, .int f_ran, .int f_kind, .int f_number, .int f_tellsV])), (q_s, .inl (cI, 903, .inl r_s))]) [0, 1] rfl
    have hD := hD.sub (ws' := [(h, .inr (12, [.int f_thrown, .ref q_s, .ref q_image, .ref q_frame, .int f_hasImage, .int f_act, .int f_spot, .int f_end, .int f_isWrong, .int f_open, .ref q_by, .ref q_truths, .int f_slowed, .int f_risked, .int f_gapNow, .int f_giver, .ref q_known, .ref q_leapt, .int f_turnsMany, .ref q_trying, .ref q_bestOrder, .int f_leastTime, .ref q_ended, .ref q_bodies, .int f_ran, .int f_kind, .int f_number, .int f_tellsV])), (q_s, .inl (cI, 903, .inl r_s))]) [0, 1] (by decide) rfl
    refine lv_if_eq (tgt := 32) hx hb (dX12_person 11 rfl) (by decide) (fun c6 => ?_) (fun c6 => ?_)
    · replace hm := hm.1 c6
      refine lv_bipush (v := (-2 : Int32)) hx hb (dX12_person 17 rfl) (by decide) ?_
      exact hZ (-2 : Int32) r_s H locs ls 34 hm hP hD hS (dX12_person 18 rfl) rfl
    replace hm := hm.2 c6
    refine lv_iload_n hx hb (dX12_person 12 rfl) rfl (lv_at hl 3 rfl) ?_
    refine lv_iconst (v := (0 : Int32)) hx hb (dX12_person 13 rfl) (by decide) ?_
    refine lv_bipush (v := (9 : Int32)) hx hb (dX12_person 14 rfl) (by decide) ?_
    have hcut := ob_cut (wc := []) hP hD hS hA [] rfl (by decide)
    refine ob_i (wr := [(h, .inr (12, [.int f_thrown, .ref q_s, .ref q_image, .ref q_frame, .int f_hasImage, .int f_act, .int f_spot, .int f_end, .int f_isWrong, .int f_open, .ref q_by, .ref q_truths, .int f_slowed, .int f_risked, .int f_gapNow, .int f_giver, .ref q_known, .ref q_leapt, .int f_turnsMany, .ref q_trying, .ref q_bestOrder, .int f_leastTime, .ref q_ended, .ref q_bodies, .int f_ran, .int f_kind, .int f_number, .int f_tellsV])), (q_s, .inl (cI, 903, .inl r_s))]) (ob_S (As := [.int a3, .int (0 : Int32), .int (9 : Int32)]) (rest := []) ⟨hx, hb, hml, hown, hts⟩ hK hcut (hI.cut hS hcut.2.2) hN (k_X12_in l D cI cZ cL im _ _ _ _ _ hm) (cwS2 3 hts (hts (.methodLink RX12 53 yX12_in) (inR4 _ (List.mem_of_getElem? (i := 23) rfl))) (hts (.static yX12_in) (inR5 _ (List.mem_of_getElem? (i := 0) rfl))) (hts (.initialized RX12) (inR1 _ (List.mem_of_getElem? (i := 5) rfl))) (goodU_c (inR5 _ (List.mem_of_getElem? (i := 1) rfl))) rfl rfl rfl (by decide +kernel) ⟨Nat.le_of_ble_eq_true rfl, Nat.le_of_ble_eq_true rfl⟩) rfl hl.1 rfl (Nat.le_of_ble_eq_true rfl) (dX12_person 15 rfl) ⟨Nat.zero_le _, Nat.zero_le _⟩) hP hD hS hcut [] [0, 1] rfl rfl (by decide) (by decide) (fun r7 u8 H locs hm hP hD hS => ?_)
    have hP := hP.sub (ws' := [(h, .inr (12, [.int f_thrown, .ref q_s, .ref q_image, .ref q_frame, .int f_hasImage, .int f_act, .int f_spot, .int f_end, .int f_isWrong, .int f_open, .ref q_by, .ref q_truths, .int f_slowed, .int f_risked, .int f_gapNow, .int f_giver, .ref q_known, .ref q_leapt, .int f_turnsMany, .ref q_trying, .ref q_bestOrder, .int f_leastTime, .ref q_ended, .ref q_bodies, .int f_ran, .int f_kind, .int f_number, .int f_tellsV])), (q_s, .inl (cI, 903, .inl r_s))]) [0, 1] rfl
    have hD := hD.sub (ws' := [(h, .inr (12, [.int f_thrown, .ref q_s, .ref q_image, .ref q_frame, .int f_hasImage, .int f_act, .int f_spot, .int f_end, .int f_isWrong, .int f_open, .ref q_by, .ref q_truths, .int f_slowed, .int f_risked, .int f_gapNow, .int f_giver, .ref q_known, .ref q_leapt, .int f_turnsMany, .ref q_trying, .ref q_bestOrder, .int f_leastTime, .ref q_ended, .ref q_bodies, .int f_ran, .int f_kind, .int f_number, .int f_tellsV])), (q_s, .inl (cI, 903, .inl r_s))]) [0, 1] (by decide) rfl
    refine lv_if_ne (tgt := 35) hx hb (dX12_person 16 rfl) (by decide) (fun c9 => ?_) (fun c9 => ?_)
    · replace hm := hm.2 c9
      refine lv_aload_n hx hb (dX12_person 19 rfl) rfl (lv_at hl 0 rfl) ?_
      refine va_get (D := D) (ci := 12) (v := .ref q_s) (C := RX12) (T := TX12) (N := 28) hx hb hts inlX12 hown hK hP 0 rfl rfl 1 (by decide) (hts (.fieldLink RX12 9 "OverBacksModel" "s" "[I") (inR3 _ (List.mem_of_getElem? (i := 20) rfl))) (fun _ h9 => h9) rfl (dX12_person 20 rfl) ?_
      refine lv_bipush (v := (18 : Int32)) hx hb (dX12_person 21 rfl) (by decide) ?_
      refine va_iald hx hb hK hP 1 0 rfl rfl (ob_in (by decide)) (dX12_person 22 rfl) ?_
      refine lv_bipush (v := (7 : Int32)) hx hb (dX12_person 23 rfl) (by decide) ?_
      refine lv_icmp_ne (tgt := 50) hx hb (dX12_person 24 rfl) (by decide) (fun c10 => ?_) (fun c10 => ?_)
      · replace hm := hm.2 c10
        refine lv_aload_n hx hb (dX12_person 27 rfl) rfl (lv_at hl 0 rfl) ?_
        refine va_get (D := D) (ci := 12) (v := .ref q_s) (C := RX12) (T := TX12) (N := 28) hx hb hts inlX12 hown hK hP 0 rfl rfl 1 (by decide) (hts (.fieldLink RX12 9 "OverBacksModel" "s" "[I") (inR3 _ (List.mem_of_getElem? (i := 20) rfl))) (fun _ h9 => h9) rfl (dX12_person 28 rfl) ?_
        refine lv_bipush (v := (18 : Int32)) hx hb (dX12_person 29 rfl) (by decide) ?_
        refine va_iald hx hb hK hP 1 0 rfl rfl (ob_in (by decide)) (dX12_person 30 rfl) ?_
        refine lv_topi (fun x11 ex11 => ?_)
        replace hm := hm x11 ex11
        refine lv_istore (lv' := [(4, .int x11), (0, .ref h), (1, .int a1), (2, .int a2), (3, .int a3)]) hx hb (dX12_person 31 rfl) hl (by decide) rfl (fun ls hl => ?_)
        refine lv_aload_n hx hb (dX12_person 32 rfl) rfl (lv_at hl 1 rfl) ?_
        refine va_get (D := D) (ci := 12) (v := .ref q_s) (C := RX12) (T := TX12) (N := 28) hx hb hts inlX12 hown hK hP 0 rfl rfl 1 (by decide) (hts (.fieldLink RX12 9 "OverBacksModel" "s" "[I") (inR3 _ (List.mem_of_getElem? (i := 20) rfl))) (fun _ h9 => h9) rfl (dX12_person 33 rfl) ?_
        refine lv_bipush (v := (24 : Int32)) hx hb (dX12_person 34 rfl) (by decide) ?_
        refine lv_iload hx hb (dX12_person 35 rfl) (lv_at hl 0 rfl) ?_
        refine lv_iadd hx hb (dX12_person 36 rfl) ?_
        refine lv_iload_n hx hb (dX12_person 37 rfl) rfl (lv_at hl 2 rfl) ?_
        refine va_iast hx hb hK hP hD hS 1 0 rfl rfl hm.1 (dX12_person 38 rfl) (fun H locs hP hD hS => ?_)
        replace hm := hm.2
        obtain ⟨y12, ey12⟩ : ∃ q : Nat → Int32, q = upd r_s ((24 : Int32) + x11).toNatClampNeg a1 := ⟨_, rfl⟩
        replace hm := hm y12 ey12
        have hP : va_P D vwCl [(h, .inr (12, [.int f_thrown, .ref q_s, .ref q_image, .ref q_frame, .int f_hasImage, .int f_act, .int f_spot, .int f_end, .int f_isWrong, .int f_open, .ref q_by, .ref q_truths, .int f_slowed, .int f_risked, .int f_gapNow, .int f_giver, .ref q_known, .ref q_leapt, .int f_turnsMany, .ref q_trying, .ref q_bestOrder, .int f_leastTime, .ref q_ended, .ref q_bodies, .int f_ran, .int f_kind, .int f_number, .int f_tellsV])), (q_s, .inl (cI, 903, .inl y12))] H := by rw [ey12]; exact hP
        have hD : va_D A [(h, .inr (12, [.int f_thrown, .ref q_s, .ref q_image, .ref q_frame, .int f_hasImage, .int f_act, .int f_spot, .int f_end, .int f_isWrong, .int f_open, .ref q_by, .ref q_truths, .int f_slowed, .int f_risked, .int f_gapNow, .int f_giver, .ref q_known, .ref q_leapt, .int f_turnsMany, .ref q_trying, .ref q_bestOrder, .int f_leastTime, .ref q_ended, .ref q_bodies, .int f_ran, .int f_kind, .int f_number, .int f_tellsV])), (q_s, .inl (cI, 903, .inl y12))] := by rw [ey12]; exact hD
        refine lv_aload_n hx hb (dX12_person 39 rfl) rfl (lv_at hl 1 rfl) ?_
        refine va_get (D := D) (ci := 12) (v := .ref q_s) (C := RX12) (T := TX12) (N := 28) hx hb hts inlX12 hown hK hP 0 rfl rfl 1 (by decide) (hts (.fieldLink RX12 9 "OverBacksModel" "s" "[I") (inR3 _ (List.mem_of_getElem? (i := 20) rfl))) (fun _ h9 => h9) rfl (dX12_person 40 rfl) ?_
        refine lv_bipush (v := (31 : Int32)) hx hb (dX12_person 41 rfl) (by decide) ?_
        refine lv_iload hx hb (dX12_person 42 rfl) (lv_at hl 0 rfl) ?_
        refine lv_iadd hx hb (dX12_person 43 rfl) ?_
        refine lv_iload_n hx hb (dX12_person 44 rfl) rfl (lv_at hl 3 rfl) ?_
        refine va_iast hx hb hK hP hD hS 1 0 rfl rfl hm.1 (dX12_person 45 rfl) (fun H locs hP hD hS => ?_)
        replace hm := hm.2
        obtain ⟨y13, ey13⟩ : ∃ q : Nat → Int32, q = upd y12 ((31 : Int32) + x11).toNatClampNeg a2 := ⟨_, rfl⟩
        replace hm := hm y13 ey13
        have hP : va_P D vwCl [(h, .inr (12, [.int f_thrown, .ref q_s, .ref q_image, .ref q_frame, .int f_hasImage, .int f_act, .int f_spot, .int f_end, .int f_isWrong, .int f_open, .ref q_by, .ref q_truths, .int f_slowed, .int f_risked, .int f_gapNow, .int f_giver, .ref q_known, .ref q_leapt, .int f_turnsMany, .ref q_trying, .ref q_bestOrder, .int f_leastTime, .ref q_ended, .ref q_bodies, .int f_ran, .int f_kind, .int f_number, .int f_tellsV])), (q_s, .inl (cI, 903, .inl y13))] H := by rw [ey13]; exact hP
        have hD : va_D A [(h, .inr (12, [.int f_thrown, .ref q_s, .ref q_image, .ref q_frame, .int f_hasImage, .int f_act, .int f_spot, .int f_end, .int f_isWrong, .int f_open, .ref q_by, .ref q_truths, .int f_slowed, .int f_risked, .int f_gapNow, .int f_giver, .ref q_known, .ref q_leapt, .int f_turnsMany, .ref q_trying, .ref q_bestOrder, .int f_leastTime, .ref q_ended, .ref q_bodies, .int f_ran, .int f_kind, .int f_number, .int f_tellsV])), (q_s, .inl (cI, 903, .inl y13))] := by rw [ey13]; exact hD
        refine lv_aload_n hx hb (dX12_person 46 rfl) rfl (lv_at hl 1 rfl) ?_
        refine va_get (D := D) (ci := 12) (v := .ref q_s) (C := RX12) (T := TX12) (N := 28) hx hb hts inlX12 hown hK hP 0 rfl rfl 1 (by decide) (hts (.fieldLink RX12 9 "OverBacksModel" "s" "[I") (inR3 _ (List.mem_of_getElem? (i := 20) rfl))) (fun _ h9 => h9) rfl (dX12_person 47 rfl) ?_
        refine lv_bipush (v := (38 : Int32)) hx hb (dX12_person 48 rfl) (by decide) ?_
        refine lv_iload hx hb (dX12_person 49 rfl) (lv_at hl 0 rfl) ?_
        refine lv_iadd hx hb (dX12_person 50 rfl) ?_
        refine lv_iload_n hx hb (dX12_person 51 rfl) rfl (lv_at hl 4 rfl) ?_
        refine va_iast hx hb hK hP hD hS 1 0 rfl rfl hm.1 (dX12_person 52 rfl) (fun H locs hP hD hS => ?_)
        replace hm := hm.2
        obtain ⟨y14, ey14⟩ : ∃ q : Nat → Int32, q = upd y13 ((38 : Int32) + x11).toNatClampNeg a3 := ⟨_, rfl⟩
        replace hm := hm y14 ey14
        have hP : va_P D vwCl [(h, .inr (12, [.int f_thrown, .ref q_s, .ref q_image, .ref q_frame, .int f_hasImage, .int f_act, .int f_spot, .int f_end, .int f_isWrong, .int f_open, .ref q_by, .ref q_truths, .int f_slowed, .int f_risked, .int f_gapNow, .int f_giver, .ref q_known, .ref q_leapt, .int f_turnsMany, .ref q_trying, .ref q_bestOrder, .int f_leastTime, .ref q_ended, .ref q_bodies, .int f_ran, .int f_kind, .int f_number, .int f_tellsV])), (q_s, .inl (cI, 903, .inl y14))] H := by rw [ey14]; exact hP
        have hD : va_D A [(h, .inr (12, [.int f_thrown, .ref q_s, .ref q_image, .ref q_frame, .int f_hasImage, .int f_act, .int f_spot, .int f_end, .int f_isWrong, .int f_open, .ref q_by, .ref q_truths, .int f_slowed, .int f_risked, .int f_gapNow, .int f_giver, .ref q_known, .ref q_leapt, .int f_turnsMany, .ref q_trying, .ref q_bestOrder, .int f_leastTime, .ref q_ended, .ref q_bodies, .int f_ran, .int f_kind, .int f_number, .int f_tellsV])), (q_s, .inl (cI, 903, .inl y14))] := by rw [ey14]; exact hD
        refine lv_aload_n hx hb (dX12_person 53 rfl) rfl (lv_at hl 1 rfl) ?_
        refine va_get (D := D) (ci := 12) (v := .ref q_s) (C := RX12) (T := TX12) (N := 28) hx hb hts inlX12 hown hK hP 0 rfl rfl 1 (by decide) (hts (.fieldLink RX12 9 "OverBacksModel" "s" "[I") (inR3 _ (List.mem_of_getElem? (i := 20) rfl))) (fun _ h9 => h9) rfl (dX12_person 54 rfl) ?_
        refine lv_bipush (v := (11 : Int32)) hx hb (dX12_person 55 rfl) (by decide) ?_
        refine lv_iload hx hb (dX12_person 56 rfl) (lv_at hl 0 rfl) ?_
        refine lv_iadd hx hb (dX12_person 57 rfl) ?_
        refine lv_bipush (v := (9 : Int32)) hx hb (dX12_person 58 rfl) (by decide) ?_
        refine va_iast hx hb hK hP hD hS 1 0 rfl rfl hm.1 (dX12_person 59 rfl) (fun H locs hP hD hS => ?_)
        replace hm := hm.2
        obtain ⟨y15, ey15⟩ : ∃ q : Nat → Int32, q = upd y14 ((11 : Int32) + x11).toNatClampNeg (9 : Int32) := ⟨_, rfl⟩
        replace hm := hm y15 ey15
        have hP : va_P D vwCl [(h, .inr (12, [.int f_thrown, .ref q_s, .ref q_image, .ref q_frame, .int f_hasImage, .int f_act, .int f_spot, .int f_end, .int f_isWrong, .int f_open, .ref q_by, .ref q_truths, .int f_slowed, .int f_risked, .int f_gapNow, .int f_giver, .ref q_known, .ref q_leapt, .int f_turnsMany, .ref q_trying, .ref q_bestOrder, .int f_leastTime, .ref q_ended, .ref q_bodies, .int f_ran, .int f_kind, .int f_number, .int f_tellsV])), (q_s, .inl (cI, 903, .inl y15))] H := by rw [ey15]; exact hP
        have hD : va_D A [(h, .inr (12, [.int f_thrown, .ref q_s, .ref q_image, .ref q_frame, .int f_hasImage, .int f_act, .int f_spot, .int f_end, .int f_isWrong, .int f_open, .ref q_by, .ref q_truths, .int f_slowed, .int f_risked, .int f_gapNow, .int f_giver, .ref q_known, .ref q_leapt, .int f_turnsMany, .ref q_trying, .ref q_bestOrder, .int f_leastTime, .ref q_ended, .ref q_bodies, .int f_ran, .int f_kind, .int f_number, .int f_tellsV])), (q_s, .inl (cI, 903, .inl y15))] := by rw [ey15]; exact hD
        refine lv_iconst (v := (0 : Int32)) hx hb (dX12_person 60 rfl) (by decide) ?_
        refine lv_topi (fun x16 ex16 => ?_)
        replace hm := hm x16 ex16
        refine lv_istore (lv' := [(5, .int x16), (4, .int x11), (0, .ref h), (1, .int a1), (2, .int a2), (3, .int a3)]) hx hb (dX12_person 61 rfl) hl (by decide) rfl (fun ls hl => ?_)
        obtain ⟨n23, hm⟩ := hm
        exact lab107 x11 n23 y15 x16 H locs ls hP hD hS (lv_sub hl [2, 1, 0] rfl) hm
      replace hm := hm.1 c10
      refine lv_bipush (v := (-4 : Int32)) hx hb (dX12_person 25 rfl) (by decide) ?_
      exact hZ (-4 : Int32) r_s H locs ls 49 hm hP hD hS (dX12_person 26 rfl) rfl
    replace hm := hm.1 c9
    refine lv_bipush (v := (-2 : Int32)) hx hb (dX12_person 17 rfl) (by decide) ?_
    exact hZ (-2 : Int32) r_s H locs ls 34 hm hP hD hS (dX12_person 18 rfl) rfl
  replace hm := hm.1 c3
  refine lv_iconst (v := (-1 : Int32)) hx hb (dX12_person 5 rfl) (by decide) ?_
  exact hZ (-1 : Int32) r_s H locs ls 11 hm hP hD hS (dX12_person 6 rfl) rfl
abbrev rmX12_backOf : Room := { frames := 0, cells := 0, slots := 0, locals := 0 }
set_option maxHeartbeats 4000000 in
set_option maxRecDepth 100000 in
theorem k_X12_backOf (l : Launch) (D : va_G) (cI cZ cL : ClassId) (im : obIM) (sz : Nat) (h : Nat) (f_thrown : Int32) (q_s : Nat) (q_image : Nat) (q_frame : Nat) (f_hasImage : Int32) (f_act : Int32) (f_spot : Int32) (f_end : Int32) (f_isWrong : Int32) (f_open : Int32) (q_by : Nat) (q_truths : Nat) (f_slowed : Int32) (f_risked : Int32) (f_gapNow : Int32) (f_giver : Int32) (q_known : Nat) (q_leapt : Nat) (f_turnsMany : Int32) (q_trying : Nat) (q_bestOrder : Nat) (f_leastTime : Int32) (q_ended : Nat) (q_bodies : Nat) (f_ran : Int32) (f_kind : Int32) (f_number : Int32) (f_tellsV : Int32) (r_s : Nat → Int32) (a1 : Int32) (Q : Int32 → Prop) (hm : m_X12_backOf r_s a1 Q) : Met l yX12_backOf (Cond.code yX12_backOf cX12_backOf 3 (some .int) :: wsL_law) rmX12_backOf (obPre D (tyG cI cZ cL) im [(h, .inr (12, [.int f_thrown, .ref q_s, .ref q_image, .ref q_frame, .int f_hasImage, .int f_act, .int f_spot, .int f_end, .int f_isWrong, .int f_open, .ref q_by, .ref q_truths, .int f_slowed, .int f_risked, .int f_gapNow, .int f_giver, .ref q_known, .ref q_leapt, .int f_turnsMany, .ref q_trying, .ref q_bestOrder, .int f_leastTime, .ref q_ended, .ref q_bodies, .int f_ran, .int f_kind, .int f_number, .int f_tellsV])), (q_s, .inl (cI, 903, .inl r_s))] sz [.ref h, .int a1]) (va_Qi (fun (r : Int32) (u : Unit) => Q r) (obB D (va_A [(h, .inr (12, [.int f_thrown, .ref q_s, .ref q_image, .ref q_frame, .int f_hasImage, .int f_act, .int f_spot, .int f_end, .int f_isWrong, .int f_open, .ref q_by, .ref q_truths, .int f_slowed, .int f_risked, .int f_gapNow, .int f_giver, .ref q_known, .ref q_leapt, .int f_turnsMany, .ref q_trying, .ref q_bestOrder, .int f_leastTime, .ref q_ended, .ref q_bodies, .int f_ran, .int f_kind, .int f_number, .int f_tellsV])), (q_s, .inl (cI, 903, .inl r_s))] sz) (fun _ : Unit => [(h, .inr (12, [.int f_thrown, .ref q_s, .ref q_image, .ref q_frame, .int f_hasImage, .int f_act, .int f_spot, .int f_end, .int f_isWrong, .int f_open, .ref q_by, .ref q_truths, .int f_slowed, .int f_risked, .int f_gapNow, .int f_giver, .ref q_known, .ref q_leapt, .int f_turnsMany, .ref q_trying, .ref q_bestOrder, .int f_leastTime, .ref q_ended, .ref q_bodies, .int f_ran, .int f_kind, .int f_number, .int f_tellsV])), (q_s, .inl (cI, 903, .inl r_s))])) (va_A [(h, .inr (12, [.int f_thrown, .ref q_s, .ref q_image, .ref q_frame, .int f_hasImage, .int f_act, .int f_spot, .int f_end, .int f_isWrong, .int f_open, .ref q_by, .ref q_truths, .int f_slowed, .int f_risked, .int f_gapNow, .int f_giver, .ref q_known, .ref q_leapt, .int f_turnsMany, .ref q_trying, .ref q_bestOrder, .int f_leastTime, .ref q_ended, .ref q_bodies, .int f_ran, .int f_kind, .int f_number, .int f_tellsV])), (q_s, .inl (cI, 903, .inl r_s))] sz)) 0 0 (va_A [(h, .inr (12, [.int f_thrown, .ref q_s, .ref q_image, .ref q_frame, .int f_hasImage, .int f_act, .int f_spot, .int f_end, .int f_isWrong, .int f_open, .ref q_by, .ref q_truths, .int f_slowed, .int f_risked, .int f_gapNow, .int f_giver, .ref q_known, .ref q_leapt, .int f_turnsMany, .ref q_trying, .ref q_bestOrder, .int f_leastTime, .ref q_ended, .ref q_bodies, .int f_ran, .int f_kind, .int f_number, .int f_tellsV])), (q_s, .inl (cI, 903, .inl r_s))] sz) := by
  refine ob_met_i (cc := cX12_backOf) (maxL := 3) (by decide) (Nat.le_of_ble_eq_true rfl) (fun p e s m args below meth c A Z hx hb hml hown hts hnm hN hK hA hI hP hD hS hZ ls hl => ?_)
  have hl : lv_has ls 3 [(0, .ref h), (1, .int a1)] := hl
  unfold m_X12_backOf at hm
  obtain ⟨H, hH⟩ : ∃ H, H = s.heap := ⟨_, rfl⟩
  obtain ⟨locs, hlo⟩ : ∃ q : List Loc, q = [] := ⟨_, rfl⟩
  suffices hgo : W p l e rmX12_backOf s m args below meth c H locs 0 0 Z (F0 m 0 ls []) by rw [hH, hlo] at hgo; exact hgo
  have hP : va_P D vwCl [(h, .inr (12, [.int f_thrown, .ref q_s, .ref q_image, .ref q_frame, .int f_hasImage, .int f_act, .int f_spot, .int f_end, .int f_isWrong, .int f_open, .ref q_by, .ref q_truths, .int f_slowed, .int f_risked, .int f_gapNow, .int f_giver, .ref q_known, .ref q_leapt, .int f_turnsMany, .ref q_trying, .ref q_bestOrder, .int f_leastTime, .ref q_ended, .ref q_bodies, .int f_ran, .int f_kind, .int f_number, .int f_tellsV])), (q_s, .inl (cI, 903, .inl r_s))] H := by rw [hH]; exact hP
  have hD : va_D A [(h, .inr (12, [.int f_thrown, .ref q_s, .ref q_image, .ref q_frame, .int f_hasImage, .int f_act, .int f_spot, .int f_end, .int f_isWrong, .int f_open, .ref q_by, .ref q_truths, .int f_slowed, .int f_risked, .int f_gapNow, .int f_giver, .ref q_known, .ref q_leapt, .int f_turnsMany, .ref q_trying, .ref q_bestOrder, .int f_leastTime, .ref q_ended, .ref q_bodies, .int f_ran, .int f_kind, .int f_number, .int f_tellsV])), (q_s, .inl (cI, 903, .inl r_s))] := hD
  have hS : va_S A s.heap H locs := by rw [hH, hlo]; exact hS
  refine lv_aload_n hx hb (dX12_backOf 0 rfl) rfl (lv_at hl 0 rfl) ?_
  refine va_get (D := D) (ci := 12) (v := .ref q_s) (C := RX12) (T := TX12) (N := 28) hx hb hts inlX12 hown hK hP 0 rfl rfl 1 (by decide) (hts (.fieldLink RX12 9 "OverBacksModel" "s" "[I") (inR3 _ (List.mem_of_getElem? (i := 20) rfl))) (fun _ h9 => h9) rfl (dX12_backOf 1 rfl) ?_
  refine lv_bipush (v := (38 : Int32)) hx hb (dX12_backOf 2 rfl) (by decide) ?_
  refine lv_iload_n hx hb (dX12_backOf 3 rfl) rfl (lv_at hl 1 rfl) ?_
  refine lv_iadd hx hb (dX12_backOf 4 rfl) ?_
  refine va_iald hx hb hK hP 1 0 rfl rfl hm.1 (dX12_backOf 5 rfl) ?_
  replace hm := hm.2
  refine lv_topi (fun x1 ex1 => ?_)
  replace hm := hm x1 ex1
  refine lv_istore_n (lv' := [(2, .int x1), (0, .ref h), (1, .int a1)]) hx hb (dX12_backOf 6 rfl) rfl hl (by decide) rfl (fun ls hl => ?_)
  refine lv_aload_n hx hb (dX12_backOf 7 rfl) rfl (lv_at hl 1 rfl) ?_
  refine va_get (D := D) (ci := 12) (v := .ref q_s) (C := RX12) (T := TX12) (N := 28) hx hb hts inlX12 hown hK hP 0 rfl rfl 1 (by decide) (hts (.fieldLink RX12 9 "OverBacksModel" "s" "[I") (inR3 _ (List.mem_of_getElem? (i := 20) rfl))) (fun _ h9 => h9) rfl (dX12_backOf 8 rfl) ?_
  refine lv_bipush (v := (24 : Int32)) hx hb (dX12_backOf 9 rfl) (by decide) ?_
  refine lv_iload_n hx hb (dX12_backOf 10 rfl) rfl (lv_at hl 2 rfl) ?_
  refine lv_iadd hx hb (dX12_backOf 11 rfl) ?_
  refine va_iald hx hb hK hP 1 0 rfl rfl hm.1 (dX12_backOf 12 rfl) ?_
  replace hm := hm.2
  refine lv_topi (fun x2 ex2 => ?_)
  replace hm := hm x2 ex2
  by_cases c3 : x2 = (1 : Int32)
  · refine lv_tableIn (tgt := 56) hx hb (dX12_backOf 13 rfl) (by rw [c3]; decide) (by rw [c3]; decide) (by rw [c3]; rfl) (by decide) ?_
    replace hm := hm.1 c3
    refine lv_iload_n hx hb (dX12_backOf 14 rfl) rfl (lv_at hl 0 rfl) ?_
    refine lv_iconst (v := (2 : Int32)) hx hb (dX12_backOf 15 rfl) (by decide) ?_
    refine lv_idiv hx hb (dX12_backOf 16 rfl) (by decide) ?_
    exact hZ (x1 / (2 : Int32)) () H locs ls 59 hm hP hD hS (dX12_backOf 17 rfl) rfl
  replace hm := hm.2
  by_cases c4 : x2 = (2 : Int32)
  · refine lv_tableIn (tgt := 60) hx hb (dX12_backOf 13 rfl) (by rw [c4]; decide) (by rw [c4]; decide) (by rw [c4]; rfl) (by decide) ?_
    replace hm := hm.1 c4
    refine lv_iload_n hx hb (dX12_backOf 18 rfl) rfl (lv_at hl 0 rfl) ?_
    refine lv_iconst (v := (2 : Int32)) hx hb (dX12_backOf 19 rfl) (by decide) ?_
    refine lv_iadd hx hb (dX12_backOf 20 rfl) ?_
    exact hZ (x1 + (2 : Int32)) () H locs ls 63 hm hP hD hS (dX12_backOf 21 rfl) rfl
  replace hm := hm.2
  by_cases c5 : x2 = (3 : Int32)
  · refine lv_tableIn (tgt := 85) hx hb (dX12_backOf 13 rfl) (by rw [c5]; decide) (by rw [c5]; decide) (by rw [c5]; rfl) (by decide) ?_
    replace hm := hm.1 c5
    refine lv_iload_n hx hb (dX12_backOf 38 rfl) rfl (lv_at hl 0 rfl) ?_
    exact hZ x1 () H locs ls 86 hm hP hD hS (dX12_backOf 39 rfl) rfl
  replace hm := hm.2
  by_cases c6 : x2 = (4 : Int32)
  · refine lv_tableIn (tgt := 56) hx hb (dX12_backOf 13 rfl) (by rw [c6]; decide) (by rw [c6]; decide) (by rw [c6]; rfl) (by decide) ?_
    replace hm := hm.1 c6
    refine lv_iload_n hx hb (dX12_backOf 14 rfl) rfl (lv_at hl 0 rfl) ?_
    refine lv_iconst (v := (2 : Int32)) hx hb (dX12_backOf 15 rfl) (by decide) ?_
    refine lv_idiv hx hb (dX12_backOf 16 rfl) (by decide) ?_
    exact hZ (x1 / (2 : Int32)) () H locs ls 59 hm hP hD hS (dX12_backOf 17 rfl) rfl
  replace hm := hm.2
  by_cases c7 : x2 = (5 : Int32)
  · refine lv_tableIn (tgt := 60) hx hb (dX12_backOf 13 rfl) (by rw [c7]; decide) (by rw [c7]; decide) (by rw [c7]; rfl) (by decide) ?_
    replace hm := hm.1 c7
    refine lv_iload_n hx hb (dX12_backOf 18 rfl) rfl (lv_at hl 0 rfl) ?_
    refine lv_iconst (v := (2 : Int32)) hx hb (dX12_backOf 19 rfl) (by decide) ?_
    refine lv_iadd hx hb (dX12_backOf 20 rfl) ?_
    exact hZ (x1 + (2 : Int32)) () H locs ls 63 hm hP hD hS (dX12_backOf 21 rfl) rfl
  replace hm := hm.2
  by_cases c8 : x2 = (6 : Int32)
  · refine lv_tableIn (tgt := 64) hx hb (dX12_backOf 13 rfl) (by rw [c8]; decide) (by rw [c8]; decide) (by rw [c8]; rfl) (by decide) ?_
    replace hm := hm.1 c8
    refine lv_aload_n hx hb (dX12_backOf 22 rfl) rfl (lv_at hl 1 rfl) ?_
    refine va_get (D := D) (ci := 12) (v := .ref q_s) (C := RX12) (T := TX12) (N := 28) hx hb hts inlX12 hown hK hP 0 rfl rfl 1 (by decide) (hts (.fieldLink RX12 9 "OverBacksModel" "s" "[I") (inR3 _ (List.mem_of_getElem? (i := 20) rfl))) (fun _ h9 => h9) rfl (dX12_backOf 23 rfl) ?_
    refine lv_bipush (v := (45 : Int32)) hx hb (dX12_backOf 24 rfl) (by decide) ?_
    refine lv_iconst (v := (3 : Int32)) hx hb (dX12_backOf 25 rfl) (by decide) ?_
    refine lv_iload_n hx hb (dX12_backOf 26 rfl) rfl (lv_at hl 2 rfl) ?_
    refine lv_imul hx hb (dX12_backOf 27 rfl) ?_
    refine lv_iadd hx hb (dX12_backOf 28 rfl) ?_
    refine lv_aload_n hx hb (dX12_backOf 29 rfl) rfl (lv_at hl 1 rfl) ?_
    refine va_get (D := D) (ci := 12) (v := .ref q_s) (C := RX12) (T := TX12) (N := 28) hx hb hts inlX12 hown hK hP 0 rfl rfl 1 (by decide) (hts (.fieldLink RX12 9 "OverBacksModel" "s" "[I") (inR3 _ (List.mem_of_getElem? (i := 20) rfl))) (fun _ h9 => h9) rfl (dX12_backOf 30 rfl) ?_
    refine lv_iconst (v := (0 : Int32)) hx hb (dX12_backOf 31 rfl) (by decide) ?_
    refine va_iald hx hb hK hP 1 0 rfl rfl (ob_in (by decide)) (dX12_backOf 32 rfl) ?_
    refine lv_iconst (v := (3 : Int32)) hx hb (dX12_backOf 33 rfl) (by decide) ?_
    refine lv_irem hx hb (dX12_backOf 34 rfl) (by decide) ?_
    refine lv_iadd hx hb (dX12_backOf 35 rfl) ?_
    refine va_iald hx hb hK hP 1 0 rfl rfl hm.1 (dX12_backOf 36 rfl) ?_
    replace hm := hm.2
    exact hZ (r_s (((45 : Int32) + ((3 : Int32) * a1)) + ((r_s (0 : Int32).toNatClampNeg) - (r_s (0 : Int32).toNatClampNeg) / (3 : Int32) * (3 : Int32))).toNatClampNeg) () H locs ls 84 hm hP hD hS (dX12_backOf 37 rfl) rfl
  replace hm := hm.2
  have c9 : x2.toInt < 1 ∨ 6 < x2.toInt := by skip; have z0 := ob_ne c3; rw [show ((1 : Int32)).toInt = 1 from by decide] at z0; have z1 := ob_ne c4; rw [show ((2 : Int32)).toInt = 2 from by decide] at z1; have z2 := ob_ne c5; rw [show ((3 : Int32)).toInt = 3 from by decide] at z2; have z3 := ob_ne c6; rw [show ((4 : Int32)).toInt = 4 from by decide] at z3; have z4 := ob_ne c7; rw [show ((5 : Int32)).toInt = 5 from by decide] at z4; have z5 := ob_ne c8; rw [show ((6 : Int32)).toInt = 6 from by decide] at z5; omega
  refine lv_tableOut (tgt := 85) hx hb (dX12_backOf 13 rfl) c9 (by decide) ?_
  replace hm := hm c9
  refine lv_iload_n hx hb (dX12_backOf 38 rfl) rfl (lv_at hl 0 rfl) ?_
  exact hZ x1 () H locs ls 86 hm hP hD hS (dX12_backOf 39 rfl) rfl
abbrev rmX12_placeOf : Room := { frames := 0, cells := 0, slots := 0, locals := 0 }
set_option maxHeartbeats 4000000 in
set_option maxRecDepth 100000 in
theorem k_X12_placeOf (l : Launch) (D : va_G) (cI cZ cL : ClassId) (im : obIM) (sz : Nat) (h : Nat) (f_thrown : Int32) (q_s : Nat) (q_image : Nat) (q_frame : Nat) (f_hasImage : Int32) (f_act : Int32) (f_spot : Int32) (f_end : Int32) (f_isWrong : Int32) (f_open : Int32) (q_by : Nat) (q_truths : Nat) (f_slowed : Int32) (f_risked : Int32) (f_gapNow : Int32) (f_giver : Int32) (q_known : Nat) (q_leapt : Nat) (f_turnsMany : Int32) (q_trying : Nat) (q_bestOrder : Nat) (f_leastTime : Int32) (q_ended : Nat) (q_bodies : Nat) (f_ran : Int32) (f_kind : Int32) (f_number : Int32) (f_tellsV : Int32) (r_s : Nat → Int32) (a1 : Int32) (Q : Int32 → Prop) (hm : m_X12_placeOf r_s a1 Q) : Met l yX12_placeOf (Cond.code yX12_placeOf cX12_placeOf 4 (some .int) :: wsL_law) rmX12_placeOf (obPre D (tyG cI cZ cL) im [(h, .inr (12, [.int f_thrown, .ref q_s, .ref q_image, .ref q_frame, .int f_hasImage, .int f_act, .int f_spot, .int f_end, .int f_isWrong, .int f_open, .ref q_by, .ref q_truths, .int f_slowed, .int f_risked, .int f_gapNow, .int f_giver, .ref q_known, .ref q_leapt, .int f_turnsMany, .ref q_trying, .ref q_bestOrder, .int f_leastTime, .ref q_ended, .ref q_bodies, .int f_ran, .int f_kind, .int f_number, .int f_tellsV])), (q_s, .inl (cI, 903, .inl r_s))] sz [.ref h, .int a1]) (va_Qi (fun (r : Int32) (u : Unit) => Q r) (obB D (va_A [(h, .inr (12, [.int f_thrown, .ref q_s, .ref q_image, .ref q_frame, .int f_hasImage, .int f_act, .int f_spot, .int f_end, .int f_isWrong, .int f_open, .ref q_by, .ref q_truths, .int f_slowed, .int f_risked, .int f_gapNow, .int f_giver, .ref q_known, .ref q_leapt, .int f_turnsMany, .ref q_trying, .ref q_bestOrder, .int f_leastTime, .ref q_ended, .ref q_bodies, .int f_ran, .int f_kind, .int f_number, .int f_tellsV])), (q_s, .inl (cI, 903, .inl r_s))] sz) (fun _ : Unit => [(h, .inr (12, [.int f_thrown, .ref q_s, .ref q_image, .ref q_frame, .int f_hasImage, .int f_act, .int f_spot, .int f_end, .int f_isWrong, .int f_open, .ref q_by, .ref q_truths, .int f_slowed, .int f_risked, .int f_gapNow, .int f_giver, .ref q_known, .ref q_leapt, .int f_turnsMany, .ref q_trying, .ref q_bestOrder, .int f_leastTime, .ref q_ended, .ref q_bodies, .int f_ran, .int f_kind, .int f_number, .int f_tellsV])), (q_s, .inl (cI, 903, .inl r_s))])) (va_A [(h, .inr (12, [.int f_thrown, .ref q_s, .ref q_image, .ref q_frame, .int f_hasImage, .int f_act, .int f_spot, .int f_end, .int f_isWrong, .int f_open, .ref q_by, .ref q_truths, .int f_slowed, .int f_risked, .int f_gapNow, .int f_giver, .ref q_known, .ref q_leapt, .int f_turnsMany, .ref q_trying, .ref q_bestOrder, .int f_leastTime, .ref q_ended, .ref q_bodies, .int f_ran, .int f_kind, .int f_number, .int f_tellsV])), (q_s, .inl (cI, 903, .inl r_s))] sz)) 0 0 (va_A [(h, .inr (12, [.int f_thrown, .ref q_s, .ref q_image, .ref q_frame, .int f_hasImage, .int f_act, .int f_spot, .int f_end, .int f_isWrong, .int f_open, .ref q_by, .ref q_truths, .int f_slowed, .int f_risked, .int f_gapNow, .int f_giver, .ref q_known, .ref q_leapt, .int f_turnsMany, .ref q_trying, .ref q_bestOrder, .int f_leastTime, .ref q_ended, .ref q_bodies, .int f_ran, .int f_kind, .int f_number, .int f_tellsV])), (q_s, .inl (cI, 903, .inl r_s))] sz) := by
  refine ob_met_i (cc := cX12_placeOf) (maxL := 4) (by decide) (Nat.le_of_ble_eq_true rfl) (fun p e s m args below meth c A Z hx hb hml hown hts hnm hN hK hA hI hP hD hS hZ ls hl => ?_)
  have hl : lv_has ls 4 [(0, .ref h), (1, .int a1)] := hl
  unfold m_X12_placeOf at hm
  have lab4 : ∀ (n4 : Nat) (v2_4 : Int32) (v3_4 : Int32) , ∀ (H : Heap) (locs : List Loc) (ls : Array Slot), va_P D vwCl [(h, .inr (12, [.int f_thrown, .ref q_s, .ref q_image, .ref q_frame, .int f_hasImage, .int f_act, .int f_spot, .int f_end, .int f_isWrong, .int f_open, .ref q_by, .ref q_truths, .int f_slowed, .int f_risked, .int f_gapNow, .int f_giver, .ref q_known, .ref q_leapt, .int f_turnsMany, .ref q_trying, .ref q_bestOrder, .int f_leastTime, .ref q_ended, .ref q_bodies, .int f_ran, .int f_kind, .int f_number, .int f_tellsV])), (q_s, .inl (cI, 903, .inl r_s))] H → va_D A [(h, .inr (12, [.int f_thrown, .ref q_s, .ref q_image, .ref q_frame, .int f_hasImage, .int f_act, .int f_spot, .int f_end, .int f_isWrong, .int f_open, .ref q_by, .ref q_truths, .int f_slowed, .int f_risked, .int f_gapNow, .int f_giver, .ref q_known, .ref q_leapt, .int f_turnsMany, .ref q_trying, .ref q_bestOrder, .int f_leastTime, .ref q_ended, .ref q_bodies, .int f_ran, .int f_kind, .int f_number, .int f_tellsV])), (q_s, .inl (cI, 903, .inl r_s))] → va_S A s.heap H locs → lv_has ls 4 [(0, .ref h), (1, .int a1), (2, .int v2_4), (3, .int v3_4)] → m_X12_placeOf_L4 r_s a1 Q n4 v2_4 v3_4 → W p l e rmX12_placeOf s m args below meth c H locs 0 0 Z (F0 m 4 ls []) := by
    clear hm
    intro n4
    induction n4 with
    | zero =>
      intro v2_4 v3_4 H locs ls hP hD hS hl hm
      exact hm.elim
    | succ n4 ih4 =>
      intro v2_4 v3_4 H locs ls hP hD hS hl hm
      unfold m_X12_placeOf_L4 at hm
      obtain ⟨K4, hK4⟩ : ∃ K : Int32 → Int32 → Prop, K = m_X12_placeOf_L4 r_s a1 Q n4 := ⟨_, rfl⟩
      rw [← hK4] at hm ih4
      have lab31 : ∀ (v3_31 : Int32) (w0_31 : Int32) , ∀ (H : Heap) (locs : List Loc) (ls : Array Slot), va_P D vwCl [(h, .inr (12, [.int f_thrown, .ref q_s, .ref q_image, .ref q_frame, .int f_hasImage, .int f_act, .int f_spot, .int f_end, .int f_isWrong, .int f_open, .ref q_by, .ref q_truths, .int f_slowed, .int f_risked, .int f_gapNow, .int f_giver, .ref q_known, .ref q_leapt, .int f_turnsMany, .ref q_trying, .ref q_bestOrder, .int f_leastTime, .ref q_ended, .ref q_bodies, .int f_ran, .int f_kind, .int f_number, .int f_tellsV])), (q_s, .inl (cI, 903, .inl r_s))] H → va_D A [(h, .inr (12, [.int f_thrown, .ref q_s, .ref q_image, .ref q_frame, .int f_hasImage, .int f_act, .int f_spot, .int f_end, .int f_isWrong, .int f_open, .ref q_by, .ref q_truths, .int f_slowed, .int f_risked, .int f_gapNow, .int f_giver, .ref q_known, .ref q_leapt, .int f_turnsMany, .ref q_trying, .ref q_bestOrder, .int f_leastTime, .ref q_ended, .ref q_bodies, .int f_ran, .int f_kind, .int f_number, .int f_tellsV])), (q_s, .inl (cI, 903, .inl r_s))] → va_S A s.heap H locs → lv_has ls 4 [(0, .ref h), (1, .int a1), (3, .int v3_31)] → m_X12_placeOf_L31 r_s a1 v3_31 w0_31 K4 Q → W p l e rmX12_placeOf s m args below meth c H locs 0 0 Z (F0 m 31 ls [.int w0_31]) := by
        clear hm
        intro v3_31 w0_31 H locs ls hP hD hS hl hm
        unfold m_X12_placeOf_L31 at hm
        refine lv_istore_n (lv' := [(2, .int w0_31), (0, .ref h), (1, .int a1), (3, .int v3_31)]) hx hb (dX12_placeOf 21 rfl) rfl hl (by decide) rfl (fun ls hl => ?_)
        obtain ⟨x5, ex5⟩ : ∃ y : Int32, y = v3_31 + 1 := ⟨_, rfl⟩
        replace hm := hm x5 ex5
        refine lv_iinc (v := x5) (lv' := [(3, .int x5), (2, .int w0_31), (0, .ref h), (1, .int a1)]) hx hb (dX12_placeOf 22 rfl) hl (k := 3) rfl (by rw [ex5]; rfl) (by decide) rfl (fun ls hl => ?_)
        refine lv_goto (tgt := 4) hx hb (dX12_placeOf 23 rfl) (by decide) ?_
        exact ih4 w0_31 x5 H locs ls hP hD hS (lv_sub hl [2, 3, 1, 0] rfl) hm
      refine lv_iload_n hx hb (dX12_placeOf 4 rfl) rfl (lv_at hl 3 rfl) ?_
      refine lv_aload_n hx hb (dX12_placeOf 5 rfl) rfl (lv_at hl 0 rfl) ?_
      refine va_get (D := D) (ci := 12) (v := .ref q_s) (C := RX12) (T := TX12) (N := 28) hx hb hts inlX12 hown hK hP 0 rfl rfl 1 (by decide) (hts (.fieldLink RX12 9 "OverBacksModel" "s" "[I") (inR3 _ (List.mem_of_getElem? (i := 20) rfl))) (fun _ h9 => h9) rfl (dX12_placeOf 6 rfl) ?_
      refine lv_iconst (v := (3 : Int32)) hx hb (dX12_placeOf 7 rfl) (by decide) ?_
      refine va_iald hx hb hK hP 1 0 rfl rfl (ob_in (by decide)) (dX12_placeOf 8 rfl) ?_
      refine lv_icmp_ge (tgt := 38) hx hb (dX12_placeOf 9 rfl) (by decide) (fun c3 => ?_) (fun c3 => ?_)
      · replace hm := hm.1 c3
        refine lv_iload_n hx hb (dX12_placeOf 24 rfl) rfl (lv_at hl 2 rfl) ?_
        exact hZ v2_4 () H locs ls 39 hm hP hD hS (dX12_placeOf 25 rfl) rfl
      replace hm := hm.2 c3
      refine lv_aload_n hx hb (dX12_placeOf 10 rfl) rfl (lv_at hl 0 rfl) ?_
      refine va_get (D := D) (ci := 12) (v := .ref q_s) (C := RX12) (T := TX12) (N := 28) hx hb hts inlX12 hown hK hP 0 rfl rfl 1 (by decide) (hts (.fieldLink RX12 9 "OverBacksModel" "s" "[I") (inR3 _ (List.mem_of_getElem? (i := 20) rfl))) (fun _ h9 => h9) rfl (dX12_placeOf 11 rfl) ?_
      refine lv_iconst (v := (4 : Int32)) hx hb (dX12_placeOf 12 rfl) (by decide) ?_
      refine lv_iload_n hx hb (dX12_placeOf 13 rfl) rfl (lv_at hl 3 rfl) ?_
      refine lv_iadd hx hb (dX12_placeOf 14 rfl) ?_
      refine va_iald hx hb hK hP 1 0 rfl rfl hm.1 (dX12_placeOf 15 rfl) ?_
      replace hm := hm.2
      refine lv_iload_n hx hb (dX12_placeOf 16 rfl) rfl (lv_at hl 1 rfl) ?_
      refine lv_icmp_ne (tgt := 30) hx hb (dX12_placeOf 17 rfl) (by decide) (fun c4 => ?_) (fun c4 => ?_)
      · replace hm := hm.2 c4
        refine lv_iload_n hx hb (dX12_placeOf 20 rfl) rfl (lv_at hl 2 rfl) ?_
        exact lab31 v3_4 v2_4 H locs ls hP hD hS (lv_sub hl [0, 1, 3] rfl) hm
      replace hm := hm.1 c4
      refine lv_iload_n hx hb (dX12_placeOf 18 rfl) rfl (lv_at hl 3 rfl) ?_
      refine lv_goto (tgt := 31) hx hb (dX12_placeOf 19 rfl) (by decide) ?_
      exact lab31 v3_4 v3_4 H locs ls hP hD hS (lv_sub hl [0, 1, 3] rfl) hm
  obtain ⟨H, hH⟩ : ∃ H, H = s.heap := ⟨_, rfl⟩
  obtain ⟨locs, hlo⟩ : ∃ q : List Loc, q = [] := ⟨_, rfl⟩
  suffices hgo : W p l e rmX12_placeOf s m args below meth c H locs 0 0 Z (F0 m 0 ls []) by rw [hH, hlo] at hgo; exact hgo
  have hP : va_P D vwCl [(h, .inr (12, [.int f_thrown, .ref q_s, .ref q_image, .ref q_frame, .int f_hasImage, .int f_act, .int f_spot, .int f_end, .int f_isWrong, .int f_open, .ref q_by, .ref q_truths, .int f_slowed, .int f_risked, .int f_gapNow, .int f_giver, .ref q_known, .ref q_leapt, .int f_turnsMany, .ref q_trying, .ref q_bestOrder, .int f_leastTime, .ref q_ended, .ref q_bodies, .int f_ran, .int f_kind, .int f_number, .int f_tellsV])), (q_s, .inl (cI, 903, .inl r_s))] H := by rw [hH]; exact hP
  have hD : va_D A [(h, .inr (12, [.int f_thrown, .ref q_s, .ref q_image, .ref q_frame, .int f_hasImage, .int f_act, .int f_spot, .int f_end, .int f_isWrong, .int f_open, .ref q_by, .ref q_truths, .int f_slowed, .int f_risked, .int f_gapNow, .int f_giver, .ref q_known, .ref q_leapt, .int f_turnsMany, .ref q_trying, .ref q_bestOrder, .int f_leastTime, .ref q_ended, .ref q_bodies, .int f_ran, .int f_kind, .int f_number, .int f_tellsV])), (q_s, .inl (cI, 903, .inl r_s))] := hD
  have hS : va_S A s.heap H locs := by rw [hH, hlo]; exact hS
  refine lv_iconst (v := (-1 : Int32)) hx hb (dX12_placeOf 0 rfl) (by decide) ?_
  refine lv_topi (fun x1 ex1 => ?_)
  replace hm := hm x1 ex1
  refine lv_istore_n (lv' := [(2, .int x1), (0, .ref h), (1, .int a1)]) hx hb (dX12_placeOf 1 rfl) rfl hl (by decide) rfl (fun ls hl => ?_)
  refine lv_iconst (v := (0 : Int32)) hx hb (dX12_placeOf 2 rfl) (by decide) ?_
  refine lv_topi (fun x2 ex2 => ?_)
  replace hm := hm x2 ex2
  refine lv_istore_n (lv' := [(3, .int x2), (2, .int x1), (0, .ref h), (1, .int a1)]) hx hb (dX12_placeOf 3 rfl) rfl hl (by decide) rfl (fun ls hl => ?_)
  obtain ⟨n6, hm⟩ := hm
  exact lab4 n6 x1 x2 H locs ls hP hD hS (lv_sub hl [2, 3, 1, 0] rfl) hm
abbrev rmX12_of : Room := { frames := 2, cells := 0, slots := 0, locals := 43 }
set_option maxHeartbeats 4000000 in
set_option maxRecDepth 100000 in
theorem k_X12_of (l : Launch) (D : va_G) (cI cZ cL : ClassId) (im : obIM) (sz : Nat) (h : Nat) (f_thrown : Int32) (q_s : Nat) (q_image : Nat) (q_frame : Nat) (f_hasImage : Int32) (f_act : Int32) (f_spot : Int32) (f_end : Int32) (f_isWrong : Int32) (f_open : Int32) (q_by : Nat) (q_truths : Nat) (f_slowed : Int32) (f_risked : Int32) (f_gapNow : Int32) (f_giver : Int32) (q_known : Nat) (q_leapt : Nat) (f_turnsMany : Int32) (q_trying : Nat) (q_bestOrder : Nat) (f_leastTime : Int32) (q_ended : Nat) (q_bodies : Nat) (f_ran : Int32) (f_kind : Int32) (f_number : Int32) (f_tellsV : Int32) (r_s : Nat → Int32) (a1 : Int32) (a2 : Int32) (Q : Int32 → Prop) (hm : m_X12_of r_s a1 a2 Q) : Met l yX12_of (Cond.code yX12_of cX12_of 3 (some .int) :: wsL_law) rmX12_of (obPre D (tyG cI cZ cL) im [(h, .inr (12, [.int f_thrown, .ref q_s, .ref q_image, .ref q_frame, .int f_hasImage, .int f_act, .int f_spot, .int f_end, .int f_isWrong, .int f_open, .ref q_by, .ref q_truths, .int f_slowed, .int f_risked, .int f_gapNow, .int f_giver, .ref q_known, .ref q_leapt, .int f_turnsMany, .ref q_trying, .ref q_bestOrder, .int f_leastTime, .ref q_ended, .ref q_bodies, .int f_ran, .int f_kind, .int f_number, .int f_tellsV])), (q_s, .inl (cI, 903, .inl r_s))] sz [.ref h, .int a1, .int a2]) (va_Qi (fun (r : Int32) (u : Unit) => Q r) (obB D (va_A [(h, .inr (12, [.int f_thrown, .ref q_s, .ref q_image, .ref q_frame, .int f_hasImage, .int f_act, .int f_spot, .int f_end, .int f_isWrong, .int f_open, .ref q_by, .ref q_truths, .int f_slowed, .int f_risked, .int f_gapNow, .int f_giver, .ref q_known, .ref q_leapt, .int f_turnsMany, .ref q_trying, .ref q_bestOrder, .int f_leastTime, .ref q_ended, .ref q_bodies, .int f_ran, .int f_kind, .int f_number, .int f_tellsV])), (q_s, .inl (cI, 903, .inl r_s))] sz) (fun _ : Unit => [(h, .inr (12, [.int f_thrown, .ref q_s, .ref q_image, .ref q_frame, .int f_hasImage, .int f_act, .int f_spot, .int f_end, .int f_isWrong, .int f_open, .ref q_by, .ref q_truths, .int f_slowed, .int f_risked, .int f_gapNow, .int f_giver, .ref q_known, .ref q_leapt, .int f_turnsMany, .ref q_trying, .ref q_bestOrder, .int f_leastTime, .ref q_ended, .ref q_bodies, .int f_ran, .int f_kind, .int f_number, .int f_tellsV])), (q_s, .inl (cI, 903, .inl r_s))])) (va_A [(h, .inr (12, [.int f_thrown, .ref q_s, .ref q_image, .ref q_frame, .int f_hasImage, .int f_act, .int f_spot, .int f_end, .int f_isWrong, .int f_open, .ref q_by, .ref q_truths, .int f_slowed, .int f_risked, .int f_gapNow, .int f_giver, .ref q_known, .ref q_leapt, .int f_turnsMany, .ref q_trying, .ref q_bestOrder, .int f_leastTime, .ref q_ended, .ref q_bodies, .int f_ran, .int f_kind, .int f_number, .int f_tellsV])), (q_s, .inl (cI, 903, .inl r_s))] sz)) 0 0 (va_A [(h, .inr (12, [.int f_thrown, .ref q_s, .ref q_image, .ref q_frame, .int f_hasImage, .int f_act, .int f_spot, .int f_end, .int f_isWrong, .int f_open, .ref q_by, .ref q_truths, .int f_slowed, .int f_risked, .int f_gapNow, .int f_giver, .ref q_known, .ref q_leapt, .int f_turnsMany, .ref q_trying, .ref q_bestOrder, .int f_leastTime, .ref q_ended, .ref q_bodies, .int f_ran, .int f_kind, .int f_number, .int f_tellsV])), (q_s, .inl (cI, 903, .inl r_s))] sz) := by
  refine ob_met_i (cc := cX12_of) (maxL := 3) (by decide) (Nat.le_of_ble_eq_true rfl) (fun p e s m args below meth c A Z hx hb hml hown hts hnm hN hK hA hI hP hD hS hZ ls hl => ?_)
  have hl : lv_has ls 3 [(0, .ref h), (1, .int a1), (2, .int a2)] := hl
  unfold m_X12_of at hm
  obtain ⟨H, hH⟩ : ∃ H, H = s.heap := ⟨_, rfl⟩
  obtain ⟨locs, hlo⟩ : ∃ q : List Loc, q = [] := ⟨_, rfl⟩
  suffices hgo : W p l e rmX12_of s m args below meth c H locs 0 0 Z (F0 m 0 ls []) by rw [hH, hlo] at hgo; exact hgo
  have hP : va_P D vwCl [(h, .inr (12, [.int f_thrown, .ref q_s, .ref q_image, .ref q_frame, .int f_hasImage, .int f_act, .int f_spot, .int f_end, .int f_isWrong, .int f_open, .ref q_by, .ref q_truths, .int f_slowed, .int f_risked, .int f_gapNow, .int f_giver, .ref q_known, .ref q_leapt, .int f_turnsMany, .ref q_trying, .ref q_bestOrder, .int f_leastTime, .ref q_ended, .ref q_bodies, .int f_ran, .int f_kind, .int f_number, .int f_tellsV])), (q_s, .inl (cI, 903, .inl r_s))] H := by rw [hH]; exact hP
  have hD : va_D A [(h, .inr (12, [.int f_thrown, .ref q_s, .ref q_image, .ref q_frame, .int f_hasImage, .int f_act, .int f_spot, .int f_end, .int f_isWrong, .int f_open, .ref q_by, .ref q_truths, .int f_slowed, .int f_risked, .int f_gapNow, .int f_giver, .ref q_known, .ref q_leapt, .int f_turnsMany, .ref q_trying, .ref q_bestOrder, .int f_leastTime, .ref q_ended, .ref q_bodies, .int f_ran, .int f_kind, .int f_number, .int f_tellsV])), (q_s, .inl (cI, 903, .inl r_s))] := hD
  have hS : va_S A s.heap H locs := by rw [hH, hlo]; exact hS
  refine lv_aload_n hx hb (dX12_of 0 rfl) rfl (lv_at hl 0 rfl) ?_
  refine lv_iload_n hx hb (dX12_of 1 rfl) rfl (lv_at hl 1 rfl) ?_
  have hcut := ob_cut (wc := [(h, .inr (12, [.int f_thrown, .ref q_s, .ref q_image, .ref q_frame, .int f_hasImage, .int f_act, .int f_spot, .int f_end, .int f_isWrong, .int f_open, .ref q_by, .ref q_truths, .int f_slowed, .int f_risked, .int f_gapNow, .int f_giver, .ref q_known, .ref q_leapt, .int f_turnsMany, .ref q_trying, .ref q_bestOrder, .int f_leastTime, .ref q_ended, .ref q_bodies, .int f_ran, .int f_kind, .int f_number, .int f_tellsV])), (q_s, .inl (cI, 903, .inl r_s))]) hP hD hS hA [0, 1] rfl (by decide)
  refine ob_i (wr := []) (ob_V (As := [.int a1]) (rest := []) ⟨hx, hb, hml, hown, hts⟩ hK hcut (hI.cut hS hcut.2.2) hN (va_recv hK hP (ci := 12) (q0 := 0) rfl rfl) (k_X12_isPerson l D cI cZ cL im _ _ _ _ _ _ _ _ _ _ _ _ _ _ _ _ _ _ _ _ _ _ _ _ _ _ _ _ _ _ _ _ _ hm) (cwV 1 hts (gU_V (inR19 _ (List.mem_of_getElem? (i := 4) rfl)) (inR19 _ (List.mem_of_getElem? (i := 5) rfl)) (inR19 _ (List.mem_of_getElem? (i := 6) rfl)) (inR1 _ (List.mem_of_getElem? (i := 5) rfl)) (inR19 _ (List.mem_of_getElem? (i := 7) rfl))) rfl rfl rfl (by decide +kernel) ⟨Nat.le_of_ble_eq_true rfl, Nat.le_of_ble_eq_true rfl⟩) rfl hl.1 rfl (Nat.le_of_ble_eq_true rfl) (dX12_of 2 rfl) ⟨Nat.zero_le _, Nat.zero_le _⟩) hP hD hS hcut [0, 1] [] rfl rfl (by decide) (by decide) (fun r1 u2 H locs hm hP hD hS => ?_)
  have hP := hP.sub (ws' := [(h, .inr (12, [.int f_thrown, .ref q_s, .ref q_image, .ref q_frame, .int f_hasImage, .int f_act, .int f_spot, .int f_end, .int f_isWrong, .int f_open, .ref q_by, .ref q_truths, .int f_slowed, .int f_risked, .int f_gapNow, .int f_giver, .ref q_known, .ref q_leapt, .int f_turnsMany, .ref q_trying, .ref q_bestOrder, .int f_leastTime, .ref q_ended, .ref q_bodies, .int f_ran, .int f_kind, .int f_number, .int f_tellsV])), (q_s, .inl (cI, 903, .inl r_s))]) [0, 1] rfl
  have hD := hD.sub (ws' := [(h, .inr (12, [.int f_thrown, .ref q_s, .ref q_image, .ref q_frame, .int f_hasImage, .int f_act, .int f_spot, .int f_end, .int f_isWrong, .int f_open, .ref q_by, .ref q_truths, .int f_slowed, .int f_risked, .int f_gapNow, .int f_giver, .ref q_known, .ref q_leapt, .int f_turnsMany, .ref q_trying, .ref q_bestOrder, .int f_leastTime, .ref q_ended, .ref q_bodies, .int f_ran, .int f_kind, .int f_number, .int f_tellsV])), (q_s, .inl (cI, 903, .inl r_s))]) [0, 1] (by decide) rfl
  refine lv_if_ne (tgt := 10) hx hb (dX12_of 3 rfl) (by decide) (fun c3 => ?_) (fun c3 => ?_)
  · replace hm := hm.2 c3
    refine lv_iload_n hx hb (dX12_of 6 rfl) rfl (lv_at hl 2 rfl) ?_
    refine lv_iconst (v := (3 : Int32)) hx hb (dX12_of 7 rfl) (by decide) ?_
    refine lv_icmp_ne (tgt := 27) hx hb (dX12_of 8 rfl) (by decide) (fun c4 => ?_) (fun c4 => ?_)
    · replace hm := hm.2 c4
      refine lv_iload_n hx hb (dX12_of 16 rfl) rfl (lv_at hl 2 rfl) ?_
      refine lv_iconst (v := (4 : Int32)) hx hb (dX12_of 17 rfl) (by decide) ?_
      refine lv_icmp_ne (tgt := 40) hx hb (dX12_of 18 rfl) (by decide) (fun c5 => ?_) (fun c5 => ?_)
      · replace hm := hm.2 c5
        refine lv_iload_n hx hb (dX12_of 23 rfl) rfl (lv_at hl 2 rfl) ?_
        refine lv_iconst (v := (5 : Int32)) hx hb (dX12_of 24 rfl) (by decide) ?_
        refine lv_icmp_ne (tgt := 53) hx hb (dX12_of 25 rfl) (by decide) (fun c6 => ?_) (fun c6 => ?_)
        · replace hm := hm.2 c6
          refine lv_iload_n hx hb (dX12_of 30 rfl) rfl (lv_at hl 2 rfl) ?_
          refine lv_iconst (v := (0 : Int32)) hx hb (dX12_of 31 rfl) (by decide) ?_
          refine lv_iconst (v := (2 : Int32)) hx hb (dX12_of 32 rfl) (by decide) ?_
          have hcut := ob_cut (wc := []) hP hD hS hA [] rfl (by decide)
          refine ob_i (wr := [(h, .inr (12, [.int f_thrown, .ref q_s, .ref q_image, .ref q_frame, .int f_hasImage, .int f_act, .int f_spot, .int f_end, .int f_isWrong, .int f_open, .ref q_by, .ref q_truths, .int f_slowed, .int f_risked, .int f_gapNow, .int f_giver, .ref q_known, .ref q_leapt, .int f_turnsMany, .ref q_trying, .ref q_bestOrder, .int f_leastTime, .ref q_ended, .ref q_bodies, .int f_ran, .int f_kind, .int f_number, .int f_tellsV])), (q_s, .inl (cI, 903, .inl r_s))]) (ob_S (As := [.int a2, .int (0 : Int32), .int (2 : Int32)]) (rest := []) ⟨hx, hb, hml, hown, hts⟩ hK hcut (hI.cut hS hcut.2.2) hN (k_X12_in l D cI cZ cL im _ _ _ _ _ hm) (cwS2 3 hts (hts (.methodLink RX12 53 yX12_in) (inR4 _ (List.mem_of_getElem? (i := 23) rfl))) (hts (.static yX12_in) (inR5 _ (List.mem_of_getElem? (i := 0) rfl))) (hts (.initialized RX12) (inR1 _ (List.mem_of_getElem? (i := 5) rfl))) (goodU_c (inR5 _ (List.mem_of_getElem? (i := 1) rfl))) rfl rfl rfl (by decide +kernel) ⟨Nat.le_of_ble_eq_true rfl, Nat.le_of_ble_eq_true rfl⟩) rfl hl.1 rfl (Nat.le_of_ble_eq_true rfl) (dX12_of 33 rfl) ⟨Nat.zero_le _, Nat.zero_le _⟩) hP hD hS hcut [] [0, 1] rfl rfl (by decide) (by decide) (fun r7 u8 H locs hm hP hD hS => ?_)
          have hP := hP.sub (ws' := [(h, .inr (12, [.int f_thrown, .ref q_s, .ref q_image, .ref q_frame, .int f_hasImage, .int f_act, .int f_spot, .int f_end, .int f_isWrong, .int f_open, .ref q_by, .ref q_truths, .int f_slowed, .int f_risked, .int f_gapNow, .int f_giver, .ref q_known, .ref q_leapt, .int f_turnsMany, .ref q_trying, .ref q_bestOrder, .int f_leastTime, .ref q_ended, .ref q_bodies, .int f_ran, .int f_kind, .int f_number, .int f_tellsV])), (q_s, .inl (cI, 903, .inl r_s))]) [0, 1] rfl
          have hD := hD.sub (ws' := [(h, .inr (12, [.int f_thrown, .ref q_s, .ref q_image, .ref q_frame, .int f_hasImage, .int f_act, .int f_spot, .int f_end, .int f_isWrong, .int f_open, .ref q_by, .ref q_truths, .int f_slowed, .int f_risked, .int f_gapNow, .int f_giver, .ref q_known, .ref q_leapt, .int f_turnsMany, .ref q_trying, .ref q_bestOrder, .int f_leastTime, .ref q_ended, .ref q_bodies, .int f_ran, .int f_kind, .int f_number, .int f_tellsV])), (q_s, .inl (cI, 903, .inl r_s))]) [0, 1] (by decide) rfl
          refine lv_if_eq (tgt := 79) hx hb (dX12_of 34 rfl) (by decide) (fun c9 => ?_) (fun c9 => ?_)
          · replace hm := hm.1 c9
            refine lv_iconst (v := (-1 : Int32)) hx hb (dX12_of 46 rfl) (by decide) ?_
            exact hZ (-1 : Int32) () H locs ls 80 hm hP hD hS (dX12_of 47 rfl) rfl
          replace hm := hm.2 c9
          refine lv_aload_n hx hb (dX12_of 35 rfl) rfl (lv_at hl 0 rfl) ?_
          refine va_get (D := D) (ci := 12) (v := .ref q_s) (C := RX12) (T := TX12) (N := 28) hx hb hts inlX12 hown hK hP 0 rfl rfl 1 (by decide) (hts (.fieldLink RX12 9 "OverBacksModel" "s" "[I") (inR3 _ (List.mem_of_getElem? (i := 20) rfl))) (fun _ h9 => h9) rfl (dX12_of 36 rfl) ?_
          refine lv_bipush (v := (24 : Int32)) hx hb (dX12_of 37 rfl) (by decide) ?_
          refine lv_bipush (v := (7 : Int32)) hx hb (dX12_of 38 rfl) (by decide) ?_
          refine lv_iload_n hx hb (dX12_of 39 rfl) rfl (lv_at hl 2 rfl) ?_
          refine lv_imul hx hb (dX12_of 40 rfl) ?_
          refine lv_iadd hx hb (dX12_of 41 rfl) ?_
          refine lv_iload_n hx hb (dX12_of 42 rfl) rfl (lv_at hl 1 rfl) ?_
          refine lv_iadd hx hb (dX12_of 43 rfl) ?_
          refine va_iald hx hb hK hP 1 0 rfl rfl hm.1 (dX12_of 44 rfl) ?_
          replace hm := hm.2
          refine lv_goto (tgt := 80) hx hb (dX12_of 45 rfl) (by decide) ?_
          exact hZ (r_s (((24 : Int32) + ((7 : Int32) * a2)) + a1).toNatClampNeg) () H locs ls 80 hm hP hD hS (dX12_of 47 rfl) rfl
        replace hm := hm.1 c6
        refine lv_aload_n hx hb (dX12_of 26 rfl) rfl (lv_at hl 0 rfl) ?_
        refine lv_iload_n hx hb (dX12_of 27 rfl) rfl (lv_at hl 1 rfl) ?_
        have hcut := ob_cut (wc := [(h, .inr (12, [.int f_thrown, .ref q_s, .ref q_image, .ref q_frame, .int f_hasImage, .int f_act, .int f_spot, .int f_end, .int f_isWrong, .int f_open, .ref q_by, .ref q_truths, .int f_slowed, .int f_risked, .int f_gapNow, .int f_giver, .ref q_known, .ref q_leapt, .int f_turnsMany, .ref q_trying, .ref q_bestOrder, .int f_leastTime, .ref q_ended, .ref q_bodies, .int f_ran, .int f_kind, .int f_number, .int f_tellsV])), (q_s, .inl (cI, 903, .inl r_s))]) hP hD hS hA [0, 1] rfl (by decide)
        refine ob_i (wr := []) (ob_V (As := [.int a1]) (rest := []) ⟨hx, hb, hml, hown, hts⟩ hK hcut (hI.cut hS hcut.2.2) hN (va_recv hK hP (ci := 12) (q0 := 0) rfl rfl) (k_X12_placeOf l D cI cZ cL im _ _ _ _ _ _ _ _ _ _ _ _ _ _ _ _ _ _ _ _ _ _ _ _ _ _ _ _ _ _ _ _ _ hm) (cwV 1 hts (gU_V (inR19 _ (List.mem_of_getElem? (i := 12) rfl)) (inR19 _ (List.mem_of_getElem? (i := 13) rfl)) (inR19 _ (List.mem_of_getElem? (i := 14) rfl)) (inR1 _ (List.mem_of_getElem? (i := 5) rfl)) (inR19 _ (List.mem_of_getElem? (i := 15) rfl))) rfl rfl rfl (by decide +kernel) ⟨Nat.le_of_ble_eq_true rfl, Nat.le_of_ble_eq_true rfl⟩) rfl hl.1 rfl (Nat.le_of_ble_eq_true rfl) (dX12_of 28 rfl) ⟨Nat.zero_le _, Nat.zero_le _⟩) hP hD hS hcut [0, 1] [] rfl rfl (by decide) (by decide) (fun r10 u11 H locs hm hP hD hS => ?_)
        have hP := hP.sub (ws' := [(h, .inr (12, [.int f_thrown, .ref q_s, .ref q_image, .ref q_frame, .int f_hasImage, .int f_act, .int f_spot, .int f_end, .int f_isWrong, .int f_open, .ref q_by, .ref q_truths, .int f_slowed, .int f_risked, .int f_gapNow, .int f_giver, .ref q_known, .ref q_leapt, .int f_turnsMany, .ref q_trying, .ref q_bestOrder, .int f_leastTime, .ref q_ended, .ref q_bodies, .int f_ran, .int f_kind, .int f_number, .int f_tellsV])), (q_s, .inl (cI, 903, .inl r_s))]) [0, 1] rfl
        have hD := hD.sub (ws' := [(h, .inr (12, [.int f_thrown, .ref q_s, .ref q_image, .ref q_frame, .int f_hasImage, .int f_act, .int f_spot, .int f_end, .int f_isWrong, .int f_open, .ref q_by, .ref q_truths, .int f_slowed, .int f_risked, .int f_gapNow, .int f_giver, .ref q_known, .ref q_leapt, .int f_turnsMany, .ref q_trying, .ref q_bestOrder, .int f_leastTime, .ref q_ended, .ref q_bodies, .int f_ran, .int f_kind, .int f_number, .int f_tellsV])), (q_s, .inl (cI, 903, .inl r_s))]) [0, 1] (by decide) rfl
        refine lv_goto (tgt := 80) hx hb (dX12_of 29 rfl) (by decide) ?_
        exact hZ r10 () H locs ls 80 hm hP hD hS (dX12_of 47 rfl) rfl
      replace hm := hm.1 c5
      refine lv_aload_n hx hb (dX12_of 19 rfl) rfl (lv_at hl 0 rfl) ?_
      refine lv_iload_n hx hb (dX12_of 20 rfl) rfl (lv_at hl 1 rfl) ?_
      have hcut := ob_cut (wc := [(h, .inr (12, [.int f_thrown, .ref q_s, .ref q_image, .ref q_frame, .int f_hasImage, .int f_act, .int f_spot, .int f_end, .int f_isWrong, .int f_open, .ref q_by, .ref q_truths, .int f_slowed, .int f_risked, .int f_gapNow, .int f_giver, .ref q_known, .ref q_leapt, .int f_turnsMany, .ref q_trying, .ref q_bestOrder, .int f_leastTime, .ref q_ended, .ref q_bodies, .int f_ran, .int f_kind, .int f_number, .int f_tellsV])), (q_s, .inl (cI, 903, .inl r_s))]) hP hD hS hA [0, 1] rfl (by decide)
      refine ob_i (wr := []) (ob_V (As := [.int a1]) (rest := []) ⟨hx, hb, hml, hown, hts⟩ hK hcut (hI.cut hS hcut.2.2) hN (va_recv hK hP (ci := 12) (q0 := 0) rfl rfl) (k_X12_backOf l D cI cZ cL im _ _ _ _ _ _ _ _ _ _ _ _ _ _ _ _ _ _ _ _ _ _ _ _ _ _ _ _ _ _ _ _ _ hm) (cwV 1 hts (gU_V (inR19 _ (List.mem_of_getElem? (i := 8) rfl)) (inR19 _ (List.mem_of_getElem? (i := 9) rfl)) (inR19 _ (List.mem_of_getElem? (i := 10) rfl)) (inR1 _ (List.mem_of_getElem? (i := 5) rfl)) (inR19 _ (List.mem_of_getElem? (i := 11) rfl))) rfl rfl rfl (by decide +kernel) ⟨Nat.le_of_ble_eq_true rfl, Nat.le_of_ble_eq_true rfl⟩) rfl hl.1 rfl (Nat.le_of_ble_eq_true rfl) (dX12_of 21 rfl) ⟨Nat.zero_le _, Nat.zero_le _⟩) hP hD hS hcut [0, 1] [] rfl rfl (by decide) (by decide) (fun r12 u13 H locs hm hP hD hS => ?_)
      have hP := hP.sub (ws' := [(h, .inr (12, [.int f_thrown, .ref q_s, .ref q_image, .ref q_frame, .int f_hasImage, .int f_act, .int f_spot, .int f_end, .int f_isWrong, .int f_open, .ref q_by, .ref q_truths, .int f_slowed, .int f_risked, .int f_gapNow, .int f_giver, .ref q_known, .ref q_leapt, .int f_turnsMany, .ref q_trying, .ref q_bestOrder, .int f_leastTime, .ref q_ended, .ref q_bodies, .int f_ran, .int f_kind, .int f_number, .int f_tellsV])), (q_s, .inl (cI, 903, .inl r_s))]) [0, 1] rfl
      have hD := hD.sub (ws' := [(h, .inr (12, [.int f_thrown, .ref q_s, .ref q_image, .ref q_frame, .int f_hasImage, .int f_act, .int f_spot, .int f_end, .int f_isWrong, .int f_open, .ref q_by, .ref q_truths, .int f_slowed, .int f_risked, .int f_gapNow, .int f_giver, .ref q_known, .ref q_leapt, .int f_turnsMany, .ref q_trying, .ref q_bestOrder, .int f_leastTime, .ref q_ended, .ref q_bodies, .int f_ran, .int f_kind, .int f_number, .int f_tellsV])), (q_s, .inl (cI, 903, .inl r_s))]) [0, 1] (by decide) rfl
      refine lv_goto (tgt := 80) hx hb (dX12_of 22 rfl) (by decide) ?_
      exact hZ r12 () H locs ls 80 hm hP hD hS (dX12_of 47 rfl) rfl
    replace hm := hm.1 c4
    refine lv_aload_n hx hb (dX12_of 9 rfl) rfl (lv_at hl 0 rfl) ?_
    refine va_get (D := D) (ci := 12) (v := .ref q_s) (C := RX12) (T := TX12) (N := 28) hx hb hts inlX12 hown hK hP 0 rfl rfl 1 (by decide) (hts (.fieldLink RX12 9 "OverBacksModel" "s" "[I") (inR3 _ (List.mem_of_getElem? (i := 20) rfl))) (fun _ h9 => h9) rfl (dX12_of 10 rfl) ?_
    refine lv_bipush (v := (11 : Int32)) hx hb (dX12_of 11 rfl) (by decide) ?_
    refine lv_iload_n hx hb (dX12_of 12 rfl) rfl (lv_at hl 1 rfl) ?_
    refine lv_iadd hx hb (dX12_of 13 rfl) ?_
    refine va_iald hx hb hK hP 1 0 rfl rfl hm.1 (dX12_of 14 rfl) ?_
    replace hm := hm.2
    refine lv_goto (tgt := 80) hx hb (dX12_of 15 rfl) (by decide) ?_
    exact hZ (r_s ((11 : Int32) + a1).toNatClampNeg) () H locs ls 80 hm hP hD hS (dX12_of 47 rfl) rfl
  replace hm := hm.1 c3
  refine lv_iconst (v := (-1 : Int32)) hx hb (dX12_of 4 rfl) (by decide) ?_
  exact hZ (-1 : Int32) () H locs ls 9 hm hP hD hS (dX12_of 5 rfl) rfl
abbrev rmX12_breath : Room := { frames := 2, cells := 0, slots := 0, locals := 43 }
set_option maxHeartbeats 4000000 in
set_option maxRecDepth 100000 in
theorem k_X12_breath (l : Launch) (D : va_G) (cI cZ cL : ClassId) (im : obIM) (sz : Nat) (h : Nat) (f_thrown : Int32) (q_s : Nat) (q_image : Nat) (q_frame : Nat) (f_hasImage : Int32) (f_act : Int32) (f_spot : Int32) (f_end : Int32) (f_isWrong : Int32) (f_open : Int32) (q_by : Nat) (q_truths : Nat) (f_slowed : Int32) (f_risked : Int32) (f_gapNow : Int32) (f_giver : Int32) (q_known : Nat) (q_leapt : Nat) (f_turnsMany : Int32) (q_trying : Nat) (q_bestOrder : Nat) (f_leastTime : Int32) (q_ended : Nat) (q_bodies : Nat) (f_ran : Int32) (f_kind : Int32) (f_number : Int32) (f_tellsV : Int32) (r_s : Nat → Int32) (a1 : Int32) (a2 : Int32) (Q : Int32 → (Nat → Int32) → Prop) (hm : m_X12_breath r_s a1 a2 Q) : Met l yX12_breath (Cond.code yX12_breath cX12_breath 4 (some .int) :: wsL_law) rmX12_breath (obPre D (tyG cI cZ cL) im [(h, .inr (12, [.int f_thrown, .ref q_s, .ref q_image, .ref q_frame, .int f_hasImage, .int f_act, .int f_spot, .int f_end, .int f_isWrong, .int f_open, .ref q_by, .ref q_truths, .int f_slowed, .int f_risked, .int f_gapNow, .int f_giver, .ref q_known, .ref q_leapt, .int f_turnsMany, .ref q_trying, .ref q_bestOrder, .int f_leastTime, .ref q_ended, .ref q_bodies, .int f_ran, .int f_kind, .int f_number, .int f_tellsV])), (q_s, .inl (cI, 903, .inl r_s))] sz [.ref h, .int a1, .int a2]) (va_Qi (fun (r : Int32) (u : (Nat → Int32)) => Q r u) (obB D (va_A [(h, .inr (12, [.int f_thrown, .ref q_s, .ref q_image, .ref q_frame, .int f_hasImage, .int f_act, .int f_spot, .int f_end, .int f_isWrong, .int f_open, .ref q_by, .ref q_truths, .int f_slowed, .int f_risked, .int f_gapNow, .int f_giver, .ref q_known, .ref q_leapt, .int f_turnsMany, .ref q_trying, .ref q_bestOrder, .int f_leastTime, .ref q_ended, .ref q_bodies, .int f_ran, .int f_kind, .int f_number, .int f_tellsV])), (q_s, .inl (cI, 903, .inl r_s))] sz) (fun u : (Nat → Int32) => [(h, .inr (12, [.int f_thrown, .ref q_s, .ref q_image, .ref q_frame, .int f_hasImage, .int f_act, .int f_spot, .int f_end, .int f_isWrong, .int f_open, .ref q_by, .ref q_truths, .int f_slowed, .int f_risked, .int f_gapNow, .int f_giver, .ref q_known, .ref q_leapt, .int f_turnsMany, .ref q_trying, .ref q_bestOrder, .int f_leastTime, .ref q_ended, .ref q_bodies, .int f_ran, .int f_kind, .int f_number, .int f_tellsV])), (q_s, .inl (cI, 903, .inl u))])) (va_A [(h, .inr (12, [.int f_thrown, .ref q_s, .ref q_image, .ref q_frame, .int f_hasImage, .int f_act, .int f_spot, .int f_end, .int f_isWrong, .int f_open, .ref q_by, .ref q_truths, .int f_slowed, .int f_risked, .int f_gapNow, .int f_giver, .ref q_known, .ref q_leapt, .int f_turnsMany, .ref q_trying, .ref q_bestOrder, .int f_leastTime, .ref q_ended, .ref q_bodies, .int f_ran, .int f_kind, .int f_number, .int f_tellsV])), (q_s, .inl (cI, 903, .inl r_s))] sz)) 0 0 (va_A [(h, .inr (12, [.int f_thrown, .ref q_s, .ref q_image, .ref q_frame, .int f_hasImage, .int f_act, .int f_spot, .int f_end, .int f_isWrong, .int f_open, .ref q_by, .ref q_truths, .int f_slowed, .int f_risked, .int f_gapNow, .int f_giver, .ref q_known, .ref q_leapt, .int f_turnsMany, .ref q_trying, .ref q_bestOrder, .int f_leastTime, .ref q_ended, .ref q_bodies, .int f_ran, .int f_kind, .int f_number, .int f_tellsV])), (q_s, .inl (cI, 903, .inl r_s))] sz) := by
  refine ob_met_i (cc := cX12_breath) (maxL := 4) (by decide) (Nat.le_of_ble_eq_true rfl) (fun p e s m args below meth c A Z hx hb hml hown hts hnm hN hK hA hI hP hD hS hZ ls hl => ?_)
  have hl : lv_has ls 4 [(0, .ref h), (1, .int a1), (2, .int a2)] := hl
  unfold m_X12_breath at hm
  obtain ⟨H, hH⟩ : ∃ H, H = s.heap := ⟨_, rfl⟩
  obtain ⟨locs, hlo⟩ : ∃ q : List Loc, q = [] := ⟨_, rfl⟩
  suffices hgo : W p l e rmX12_breath s m args below meth c H locs 0 0 Z (F0 m 0 ls []) by rw [hH, hlo] at hgo; exact hgo
  have hP : va_P D vwCl [(h, .inr (12, [.int f_thrown, .ref q_s, .ref q_image, .ref q_frame, .int f_hasImage, .int f_act, .int f_spot, .int f_end, .int f_isWrong, .int f_open, .ref q_by, .ref q_truths, .int f_slowed, .int f_risked, .int f_gapNow, .int f_giver, .ref q_known, .ref q_leapt, .int f_turnsMany, .ref q_trying, .ref q_bestOrder, .int f_leastTime, .ref q_ended, .ref q_bodies, .int f_ran, .int f_kind, .int f_number, .int f_tellsV])), (q_s, .inl (cI, 903, .inl r_s))] H := by rw [hH]; exact hP
  have hD : va_D A [(h, .inr (12, [.int f_thrown, .ref q_s, .ref q_image, .ref q_frame, .int f_hasImage, .int f_act, .int f_spot, .int f_end, .int f_isWrong, .int f_open, .ref q_by, .ref q_truths, .int f_slowed, .int f_risked, .int f_gapNow, .int f_giver, .ref q_known, .ref q_leapt, .int f_turnsMany, .ref q_trying, .ref q_bestOrder, .int f_leastTime, .ref q_ended, .ref q_bodies, .int f_ran, .int f_kind, .int f_number, .int f_tellsV])), (q_s, .inl (cI, 903, .inl r_s))] := hD
  have hS : va_S A s.heap H locs := by rw [hH, hlo]; exact hS
  refine lv_aload_n hx hb (dX12_breath 0 rfl) rfl (lv_at hl 0 rfl) ?_
  refine lv_iload_n hx hb (dX12_breath 1 rfl) rfl (lv_at hl 1 rfl) ?_
  have hcut := ob_cut (wc := [(h, .inr (12, [.int f_thrown, .ref q_s, .ref q_image, .ref q_frame, .int f_hasImage, .int f_act, .int f_spot, .int f_end, .int f_isWrong, .int f_open, .ref q_by, .ref q_truths, .int f_slowed, .int f_risked, .int f_gapNow, .int f_giver, .ref q_known, .ref q_leapt, .int f_turnsMany, .ref q_trying, .ref q_bestOrder, .int f_leastTime, .ref q_ended, .ref q_bodies, .int f_ran, .int f_kind, .int f_number, .int f_tellsV])), (q_s, .inl (cI, 903, .inl r_s))]) hP hD hS hA [0, 1] rfl (by decide)
  refine ob_i (wr := []) (ob_V (As := [.int a1]) (rest := []) ⟨hx, hb, hml, hown, hts⟩ hK hcut (hI.cut hS hcut.2.2) hN (va_recv hK hP (ci := 12) (q0 := 0) rfl rfl) (k_X12_isPerson l D cI cZ cL im _ _ _ _ _ _ _ _ _ _ _ _ _ _ _ _ _ _ _ _ _ _ _ _ _ _ _ _ _ _ _ _ _ hm) (cwV 1 hts (gU_V (inR19 _ (List.mem_of_getElem? (i := 4) rfl)) (inR19 _ (List.mem_of_getElem? (i := 5) rfl)) (inR19 _ (List.mem_of_getElem? (i := 6) rfl)) (inR1 _ (List.mem_of_getElem? (i := 5) rfl)) (inR19 _ (List.mem_of_getElem? (i := 7) rfl))) rfl rfl rfl (by decide +kernel) ⟨Nat.le_of_ble_eq_true rfl, Nat.le_of_ble_eq_true rfl⟩) rfl hl.1 rfl (Nat.le_of_ble_eq_true rfl) (dX12_breath 2 rfl) ⟨Nat.zero_le _, Nat.zero_le _⟩) hP hD hS hcut [0, 1] [] rfl rfl (by decide) (by decide) (fun r1 u2 H locs hm hP hD hS => ?_)
  have hP := hP.sub (ws' := [(h, .inr (12, [.int f_thrown, .ref q_s, .ref q_image, .ref q_frame, .int f_hasImage, .int f_act, .int f_spot, .int f_end, .int f_isWrong, .int f_open, .ref q_by, .ref q_truths, .int f_slowed, .int f_risked, .int f_gapNow, .int f_giver, .ref q_known, .ref q_leapt, .int f_turnsMany, .ref q_trying, .ref q_bestOrder, .int f_leastTime, .ref q_ended, .ref q_bodies, .int f_ran, .int f_kind, .int f_number, .int f_tellsV])), (q_s, .inl (cI, 903, .inl r_s))]) [0, 1] rfl
  have hD := hD.sub (ws' := [(h, .inr (12, [.int f_thrown, .ref q_s, .ref q_image, .ref q_frame, .int f_hasImage, .int f_act, .int f_spot, .int f_end, .int f_isWrong, .int f_open, .ref q_by, .ref q_truths, .int f_slowed, .int f_risked, .int f_gapNow, .int f_giver, .ref q_known, .ref q_leapt, .int f_turnsMany, .ref q_trying, .ref q_bestOrder, .int f_leastTime, .ref q_ended, .ref q_bodies, .int f_ran, .int f_kind, .int f_number, .int f_tellsV])), (q_s, .inl (cI, 903, .inl r_s))]) [0, 1] (by decide) rfl
  refine lv_if_ne (tgt := 10) hx hb (dX12_breath 3 rfl) (by decide) (fun c3 => ?_) (fun c3 => ?_)
  · replace hm := hm.2 c3
    refine lv_iload_n hx hb (dX12_breath 6 rfl) rfl (lv_at hl 2 rfl) ?_
    refine lv_iconst (v := (0 : Int32)) hx hb (dX12_breath 7 rfl) (by decide) ?_
    refine lv_bipush (v := (9 : Int32)) hx hb (dX12_breath 8 rfl) (by decide) ?_
    have hcut := ob_cut (wc := []) hP hD hS hA [] rfl (by decide)
    refine ob_i (wr := [(h, .inr (12, [.int f_thrown, .ref q_s, .ref q_image, .ref q_frame, .int f_hasImage, .int f_act, .int f_spot, .int f_end, .int f_isWrong, .int f_open, .ref q_by, .ref q_truths, .int f_slowed, .int f_risked, .int f_gapNow, .int f_giver, .ref q_known, .ref q_leapt, .int f_turnsMany, .ref q_trying, .ref q_bestOrder, .int f_leastTime, .ref q_ended, .ref q_bodies, .int f_ran, .int f_kind, .int f_number, .int f_tellsV])), (q_s, .inl (cI, 903, .inl r_s))]) (ob_S (As := [.int a2, .int (0 : Int32), .int (9 : Int32)]) (rest := []) ⟨hx, hb, hml, hown, hts⟩ hK hcut (hI.cut hS hcut.2.2) hN (k_X12_in l D cI cZ cL im _ _ _ _ _ hm) (cwS2 3 hts (hts (.methodLink RX12 53 yX12_in) (inR4 _ (List.mem_of_getElem? (i := 23) rfl))) (hts (.static yX12_in) (inR5 _ (List.mem_of_getElem? (i := 0) rfl))) (hts (.initialized RX12) (inR1 _ (List.mem_of_getElem? (i := 5) rfl))) (goodU_c (inR5 _ (List.mem_of_getElem? (i := 1) rfl))) rfl rfl rfl (by decide +kernel) ⟨Nat.le_of_ble_eq_true rfl, Nat.le_of_ble_eq_true rfl⟩) rfl hl.1 rfl (Nat.le_of_ble_eq_true rfl) (dX12_breath 9 rfl) ⟨Nat.zero_le _, Nat.zero_le _⟩) hP hD hS hcut [] [0, 1] rfl rfl (by decide) (by decide) (fun r4 u5 H locs hm hP hD hS => ?_)
    have hP := hP.sub (ws' := [(h, .inr (12, [.int f_thrown, .ref q_s, .ref q_image, .ref q_frame, .int f_hasImage, .int f_act, .int f_spot, .int f_end, .int f_isWrong, .int f_open, .ref q_by, .ref q_truths, .int f_slowed, .int f_risked, .int f_gapNow, .int f_giver, .ref q_known, .ref q_leapt, .int f_turnsMany, .ref q_trying, .ref q_bestOrder, .int f_leastTime, .ref q_ended, .ref q_bodies, .int f_ran, .int f_kind, .int f_number, .int f_tellsV])), (q_s, .inl (cI, 903, .inl r_s))]) [0, 1] rfl
    have hD := hD.sub (ws' := [(h, .inr (12, [.int f_thrown, .ref q_s, .ref q_image, .ref q_frame, .int f_hasImage, .int f_act, .int f_spot, .int f_end, .int f_isWrong, .int f_open, .ref q_by, .ref q_truths, .int f_slowed, .int f_risked, .int f_gapNow, .int f_giver, .ref q_known, .ref q_leapt, .int f_turnsMany, .ref q_trying, .ref q_bestOrder, .int f_leastTime, .ref q_ended, .ref q_bodies, .int f_ran, .int f_kind, .int f_number, .int f_tellsV])), (q_s, .inl (cI, 903, .inl r_s))]) [0, 1] (by decide) rfl
    refine lv_if_ne (tgt := 23) hx hb (dX12_breath 10 rfl) (by decide) (fun c6 => ?_) (fun c6 => ?_)
    · replace hm := hm.2 c6
      refine lv_aload_n hx hb (dX12_breath 13 rfl) rfl (lv_at hl 0 rfl) ?_
      refine va_get (D := D) (ci := 12) (v := .ref q_s) (C := RX12) (T := TX12) (N := 28) hx hb hts inlX12 hown hK hP 0 rfl rfl 1 (by decide) (hts (.fieldLink RX12 9 "OverBacksModel" "s" "[I") (inR3 _ (List.mem_of_getElem? (i := 20) rfl))) (fun _ h9 => h9) rfl (dX12_breath 14 rfl) ?_
      refine lv_bipush (v := (11 : Int32)) hx hb (dX12_breath 15 rfl) (by decide) ?_
      refine lv_iload_n hx hb (dX12_breath 16 rfl) rfl (lv_at hl 1 rfl) ?_
      refine lv_iadd hx hb (dX12_breath 17 rfl) ?_
      refine va_iald hx hb hK hP 1 0 rfl rfl hm.1 (dX12_breath 18 rfl) ?_
      replace hm := hm.2
      refine lv_topi (fun x7 ex7 => ?_)
      replace hm := hm x7 ex7
      refine lv_istore_n (lv' := [(3, .int x7), (0, .ref h), (1, .int a1), (2, .int a2)]) hx hb (dX12_breath 19 rfl) rfl hl (by decide) rfl (fun ls hl => ?_)
      refine lv_aload_n hx hb (dX12_breath 20 rfl) rfl (lv_at hl 1 rfl) ?_
      refine va_get (D := D) (ci := 12) (v := .ref q_s) (C := RX12) (T := TX12) (N := 28) hx hb hts inlX12 hown hK hP 0 rfl rfl 1 (by decide) (hts (.fieldLink RX12 9 "OverBacksModel" "s" "[I") (inR3 _ (List.mem_of_getElem? (i := 20) rfl))) (fun _ h9 => h9) rfl (dX12_breath 21 rfl) ?_
      refine lv_bipush (v := (11 : Int32)) hx hb (dX12_breath 22 rfl) (by decide) ?_
      refine lv_iload_n hx hb (dX12_breath 23 rfl) rfl (lv_at hl 2 rfl) ?_
      refine lv_iadd hx hb (dX12_breath 24 rfl) ?_
      refine lv_iload_n hx hb (dX12_breath 25 rfl) rfl (lv_at hl 3 rfl) ?_
      refine va_iast hx hb hK hP hD hS 1 0 rfl rfl hm.1 (dX12_breath 26 rfl) (fun H locs hP hD hS => ?_)
      replace hm := hm.2
      obtain ⟨y8, ey8⟩ : ∃ q : Nat → Int32, q = upd r_s ((11 : Int32) + a1).toNatClampNeg a2 := ⟨_, rfl⟩
      replace hm := hm y8 ey8
      have hP : va_P D vwCl [(h, .inr (12, [.int f_thrown, .ref q_s, .ref q_image, .ref q_frame, .int f_hasImage, .int f_act, .int f_spot, .int f_end, .int f_isWrong, .int f_open, .ref q_by, .ref q_truths, .int f_slowed, .int f_risked, .int f_gapNow, .int f_giver, .ref q_known, .ref q_leapt, .int f_turnsMany, .ref q_trying, .ref q_bestOrder, .int f_leastTime, .ref q_ended, .ref q_bodies, .int f_ran, .int f_kind, .int f_number, .int f_tellsV])), (q_s, .inl (cI, 903, .inl y8))] H := by rw [ey8]; exact hP
      have hD : va_D A [(h, .inr (12, [.int f_thrown, .ref q_s, .ref q_image, .ref q_frame, .int f_hasImage, .int f_act, .int f_spot, .int f_end, .int f_isWrong, .int f_open, .ref q_by, .ref q_truths, .int f_slowed, .int f_risked, .int f_gapNow, .int f_giver, .ref q_known, .ref q_leapt, .int f_turnsMany, .ref q_trying, .ref q_bestOrder, .int f_leastTime, .ref q_ended, .ref q_bodies, .int f_ran, .int f_kind, .int f_number, .int f_tellsV])), (q_s, .inl (cI, 903, .inl y8))] := by rw [ey8]; exact hD
      refine lv_iload_n hx hb (dX12_breath 27 rfl) rfl (lv_at hl 0 rfl) ?_
      exact hZ x7 y8 H locs ls 44 hm hP hD hS (dX12_breath 28 rfl) rfl
    replace hm := hm.1 c6
    refine lv_bipush (v := (-2 : Int32)) hx hb (dX12_breath 11 rfl) (by decide) ?_
    exact hZ (-2 : Int32) r_s H locs ls 22 hm hP hD hS (dX12_breath 12 rfl) rfl
  replace hm := hm.1 c3
  refine lv_iconst (v := (-1 : Int32)) hx hb (dX12_breath 4 rfl) (by decide) ?_
  exact hZ (-1 : Int32) r_s H locs ls 9 hm hP hD hS (dX12_breath 5 rfl) rfl
abbrev rmX12_swap : Room := { frames := 2, cells := 0, slots := 0, locals := 43 }
set_option maxHeartbeats 4000000 in
set_option maxRecDepth 100000 in
theorem k_X12_swap (l : Launch) (D : va_G) (cI cZ cL : ClassId) (im : obIM) (sz : Nat) (h : Nat) (f_thrown : Int32) (q_s : Nat) (q_image : Nat) (q_frame : Nat) (f_hasImage : Int32) (f_act : Int32) (f_spot : Int32) (f_end : Int32) (f_isWrong : Int32) (f_open : Int32) (q_by : Nat) (q_truths : Nat) (f_slowed : Int32) (f_risked : Int32) (f_gapNow : Int32) (f_giver : Int32) (q_known : Nat) (q_leapt : Nat) (f_turnsMany : Int32) (q_trying : Nat) (q_bestOrder : Nat) (f_leastTime : Int32) (q_ended : Nat) (q_bodies : Nat) (f_ran : Int32) (f_kind : Int32) (f_number : Int32) (f_tellsV : Int32) (r_s : Nat → Int32) (a1 : Int32) (a2 : Int32) (Q : Int32 → (Nat → Int32) → Prop) (hm : m_X12_swap r_s a1 a2 Q) : Met l yX12_swap (Cond.code yX12_swap cX12_swap 5 (some .int) :: wsL_law) rmX12_swap (obPre D (tyG cI cZ cL) im [(h, .inr (12, [.int f_thrown, .ref q_s, .ref q_image, .ref q_frame, .int f_hasImage, .int f_act, .int f_spot, .int f_end, .int f_isWrong, .int f_open, .ref q_by, .ref q_truths, .int f_slowed, .int f_risked, .int f_gapNow, .int f_giver, .ref q_known, .ref q_leapt, .int f_turnsMany, .ref q_trying, .ref q_bestOrder, .int f_leastTime, .ref q_ended, .ref q_bodies, .int f_ran, .int f_kind, .int f_number, .int f_tellsV])), (q_s, .inl (cI, 903, .inl r_s))] sz [.ref h, .int a1, .int a2]) (va_Qi (fun (r : Int32) (u : (Nat → Int32)) => Q r u) (obB D (va_A [(h, .inr (12, [.int f_thrown, .ref q_s, .ref q_image, .ref q_frame, .int f_hasImage, .int f_act, .int f_spot, .int f_end, .int f_isWrong, .int f_open, .ref q_by, .ref q_truths, .int f_slowed, .int f_risked, .int f_gapNow, .int f_giver, .ref q_known, .ref q_leapt, .int f_turnsMany, .ref q_trying, .ref q_bestOrder, .int f_leastTime, .ref q_ended, .ref q_bodies, .int f_ran, .int f_kind, .int f_number, .int f_tellsV])), (q_s, .inl (cI, 903, .inl r_s))] sz) (fun u : (Nat → Int32) => [(h, .inr (12, [.int f_thrown, .ref q_s, .ref q_image, .ref q_frame, .int f_hasImage, .int f_act, .int f_spot, .int f_end, .int f_isWrong, .int f_open, .ref q_by, .ref q_truths, .int f_slowed, .int f_risked, .int f_gapNow, .int f_giver, .ref q_known, .ref q_leapt, .int f_turnsMany, .ref q_trying, .ref q_bestOrder, .int f_leastTime, .ref q_ended, .ref q_bodies, .int f_ran, .int f_kind, .int f_number, .int f_tellsV])), (q_s, .inl (cI, 903, .inl u))])) (va_A [(h, .inr (12, [.int f_thrown, .ref q_s, .ref q_image, .ref q_frame, .int f_hasImage, .int f_act, .int f_spot, .int f_end, .int f_isWrong, .int f_open, .ref q_by, .ref q_truths, .int f_slowed, .int f_risked, .int f_gapNow, .int f_giver, .ref q_known, .ref q_leapt, .int f_turnsMany, .ref q_trying, .ref q_bestOrder, .int f_leastTime, .ref q_ended, .ref q_bodies, .int f_ran, .int f_kind, .int f_number, .int f_tellsV])), (q_s, .inl (cI, 903, .inl r_s))] sz)) 0 0 (va_A [(h, .inr (12, [.int f_thrown, .ref q_s, .ref q_image, .ref q_frame, .int f_hasImage, .int f_act, .int f_spot, .int f_end, .int f_isWrong, .int f_open, .ref q_by, .ref q_truths, .int f_slowed, .int f_risked, .int f_gapNow, .int f_giver, .ref q_known, .ref q_leapt, .int f_turnsMany, .ref q_trying, .ref q_bestOrder, .int f_leastTime, .ref q_ended, .ref q_bodies, .int f_ran, .int f_kind, .int f_number, .int f_tellsV])), (q_s, .inl (cI, 903, .inl r_s))] sz) := by
  refine ob_met_i (cc := cX12_swap) (maxL := 5) (by decide) (Nat.le_of_ble_eq_true rfl) (fun p e s m args below meth c A Z hx hb hml hown hts hnm hN hK hA hI hP hD hS hZ ls hl => ?_)
  have hl : lv_has ls 5 [(0, .ref h), (1, .int a1), (2, .int a2)] := hl
  unfold m_X12_swap at hm
  obtain ⟨H, hH⟩ : ∃ H, H = s.heap := ⟨_, rfl⟩
  obtain ⟨locs, hlo⟩ : ∃ q : List Loc, q = [] := ⟨_, rfl⟩
  suffices hgo : W p l e rmX12_swap s m args below meth c H locs 0 0 Z (F0 m 0 ls []) by rw [hH, hlo] at hgo; exact hgo
  have hP : va_P D vwCl [(h, .inr (12, [.int f_thrown, .ref q_s, .ref q_image, .ref q_frame, .int f_hasImage, .int f_act, .int f_spot, .int f_end, .int f_isWrong, .int f_open, .ref q_by, .ref q_truths, .int f_slowed, .int f_risked, .int f_gapNow, .int f_giver, .ref q_known, .ref q_leapt, .int f_turnsMany, .ref q_trying, .ref q_bestOrder, .int f_leastTime, .ref q_ended, .ref q_bodies, .int f_ran, .int f_kind, .int f_number, .int f_tellsV])), (q_s, .inl (cI, 903, .inl r_s))] H := by rw [hH]; exact hP
  have hD : va_D A [(h, .inr (12, [.int f_thrown, .ref q_s, .ref q_image, .ref q_frame, .int f_hasImage, .int f_act, .int f_spot, .int f_end, .int f_isWrong, .int f_open, .ref q_by, .ref q_truths, .int f_slowed, .int f_risked, .int f_gapNow, .int f_giver, .ref q_known, .ref q_leapt, .int f_turnsMany, .ref q_trying, .ref q_bestOrder, .int f_leastTime, .ref q_ended, .ref q_bodies, .int f_ran, .int f_kind, .int f_number, .int f_tellsV])), (q_s, .inl (cI, 903, .inl r_s))] := hD
  have hS : va_S A s.heap H locs := by rw [hH, hlo]; exact hS
  refine lv_aload_n hx hb (dX12_swap 0 rfl) rfl (lv_at hl 0 rfl) ?_
  refine lv_iload_n hx hb (dX12_swap 1 rfl) rfl (lv_at hl 1 rfl) ?_
  have hcut := ob_cut (wc := [(h, .inr (12, [.int f_thrown, .ref q_s, .ref q_image, .ref q_frame, .int f_hasImage, .int f_act, .int f_spot, .int f_end, .int f_isWrong, .int f_open, .ref q_by, .ref q_truths, .int f_slowed, .int f_risked, .int f_gapNow, .int f_giver, .ref q_known, .ref q_leapt, .int f_turnsMany, .ref q_trying, .ref q_bestOrder, .int f_leastTime, .ref q_ended, .ref q_bodies, .int f_ran, .int f_kind, .int f_number, .int f_tellsV])), (q_s, .inl (cI, 903, .inl r_s))]) hP hD hS hA [0, 1] rfl (by decide)
  refine ob_i (wr := []) (ob_V (As := [.int a1]) (rest := []) ⟨hx, hb, hml, hown, hts⟩ hK hcut (hI.cut hS hcut.2.2) hN (va_recv hK hP (ci := 12) (q0 := 0) rfl rfl) (k_X12_isPerson l D cI cZ cL im _ _ _ _ _ _ _ _ _ _ _ _ _ _ _ _ _ _ _ _ _ _ _ _ _ _ _ _ _ _ _ _ _ hm) (cwV 1 hts (gU_V (inR19 _ (List.mem_of_getElem? (i := 4) rfl)) (inR19 _ (List.mem_of_getElem? (i := 5) rfl)) (inR19 _ (List.mem_of_getElem? (i := 6) rfl)) (inR1 _ (List.mem_of_getElem? (i := 5) rfl)) (inR19 _ (List.mem_of_getElem? (i := 7) rfl))) rfl rfl rfl (by decide +kernel) ⟨Nat.le_of_ble_eq_true rfl, Nat.le_of_ble_eq_true rfl⟩) rfl hl.1 rfl (Nat.le_of_ble_eq_true rfl) (dX12_swap 2 rfl) ⟨Nat.zero_le _, Nat.zero_le _⟩) hP hD hS hcut [0, 1] [] rfl rfl (by decide) (by decide) (fun r1 u2 H locs hm hP hD hS => ?_)
  have hP := hP.sub (ws' := [(h, .inr (12, [.int f_thrown, .ref q_s, .ref q_image, .ref q_frame, .int f_hasImage, .int f_act, .int f_spot, .int f_end, .int f_isWrong, .int f_open, .ref q_by, .ref q_truths, .int f_slowed, .int f_risked, .int f_gapNow, .int f_giver, .ref q_known, .ref q_leapt, .int f_turnsMany, .ref q_trying, .ref q_bestOrder, .int f_leastTime, .ref q_ended, .ref q_bodies, .int f_ran, .int f_kind, .int f_number, .int f_tellsV])), (q_s, .inl (cI, 903, .inl r_s))]) [0, 1] rfl
  have hD := hD.sub (ws' := [(h, .inr (12, [.int f_thrown, .ref q_s, .ref q_image, .ref q_frame, .int f_hasImage, .int f_act, .int f_spot, .int f_end, .int f_isWrong, .int f_open, .ref q_by, .ref q_truths, .int f_slowed, .int f_risked, .int f_gapNow, .int f_giver, .ref q_known, .ref q_leapt, .int f_turnsMany, .ref q_trying, .ref q_bestOrder, .int f_leastTime, .ref q_ended, .ref q_bodies, .int f_ran, .int f_kind, .int f_number, .int f_tellsV])), (q_s, .inl (cI, 903, .inl r_s))]) [0, 1] (by decide) rfl
  refine lv_if_eq (tgt := 16) hx hb (dX12_swap 3 rfl) (by decide) (fun c3 => ?_) (fun c3 => ?_)
  · replace hm := hm.1 c3
    refine lv_iconst (v := (-1 : Int32)) hx hb (dX12_swap 8 rfl) (by decide) ?_
    exact hZ (-1 : Int32) r_s H locs ls 17 hm hP hD hS (dX12_swap 9 rfl) rfl
  replace hm := hm.2 c3
  refine lv_aload_n hx hb (dX12_swap 4 rfl) rfl (lv_at hl 0 rfl) ?_
  refine lv_iload_n hx hb (dX12_swap 5 rfl) rfl (lv_at hl 2 rfl) ?_
  have hcut := ob_cut (wc := [(h, .inr (12, [.int f_thrown, .ref q_s, .ref q_image, .ref q_frame, .int f_hasImage, .int f_act, .int f_spot, .int f_end, .int f_isWrong, .int f_open, .ref q_by, .ref q_truths, .int f_slowed, .int f_risked, .int f_gapNow, .int f_giver, .ref q_known, .ref q_leapt, .int f_turnsMany, .ref q_trying, .ref q_bestOrder, .int f_leastTime, .ref q_ended, .ref q_bodies, .int f_ran, .int f_kind, .int f_number, .int f_tellsV])), (q_s, .inl (cI, 903, .inl r_s))]) hP hD hS hA [0, 1] rfl (by decide)
  refine ob_i (wr := []) (ob_V (As := [.int a2]) (rest := []) ⟨hx, hb, hml, hown, hts⟩ hK hcut (hI.cut hS hcut.2.2) hN (va_recv hK hP (ci := 12) (q0 := 0) rfl rfl) (k_X12_isPerson l D cI cZ cL im _ _ _ _ _ _ _ _ _ _ _ _ _ _ _ _ _ _ _ _ _ _ _ _ _ _ _ _ _ _ _ _ _ hm) (cwV 1 hts (gU_V (inR19 _ (List.mem_of_getElem? (i := 4) rfl)) (inR19 _ (List.mem_of_getElem? (i := 5) rfl)) (inR19 _ (List.mem_of_getElem? (i := 6) rfl)) (inR1 _ (List.mem_of_getElem? (i := 5) rfl)) (inR19 _ (List.mem_of_getElem? (i := 7) rfl))) rfl rfl rfl (by decide +kernel) ⟨Nat.le_of_ble_eq_true rfl, Nat.le_of_ble_eq_true rfl⟩) rfl hl.1 rfl (Nat.le_of_ble_eq_true rfl) (dX12_swap 6 rfl) ⟨Nat.zero_le _, Nat.zero_le _⟩) hP hD hS hcut [0, 1] [] rfl rfl (by decide) (by decide) (fun r4 u5 H locs hm hP hD hS => ?_)
  have hP := hP.sub (ws' := [(h, .inr (12, [.int f_thrown, .ref q_s, .ref q_image, .ref q_frame, .int f_hasImage, .int f_act, .int f_spot, .int f_end, .int f_isWrong, .int f_open, .ref q_by, .ref q_truths, .int f_slowed, .int f_risked, .int f_gapNow, .int f_giver, .ref q_known, .ref q_leapt, .int f_turnsMany, .ref q_trying, .ref q_bestOrder, .int f_leastTime, .ref q_ended, .ref q_bodies, .int f_ran, .int f_kind, .int f_number, .int f_tellsV])), (q_s, .inl (cI, 903, .inl r_s))]) [0, 1] rfl
  have hD := hD.sub (ws' := [(h, .inr (12, [.int f_thrown, .ref q_s, .ref q_image, .ref q_frame, .int f_hasImage, .int f_act, .int f_spot, .int f_end, .int f_isWrong, .int f_open, .ref q_by, .ref q_truths, .int f_slowed, .int f_risked, .int f_gapNow, .int f_giver, .ref q_known, .ref q_leapt, .int f_turnsMany, .ref q_trying, .ref q_bestOrder, .int f_leastTime, .ref q_ended, .ref q_bodies, .int f_ran, .int f_kind, .int f_number, .int f_tellsV])), (q_s, .inl (cI, 903, .inl r_s))]) [0, 1] (by decide) rfl
  refine lv_if_ne (tgt := 18) hx hb (dX12_swap 7 rfl) (by decide) (fun c6 => ?_) (fun c6 => ?_)
  · replace hm := hm.2 c6
    refine lv_iload_n hx hb (dX12_swap 10 rfl) rfl (lv_at hl 1 rfl) ?_
    refine lv_iload_n hx hb (dX12_swap 11 rfl) rfl (lv_at hl 2 rfl) ?_
    refine lv_icmp_ne (tgt := 26) hx hb (dX12_swap 12 rfl) (by decide) (fun c7 => ?_) (fun c7 => ?_)
    · replace hm := hm.2 c7
      refine lv_aload_n hx hb (dX12_swap 15 rfl) rfl (lv_at hl 0 rfl) ?_
      refine lv_iload_n hx hb (dX12_swap 16 rfl) rfl (lv_at hl 1 rfl) ?_
      have hcut := ob_cut (wc := [(h, .inr (12, [.int f_thrown, .ref q_s, .ref q_image, .ref q_frame, .int f_hasImage, .int f_act, .int f_spot, .int f_end, .int f_isWrong, .int f_open, .ref q_by, .ref q_truths, .int f_slowed, .int f_risked, .int f_gapNow, .int f_giver, .ref q_known, .ref q_leapt, .int f_turnsMany, .ref q_trying, .ref q_bestOrder, .int f_leastTime, .ref q_ended, .ref q_bodies, .int f_ran, .int f_kind, .int f_number, .int f_tellsV])), (q_s, .inl (cI, 903, .inl r_s))]) hP hD hS hA [0, 1] rfl (by decide)
      refine ob_i (wr := []) (ob_V (As := [.int a1]) (rest := []) ⟨hx, hb, hml, hown, hts⟩ hK hcut (hI.cut hS hcut.2.2) hN (va_recv hK hP (ci := 12) (q0 := 0) rfl rfl) (k_X12_placeOf l D cI cZ cL im _ _ _ _ _ _ _ _ _ _ _ _ _ _ _ _ _ _ _ _ _ _ _ _ _ _ _ _ _ _ _ _ _ hm) (cwV 1 hts (gU_V (inR19 _ (List.mem_of_getElem? (i := 12) rfl)) (inR19 _ (List.mem_of_getElem? (i := 13) rfl)) (inR19 _ (List.mem_of_getElem? (i := 14) rfl)) (inR1 _ (List.mem_of_getElem? (i := 5) rfl)) (inR19 _ (List.mem_of_getElem? (i := 15) rfl))) rfl rfl rfl (by decide +kernel) ⟨Nat.le_of_ble_eq_true rfl, Nat.le_of_ble_eq_true rfl⟩) rfl hl.1 rfl (Nat.le_of_ble_eq_true rfl) (dX12_swap 17 rfl) ⟨Nat.zero_le _, Nat.zero_le _⟩) hP hD hS hcut [0, 1] [] rfl rfl (by decide) (by decide) (fun r8 u9 H locs hm hP hD hS => ?_)
      have hP := hP.sub (ws' := [(h, .inr (12, [.int f_thrown, .ref q_s, .ref q_image, .ref q_frame, .int f_hasImage, .int f_act, .int f_spot, .int f_end, .int f_isWrong, .int f_open, .ref q_by, .ref q_truths, .int f_slowed, .int f_risked, .int f_gapNow, .int f_giver, .ref q_known, .ref q_leapt, .int f_turnsMany, .ref q_trying, .ref q_bestOrder, .int f_leastTime, .ref q_ended, .ref q_bodies, .int f_ran, .int f_kind, .int f_number, .int f_tellsV])), (q_s, .inl (cI, 903, .inl r_s))]) [0, 1] rfl
      have hD := hD.sub (ws' := [(h, .inr (12, [.int f_thrown, .ref q_s, .ref q_image, .ref q_frame, .int f_hasImage, .int f_act, .int f_spot, .int f_end, .int f_isWrong, .int f_open, .ref q_by, .ref q_truths, .int f_slowed, .int f_risked, .int f_gapNow, .int f_giver, .ref q_known, .ref q_leapt, .int f_turnsMany, .ref q_trying, .ref q_bestOrder, .int f_leastTime, .ref q_ended, .ref q_bodies, .int f_ran, .int f_kind, .int f_number, .int f_tellsV])), (q_s, .inl (cI, 903, .inl r_s))]) [0, 1] (by decide) rfl
      refine lv_istore_n (lv' := [(3, .int r8), (0, .ref h), (1, .int a1), (2, .int a2)]) hx hb (dX12_swap 18 rfl) rfl hl (by decide) rfl (fun ls hl => ?_)
      refine lv_aload_n hx hb (dX12_swap 19 rfl) rfl (lv_at hl 1 rfl) ?_
      refine lv_iload_n hx hb (dX12_swap 20 rfl) rfl (lv_at hl 3 rfl) ?_
      have hcut := ob_cut (wc := [(h, .inr (12, [.int f_thrown, .ref q_s, .ref q_image, .ref q_frame, .int f_hasImage, .int f_act, .int f_spot, .int f_end, .int f_isWrong, .int f_open, .ref q_by, .ref q_truths, .int f_slowed, .int f_risked, .int f_gapNow, .int f_giver, .ref q_known, .ref q_leapt, .int f_turnsMany, .ref q_trying, .ref q_bestOrder, .int f_leastTime, .ref q_ended, .ref q_bodies, .int f_ran, .int f_kind, .int f_number, .int f_tellsV])), (q_s, .inl (cI, 903, .inl r_s))]) hP hD hS hA [0, 1] rfl (by decide)
      refine ob_i (wr := []) (ob_V (As := [.int a2]) (rest := []) ⟨hx, hb, hml, hown, hts⟩ hK hcut (hI.cut hS hcut.2.2) hN (va_recv hK hP (ci := 12) (q0 := 0) rfl rfl) (k_X12_placeOf l D cI cZ cL im _ _ _ _ _ _ _ _ _ _ _ _ _ _ _ _ _ _ _ _ _ _ _ _ _ _ _ _ _ _ _ _ _ hm) (cwV 1 hts (gU_V (inR19 _ (List.mem_of_getElem? (i := 12) rfl)) (inR19 _ (List.mem_of_getElem? (i := 13) rfl)) (inR19 _ (List.mem_of_getElem? (i := 14) rfl)) (inR1 _ (List.mem_of_getElem? (i := 5) rfl)) (inR19 _ (List.mem_of_getElem? (i := 15) rfl))) rfl rfl rfl (by decide +kernel) ⟨Nat.le_of_ble_eq_true rfl, Nat.le_of_ble_eq_true rfl⟩) rfl hl.1 rfl (Nat.le_of_ble_eq_true rfl) (dX12_swap 21 rfl) ⟨Nat.zero_le _, Nat.zero_le _⟩) hP hD hS hcut [0, 1] [] rfl rfl (by decide) (by decide) (fun r10 u11 H locs hm hP hD hS => ?_)
      have hP := hP.sub (ws' := [(h, .inr (12, [.int f_thrown, .ref q_s, .ref q_image, .ref q_frame, .int f_hasImage, .int f_act, .int f_spot, .int f_end, .int f_isWrong, .int f_open, .ref q_by, .ref q_truths, .int f_slowed, .int f_risked, .int f_gapNow, .int f_giver, .ref q_known, .ref q_leapt, .int f_turnsMany, .ref q_trying, .ref q_bestOrder, .int f_leastTime, .ref q_ended, .ref q_bodies, .int f_ran, .int f_kind, .int f_number, .int f_tellsV])), (q_s, .inl (cI, 903, .inl r_s))]) [0, 1] rfl
      have hD := hD.sub (ws' := [(h, .inr (12, [.int f_thrown, .ref q_s, .ref q_image, .ref q_frame, .int f_hasImage, .int f_act, .int f_spot, .int f_end, .int f_isWrong, .int f_open, .ref q_by, .ref q_truths, .int f_slowed, .int f_risked, .int f_gapNow, .int f_giver, .ref q_known, .ref q_leapt, .int f_turnsMany, .ref q_trying, .ref q_bestOrder, .int f_leastTime, .ref q_ended, .ref q_bodies, .int f_ran, .int f_kind, .int f_number, .int f_tellsV])), (q_s, .inl (cI, 903, .inl r_s))]) [0, 1] (by decide) rfl
      refine lv_istore (lv' := [(4, .int r10), (3, .int r8), (0, .ref h), (1, .int a1), (2, .int a2)]) hx hb (dX12_swap 22 rfl) hl (by decide) rfl (fun ls hl => ?_)
      refine lv_aload_n hx hb (dX12_swap 23 rfl) rfl (lv_at hl 2 rfl) ?_
      refine va_get (D := D) (ci := 12) (v := .ref q_s) (C := RX12) (T := TX12) (N := 28) hx hb hts inlX12 hown hK hP 0 rfl rfl 1 (by decide) (hts (.fieldLink RX12 9 "OverBacksModel" "s" "[I") (inR3 _ (List.mem_of_getElem? (i := 20) rfl))) (fun _ h9 => h9) rfl (dX12_swap 24 rfl) ?_
      refine lv_iconst (v := (4 : Int32)) hx hb (dX12_swap 25 rfl) (by decide) ?_
      refine lv_iload_n hx hb (dX12_swap 26 rfl) rfl (lv_at hl 1 rfl) ?_
      refine lv_iadd hx hb (dX12_swap 27 rfl) ?_
      refine lv_iload_n hx hb (dX12_swap 28 rfl) rfl (lv_at hl 4 rfl) ?_
      refine va_iast hx hb hK hP hD hS 1 0 rfl rfl hm.1 (dX12_swap 29 rfl) (fun H locs hP hD hS => ?_)
      replace hm := hm.2
      obtain ⟨y12, ey12⟩ : ∃ q : Nat → Int32, q = upd r_s ((4 : Int32) + r8).toNatClampNeg a2 := ⟨_, rfl⟩
      replace hm := hm y12 ey12
      have hP : va_P D vwCl [(h, .inr (12, [.int f_thrown, .ref q_s, .ref q_image, .ref q_frame, .int f_hasImage, .int f_act, .int f_spot, .int f_end, .int f_isWrong, .int f_open, .ref q_by, .ref q_truths, .int f_slowed, .int f_risked, .int f_gapNow, .int f_giver, .ref q_known, .ref q_leapt, .int f_turnsMany, .ref q_trying, .ref q_bestOrder, .int f_leastTime, .ref q_ended, .ref q_bodies, .int f_ran, .int f_kind, .int f_number, .int f_tellsV])), (q_s, .inl (cI, 903, .inl y12))] H := by rw [ey12]; exact hP
      have hD : va_D A [(h, .inr (12, [.int f_thrown, .ref q_s, .ref q_image, .ref q_frame, .int f_hasImage, .int f_act, .int f_spot, .int f_end, .int f_isWrong, .int f_open, .ref q_by, .ref q_truths, .int f_slowed, .int f_risked, .int f_gapNow, .int f_giver, .ref q_known, .ref q_leapt, .int f_turnsMany, .ref q_trying, .ref q_bestOrder, .int f_leastTime, .ref q_ended, .ref q_bodies, .int f_ran, .int f_kind, .int f_number, .int f_tellsV])), (q_s, .inl (cI, 903, .inl y12))] := by rw [ey12]; exact hD
      refine lv_aload_n hx hb (dX12_swap 30 rfl) rfl (lv_at hl 2 rfl) ?_
      refine va_get (D := D) (ci := 12) (v := .ref q_s) (C := RX12) (T := TX12) (N := 28) hx hb hts inlX12 hown hK hP 0 rfl rfl 1 (by decide) (hts (.fieldLink RX12 9 "OverBacksModel" "s" "[I") (inR3 _ (List.mem_of_getElem? (i := 20) rfl))) (fun _ h9 => h9) rfl (dX12_swap 31 rfl) ?_
      refine lv_iconst (v := (4 : Int32)) hx hb (dX12_swap 32 rfl) (by decide) ?_
      refine lv_iload hx hb (dX12_swap 33 rfl) (lv_at hl 0 rfl) ?_
      refine lv_iadd hx hb (dX12_swap 34 rfl) ?_
      refine lv_iload_n hx hb (dX12_swap 35 rfl) rfl (lv_at hl 3 rfl) ?_
      refine va_iast hx hb hK hP hD hS 1 0 rfl rfl hm.1 (dX12_swap 36 rfl) (fun H locs hP hD hS => ?_)
      replace hm := hm.2
      obtain ⟨y13, ey13⟩ : ∃ q : Nat → Int32, q = upd y12 ((4 : Int32) + r10).toNatClampNeg a1 := ⟨_, rfl⟩
      replace hm := hm y13 ey13
      have hP : va_P D vwCl [(h, .inr (12, [.int f_thrown, .ref q_s, .ref q_image, .ref q_frame, .int f_hasImage, .int f_act, .int f_spot, .int f_end, .int f_isWrong, .int f_open, .ref q_by, .ref q_truths, .int f_slowed, .int f_risked, .int f_gapNow, .int f_giver, .ref q_known, .ref q_leapt, .int f_turnsMany, .ref q_trying, .ref q_bestOrder, .int f_leastTime, .ref q_ended, .ref q_bodies, .int f_ran, .int f_kind, .int f_number, .int f_tellsV])), (q_s, .inl (cI, 903, .inl y13))] H := by rw [ey13]; exact hP
      have hD : va_D A [(h, .inr (12, [.int f_thrown, .ref q_s, .ref q_image, .ref q_frame, .int f_hasImage, .int f_act, .int f_spot, .int f_end, .int f_isWrong, .int f_open, .ref q_by, .ref q_truths, .int f_slowed, .int f_risked, .int f_gapNow, .int f_giver, .ref q_known, .ref q_leapt, .int f_turnsMany, .ref q_trying, .ref q_bestOrder, .int f_leastTime, .ref q_ended, .ref q_bodies, .int f_ran, .int f_kind, .int f_number, .int f_tellsV])), (q_s, .inl (cI, 903, .inl y13))] := by rw [ey13]; exact hD
      refine lv_iload hx hb (dX12_swap 37 rfl) (lv_at hl 0 rfl) ?_
      exact hZ r10 y13 H locs ls 60 hm hP hD hS (dX12_swap 38 rfl) rfl
    replace hm := hm.1 c7
    refine lv_bipush (v := (-2 : Int32)) hx hb (dX12_swap 13 rfl) (by decide) ?_
    exact hZ (-2 : Int32) r_s H locs ls 25 hm hP hD hS (dX12_swap 14 rfl) rfl
  replace hm := hm.1 c6
  refine lv_iconst (v := (-1 : Int32)) hx hb (dX12_swap 8 rfl) (by decide) ?_
  exact hZ (-1 : Int32) r_s H locs ls 17 hm hP hD hS (dX12_swap 9 rfl) rfl
