abbrev rmX1_subject : Room := { frames := 0, cells := 0, slots := 0, locals := 0 }
set_option maxHeartbeats 4000000 in
set_option maxRecDepth 100000 in
theorem k_X1_subject (l : Launch) (D : va_G) (cI cZ cL : ClassId) (im : va_W) (sz : Nat) (a1 : Int32) (Q : Int32 → Prop) (hm : m_X1_subject a1 Q) : Met l yX1_subject (Cond.code yX1_subject cX1_subject 1 (some .int) :: wsL_law) rmX1_subject (obPre D (tyG cI cZ cL) im [] sz [.int a1]) (va_Qi (fun (r : Int32) (u : Unit) => Q r) (obB D (va_A [] sz) (fun _ : Unit => [])) (va_A [] sz)) 0 0 (va_A [] sz) := by
  refine ob_met_i (cc := cX1_subject) (maxL := 1) (by decide) (Nat.le_of_ble_eq_true rfl) (fun p e s m args below meth c A Z hx hb hml hown hts hnm hN hK hA hI hP hD hS hZ ls hl => ?_)
  have hl : lv_has ls 1 [(0, .int a1)] := hl
  unfold m_X1_subject at hm
  obtain ⟨H, hH⟩ : ∃ H, H = s.heap := ⟨_, rfl⟩
  obtain ⟨locs, hlo⟩ : ∃ q : List Loc, q = [] := ⟨_, rfl⟩
  suffices hgo : W p l e rmX1_subject s m args below meth c H locs 0 0 Z (F0 m 0 ls []) by rw [hH, hlo] at hgo; exact hgo
  have hP : va_P D vwCl [] H := by rw [hH]; exact hP
  have hD : va_D A [] := hD
  have hS : va_S A s.heap H locs := by rw [hH, hlo]; exact hS
  refine lv_iload_n hx hb (dX1_subject 0 rfl) rfl (lv_at hl 0 rfl) ?_
  by_cases c1 : a1 = (98 : Int32)
  · refine lv_tableIn (tgt := 84) hx hb (dX1_subject 1 rfl) (by rw [c1]; decide) (by rw [c1]; decide) (by rw [c1]; rfl) (by decide) ?_
    replace hm := hm.1 c1
    refine lv_iconst (v := (4 : Int32)) hx hb (dX1_subject 10 rfl) (by decide) ?_
    exact hZ (4 : Int32) () H locs ls 85 hm hP hD hS (dX1_subject 11 rfl) rfl
  replace hm := hm.2
  by_cases c2 : a1 = (99 : Int32)
  · refine lv_tableIn (tgt := 86) hx hb (dX1_subject 1 rfl) (by rw [c2]; decide) (by rw [c2]; decide) (by rw [c2]; rfl) (by decide) ?_
    replace hm := hm.1 c2
    refine lv_iconst (v := (-1 : Int32)) hx hb (dX1_subject 12 rfl) (by decide) ?_
    exact hZ (-1 : Int32) () H locs ls 87 hm hP hD hS (dX1_subject 13 rfl) rfl
  replace hm := hm.2
  by_cases c3 : a1 = (100 : Int32)
  · refine lv_tableIn (tgt := 86) hx hb (dX1_subject 1 rfl) (by rw [c3]; decide) (by rw [c3]; decide) (by rw [c3]; rfl) (by decide) ?_
    replace hm := hm.1 c3
    refine lv_iconst (v := (-1 : Int32)) hx hb (dX1_subject 12 rfl) (by decide) ?_
    exact hZ (-1 : Int32) () H locs ls 87 hm hP hD hS (dX1_subject 13 rfl) rfl
  replace hm := hm.2
  by_cases c4 : a1 = (101 : Int32)
  · refine lv_tableIn (tgt := 86) hx hb (dX1_subject 1 rfl) (by rw [c4]; decide) (by rw [c4]; decide) (by rw [c4]; rfl) (by decide) ?_
    replace hm := hm.1 c4
    refine lv_iconst (v := (-1 : Int32)) hx hb (dX1_subject 12 rfl) (by decide) ?_
    exact hZ (-1 : Int32) () H locs ls 87 hm hP hD hS (dX1_subject 13 rfl) rfl
  replace hm := hm.2
  by_cases c5 : a1 = (102 : Int32)
  · refine lv_tableIn (tgt := 86) hx hb (dX1_subject 1 rfl) (by rw [c5]; decide) (by rw [c5]; decide) (by rw [c5]; rfl) (by decide) ?_
    replace hm := hm.1 c5
    refine lv_iconst (v := (-1 : Int32)) hx hb (dX1_subject 12 rfl) (by decide) ?_
    exact hZ (-1 : Int32) () H locs ls 87 hm hP hD hS (dX1_subject 13 rfl) rfl
  replace hm := hm.2
  by_cases c6 : a1 = (103 : Int32)
  · refine lv_tableIn (tgt := 86) hx hb (dX1_subject 1 rfl) (by rw [c6]; decide) (by rw [c6]; decide) (by rw [c6]; rfl) (by decide) ?_
    replace hm := hm.1 c6
    refine lv_iconst (v := (-1 : Int32)) hx hb (dX1_subject 12 rfl) (by decide) ?_
    exact hZ (-1 : Int32) () H locs ls 87 hm hP hD hS (dX1_subject 13 rfl) rfl
  replace hm := hm.2
  by_cases c7 : a1 = (104 : Int32)
  · refine lv_tableIn (tgt := 82) hx hb (dX1_subject 1 rfl) (by rw [c7]; decide) (by rw [c7]; decide) (by rw [c7]; rfl) (by decide) ?_
    replace hm := hm.1 c7
    refine lv_iconst (v := (3 : Int32)) hx hb (dX1_subject 8 rfl) (by decide) ?_
    exact hZ (3 : Int32) () H locs ls 83 hm hP hD hS (dX1_subject 9 rfl) rfl
  replace hm := hm.2
  by_cases c8 : a1 = (105 : Int32)
  · refine lv_tableIn (tgt := 86) hx hb (dX1_subject 1 rfl) (by rw [c8]; decide) (by rw [c8]; decide) (by rw [c8]; rfl) (by decide) ?_
    replace hm := hm.1 c8
    refine lv_iconst (v := (-1 : Int32)) hx hb (dX1_subject 12 rfl) (by decide) ?_
    exact hZ (-1 : Int32) () H locs ls 87 hm hP hD hS (dX1_subject 13 rfl) rfl
  replace hm := hm.2
  by_cases c9 : a1 = (106 : Int32)
  · refine lv_tableIn (tgt := 86) hx hb (dX1_subject 1 rfl) (by rw [c9]; decide) (by rw [c9]; decide) (by rw [c9]; rfl) (by decide) ?_
    replace hm := hm.1 c9
    refine lv_iconst (v := (-1 : Int32)) hx hb (dX1_subject 12 rfl) (by decide) ?_
    exact hZ (-1 : Int32) () H locs ls 87 hm hP hD hS (dX1_subject 13 rfl) rfl
  replace hm := hm.2
  by_cases c10 : a1 = (107 : Int32)
  · refine lv_tableIn (tgt := 80) hx hb (dX1_subject 1 rfl) (by rw [c10]; decide) (by rw [c10]; decide) (by rw [c10]; rfl) (by decide) ?_
    replace hm := hm.1 c10
    refine lv_iconst (v := (2 : Int32)) hx hb (dX1_subject 6 rfl) (by decide) ?_
    exact hZ (2 : Int32) () H locs ls 81 hm hP hD hS (dX1_subject 7 rfl) rfl
  replace hm := hm.2
  by_cases c11 : a1 = (108 : Int32)
  · refine lv_tableIn (tgt := 86) hx hb (dX1_subject 1 rfl) (by rw [c11]; decide) (by rw [c11]; decide) (by rw [c11]; rfl) (by decide) ?_
    replace hm := hm.1 c11
    refine lv_iconst (v := (-1 : Int32)) hx hb (dX1_subject 12 rfl) (by decide) ?_
    exact hZ (-1 : Int32) () H locs ls 87 hm hP hD hS (dX1_subject 13 rfl) rfl
  replace hm := hm.2
  by_cases c12 : a1 = (109 : Int32)
  · refine lv_tableIn (tgt := 86) hx hb (dX1_subject 1 rfl) (by rw [c12]; decide) (by rw [c12]; decide) (by rw [c12]; rfl) (by decide) ?_
    replace hm := hm.1 c12
    refine lv_iconst (v := (-1 : Int32)) hx hb (dX1_subject 12 rfl) (by decide) ?_
    exact hZ (-1 : Int32) () H locs ls 87 hm hP hD hS (dX1_subject 13 rfl) rfl
  replace hm := hm.2
  by_cases c13 : a1 = (110 : Int32)
  · refine lv_tableIn (tgt := 86) hx hb (dX1_subject 1 rfl) (by rw [c13]; decide) (by rw [c13]; decide) (by rw [c13]; rfl) (by decide) ?_
    replace hm := hm.1 c13
    refine lv_iconst (v := (-1 : Int32)) hx hb (dX1_subject 12 rfl) (by decide) ?_
    exact hZ (-1 : Int32) () H locs ls 87 hm hP hD hS (dX1_subject 13 rfl) rfl
  replace hm := hm.2
  by_cases c14 : a1 = (111 : Int32)
  · refine lv_tableIn (tgt := 78) hx hb (dX1_subject 1 rfl) (by rw [c14]; decide) (by rw [c14]; decide) (by rw [c14]; rfl) (by decide) ?_
    replace hm := hm.1 c14
    refine lv_iconst (v := (1 : Int32)) hx hb (dX1_subject 4 rfl) (by decide) ?_
    exact hZ (1 : Int32) () H locs ls 79 hm hP hD hS (dX1_subject 5 rfl) rfl
  replace hm := hm.2
  by_cases c15 : a1 = (112 : Int32)
  · refine lv_tableIn (tgt := 76) hx hb (dX1_subject 1 rfl) (by rw [c15]; decide) (by rw [c15]; decide) (by rw [c15]; rfl) (by decide) ?_
    replace hm := hm.1 c15
    refine lv_iconst (v := (0 : Int32)) hx hb (dX1_subject 2 rfl) (by decide) ?_
    exact hZ (0 : Int32) () H locs ls 77 hm hP hD hS (dX1_subject 3 rfl) rfl
  replace hm := hm.2
  have c16 : a1.toInt < 98 ∨ 112 < a1.toInt := by skip; have z0 := ob_ne c1; rw [show ((98 : Int32)).toInt = 98 from by decide] at z0; have z1 := ob_ne c2; rw [show ((99 : Int32)).toInt = 99 from by decide] at z1; have z2 := ob_ne c3; rw [show ((100 : Int32)).toInt = 100 from by decide] at z2; have z3 := ob_ne c4; rw [show ((101 : Int32)).toInt = 101 from by decide] at z3; have z4 := ob_ne c5; rw [show ((102 : Int32)).toInt = 102 from by decide] at z4; have z5 := ob_ne c6; rw [show ((103 : Int32)).toInt = 103 from by decide] at z5; have z6 := ob_ne c7; rw [show ((104 : Int32)).toInt = 104 from by decide] at z6; have z7 := ob_ne c8; rw [show ((105 : Int32)).toInt = 105 from by decide] at z7; have z8 := ob_ne c9; rw [show ((106 : Int32)).toInt = 106 from by decide] at z8; have z9 := ob_ne c10; rw [show ((107 : Int32)).toInt = 107 from by decide] at z9; have z10 := ob_ne c11; rw [show ((108 : Int32)).toInt = 108 from by decide] at z10; have z11 := ob_ne c12; rw [show ((109 : Int32)).toInt = 109 from by decide] at z11; have z12 := ob_ne c13; rw [show ((110 : Int32)).toInt = 110 from by decide] at z12; have z13 := ob_ne c14; rw [show ((111 : Int32)).toInt = 111 from by decide] at z13; have z14 := ob_ne c15; rw [show ((112 : Int32)).toInt = 112 from by decide] at z14; omega
  refine lv_tableOut (tgt := 86) hx hb (dX1_subject 1 rfl) c16 (by decide) ?_
  replace hm := hm c16
  refine lv_iconst (v := (-1 : Int32)) hx hb (dX1_subject 12 rfl) (by decide) ?_
  exact hZ (-1 : Int32) () H locs ls 87 hm hP hD hS (dX1_subject 13 rfl) rfl
abbrev rmX1_relation : Room := { frames := 0, cells := 0, slots := 0, locals := 0 }
set_option maxHeartbeats 4000000 in
set_option maxRecDepth 100000 in
theorem k_X1_relation (l : Launch) (D : va_G) (cI cZ cL : ClassId) (im : va_W) (sz : Nat) (a1 : Int32) (Q : Int32 → Prop) (hm : m_X1_relation a1 Q) : Met l yX1_relation (Cond.code yX1_relation cX1_relation 1 (some .int) :: wsL_law) rmX1_relation (obPre D (tyG cI cZ cL) im [] sz [.int a1]) (va_Qi (fun (r : Int32) (u : Unit) => Q r) (obB D (va_A [] sz) (fun _ : Unit => [])) (va_A [] sz)) 0 0 (va_A [] sz) := by
  refine ob_met_i (cc := cX1_relation) (maxL := 1) (by decide) (Nat.le_of_ble_eq_true rfl) (fun p e s m args below meth c A Z hx hb hml hown hts hnm hN hK hA hI hP hD hS hZ ls hl => ?_)
  have hl : lv_has ls 1 [(0, .int a1)] := hl
  unfold m_X1_relation at hm
  obtain ⟨H, hH⟩ : ∃ H, H = s.heap := ⟨_, rfl⟩
  obtain ⟨locs, hlo⟩ : ∃ q : List Loc, q = [] := ⟨_, rfl⟩
  suffices hgo : W p l e rmX1_relation s m args below meth c H locs 0 0 Z (F0 m 0 ls []) by rw [hH, hlo] at hgo; exact hgo
  have hP : va_P D vwCl [] H := by rw [hH]; exact hP
  have hD : va_D A [] := hD
  have hS : va_S A s.heap H locs := by rw [hH, hlo]; exact hS
  refine lv_iload_n hx hb (dX1_relation 0 rfl) rfl (lv_at hl 0 rfl) ?_
  by_cases c1 : a1 = (60 : Int32)
  · refine lv_tableIn (tgt := 28) hx hb (dX1_relation 1 rfl) (by rw [c1]; decide) (by rw [c1]; decide) (by rw [c1]; rfl) (by decide) ?_
    replace hm := hm.1 c1
    refine lv_iconst (v := (0 : Int32)) hx hb (dX1_relation 2 rfl) (by decide) ?_
    exact hZ (0 : Int32) () H locs ls 29 hm hP hD hS (dX1_relation 3 rfl) rfl
  replace hm := hm.2
  by_cases c2 : a1 = (61 : Int32)
  · refine lv_tableIn (tgt := 30) hx hb (dX1_relation 1 rfl) (by rw [c2]; decide) (by rw [c2]; decide) (by rw [c2]; rfl) (by decide) ?_
    replace hm := hm.1 c2
    refine lv_iconst (v := (1 : Int32)) hx hb (dX1_relation 4 rfl) (by decide) ?_
    exact hZ (1 : Int32) () H locs ls 31 hm hP hD hS (dX1_relation 5 rfl) rfl
  replace hm := hm.2
  by_cases c3 : a1 = (62 : Int32)
  · refine lv_tableIn (tgt := 32) hx hb (dX1_relation 1 rfl) (by rw [c3]; decide) (by rw [c3]; decide) (by rw [c3]; rfl) (by decide) ?_
    replace hm := hm.1 c3
    refine lv_iconst (v := (2 : Int32)) hx hb (dX1_relation 6 rfl) (by decide) ?_
    exact hZ (2 : Int32) () H locs ls 33 hm hP hD hS (dX1_relation 7 rfl) rfl
  replace hm := hm.2
  have c4 : a1.toInt < 60 ∨ 62 < a1.toInt := by skip; have z0 := ob_ne c1; rw [show ((60 : Int32)).toInt = 60 from by decide] at z0; have z1 := ob_ne c2; rw [show ((61 : Int32)).toInt = 61 from by decide] at z1; have z2 := ob_ne c3; rw [show ((62 : Int32)).toInt = 62 from by decide] at z2; omega
  refine lv_tableOut (tgt := 34) hx hb (dX1_relation 1 rfl) c4 (by decide) ?_
  replace hm := hm c4
  refine lv_iconst (v := (-1 : Int32)) hx hb (dX1_relation 8 rfl) (by decide) ?_
  exact hZ (-1 : Int32) () H locs ls 35 hm hP hD hS (dX1_relation 9 rfl) rfl
abbrev rmX1_isDigitSign : Room := { frames := 0, cells := 0, slots := 0, locals := 0 }
set_option maxHeartbeats 4000000 in
set_option maxRecDepth 100000 in
theorem k_X1_isDigitSign (l : Launch) (D : va_G) (cI cZ cL : ClassId) (im : va_W) (sz : Nat) (a1 : Int32) (Q : Int32 → Prop) (hm : m_X1_isDigitSign a1 Q) : Met l yX1_isDigitSign (Cond.code yX1_isDigitSign cX1_isDigitSign 1 (some .boolean) :: wsL_law) rmX1_isDigitSign (obPre D (tyG cI cZ cL) im [] sz [.int a1]) (va_Qi (fun (r : Int32) (u : Unit) => Q r) (obB D (va_A [] sz) (fun _ : Unit => [])) (va_A [] sz)) 0 0 (va_A [] sz) := by
  refine ob_met_i (cc := cX1_isDigitSign) (maxL := 1) (by decide) (Nat.le_of_ble_eq_true rfl) (fun p e s m args below meth c A Z hx hb hml hown hts hnm hN hK hA hI hP hD hS hZ ls hl => ?_)
  have hl : lv_has ls 1 [(0, .int a1)] := hl
  unfold m_X1_isDigitSign at hm
  obtain ⟨H, hH⟩ : ∃ H, H = s.heap := ⟨_, rfl⟩
  obtain ⟨locs, hlo⟩ : ∃ q : List Loc, q = [] := ⟨_, rfl⟩
  suffices hgo : W p l e rmX1_isDigitSign s m args below meth c H locs 0 0 Z (F0 m 0 ls []) by rw [hH, hlo] at hgo; exact hgo
  have hP : va_P D vwCl [] H := by rw [hH]; exact hP
  have hD : va_D A [] := hD
  have hS : va_S A s.heap H locs := by rw [hH, hlo]; exact hS
  refine lv_iload_n hx hb (dX1_isDigitSign 0 rfl) rfl (lv_at hl 0 rfl) ?_
  refine lv_bipush (v := (48 : Int32)) hx hb (dX1_isDigitSign 1 rfl) (by decide) ?_
  refine lv_icmp_lt (tgt := 16) hx hb (dX1_isDigitSign 2 rfl) (by decide) (fun c1 => ?_) (fun c1 => ?_)
  · replace hm := hm.1 c1
    refine lv_iconst (v := (0 : Int32)) hx hb (dX1_isDigitSign 8 rfl) (by decide) ?_
    exact hZ (0 : Int32) () H locs ls 17 hm hP hD hS (dX1_isDigitSign 9 rfl) rfl
  replace hm := hm.2 c1
  refine lv_iload_n hx hb (dX1_isDigitSign 3 rfl) rfl (lv_at hl 0 rfl) ?_
  refine lv_bipush (v := (57 : Int32)) hx hb (dX1_isDigitSign 4 rfl) (by decide) ?_
  refine lv_icmp_gt (tgt := 16) hx hb (dX1_isDigitSign 5 rfl) (by decide) (fun c2 => ?_) (fun c2 => ?_)
  · replace hm := hm.1 c2
    refine lv_iconst (v := (0 : Int32)) hx hb (dX1_isDigitSign 8 rfl) (by decide) ?_
    exact hZ (0 : Int32) () H locs ls 17 hm hP hD hS (dX1_isDigitSign 9 rfl) rfl
  replace hm := hm.2 c2
  refine lv_iconst (v := (1 : Int32)) hx hb (dX1_isDigitSign 6 rfl) (by decide) ?_
  refine lv_goto (tgt := 17) hx hb (dX1_isDigitSign 7 rfl) (by decide) ?_
  exact hZ (1 : Int32) () H locs ls 17 hm hP hD hS (dX1_isDigitSign 9 rfl) rfl
abbrev rmX1_addStep : Room := { frames := 0, cells := 0, slots := 0, locals := 0 }
set_option maxHeartbeats 4000000 in
set_option maxRecDepth 100000 in
theorem k_X1_addStep (l : Launch) (D : va_G) (cI cZ cL : ClassId) (im : va_W) (sz : Nat) (h : Nat) (htape : Nat) (q_steps : Nat) (q_words : Nat) (q_numbers : Nat) (q_starts : Nat) (q_ends : Nat) (f_place : Int32) (f_stepCount : Int32) (f_clauses : Int32) (f_gap : Int32) (f_far : Int32) (r_steps : Nat → Int32) (a1 : Int32) (Q : Int32 → (Nat → Int32) → Prop) (hm : m_X1_addStep f_stepCount r_steps a1 Q) : Met l yX1_addStep (Cond.code yX1_addStep cX1_addStep 2 none :: wsL_law) rmX1_addStep (obPre D (tyG cI cZ cL) im [(h, .inr (1, [.ref htape, .ref q_steps, .ref q_words, .ref q_numbers, .ref q_starts, .ref q_ends, .int f_place, .int f_stepCount, .int f_clauses, .int f_gap, .int f_far])), (q_steps, .inl (cI, 100, .inl r_steps))] sz [.ref h, .int a1]) (va_Qv (fun (u : Int32 × (Nat → Int32)) => Q u.1 u.2) (obB D (va_A [(h, .inr (1, [.ref htape, .ref q_steps, .ref q_words, .ref q_numbers, .ref q_starts, .ref q_ends, .int f_place, .int f_stepCount, .int f_clauses, .int f_gap, .int f_far])), (q_steps, .inl (cI, 100, .inl r_steps))] sz) (fun u : Int32 × (Nat → Int32) => [(h, .inr (1, [.ref htape, .ref q_steps, .ref q_words, .ref q_numbers, .ref q_starts, .ref q_ends, .int f_place, .int u.1, .int f_clauses, .int f_gap, .int f_far])), (q_steps, .inl (cI, 100, .inl u.2))])) (va_A [(h, .inr (1, [.ref htape, .ref q_steps, .ref q_words, .ref q_numbers, .ref q_starts, .ref q_ends, .int f_place, .int f_stepCount, .int f_clauses, .int f_gap, .int f_far])), (q_steps, .inl (cI, 100, .inl r_steps))] sz)) 0 0 (va_A [(h, .inr (1, [.ref htape, .ref q_steps, .ref q_words, .ref q_numbers, .ref q_starts, .ref q_ends, .int f_place, .int f_stepCount, .int f_clauses, .int f_gap, .int f_far])), (q_steps, .inl (cI, 100, .inl r_steps))] sz) := by
  refine ob_met_v (cc := cX1_addStep) (maxL := 2) (by decide) (Nat.le_of_ble_eq_true rfl) (fun p e s m args below meth c A Z hx hb hml hown hts hnm hN hK hA hI hP hD hS hZ ls hl => ?_)
  have hl : lv_has ls 2 [(0, .ref h), (1, .int a1)] := hl
  unfold m_X1_addStep at hm
  obtain ⟨H, hH⟩ : ∃ H, H = s.heap := ⟨_, rfl⟩
  obtain ⟨locs, hlo⟩ : ∃ q : List Loc, q = [] := ⟨_, rfl⟩
  suffices hgo : W p l e rmX1_addStep s m args below meth c H locs 0 0 Z (F0 m 0 ls []) by rw [hH, hlo] at hgo; exact hgo
  have hP : va_P D vwCl [(h, .inr (1, [.ref htape, .ref q_steps, .ref q_words, .ref q_numbers, .ref q_starts, .ref q_ends, .int f_place, .int f_stepCount, .int f_clauses, .int f_gap, .int f_far])), (q_steps, .inl (cI, 100, .inl r_steps))] H := by rw [hH]; exact hP
  have hD : va_D A [(h, .inr (1, [.ref htape, .ref q_steps, .ref q_words, .ref q_numbers, .ref q_starts, .ref q_ends, .int f_place, .int f_stepCount, .int f_clauses, .int f_gap, .int f_far])), (q_steps, .inl (cI, 100, .inl r_steps))] := hD
  have hS : va_S A s.heap H locs := by rw [hH, hlo]; exact hS
  refine lv_aload_n hx hb (dX1_addStep 0 rfl) rfl (lv_at hl 0 rfl) ?_
  refine va_get (D := D) (ci := 1) (v := .int f_stepCount) (C := RX1) (T := TX1) (N := 11) hx hb hts inlX1 hown hK hP 0 rfl rfl 7 (by decide) (hts (.fieldLink RX1 61 "OverBacks$Field" "stepCount" "I") (inR6 _ (List.mem_of_getElem? (i := 6) rfl))) (fun _ h9 => h9) rfl (dX1_addStep 1 rfl) ?_
  refine lv_aload_n hx hb (dX1_addStep 2 rfl) rfl (lv_at hl 0 rfl) ?_
  refine va_get (D := D) (ci := 1) (v := .ref q_steps) (C := RX1) (T := TX1) (N := 11) hx hb hts inlX1 hown hK hP 0 rfl rfl 1 (by decide) (hts (.fieldLink RX1 15 "OverBacks$Field" "steps" "[I") (inR5 _ (List.mem_of_getElem? (i := 14) rfl))) (fun _ h9 => h9) rfl (dX1_addStep 3 rfl) ?_
  refine va_alen (v := (100 : Int32)) hx hb hK hP 1 0 rfl rfl (by decide) (dX1_addStep 4 rfl) ?_
  refine lv_icmp_lt (tgt := 13) hx hb (dX1_addStep 5 rfl) (by decide) (fun c1 => ?_) (fun c1 => ?_)
  · replace hm := hm.1 c1
    refine lv_aload_n hx hb (dX1_addStep 7 rfl) rfl (lv_at hl 0 rfl) ?_
    refine va_get (D := D) (ci := 1) (v := .ref q_steps) (C := RX1) (T := TX1) (N := 11) hx hb hts inlX1 hown hK hP 0 rfl rfl 1 (by decide) (hts (.fieldLink RX1 15 "OverBacks$Field" "steps" "[I") (inR5 _ (List.mem_of_getElem? (i := 14) rfl))) (fun _ h9 => h9) rfl (dX1_addStep 8 rfl) ?_
    refine lv_aload_n hx hb (dX1_addStep 9 rfl) rfl (lv_at hl 0 rfl) ?_
    refine va_get (D := D) (ci := 1) (v := .int f_stepCount) (C := RX1) (T := TX1) (N := 11) hx hb hts inlX1 hown hK hP 0 rfl rfl 7 (by decide) (hts (.fieldLink RX1 61 "OverBacks$Field" "stepCount" "I") (inR6 _ (List.mem_of_getElem? (i := 6) rfl))) (fun _ h9 => h9) rfl (dX1_addStep 10 rfl) ?_
    refine lv_iload_n hx hb (dX1_addStep 11 rfl) rfl (lv_at hl 1 rfl) ?_
    refine va_iast hx hb hK hP hD hS 1 0 rfl rfl hm.1 (dX1_addStep 12 rfl) (fun H locs hP hD hS => ?_)
    replace hm := hm.2
    obtain ⟨y2, ey2⟩ : ∃ q : Nat → Int32, q = upd r_steps f_stepCount.toNatClampNeg a1 := ⟨_, rfl⟩
    replace hm := hm y2 ey2
    have hP : va_P D vwCl [(h, .inr (1, [.ref htape, .ref q_steps, .ref q_words, .ref q_numbers, .ref q_starts, .ref q_ends, .int f_place, .int f_stepCount, .int f_clauses, .int f_gap, .int f_far])), (q_steps, .inl (cI, 100, .inl y2))] H := by rw [ey2]; exact hP
    have hD : va_D A [(h, .inr (1, [.ref htape, .ref q_steps, .ref q_words, .ref q_numbers, .ref q_starts, .ref q_ends, .int f_place, .int f_stepCount, .int f_clauses, .int f_gap, .int f_far])), (q_steps, .inl (cI, 100, .inl y2))] := by rw [ey2]; exact hD
    refine lv_aload_n hx hb (dX1_addStep 13 rfl) rfl (lv_at hl 0 rfl) ?_
    refine lv_dup hx hb (dX1_addStep 14 rfl) rfl ?_
    refine va_get (D := D) (ci := 1) (v := .int f_stepCount) (C := RX1) (T := TX1) (N := 11) hx hb hts inlX1 hown hK hP 0 rfl rfl 7 (by decide) (hts (.fieldLink RX1 61 "OverBacks$Field" "stepCount" "I") (inR6 _ (List.mem_of_getElem? (i := 6) rfl))) (fun _ h9 => h9) rfl (dX1_addStep 15 rfl) ?_
    refine lv_iconst (v := (1 : Int32)) hx hb (dX1_addStep 16 rfl) (by decide) ?_
    refine lv_iadd hx hb (dX1_addStep 17 rfl) ?_
    refine va_put (D := D) (ci := 1) (v := .int (f_stepCount + (1 : Int32))) (ty := .int) (C := RX1) (T := TX1) (N := 11) hx hb hts inlX1 tyX1 tyX1_ok nmX1 hown hK hP hD hS 0 rfl rfl 7 (by decide) (hts (.fieldLink RX1 61 "OverBacks$Field" "stepCount" "I") (inR6 _ (List.mem_of_getElem? (i := 6) rfl))) (fun _ h9 => h9) rfl (by decide +kernel) rfl rfl (Nat.le_of_ble_eq_true rfl) (dX1_addStep 18 rfl) (fun H locs hP hD hS => ?_)
    have hP : va_P D vwCl [(h, .inr (1, [.ref htape, .ref q_steps, .ref q_words, .ref q_numbers, .ref q_starts, .ref q_ends, .int f_place, .int (f_stepCount + (1 : Int32)), .int f_clauses, .int f_gap, .int f_far])), (q_steps, .inl (cI, 100, .inl y2))] H := hP
    have hD : va_D A [(h, .inr (1, [.ref htape, .ref q_steps, .ref q_words, .ref q_numbers, .ref q_starts, .ref q_ends, .int f_place, .int (f_stepCount + (1 : Int32)), .int f_clauses, .int f_gap, .int f_far])), (q_steps, .inl (cI, 100, .inl y2))] := hD
    exact hZ (f_stepCount + (1 : Int32), y2) H locs ls 33 hm hP hD hS (dX1_addStep 19 rfl)
  replace hm := hm.2 c1
  exact hZ (f_stepCount, r_steps) H locs ls 12 hm hP hD hS (dX1_addStep 6 rfl)
abbrev rmX1_isSo : Room := { frames := 0, cells := 0, slots := 0, locals := 0 }
set_option maxHeartbeats 4000000 in
set_option maxRecDepth 100000 in
theorem k_X1_isSo (l : Launch) (D : va_G) (cI cZ cL : ClassId) (im : va_W) (sz : Nat) (h2 : Nat) (n2 : Nat) (r2 : Nat → Int32) (a1 : Int32) (Q : Int32 → Prop) (hm : m_X1_isSo n2 r2 a1 Q) : Met l yX1_isSo (Cond.code yX1_isSo cX1_isSo 4 (some .boolean) :: wsL_law) rmX1_isSo (obPre D (tyG cI cZ cL) im [(h2, .inl (cI, n2, .inl r2))] sz [.int a1, .ref h2]) (va_Qi (fun (r : Int32) (u : Unit) => Q r) (obB D (va_A [(h2, .inl (cI, n2, .inl r2))] sz) (fun _ : Unit => [(h2, .inl (cI, n2, .inl r2))])) (va_A [(h2, .inl (cI, n2, .inl r2))] sz)) 0 0 (va_A [(h2, .inl (cI, n2, .inl r2))] sz) := by
  refine ob_met_i (cc := cX1_isSo) (maxL := 4) (by decide) (Nat.le_of_ble_eq_true rfl) (fun p e s m args below meth c A Z hx hb hml hown hts hnm hN hK hA hI hP hD hS hZ ls hl => ?_)
  have hl : lv_has ls 4 [(0, .int a1), (1, .ref h2)] := hl
  unfold m_X1_isSo at hm
  obtain ⟨H, hH⟩ : ∃ H, H = s.heap := ⟨_, rfl⟩
  obtain ⟨locs, hlo⟩ : ∃ q : List Loc, q = [] := ⟨_, rfl⟩
  suffices hgo : W p l e rmX1_isSo s m args below meth c H locs 0 0 Z (F0 m 0 ls []) by rw [hH, hlo] at hgo; exact hgo
  have hP : va_P D vwCl [(h2, .inl (cI, n2, .inl r2))] H := by rw [hH]; exact hP
  have hD : va_D A [(h2, .inl (cI, n2, .inl r2))] := hD
  have hS : va_S A s.heap H locs := by rw [hH, hlo]; exact hS
  refine lv_iload_n hx hb (dX1_isSo 0 rfl) rfl (lv_at hl 0 rfl) ?_
  refine lv_sipush (v := (300 : Int32)) hx hb (dX1_isSo 1 rfl) (by decide) ?_
  refine lv_idiv hx hb (dX1_isSo 2 rfl) (by decide) ?_
  refine lv_topi (fun x1 ex1 => ?_)
  replace hm := hm x1 ex1
  refine lv_istore_n (lv' := [(2, .int x1), (0, .int a1), (1, .ref h2)]) hx hb (dX1_isSo 3 rfl) rfl hl (by decide) rfl (fun ls hl => ?_)
  refine lv_iload_n hx hb (dX1_isSo 4 rfl) rfl (lv_at hl 0 rfl) ?_
  refine lv_if_lt (tgt := 16) hx hb (dX1_isSo 5 rfl) (by decide) (fun c2 => ?_) (fun c2 => ?_)
  · replace hm := hm.1 c2
    refine lv_iconst (v := (0 : Int32)) hx hb (dX1_isSo 10 rfl) (by decide) ?_
    exact hZ (0 : Int32) () H locs ls 17 hm hP hD hS (dX1_isSo 11 rfl) rfl
  replace hm := hm.2 c2
  refine lv_iload_n hx hb (dX1_isSo 6 rfl) rfl (lv_at hl 0 rfl) ?_
  refine lv_aload_n hx hb (dX1_isSo 7 rfl) rfl (lv_at hl 2 rfl) ?_
  refine va_alen (v := nI n2) hx hb hK hP 0 0 rfl rfl rfl (dX1_isSo 8 rfl) ?_
  refine lv_icmp_lt (tgt := 18) hx hb (dX1_isSo 9 rfl) (by decide) (fun c3 => ?_) (fun c3 => ?_)
  · replace hm := hm.1 c3
    refine lv_iload_n hx hb (dX1_isSo 12 rfl) rfl (lv_at hl 1 rfl) ?_
    refine lv_bipush (v := (100 : Int32)) hx hb (dX1_isSo 13 rfl) (by decide) ?_
    refine lv_irem hx hb (dX1_isSo 14 rfl) (by decide) ?_
    refine lv_topi (fun x4 ex4 => ?_)
    replace hm := hm x4 ex4
    refine lv_istore_n (lv' := [(3, .int x4), (2, .int x1), (0, .int a1), (1, .ref h2)]) hx hb (dX1_isSo 15 rfl) rfl hl (by decide) rfl (fun ls hl => ?_)
    refine lv_iload_n hx hb (dX1_isSo 16 rfl) rfl (lv_at hl 2 rfl) ?_
    refine lv_sipush (v := (300 : Int32)) hx hb (dX1_isSo 17 rfl) (by decide) ?_
    refine lv_irem hx hb (dX1_isSo 18 rfl) (by decide) ?_
    refine lv_bipush (v := (100 : Int32)) hx hb (dX1_isSo 19 rfl) (by decide) ?_
    refine lv_idiv hx hb (dX1_isSo 20 rfl) (by decide) ?_
    refine lv_topi (fun x5 ex5 => ?_)
    replace hm := hm x5 ex5
    by_cases c7 : x5 = (0 : Int32)
    · refine lv_lookup (off := 25) (tgt := 56) hx hb (dX1_isSo 21 rfl) (by decide) (by rw [c7]; rfl) (by decide) ?_
      replace hm := hm.1 c7
      refine lv_aload_n hx hb (dX1_isSo 22 rfl) rfl (lv_at hl 3 rfl) ?_
      refine lv_iload_n hx hb (dX1_isSo 23 rfl) rfl (lv_at hl 1 rfl) ?_
      refine va_iald hx hb hK hP 0 0 rfl rfl hm.1 (dX1_isSo 24 rfl) ?_
      replace hm := hm.2
      refine lv_iload_n hx hb (dX1_isSo 25 rfl) rfl (lv_at hl 0 rfl) ?_
      refine lv_icmp_ge (tgt := 67) hx hb (dX1_isSo 26 rfl) (by decide) (fun c6 => ?_) (fun c6 => ?_)
      · replace hm := hm.1 c6
        refine lv_iconst (v := (0 : Int32)) hx hb (dX1_isSo 29 rfl) (by decide) ?_
        exact hZ (0 : Int32) () H locs ls 68 hm hP hD hS (dX1_isSo 30 rfl) rfl
      replace hm := hm.2 c6
      refine lv_iconst (v := (1 : Int32)) hx hb (dX1_isSo 27 rfl) (by decide) ?_
      refine lv_goto (tgt := 68) hx hb (dX1_isSo 28 rfl) (by decide) ?_
      exact hZ (1 : Int32) () H locs ls 68 hm hP hD hS (dX1_isSo 30 rfl) rfl
    replace hm := hm.2
    by_cases c9 : x5 = (1 : Int32)
    · refine lv_lookup (off := 38) (tgt := 69) hx hb (dX1_isSo 21 rfl) (by decide) (by rw [c9]; rfl) (by decide) ?_
      replace hm := hm.1 c9
      refine lv_aload_n hx hb (dX1_isSo 31 rfl) rfl (lv_at hl 3 rfl) ?_
      refine lv_iload_n hx hb (dX1_isSo 32 rfl) rfl (lv_at hl 1 rfl) ?_
      refine va_iald hx hb hK hP 0 0 rfl rfl hm.1 (dX1_isSo 33 rfl) ?_
      replace hm := hm.2
      refine lv_iload_n hx hb (dX1_isSo 34 rfl) rfl (lv_at hl 0 rfl) ?_
      refine lv_icmp_ne (tgt := 80) hx hb (dX1_isSo 35 rfl) (by decide) (fun c8 => ?_) (fun c8 => ?_)
      · replace hm := hm.2 c8
        refine lv_iconst (v := (0 : Int32)) hx hb (dX1_isSo 38 rfl) (by decide) ?_
        exact hZ (0 : Int32) () H locs ls 81 hm hP hD hS (dX1_isSo 39 rfl) rfl
      replace hm := hm.1 c8
      refine lv_iconst (v := (1 : Int32)) hx hb (dX1_isSo 36 rfl) (by decide) ?_
      refine lv_goto (tgt := 81) hx hb (dX1_isSo 37 rfl) (by decide) ?_
      exact hZ (1 : Int32) () H locs ls 81 hm hP hD hS (dX1_isSo 39 rfl) rfl
    replace hm := hm.2
    refine lv_lookup (off := 51) (tgt := 82) hx hb (dX1_isSo 21 rfl) (by decide) (by simp [Op.lookupswitch.offset, ob_neb (k := (0 : Int32)) c7, ob_neb (k := (1 : Int32)) c9]) (by decide) ?_
    replace hm := hm c7 c9
    refine lv_aload_n hx hb (dX1_isSo 40 rfl) rfl (lv_at hl 3 rfl) ?_
    refine lv_iload_n hx hb (dX1_isSo 41 rfl) rfl (lv_at hl 1 rfl) ?_
    refine va_iald hx hb hK hP 0 0 rfl rfl hm.1 (dX1_isSo 42 rfl) ?_
    replace hm := hm.2
    refine lv_iload_n hx hb (dX1_isSo 43 rfl) rfl (lv_at hl 0 rfl) ?_
    refine lv_icmp_le (tgt := 93) hx hb (dX1_isSo 44 rfl) (by decide) (fun c10 => ?_) (fun c10 => ?_)
    · replace hm := hm.1 c10
      refine lv_iconst (v := (0 : Int32)) hx hb (dX1_isSo 47 rfl) (by decide) ?_
      exact hZ (0 : Int32) () H locs ls 94 hm hP hD hS (dX1_isSo 48 rfl) rfl
    replace hm := hm.2 c10
    refine lv_iconst (v := (1 : Int32)) hx hb (dX1_isSo 45 rfl) (by decide) ?_
    refine lv_goto (tgt := 94) hx hb (dX1_isSo 46 rfl) (by decide) ?_
    exact hZ (1 : Int32) () H locs ls 94 hm hP hD hS (dX1_isSo 48 rfl) rfl
  replace hm := hm.2 c3
  refine lv_iconst (v := (0 : Int32)) hx hb (dX1_isSo 10 rfl) (by decide) ?_
  exact hZ (0 : Int32) () H locs ls 17 hm hP hD hS (dX1_isSo 11 rfl) rfl
abbrev rmX5_lieOn : Room := { frames := 0, cells := 0, slots := 0, locals := 0 }
set_option maxHeartbeats 4000000 in
set_option maxRecDepth 100000 in
theorem k_X5_lieOn (l : Launch) (D : va_G) (cI cZ cL : ClassId) (im : va_W) (sz : Nat) (h : Nat) (h1 : Nat) (q_people : Nat) (q_places : Nat) (q_breath : Nat) (q_rows : Nat) (q_seen : Nat) (q_ends : Nat) (f_field : Option Nat) (f_size : Int32) (f_turn : Int32) (f_yards : Int32) (f_time : Int32) (f_gap : Int32) (f_far : Int32) (f_flat : Int32) (htape : Nat) (q1_steps : Nat) (q1_words : Nat) (q1_numbers : Nat) (q1_starts : Nat) (q1_ends : Nat) (f1_place : Int32) (f1_stepCount : Int32) (f1_clauses : Int32) (f1_gap : Int32) (f1_far : Int32) (Q : Option Nat → Int32 → Int32 → Prop) (hm : m_X5_lieOn f_field f_gap f_far f1_gap f1_far Q) : Met l yX5_lieOn (Cond.code yX5_lieOn cX5_lieOn 2 none :: wsL_law) rmX5_lieOn (obPre D (tyG cI cZ cL) im [(h, .inr (5, [.ref q_people, .ref q_places, .ref q_breath, .ref q_rows, .ref q_seen, .ref q_ends, va_rf f_field, .int f_size, .int f_turn, .int f_yards, .int f_time, .int f_gap, .int f_far, .int f_flat])), (h1, .inr (1, [.ref htape, .ref q1_steps, .ref q1_words, .ref q1_numbers, .ref q1_starts, .ref q1_ends, .int f1_place, .int f1_stepCount, .int f1_clauses, .int f1_gap, .int f1_far]))] sz [.ref h, .ref h1]) (va_Qv (fun (u : Option Nat × Int32 × Int32) => Q u.1 u.2.1 u.2.2) (obB D (va_A [(h, .inr (5, [.ref q_people, .ref q_places, .ref q_breath, .ref q_rows, .ref q_seen, .ref q_ends, va_rf f_field, .int f_size, .int f_turn, .int f_yards, .int f_time, .int f_gap, .int f_far, .int f_flat])), (h1, .inr (1, [.ref htape, .ref q1_steps, .ref q1_words, .ref q1_numbers, .ref q1_starts, .ref q1_ends, .int f1_place, .int f1_stepCount, .int f1_clauses, .int f1_gap, .int f1_far]))] sz) (fun u : Option Nat × Int32 × Int32 => [(h, .inr (5, [.ref q_people, .ref q_places, .ref q_breath, .ref q_rows, .ref q_seen, .ref q_ends, va_rf u.1, .int f_size, .int f_turn, .int f_yards, .int f_time, .int u.2.1, .int u.2.2, .int f_flat])), (h1, .inr (1, [.ref htape, .ref q1_steps, .ref q1_words, .ref q1_numbers, .ref q1_starts, .ref q1_ends, .int f1_place, .int f1_stepCount, .int f1_clauses, .int f1_gap, .int f1_far]))])) (va_A [(h, .inr (5, [.ref q_people, .ref q_places, .ref q_breath, .ref q_rows, .ref q_seen, .ref q_ends, va_rf f_field, .int f_size, .int f_turn, .int f_yards, .int f_time, .int f_gap, .int f_far, .int f_flat])), (h1, .inr (1, [.ref htape, .ref q1_steps, .ref q1_words, .ref q1_numbers, .ref q1_starts, .ref q1_ends, .int f1_place, .int f1_stepCount, .int f1_clauses, .int f1_gap, .int f1_far]))] sz)) 0 0 (va_A [(h, .inr (5, [.ref q_people, .ref q_places, .ref q_breath, .ref q_rows, .ref q_seen, .ref q_ends, va_rf f_field, .int f_size, .int f_turn, .int f_yards, .int f_time, .int f_gap, .int f_far, .int f_flat])), (h1, .inr (1, [.ref htape, .ref q1_steps, .ref q1_words, .ref q1_numbers, .ref q1_starts, .ref q1_ends, .int f1_place, .int f1_stepCount, .int f1_clauses, .int f1_gap, .int f1_far]))] sz) := by
  refine ob_met_v (cc := cX5_lieOn) (maxL := 2) (by decide) (Nat.le_of_ble_eq_true rfl) (fun p e s m args below meth c A Z hx hb hml hown hts hnm hN hK hA hI hP hD hS hZ ls hl => ?_)
  have hl : lv_has ls 2 [(0, .ref h), (1, .ref h1)] := hl
  unfold m_X5_lieOn at hm
  obtain ⟨H, hH⟩ : ∃ H, H = s.heap := ⟨_, rfl⟩
  obtain ⟨locs, hlo⟩ : ∃ q : List Loc, q = [] := ⟨_, rfl⟩
  suffices hgo : W p l e rmX5_lieOn s m args below meth c H locs 0 0 Z (F0 m 0 ls []) by rw [hH, hlo] at hgo; exact hgo
  have hP : va_P D vwCl [(h, .inr (5, [.ref q_people, .ref q_places, .ref q_breath, .ref q_rows, .ref q_seen, .ref q_ends, va_rf f_field, .int f_size, .int f_turn, .int f_yards, .int f_time, .int f_gap, .int f_far, .int f_flat])), (h1, .inr (1, [.ref htape, .ref q1_steps, .ref q1_words, .ref q1_numbers, .ref q1_starts, .ref q1_ends, .int f1_place, .int f1_stepCount, .int f1_clauses, .int f1_gap, .int f1_far]))] H := by rw [hH]; exact hP
  have hD : va_D A [(h, .inr (5, [.ref q_people, .ref q_places, .ref q_breath, .ref q_rows, .ref q_seen, .ref q_ends, va_rf f_field, .int f_size, .int f_turn, .int f_yards, .int f_time, .int f_gap, .int f_far, .int f_flat])), (h1, .inr (1, [.ref htape, .ref q1_steps, .ref q1_words, .ref q1_numbers, .ref q1_starts, .ref q1_ends, .int f1_place, .int f1_stepCount, .int f1_clauses, .int f1_gap, .int f1_far]))] := hD
  have hS : va_S A s.heap H locs := by rw [hH, hlo]; exact hS
  refine lv_aload_n hx hb (dX5_lieOn 0 rfl) rfl (lv_at hl 0 rfl) ?_
  refine lv_aload_n hx hb (dX5_lieOn 1 rfl) rfl (lv_at hl 1 rfl) ?_
  refine va_put (D := D) (ci := 5) (v := .ref h1) (ty := .object "OverBacks$Field") (C := RX5) (T := TX5) (N := 14) hx hb hts inlX5 tyX5 tyX5_ok nmX5 hown hK hP hD hS 0 rfl rfl 6 (by decide) (hts (.fieldLink RX5 45 "OverBacks$Line" "field" "LOverBacks$Field;") (inR10 _ (List.mem_of_getElem? (i := 14) rfl))) (fun _ h9 => h9) rfl (by decide +kernel) (ob_nq _) (ob_fq _) (Nat.le_of_ble_eq_true rfl) (dX5_lieOn 2 rfl) (fun H locs hP hD hS => ?_)
  have hP : va_P D vwCl [(h, .inr (5, [.ref q_people, .ref q_places, .ref q_breath, .ref q_rows, .ref q_seen, .ref q_ends, .ref h1, .int f_size, .int f_turn, .int f_yards, .int f_time, .int f_gap, .int f_far, .int f_flat])), (h1, .inr (1, [.ref htape, .ref q1_steps, .ref q1_words, .ref q1_numbers, .ref q1_starts, .ref q1_ends, .int f1_place, .int f1_stepCount, .int f1_clauses, .int f1_gap, .int f1_far]))] H := hP
  have hD : va_D A [(h, .inr (5, [.ref q_people, .ref q_places, .ref q_breath, .ref q_rows, .ref q_seen, .ref q_ends, .ref h1, .int f_size, .int f_turn, .int f_yards, .int f_time, .int f_gap, .int f_far, .int f_flat])), (h1, .inr (1, [.ref htape, .ref q1_steps, .ref q1_words, .ref q1_numbers, .ref q1_starts, .ref q1_ends, .int f1_place, .int f1_stepCount, .int f1_clauses, .int f1_gap, .int f1_far]))] := hD
  refine lv_aload_n hx hb (dX5_lieOn 3 rfl) rfl (lv_at hl 0 rfl) ?_
  refine lv_aload_n hx hb (dX5_lieOn 4 rfl) rfl (lv_at hl 1 rfl) ?_
  refine va_getN (D := D) (ci := 1) (v := .int f1_gap) (C := RX1) (T := TX1) (N := 11) hx hb hts inlX1 hown hK hP 1 rfl rfl 9 (by decide) (va_Nw.use rfl (hN _ (List.mem_of_getElem? (i := 19) rfl))) (fun _ h9 => h9) rfl (dX5_lieOn 5 rfl) ?_
  refine va_put (D := D) (ci := 5) (v := .int f1_gap) (ty := .int) (C := RX5) (T := TX5) (N := 14) hx hb hts inlX5 tyX5 tyX5_ok nmX5 hown hK hP hD hS 0 rfl rfl 11 (by decide) (hts (.fieldLink RX5 35 "OverBacks$Line" "gap" "I") (inR3 _ (List.mem_of_getElem? (i := 2) rfl))) (fun _ h9 => h9) rfl (by decide +kernel) rfl rfl (Nat.le_of_ble_eq_true rfl) (dX5_lieOn 6 rfl) (fun H locs hP hD hS => ?_)
  have hP : va_P D vwCl [(h, .inr (5, [.ref q_people, .ref q_places, .ref q_breath, .ref q_rows, .ref q_seen, .ref q_ends, .ref h1, .int f_size, .int f_turn, .int f_yards, .int f_time, .int f1_gap, .int f_far, .int f_flat])), (h1, .inr (1, [.ref htape, .ref q1_steps, .ref q1_words, .ref q1_numbers, .ref q1_starts, .ref q1_ends, .int f1_place, .int f1_stepCount, .int f1_clauses, .int f1_gap, .int f1_far]))] H := hP
  have hD : va_D A [(h, .inr (5, [.ref q_people, .ref q_places, .ref q_breath, .ref q_rows, .ref q_seen, .ref q_ends, .ref h1, .int f_size, .int f_turn, .int f_yards, .int f_time, .int f1_gap, .int f_far, .int f_flat])), (h1, .inr (1, [.ref htape, .ref q1_steps, .ref q1_words, .ref q1_numbers, .ref q1_starts, .ref q1_ends, .int f1_place, .int f1_stepCount, .int f1_clauses, .int f1_gap, .int f1_far]))] := hD
  refine lv_aload_n hx hb (dX5_lieOn 7 rfl) rfl (lv_at hl 0 rfl) ?_
  refine lv_aload_n hx hb (dX5_lieOn 8 rfl) rfl (lv_at hl 1 rfl) ?_
  refine va_getN (D := D) (ci := 1) (v := .int f1_far) (C := RX1) (T := TX1) (N := 11) hx hb hts inlX1 hown hK hP 1 rfl rfl 10 (by decide) (va_Nw.use rfl (hN _ (List.mem_of_getElem? (i := 20) rfl))) (fun _ h9 => h9) rfl (dX5_lieOn 9 rfl) ?_
  refine va_put (D := D) (ci := 5) (v := .int f1_far) (ty := .int) (C := RX5) (T := TX5) (N := 14) hx hb hts inlX5 tyX5 tyX5_ok nmX5 hown hK hP hD hS 0 rfl rfl 12 (by decide) (hts (.fieldLink RX5 39 "OverBacks$Line" "far" "I") (inR3 _ (List.mem_of_getElem? (i := 3) rfl))) (fun _ h9 => h9) rfl (by decide +kernel) rfl rfl (Nat.le_of_ble_eq_true rfl) (dX5_lieOn 10 rfl) (fun H locs hP hD hS => ?_)
  have hP : va_P D vwCl [(h, .inr (5, [.ref q_people, .ref q_places, .ref q_breath, .ref q_rows, .ref q_seen, .ref q_ends, .ref h1, .int f_size, .int f_turn, .int f_yards, .int f_time, .int f1_gap, .int f1_far, .int f_flat])), (h1, .inr (1, [.ref htape, .ref q1_steps, .ref q1_words, .ref q1_numbers, .ref q1_starts, .ref q1_ends, .int f1_place, .int f1_stepCount, .int f1_clauses, .int f1_gap, .int f1_far]))] H := hP
  have hD : va_D A [(h, .inr (5, [.ref q_people, .ref q_places, .ref q_breath, .ref q_rows, .ref q_seen, .ref q_ends, .ref h1, .int f_size, .int f_turn, .int f_yards, .int f_time, .int f1_gap, .int f1_far, .int f_flat])), (h1, .inr (1, [.ref htape, .ref q1_steps, .ref q1_words, .ref q1_numbers, .ref q1_starts, .ref q1_ends, .int f1_place, .int f1_stepCount, .int f1_clauses, .int f1_gap, .int f1_far]))] := hD
  exact hZ (p1, f1_gap, f1_far) H locs ls 21 hm hP hD hS (dX5_lieOn 11 rfl)
abbrev rmX5_find : Room := { frames := 0, cells := 0, slots := 0, locals := 0 }
set_option maxHeartbeats 4000000 in
set_option maxRecDepth 100000 in
theorem k_X5_find (l : Launch) (D : va_G) (cI cZ cL : ClassId) (im : va_W) (sz : Nat) (h : Nat) (q_people : Nat) (q_places : Nat) (q_breath : Nat) (q_rows : Nat) (q_seen : Nat) (q_ends : Nat) (f_field : Option Nat) (f_size : Int32) (f_turn : Int32) (f_yards : Int32) (f_time : Int32) (f_gap : Int32) (f_far : Int32) (f_flat : Int32) (r_people : Nat → Option Nat) (a1 : Int32) (Q : Option Nat → Prop) (hm : m_X5_find r_people a1 Q) : Met l yX5_find (Cond.code yX5_find cX5_find 2 (some (.object "OverBacks$Leaper")) :: wsL_law) rmX5_find (obPre D (tyG cI cZ cL) im [(h, .inr (5, [.ref q_people, .ref q_places, .ref q_breath, .ref q_rows, .ref q_seen, .ref q_ends, va_rf f_field, .int f_size, .int f_turn, .int f_yards, .int f_time, .int f_gap, .int f_far, .int f_flat])), (q_people, .inl (cL, 7, .inr (.inr (.inr (.inr r_people)))))] sz [.ref h, .int a1]) (va_Qq (fun (r : Option Nat) (u : Unit) => Q r) (obB D (va_A [(h, .inr (5, [.ref q_people, .ref q_places, .ref q_breath, .ref q_rows, .ref q_seen, .ref q_ends, va_rf f_field, .int f_size, .int f_turn, .int f_yards, .int f_time, .int f_gap, .int f_far, .int f_flat])), (q_people, .inl (cL, 7, .inr (.inr (.inr (.inr r_people)))))] sz) (fun _ : Unit => [(h, .inr (5, [.ref q_people, .ref q_places, .ref q_breath, .ref q_rows, .ref q_seen, .ref q_ends, va_rf f_field, .int f_size, .int f_turn, .int f_yards, .int f_time, .int f_gap, .int f_far, .int f_flat])), (q_people, .inl (cL, 7, .inr (.inr (.inr (.inr r_people)))))])) (va_A [(h, .inr (5, [.ref q_people, .ref q_places, .ref q_breath, .ref q_rows, .ref q_seen, .ref q_ends, va_rf f_field, .int f_size, .int f_turn, .int f_yards, .int f_time, .int f_gap, .int f_far, .int f_flat])), (q_people, .inl (cL, 7, .inr (.inr (.inr (.inr r_people)))))] sz)) 0 0 (va_A [(h, .inr (5, [.ref q_people, .ref q_places, .ref q_breath, .ref q_rows, .ref q_seen, .ref q_ends, va_rf f_field, .int f_size, .int f_turn, .int f_yards, .int f_time, .int f_gap, .int f_far, .int f_flat])), (q_people, .inl (cL, 7, .inr (.inr (.inr (.inr r_people)))))] sz) := by
  refine ob_met_q (cc := cX5_find) (maxL := 2) (by decide) (Nat.le_of_ble_eq_true rfl) (fun p e s m args below meth c A Z hx hb hml hown hts hnm hN hK hA hI hP hD hS hZ ls hl => ?_)
  have hl : lv_has ls 2 [(0, .ref h), (1, .int a1)] := hl
  unfold m_X5_find at hm
  obtain ⟨H, hH⟩ : ∃ H, H = s.heap := ⟨_, rfl⟩
  obtain ⟨locs, hlo⟩ : ∃ q : List Loc, q = [] := ⟨_, rfl⟩
  suffices hgo : W p l e rmX5_find s m args below meth c H locs 0 0 Z (F0 m 0 ls []) by rw [hH, hlo] at hgo; exact hgo
  have hP : va_P D vwCl [(h, .inr (5, [.ref q_people, .ref q_places, .ref q_breath, .ref q_rows, .ref q_seen, .ref q_ends, va_rf f_field, .int f_size, .int f_turn, .int f_yards, .int f_time, .int f_gap, .int f_far, .int f_flat])), (q_people, .inl (cL, 7, .inr (.inr (.inr (.inr r_people)))))] H := by rw [hH]; exact hP
  have hD : va_D A [(h, .inr (5, [.ref q_people, .ref q_places, .ref q_breath, .ref q_rows, .ref q_seen, .ref q_ends, va_rf f_field, .int f_size, .int f_turn, .int f_yards, .int f_time, .int f_gap, .int f_far, .int f_flat])), (q_people, .inl (cL, 7, .inr (.inr (.inr (.inr r_people)))))] := hD
  have hS : va_S A s.heap H locs := by rw [hH, hlo]; exact hS
  refine lv_iload_n hx hb (dX5_find 0 rfl) rfl (lv_at hl 1 rfl) ?_
  refine lv_if_lt (tgt := 19) hx hb (dX5_find 1 rfl) (by decide) (fun c1 => ?_) (fun c1 => ?_)
  · replace hm := hm.1 c1
    refine lv_null hx hb (dX5_find 10 rfl) ?_
    exact hZ none () H locs ls 20 hm hP hD hS (dX5_find 11 rfl)
  replace hm := hm.2 c1
  refine lv_iload_n hx hb (dX5_find 2 rfl) rfl (lv_at hl 1 rfl) ?_
  refine lv_bipush (v := (7 : Int32)) hx hb (dX5_find 3 rfl) (by decide) ?_
  refine lv_icmp_ge (tgt := 19) hx hb (dX5_find 4 rfl) (by decide) (fun c2 => ?_) (fun c2 => ?_)
  · replace hm := hm.1 c2
    refine lv_null hx hb (dX5_find 10 rfl) ?_
    exact hZ none () H locs ls 20 hm hP hD hS (dX5_find 11 rfl)
  replace hm := hm.2 c2
  refine lv_aload_n hx hb (dX5_find 5 rfl) rfl (lv_at hl 0 rfl) ?_
  refine va_get (D := D) (ci := 5) (v := .ref q_people) (C := RX5) (T := TX5) (N := 14) hx hb hts inlX5 hown hK hP 0 rfl rfl 0 (by decide) (hts (.fieldLink RX5 11 "OverBacks$Line" "people" "[LOverBacks$Leaper;") (inR2 _ (List.mem_of_getElem? (i := 20) rfl))) (fun _ h9 => h9) rfl (dX5_find 6 rfl) ?_
  refine lv_iload_n hx hb (dX5_find 7 rfl) rfl (lv_at hl 1 rfl) ?_
  refine va_aldq hx hb hK hP 1 2 rfl rfl hm.1 (dX5_find 8 rfl) ?_
  replace hm := hm.2
  refine lv_goto (tgt := 20) hx hb (dX5_find 9 rfl) (by decide) ?_
  exact hZ (r_people a1.toNatClampNeg) () H locs ls 20 hm hP hD hS (dX5_find 11 rfl)
abbrev rmX5_standAs : Room := { frames := 0, cells := 0, slots := 0, locals := 0 }
set_option maxHeartbeats 4000000 in
set_option maxRecDepth 100000 in
theorem k_X5_standAs (l : Launch) (D : va_G) (cI cZ cL : ClassId) (im : va_W) (sz : Nat) (h : Nat) (h1 : Nat) (q_people : Nat) (q_places : Nat) (q_breath : Nat) (q_rows : Nat) (q_seen : Nat) (q_ends : Nat) (f_field : Option Nat) (f_size : Int32) (f_turn : Int32) (f_yards : Int32) (f_time : Int32) (f_gap : Int32) (f_far : Int32) (f_flat : Int32) (r_places : Nat → Int32) (n1 : Nat) (r1 : Nat → Int32) (Q : (Nat → Int32) → Prop) (hm : m_X5_standAs n1 f_size r_places r1 Q) : Met l yX5_standAs (Cond.code yX5_standAs cX5_standAs 3 none :: wsL_law) rmX5_standAs (obPre D (tyG cI cZ cL) im [(h, .inr (5, [.ref q_people, .ref q_places, .ref q_breath, .ref q_rows, .ref q_seen, .ref q_ends, va_rf f_field, .int f_size, .int f_turn, .int f_yards, .int f_time, .int f_gap, .int f_far, .int f_flat])), (q_places, .inl (cI, 7, .inl r_places)), (h1, .inl (cI, n1, .inl r1))] sz [.ref h, .ref h1]) (va_Qv (fun (u : (Nat → Int32)) => Q u) (obB D (va_A [(h, .inr (5, [.ref q_people, .ref q_places, .ref q_breath, .ref q_rows, .ref q_seen, .ref q_ends, va_rf f_field, .int f_size, .int f_turn, .int f_yards, .int f_time, .int f_gap, .int f_far, .int f_flat])), (q_places, .inl (cI, 7, .inl r_places)), (h1, .inl (cI, n1, .inl r1))] sz) (fun u : (Nat → Int32) => [(h, .inr (5, [.ref q_people, .ref q_places, .ref q_breath, .ref q_rows, .ref q_seen, .ref q_ends, va_rf f_field, .int f_size, .int f_turn, .int f_yards, .int f_time, .int f_gap, .int f_far, .int f_flat])), (q_places, .inl (cI, 7, .inl u)), (h1, .inl (cI, n1, .inl r1))])) (va_A [(h, .inr (5, [.ref q_people, .ref q_places, .ref q_breath, .ref q_rows, .ref q_seen, .ref q_ends, va_rf f_field, .int f_size, .int f_turn, .int f_yards, .int f_time, .int f_gap, .int f_far, .int f_flat])), (q_places, .inl (cI, 7, .inl r_places)), (h1, .inl (cI, n1, .inl r1))] sz)) 0 0 (va_A [(h, .inr (5, [.ref q_people, .ref q_places, .ref q_breath, .ref q_rows, .ref q_seen, .ref q_ends, va_rf f_field, .int f_size, .int f_turn, .int f_yards, .int f_time, .int f_gap, .int f_far, .int f_flat])), (q_places, .inl (cI, 7, .inl r_places)), (h1, .inl (cI, n1, .inl r1))] sz) := by
  refine ob_met_v (cc := cX5_standAs) (maxL := 3) (by decide) (Nat.le_of_ble_eq_true rfl) (fun p e s m args below meth c A Z hx hb hml hown hts hnm hN hK hA hI hP hD hS hZ ls hl => ?_)
  have hl : lv_has ls 3 [(0, .ref h), (1, .ref h1)] := hl
  unfold m_X5_standAs at hm
  have lab2 : ∀ (n2 : Nat) (r_places_2 : Nat → Int32) (v2_2 : Int32) , ∀ (H : Heap) (locs : List Loc) (ls : Array Slot), va_P D vwCl [(h, .inr (5, [.ref q_people, .ref q_places, .ref q_breath, .ref q_rows, .ref q_seen, .ref q_ends, va_rf f_field, .int f_size, .int f_turn, .int f_yards, .int f_time, .int f_gap, .int f_far, .int f_flat])), (q_places, .inl (cI, 7, .inl r_places_2)), (h1, .inl (cI, n1, .inl r1))] H → va_D A [(h, .inr (5, [.ref q_people, .ref q_places, .ref q_breath, .ref q_rows, .ref q_seen, .ref q_ends, va_rf f_field, .int f_size, .int f_turn, .int f_yards, .int f_time, .int f_gap, .int f_far, .int f_flat])), (q_places, .inl (cI, 7, .inl r_places_2)), (h1, .inl (cI, n1, .inl r1))] → va_S A s.heap H locs → lv_has ls 3 [(0, .ref h), (1, .ref h1), (2, .int v2_2)] → m_X5_standAs_L2 n1 f_size r1 Q n2 r_places_2 v2_2 → W p l e rmX5_standAs s m args below meth c H locs 0 0 Z (F0 m 2 ls []) := by
    intro n2
    induction n2 with
    | zero =>
      intro r_places_2 v2_2 H locs ls hP hD hS hl hm
      exact hm.elim
    | succ n2 ih2 =>
      intro r_places_2 v2_2 H locs ls hP hD hS hl hm
      unfold m_X5_standAs_L2 at hm
      obtain ⟨K2, hK2⟩ : ∃ K : (Nat → Int32) → Int32 → Prop, K = m_X5_standAs_L2 n1 f_size r1 Q n2 := ⟨_, rfl⟩
      rw [← hK2] at hm ih2
      refine lv_iload_n hx hb (dX5_standAs 2 rfl) rfl (lv_at hl 2 rfl) ?_
      refine lv_aload_n hx hb (dX5_standAs 3 rfl) rfl (lv_at hl 0 rfl) ?_
      refine va_get (D := D) (ci := 5) (v := .int f_size) (C := RX5) (T := TX5) (N := 14) hx hb hts inlX5 hown hK hP 0 rfl rfl 7 (by decide) (hts (.fieldLink RX5 49 "OverBacks$Line" "size" "I") (inR15 _ (List.mem_of_getElem? (i := 23) rfl))) (fun _ h9 => h9) rfl (dX5_standAs 4 rfl) ?_
      refine lv_icmp_ge (tgt := 31) hx hb (dX5_standAs 5 rfl) (by decide) (fun c2 => ?_) (fun c2 => ?_)
      · replace hm := hm.1 c2
        exact hZ r_places_2 H locs ls 31 hm hP hD hS (dX5_standAs 19 rfl)
      replace hm := hm.2 c2
      refine lv_iload_n hx hb (dX5_standAs 6 rfl) rfl (lv_at hl 2 rfl) ?_
      refine lv_aload_n hx hb (dX5_standAs 7 rfl) rfl (lv_at hl 1 rfl) ?_
      refine va_alen (v := nI n1) hx hb hK hP 2 0 rfl rfl rfl (dX5_standAs 8 rfl) ?_
      refine lv_icmp_ge (tgt := 31) hx hb (dX5_standAs 9 rfl) (by decide) (fun c3 => ?_) (fun c3 => ?_)
      · replace hm := hm.1 c3
        exact hZ r_places_2 H locs ls 31 hm hP hD hS (dX5_standAs 19 rfl)
      replace hm := hm.2 c3
      refine lv_aload_n hx hb (dX5_standAs 10 rfl) rfl (lv_at hl 0 rfl) ?_
      refine va_get (D := D) (ci := 5) (v := .ref q_places) (C := RX5) (T := TX5) (N := 14) hx hb hts inlX5 hown hK hP 0 rfl rfl 1 (by decide) (hts (.fieldLink RX5 17 "OverBacks$Line" "places" "[I") (inR2 _ (List.mem_of_getElem? (i := 21) rfl))) (fun _ h9 => h9) rfl (dX5_standAs 11 rfl) ?_
      refine lv_iload_n hx hb (dX5_standAs 12 rfl) rfl (lv_at hl 2 rfl) ?_
      refine lv_aload_n hx hb (dX5_standAs 13 rfl) rfl (lv_at hl 1 rfl) ?_
      refine lv_iload_n hx hb (dX5_standAs 14 rfl) rfl (lv_at hl 2 rfl) ?_
      refine va_iald hx hb hK hP 2 0 rfl rfl hm.1 (dX5_standAs 15 rfl) ?_
      replace hm := hm.2
      refine va_iast hx hb hK hP hD hS 1 0 rfl rfl hm.1 (dX5_standAs 16 rfl) (fun H locs hP hD hS => ?_)
      replace hm := hm.2
      obtain ⟨y4, ey4⟩ : ∃ q : Nat → Int32, q = upd r_places_2 v2_2.toNatClampNeg (r1 v2_2.toNatClampNeg) := ⟨_, rfl⟩
      replace hm := hm y4 ey4
      have hP : va_P D vwCl [(h, .inr (5, [.ref q_people, .ref q_places, .ref q_breath, .ref q_rows, .ref q_seen, .ref q_ends, va_rf f_field, .int f_size, .int f_turn, .int f_yards, .int f_time, .int f_gap, .int f_far, .int f_flat])), (q_places, .inl (cI, 7, .inl y4)), (h1, .inl (cI, n1, .inl r1))] H := by rw [ey4]; exact hP
      have hD : va_D A [(h, .inr (5, [.ref q_people, .ref q_places, .ref q_breath, .ref q_rows, .ref q_seen, .ref q_ends, va_rf f_field, .int f_size, .int f_turn, .int f_yards, .int f_time, .int f_gap, .int f_far, .int f_flat])), (q_places, .inl (cI, 7, .inl y4)), (h1, .inl (cI, n1, .inl r1))] := by rw [ey4]; exact hD
      obtain ⟨x5, ex5⟩ : ∃ y : Int32, y = v2_2 + 1 := ⟨_, rfl⟩
      replace hm := hm x5 ex5
      refine lv_iinc (v := x5) (lv' := [(2, .int x5), (0, .ref h), (1, .ref h1)]) hx hb (dX5_standAs 17 rfl) hl (k := 2) rfl (by rw [ex5]; rfl) (by decide) rfl (fun ls hl => ?_)
      refine lv_goto (tgt := 2) hx hb (dX5_standAs 18 rfl) (by decide) ?_
      exact ih2 y4 x5 H locs ls hP hD hS (lv_sub hl [1, 2, 0] rfl) hm
  obtain ⟨H, hH⟩ : ∃ H, H = s.heap := ⟨_, rfl⟩
  obtain ⟨locs, hlo⟩ : ∃ q : List Loc, q = [] := ⟨_, rfl⟩
  suffices hgo : W p l e rmX5_standAs s m args below meth c H locs 0 0 Z (F0 m 0 ls []) by rw [hH, hlo] at hgo; exact hgo
  have hP : va_P D vwCl [(h, .inr (5, [.ref q_people, .ref q_places, .ref q_breath, .ref q_rows, .ref q_seen, .ref q_ends, va_rf f_field, .int f_size, .int f_turn, .int f_yards, .int f_time, .int f_gap, .int f_far, .int f_flat])), (q_places, .inl (cI, 7, .inl r_places)), (h1, .inl (cI, n1, .inl r1))] H := by rw [hH]; exact hP
  have hD : va_D A [(h, .inr (5, [.ref q_people, .ref q_places, .ref q_breath, .ref q_rows, .ref q_seen, .ref q_ends, va_rf f_field, .int f_size, .int f_turn, .int f_yards, .int f_time, .int f_gap, .int f_far, .int f_flat])), (q_places, .inl (cI, 7, .inl r_places)), (h1, .inl (cI, n1, .inl r1))] := hD
  have hS : va_S A s.heap H locs := by rw [hH, hlo]; exact hS
  refine lv_iconst (v := (0 : Int32)) hx hb (dX5_standAs 0 rfl) (by decide) ?_
  refine lv_topi (fun x1 ex1 => ?_)
  replace hm := hm x1 ex1
  refine lv_istore_n (lv' := [(2, .int x1), (0, .ref h), (1, .ref h1)]) hx hb (dX5_standAs 1 rfl) rfl hl (by decide) rfl (fun ls hl => ?_)
  obtain ⟨n6, hm⟩ := hm
  exact lab2 n6 r_places x1 H locs ls hP hD hS (lv_sub hl [1, 2, 0] rfl) hm
abbrev rmX5_standsAt : Room := { frames := 0, cells := 0, slots := 0, locals := 0 }
set_option maxHeartbeats 4000000 in
set_option maxRecDepth 100000 in
theorem k_X5_standsAt (l : Launch) (D : va_G) (cI cZ cL : ClassId) (im : va_W) (sz : Nat) (h : Nat) (q_people : Nat) (q_places : Nat) (q_breath : Nat) (q_rows : Nat) (q_seen : Nat) (q_ends : Nat) (f_field : Option Nat) (f_size : Int32) (f_turn : Int32) (f_yards : Int32) (f_time : Int32) (f_gap : Int32) (f_far : Int32) (f_flat : Int32) (r_places : Nat → Int32) (a1 : Int32) (Q : Int32 → Prop) (hm : m_X5_standsAt f_size r_places a1 Q) : Met l yX5_standsAt (Cond.code yX5_standsAt cX5_standsAt 2 (some .int) :: wsL_law) rmX5_standsAt (obPre D (tyG cI cZ cL) im [(h, .inr (5, [.ref q_people, .ref q_places, .ref q_breath, .ref q_rows, .ref q_seen, .ref q_ends, va_rf f_field, .int f_size, .int f_turn, .int f_yards, .int f_time, .int f_gap, .int f_far, .int f_flat])), (q_places, .inl (cI, 7, .inl r_places))] sz [.ref h, .int a1]) (va_Qi (fun (r : Int32) (u : Unit) => Q r) (obB D (va_A [(h, .inr (5, [.ref q_people, .ref q_places, .ref q_breath, .ref q_rows, .ref q_seen, .ref q_ends, va_rf f_field, .int f_size, .int f_turn, .int f_yards, .int f_time, .int f_gap, .int f_far, .int f_flat])), (q_places, .inl (cI, 7, .inl r_places))] sz) (fun _ : Unit => [(h, .inr (5, [.ref q_people, .ref q_places, .ref q_breath, .ref q_rows, .ref q_seen, .ref q_ends, va_rf f_field, .int f_size, .int f_turn, .int f_yards, .int f_time, .int f_gap, .int f_far, .int f_flat])), (q_places, .inl (cI, 7, .inl r_places))])) (va_A [(h, .inr (5, [.ref q_people, .ref q_places, .ref q_breath, .ref q_rows, .ref q_seen, .ref q_ends, va_rf f_field, .int f_size, .int f_turn, .int f_yards, .int f_time, .int f_gap, .int f_far, .int f_flat])), (q_places, .inl (cI, 7, .inl r_places))] sz)) 0 0 (va_A [(h, .inr (5, [.ref q_people, .ref q_places, .ref q_breath, .ref q_rows, .ref q_seen, .ref q_ends, va_rf f_field, .int f_size, .int f_turn, .int f_yards, .int f_time, .int f_gap, .int f_far, .int f_flat])), (q_places, .inl (cI, 7, .inl r_places))] sz) := by
  refine ob_met_i (cc := cX5_standsAt) (maxL := 2) (by decide) (Nat.le_of_ble_eq_true rfl) (fun p e s m args below meth c A Z hx hb hml hown hts hnm hN hK hA hI hP hD hS hZ ls hl => ?_)
  have hl : lv_has ls 2 [(0, .ref h), (1, .int a1)] := hl
  unfold m_X5_standsAt at hm
  obtain ⟨H, hH⟩ : ∃ H, H = s.heap := ⟨_, rfl⟩
  obtain ⟨locs, hlo⟩ : ∃ q : List Loc, q = [] := ⟨_, rfl⟩
  suffices hgo : W p l e rmX5_standsAt s m args below meth c H locs 0 0 Z (F0 m 0 ls []) by rw [hH, hlo] at hgo; exact hgo
  have hP : va_P D vwCl [(h, .inr (5, [.ref q_people, .ref q_places, .ref q_breath, .ref q_rows, .ref q_seen, .ref q_ends, va_rf f_field, .int f_size, .int f_turn, .int f_yards, .int f_time, .int f_gap, .int f_far, .int f_flat])), (q_places, .inl (cI, 7, .inl r_places))] H := by rw [hH]; exact hP
  have hD : va_D A [(h, .inr (5, [.ref q_people, .ref q_places, .ref q_breath, .ref q_rows, .ref q_seen, .ref q_ends, va_rf f_field, .int f_size, .int f_turn, .int f_yards, .int f_time, .int f_gap, .int f_far, .int f_flat])), (q_places, .inl (cI, 7, .inl r_places))] := hD
  have hS : va_S A s.heap H locs := by rw [hH, hlo]; exact hS
  refine lv_iload_n hx hb (dX5_standsAt 0 rfl) rfl (lv_at hl 1 rfl) ?_
  refine lv_if_lt (tgt := 21) hx hb (dX5_standsAt 1 rfl) (by decide) (fun c1 => ?_) (fun c1 => ?_)
  · replace hm := hm.1 c1
    refine lv_iconst (v := (-1 : Int32)) hx hb (dX5_standsAt 11 rfl) (by decide) ?_
    exact hZ (-1 : Int32) () H locs ls 22 hm hP hD hS (dX5_standsAt 12 rfl) rfl
  replace hm := hm.2 c1
  refine lv_iload_n hx hb (dX5_standsAt 2 rfl) rfl (lv_at hl 1 rfl) ?_
  refine lv_aload_n hx hb (dX5_standsAt 3 rfl) rfl (lv_at hl 0 rfl) ?_
  refine va_get (D := D) (ci := 5) (v := .int f_size) (C := RX5) (T := TX5) (N := 14) hx hb hts inlX5 hown hK hP 0 rfl rfl 7 (by decide) (hts (.fieldLink RX5 49 "OverBacks$Line" "size" "I") (inR15 _ (List.mem_of_getElem? (i := 23) rfl))) (fun _ h9 => h9) rfl (dX5_standsAt 4 rfl) ?_
  refine lv_icmp_ge (tgt := 21) hx hb (dX5_standsAt 5 rfl) (by decide) (fun c2 => ?_) (fun c2 => ?_)
  · replace hm := hm.1 c2
    refine lv_iconst (v := (-1 : Int32)) hx hb (dX5_standsAt 11 rfl) (by decide) ?_
    exact hZ (-1 : Int32) () H locs ls 22 hm hP hD hS (dX5_standsAt 12 rfl) rfl
  replace hm := hm.2 c2
  refine lv_aload_n hx hb (dX5_standsAt 6 rfl) rfl (lv_at hl 0 rfl) ?_
  refine va_get (D := D) (ci := 5) (v := .ref q_places) (C := RX5) (T := TX5) (N := 14) hx hb hts inlX5 hown hK hP 0 rfl rfl 1 (by decide) (hts (.fieldLink RX5 17 "OverBacks$Line" "places" "[I") (inR2 _ (List.mem_of_getElem? (i := 21) rfl))) (fun _ h9 => h9) rfl (dX5_standsAt 7 rfl) ?_
  refine lv_iload_n hx hb (dX5_standsAt 8 rfl) rfl (lv_at hl 1 rfl) ?_
  refine va_iald hx hb hK hP 1 0 rfl rfl hm.1 (dX5_standsAt 9 rfl) ?_
  replace hm := hm.2
  refine lv_goto (tgt := 22) hx hb (dX5_standsAt 10 rfl) (by decide) ?_
  exact hZ (r_places a1.toNatClampNeg) () H locs ls 22 hm hP hD hS (dX5_standsAt 12 rfl) rfl
abbrev rmX5_last : Room := { frames := 0, cells := 0, slots := 0, locals := 0 }
set_option maxHeartbeats 4000000 in
set_option maxRecDepth 100000 in
theorem k_X5_last (l : Launch) (D : va_G) (cI cZ cL : ClassId) (im : va_W) (sz : Nat) (h : Nat) (q_people : Nat) (q_places : Nat) (q_breath : Nat) (q_rows : Nat) (q_seen : Nat) (q_ends : Nat) (f_field : Option Nat) (f_size : Int32) (f_turn : Int32) (f_yards : Int32) (f_time : Int32) (f_gap : Int32) (f_far : Int32) (f_flat : Int32) (r_places : Nat → Int32) (Q : Int32 → Prop) (hm : m_X5_last f_size r_places Q) : Met l yX5_last (Cond.code yX5_last cX5_last 1 (some .int) :: wsL_law) rmX5_last (obPre D (tyG cI cZ cL) im [(h, .inr (5, [.ref q_people, .ref q_places, .ref q_breath, .ref q_rows, .ref q_seen, .ref q_ends, va_rf f_field, .int f_size, .int f_turn, .int f_yards, .int f_time, .int f_gap, .int f_far, .int f_flat])), (q_places, .inl (cI, 7, .inl r_places))] sz [.ref h]) (va_Qi (fun (r : Int32) (u : Unit) => Q r) (obB D (va_A [(h, .inr (5, [.ref q_people, .ref q_places, .ref q_breath, .ref q_rows, .ref q_seen, .ref q_ends, va_rf f_field, .int f_size, .int f_turn, .int f_yards, .int f_time, .int f_gap, .int f_far, .int f_flat])), (q_places, .inl (cI, 7, .inl r_places))] sz) (fun _ : Unit => [(h, .inr (5, [.ref q_people, .ref q_places, .ref q_breath, .ref q_rows, .ref q_seen, .ref q_ends, va_rf f_field, .int f_size, .int f_turn, .int f_yards, .int f_time, .int f_gap, .int f_far, .int f_flat])), (q_places, .inl (cI, 7, .inl r_places))])) (va_A [(h, .inr (5, [.ref q_people, .ref q_places, .ref q_breath, .ref q_rows, .ref q_seen, .ref q_ends, va_rf f_field, .int f_size, .int f_turn, .int f_yards, .int f_time, .int f_gap, .int f_far, .int f_flat])), (q_places, .inl (cI, 7, .inl r_places))] sz)) 0 0 (va_A [(h, .inr (5, [.ref q_people, .ref q_places, .ref q_breath, .ref q_rows, .ref q_seen, .ref q_ends, va_rf f_field, .int f_size, .int f_turn, .int f_yards, .int f_time, .int f_gap, .int f_far, .int f_flat])), (q_places, .inl (cI, 7, .inl r_places))] sz) := by
  refine ob_met_i (cc := cX5_last) (maxL := 1) (by decide) (Nat.le_of_ble_eq_true rfl) (fun p e s m args below meth c A Z hx hb hml hown hts hnm hN hK hA hI hP hD hS hZ ls hl => ?_)
  have hl : lv_has ls 1 [(0, .ref h)] := hl
  unfold m_X5_last at hm
  obtain ⟨H, hH⟩ : ∃ H, H = s.heap := ⟨_, rfl⟩
  obtain ⟨locs, hlo⟩ : ∃ q : List Loc, q = [] := ⟨_, rfl⟩
  suffices hgo : W p l e rmX5_last s m args below meth c H locs 0 0 Z (F0 m 0 ls []) by rw [hH, hlo] at hgo; exact hgo
  have hP : va_P D vwCl [(h, .inr (5, [.ref q_people, .ref q_places, .ref q_breath, .ref q_rows, .ref q_seen, .ref q_ends, va_rf f_field, .int f_size, .int f_turn, .int f_yards, .int f_time, .int f_gap, .int f_far, .int f_flat])), (q_places, .inl (cI, 7, .inl r_places))] H := by rw [hH]; exact hP
  have hD : va_D A [(h, .inr (5, [.ref q_people, .ref q_places, .ref q_breath, .ref q_rows, .ref q_seen, .ref q_ends, va_rf f_field, .int f_size, .int f_turn, .int f_yards, .int f_time, .int f_gap, .int f_far, .int f_flat])), (q_places, .inl (cI, 7, .inl r_places))] := hD
  have hS : va_S A s.heap H locs := by rw [hH, hlo]; exact hS
  refine lv_aload_n hx hb (dX5_last 0 rfl) rfl (lv_at hl 0 rfl) ?_
  refine va_get (D := D) (ci := 5) (v := .int f_size) (C := RX5) (T := TX5) (N := 14) hx hb hts inlX5 hown hK hP 0 rfl rfl 7 (by decide) (hts (.fieldLink RX5 49 "OverBacks$Line" "size" "I") (inR15 _ (List.mem_of_getElem? (i := 23) rfl))) (fun _ h9 => h9) rfl (dX5_last 1 rfl) ?_
  refine lv_if_ne (tgt := 12) hx hb (dX5_last 2 rfl) (by decide) (fun c1 => ?_) (fun c1 => ?_)
  · replace hm := hm.2 c1
    refine lv_aload_n hx hb (dX5_last 5 rfl) rfl (lv_at hl 0 rfl) ?_
    refine va_get (D := D) (ci := 5) (v := .ref q_places) (C := RX5) (T := TX5) (N := 14) hx hb hts inlX5 hown hK hP 0 rfl rfl 1 (by decide) (hts (.fieldLink RX5 17 "OverBacks$Line" "places" "[I") (inR2 _ (List.mem_of_getElem? (i := 21) rfl))) (fun _ h9 => h9) rfl (dX5_last 6 rfl) ?_
    refine lv_aload_n hx hb (dX5_last 7 rfl) rfl (lv_at hl 0 rfl) ?_
    refine va_get (D := D) (ci := 5) (v := .int f_size) (C := RX5) (T := TX5) (N := 14) hx hb hts inlX5 hown hK hP 0 rfl rfl 7 (by decide) (hts (.fieldLink RX5 49 "OverBacks$Line" "size" "I") (inR15 _ (List.mem_of_getElem? (i := 23) rfl))) (fun _ h9 => h9) rfl (dX5_last 8 rfl) ?_
    refine lv_iconst (v := (1 : Int32)) hx hb (dX5_last 9 rfl) (by decide) ?_
    refine lv_isub hx hb (dX5_last 10 rfl) ?_
    refine va_iald hx hb hK hP 1 0 rfl rfl hm.1 (dX5_last 11 rfl) ?_
    replace hm := hm.2
    exact hZ (r_places (f_size - (1 : Int32)).toNatClampNeg) () H locs ls 23 hm hP hD hS (dX5_last 12 rfl) rfl
  replace hm := hm.1 c1
  refine lv_bipush (v := (-5 : Int32)) hx hb (dX5_last 3 rfl) (by decide) ?_
  refine lv_goto (tgt := 23) hx hb (dX5_last 4 rfl) (by decide) ?_
  exact hZ (-5 : Int32) () H locs ls 23 hm hP hD hS (dX5_last 12 rfl) rfl
abbrev rmX5_placeOf : Room := { frames := 0, cells := 0, slots := 0, locals := 0 }
set_option maxHeartbeats 4000000 in
set_option maxRecDepth 100000 in
theorem k_X5_placeOf (l : Launch) (D : va_G) (cI cZ cL : ClassId) (im : va_W) (sz : Nat) (h : Nat) (q_people : Nat) (q_places : Nat) (q_breath : Nat) (q_rows : Nat) (q_seen : Nat) (q_ends : Nat) (f_field : Option Nat) (f_size : Int32) (f_turn : Int32) (f_yards : Int32) (f_time : Int32) (f_gap : Int32) (f_far : Int32) (f_flat : Int32) (r_places : Nat → Int32) (a1 : Int32) (Q : Int32 → Prop) (hm : m_X5_placeOf f_size r_places a1 Q) : Met l yX5_placeOf (Cond.code yX5_placeOf cX5_placeOf 3 (some .int) :: wsL_law) rmX5_placeOf (obPre D (tyG cI cZ cL) im [(h, .inr (5, [.ref q_people, .ref q_places, .ref q_breath, .ref q_rows, .ref q_seen, .ref q_ends, va_rf f_field, .int f_size, .int f_turn, .int f_yards, .int f_time, .int f_gap, .int f_far, .int f_flat])), (q_places, .inl (cI, 7, .inl r_places))] sz [.ref h, .int a1]) (va_Qi (fun (r : Int32) (u : Unit) => Q r) (obB D (va_A [(h, .inr (5, [.ref q_people, .ref q_places, .ref q_breath, .ref q_rows, .ref q_seen, .ref q_ends, va_rf f_field, .int f_size, .int f_turn, .int f_yards, .int f_time, .int f_gap, .int f_far, .int f_flat])), (q_places, .inl (cI, 7, .inl r_places))] sz) (fun _ : Unit => [(h, .inr (5, [.ref q_people, .ref q_places, .ref q_breath, .ref q_rows, .ref q_seen, .ref q_ends, va_rf f_field, .int f_size, .int f_turn, .int f_yards, .int f_time, .int f_gap, .int f_far, .int f_flat])), (q_places, .inl (cI, 7, .inl r_places))])) (va_A [(h, .inr (5, [.ref q_people, .ref q_places, .ref q_breath, .ref q_rows, .ref q_seen, .ref q_ends, va_rf f_field, .int f_size, .int f_turn, .int f_yards, .int f_time, .int f_gap, .int f_far, .int f_flat])), (q_places, .inl (cI, 7, .inl r_places))] sz)) 0 0 (va_A [(h, .inr (5, [.ref q_people, .ref q_places, .ref q_breath, .ref q_rows, .ref q_seen, .ref q_ends, va_rf f_field, .int f_size, .int f_turn, .int f_yards, .int f_time, .int f_gap, .int f_far, .int f_flat])), (q_places, .inl (cI, 7, .inl r_places))] sz) := by
  refine ob_met_i (cc := cX5_placeOf) (maxL := 3) (by decide) (Nat.le_of_ble_eq_true rfl) (fun p e s m args below meth c A Z hx hb hml hown hts hnm hN hK hA hI hP hD hS hZ ls hl => ?_)
  have hl : lv_has ls 3 [(0, .ref h), (1, .int a1)] := hl
  unfold m_X5_placeOf at hm
  have lab2 : ∀ (n2 : Nat) (v2_2 : Int32) , ∀ (H : Heap) (locs : List Loc) (ls : Array Slot), va_P D vwCl [(h, .inr (5, [.ref q_people, .ref q_places, .ref q_breath, .ref q_rows, .ref q_seen, .ref q_ends, va_rf f_field, .int f_size, .int f_turn, .int f_yards, .int f_time, .int f_gap, .int f_far, .int f_flat])), (q_places, .inl (cI, 7, .inl r_places))] H → va_D A [(h, .inr (5, [.ref q_people, .ref q_places, .ref q_breath, .ref q_rows, .ref q_seen, .ref q_ends, va_rf f_field, .int f_size, .int f_turn, .int f_yards, .int f_time, .int f_gap, .int f_far, .int f_flat])), (q_places, .inl (cI, 7, .inl r_places))] → va_S A s.heap H locs → lv_has ls 3 [(0, .ref h), (1, .int a1), (2, .int v2_2)] → m_X5_placeOf_L2 f_size r_places a1 Q n2 v2_2 → W p l e rmX5_placeOf s m args below meth c H locs 0 0 Z (F0 m 2 ls []) := by
    intro n2
    induction n2 with
    | zero =>
      intro v2_2 H locs ls hP hD hS hl hm
      exact hm.elim
    | succ n2 ih2 =>
      intro v2_2 H locs ls hP hD hS hl hm
      unfold m_X5_placeOf_L2 at hm
      obtain ⟨K2, hK2⟩ : ∃ K : Int32 → Prop, K = m_X5_placeOf_L2 f_size r_places a1 Q n2 := ⟨_, rfl⟩
      rw [← hK2] at hm ih2
      refine lv_iload_n hx hb (dX5_placeOf 2 rfl) rfl (lv_at hl 2 rfl) ?_
      refine lv_aload_n hx hb (dX5_placeOf 3 rfl) rfl (lv_at hl 0 rfl) ?_
      refine va_get (D := D) (ci := 5) (v := .int f_size) (C := RX5) (T := TX5) (N := 14) hx hb hts inlX5 hown hK hP 0 rfl rfl 7 (by decide) (hts (.fieldLink RX5 49 "OverBacks$Line" "size" "I") (inR15 _ (List.mem_of_getElem? (i := 23) rfl))) (fun _ h9 => h9) rfl (dX5_placeOf 4 rfl) ?_
      refine lv_icmp_ge (tgt := 28) hx hb (dX5_placeOf 5 rfl) (by decide) (fun c2 => ?_) (fun c2 => ?_)
      · replace hm := hm.1 c2
        refine lv_iconst (v := (-1 : Int32)) hx hb (dX5_placeOf 16 rfl) (by decide) ?_
        exact hZ (-1 : Int32) () H locs ls 29 hm hP hD hS (dX5_placeOf 17 rfl) rfl
      replace hm := hm.2 c2
      refine lv_aload_n hx hb (dX5_placeOf 6 rfl) rfl (lv_at hl 0 rfl) ?_
      refine va_get (D := D) (ci := 5) (v := .ref q_places) (C := RX5) (T := TX5) (N := 14) hx hb hts inlX5 hown hK hP 0 rfl rfl 1 (by decide) (hts (.fieldLink RX5 17 "OverBacks$Line" "places" "[I") (inR2 _ (List.mem_of_getElem? (i := 21) rfl))) (fun _ h9 => h9) rfl (dX5_placeOf 7 rfl) ?_
      refine lv_iload_n hx hb (dX5_placeOf 8 rfl) rfl (lv_at hl 2 rfl) ?_
      refine va_iald hx hb hK hP 1 0 rfl rfl hm.1 (dX5_placeOf 9 rfl) ?_
      replace hm := hm.2
      refine lv_iload_n hx hb (dX5_placeOf 10 rfl) rfl (lv_at hl 1 rfl) ?_
      refine lv_icmp_ne (tgt := 22) hx hb (dX5_placeOf 11 rfl) (by decide) (fun c3 => ?_) (fun c3 => ?_)
      · replace hm := hm.2 c3
        obtain ⟨x4, ex4⟩ : ∃ y : Int32, y = v2_2 + 1 := ⟨_, rfl⟩
        replace hm := hm x4 ex4
        refine lv_iinc (v := x4) (lv' := [(2, .int x4), (0, .ref h), (1, .int a1)]) hx hb (dX5_placeOf 14 rfl) hl (k := 2) rfl (by rw [ex4]; rfl) (by decide) rfl (fun ls hl => ?_)
        refine lv_goto (tgt := 2) hx hb (dX5_placeOf 15 rfl) (by decide) ?_
        exact ih2 x4 H locs ls hP hD hS (lv_sub hl [1, 2, 0] rfl) hm
      replace hm := hm.1 c3
      refine lv_iload_n hx hb (dX5_placeOf 12 rfl) rfl (lv_at hl 2 rfl) ?_
      exact hZ v2_2 () H locs ls 21 hm hP hD hS (dX5_placeOf 13 rfl) rfl
  obtain ⟨H, hH⟩ : ∃ H, H = s.heap := ⟨_, rfl⟩
  obtain ⟨locs, hlo⟩ : ∃ q : List Loc, q = [] := ⟨_, rfl⟩
  suffices hgo : W p l e rmX5_placeOf s m args below meth c H locs 0 0 Z (F0 m 0 ls []) by rw [hH, hlo] at hgo; exact hgo
  have hP : va_P D vwCl [(h, .inr (5, [.ref q_people, .ref q_places, .ref q_breath, .ref q_rows, .ref q_seen, .ref q_ends, va_rf f_field, .int f_size, .int f_turn, .int f_yards, .int f_time, .int f_gap, .int f_far, .int f_flat])), (q_places, .inl (cI, 7, .inl r_places))] H := by rw [hH]; exact hP
  have hD : va_D A [(h, .inr (5, [.ref q_people, .ref q_places, .ref q_breath, .ref q_rows, .ref q_seen, .ref q_ends, va_rf f_field, .int f_size, .int f_turn, .int f_yards, .int f_time, .int f_gap, .int f_far, .int f_flat])), (q_places, .inl (cI, 7, .inl r_places))] := hD
  have hS : va_S A s.heap H locs := by rw [hH, hlo]; exact hS
  refine lv_iconst (v := (0 : Int32)) hx hb (dX5_placeOf 0 rfl) (by decide) ?_
  refine lv_topi (fun x1 ex1 => ?_)
  replace hm := hm x1 ex1
  refine lv_istore_n (lv' := [(2, .int x1), (0, .ref h), (1, .int a1)]) hx hb (dX5_placeOf 1 rfl) rfl hl (by decide) rfl (fun ls hl => ?_)
  obtain ⟨n5, hm⟩ := hm
  exact lab2 n5 x1 H locs ls hP hD hS (lv_sub hl [1, 2, 0] rfl) hm
abbrev rmX5_tire : Room := { frames := 1, cells := 0, slots := 0, locals := 21 }
set_option maxHeartbeats 4000000 in
set_option maxRecDepth 100000 in
theorem k_X5_tire (l : Launch) (D : va_G) (cI cZ cL : ClassId) (im : va_W) (sz : Nat) (h : Nat) (q_people : Nat) (q_places : Nat) (q_breath : Nat) (q_rows : Nat) (q_seen : Nat) (q_ends : Nat) (f_field : Option Nat) (f_size : Int32) (f_turn : Int32) (f_yards : Int32) (f_time : Int32) (f_gap : Int32) (f_far : Int32) (f_flat : Int32) (r_people : Nat → Option Nat) (r_breath : Nat → Int32) (a1 : Int32) (Q : (Nat → Int32) → Prop) (hm : m_X5_tire r_people r_breath a1 Q) : Met l yX5_tire (Cond.code yX5_tire cX5_tire 2 none :: wsL_law) rmX5_tire (obPre D (tyG cI cZ cL) im [(h, .inr (5, [.ref q_people, .ref q_places, .ref q_breath, .ref q_rows, .ref q_seen, .ref q_ends, va_rf f_field, .int f_size, .int f_turn, .int f_yards, .int f_time, .int f_gap, .int f_far, .int f_flat])), (q_people, .inl (cL, 7, .inr (.inr (.inr (.inr r_people))))), (q_breath, .inl (cI, 7, .inl r_breath))] sz [.ref h, .int a1]) (va_Qv (fun (u : (Nat → Int32)) => Q u) (obB D (va_A [(h, .inr (5, [.ref q_people, .ref q_places, .ref q_breath, .ref q_rows, .ref q_seen, .ref q_ends, va_rf f_field, .int f_size, .int f_turn, .int f_yards, .int f_time, .int f_gap, .int f_far, .int f_flat])), (q_people, .inl (cL, 7, .inr (.inr (.inr (.inr r_people))))), (q_breath, .inl (cI, 7, .inl r_breath))] sz) (fun u : (Nat → Int32) => [(h, .inr (5, [.ref q_people, .ref q_places, .ref q_breath, .ref q_rows, .ref q_seen, .ref q_ends, va_rf f_field, .int f_size, .int f_turn, .int f_yards, .int f_time, .int f_gap, .int f_far, .int f_flat])), (q_people, .inl (cL, 7, .inr (.inr (.inr (.inr r_people))))), (q_breath, .inl (cI, 7, .inl u))])) (va_A [(h, .inr (5, [.ref q_people, .ref q_places, .ref q_breath, .ref q_rows, .ref q_seen, .ref q_ends, va_rf f_field, .int f_size, .int f_turn, .int f_yards, .int f_time, .int f_gap, .int f_far, .int f_flat])), (q_people, .inl (cL, 7, .inr (.inr (.inr (.inr r_people))))), (q_breath, .inl (cI, 7, .inl r_breath))] sz)) 0 0 (va_A [(h, .inr (5, [.ref q_people, .ref q_places, .ref q_breath, .ref q_rows, .ref q_seen, .ref q_ends, va_rf f_field, .int f_size, .int f_turn, .int f_yards, .int f_time, .int f_gap, .int f_far, .int f_flat])), (q_people, .inl (cL, 7, .inr (.inr (.inr (.inr r_people))))), (q_breath, .inl (cI, 7, .inl r_breath))] sz) := by
  refine ob_met_v (cc := cX5_tire) (maxL := 2) (by decide) (Nat.le_of_ble_eq_true rfl) (fun p e s m args below meth c A Z hx hb hml hown hts hnm hN hK hA hI hP hD hS hZ ls hl => ?_)
  have hl : lv_has ls 2 [(0, .ref h), (1, .int a1)] := hl
  unfold m_X5_tire at hm
  obtain ⟨H, hH⟩ : ∃ H, H = s.heap := ⟨_, rfl⟩
  obtain ⟨locs, hlo⟩ : ∃ q : List Loc, q = [] := ⟨_, rfl⟩
  suffices hgo : W p l e rmX5_tire s m args below meth c H locs 0 0 Z (F0 m 0 ls []) by rw [hH, hlo] at hgo; exact hgo
  have hP : va_P D vwCl [(h, .inr (5, [.ref q_people, .ref q_places, .ref q_breath, .ref q_rows, .ref q_seen, .ref q_ends, va_rf f_field, .int f_size, .int f_turn, .int f_yards, .int f_time, .int f_gap, .int f_far, .int f_flat])), (q_people, .inl (cL, 7, .inr (.inr (.inr (.inr r_people))))), (q_breath, .inl (cI, 7, .inl r_breath))] H := by rw [hH]; exact hP
  have hD : va_D A [(h, .inr (5, [.ref q_people, .ref q_places, .ref q_breath, .ref q_rows, .ref q_seen, .ref q_ends, va_rf f_field, .int f_size, .int f_turn, .int f_yards, .int f_time, .int f_gap, .int f_far, .int f_flat])), (q_people, .inl (cL, 7, .inr (.inr (.inr (.inr r_people))))), (q_breath, .inl (cI, 7, .inl r_breath))] := hD
  have hS : va_S A s.heap H locs := by rw [hH, hlo]; exact hS
  refine lv_aload_n hx hb (dX5_tire 0 rfl) rfl (lv_at hl 0 rfl) ?_
  refine lv_iload_n hx hb (dX5_tire 1 rfl) rfl (lv_at hl 1 rfl) ?_
  have hcut := ob_cut (wc := [(h, .inr (5, [.ref q_people, .ref q_places, .ref q_breath, .ref q_rows, .ref q_seen, .ref q_ends, va_rf f_field, .int f_size, .int f_turn, .int f_yards, .int f_time, .int f_gap, .int f_far, .int f_flat])), (q_people, .inl (cL, 7, .inr (.inr (.inr (.inr r_people)))))]) hP hD hS hA [0, 1] rfl (by decide)
  refine ob_q (wr := [(q_breath, .inl (cI, 7, .inl r_breath))]) (ob_V (As := [.int a1]) (rest := []) ⟨hx, hb, hml, hown, hts⟩ hK hcut (hI.cut hS hcut.2.2) hN (va_recv hK hP (ci := 5) (q0 := 0) rfl rfl) (k_X5_find l D cI cZ cL im _ _ _ _ _ _ _ _ _ _ _ _ _ _ _ _ _ _ _ hm) (cwV 1 hts (gU_V (inR17 _ (List.mem_of_getElem? (i := 20) rfl)) (inR16 _ (List.mem_of_getElem? (i := 11) rfl)) (inR16 _ (List.mem_of_getElem? (i := 12) rfl)) (inR1 _ (List.mem_of_getElem? (i := 19) rfl)) (inR16 _ (List.mem_of_getElem? (i := 13) rfl))) rfl rfl rfl (by decide +kernel) ⟨Nat.le_of_ble_eq_true rfl, Nat.le_of_ble_eq_true rfl⟩) rfl hl.1 rfl (Nat.le_of_ble_eq_true rfl) (dX5_tire 2 rfl) ⟨Nat.zero_le _, Nat.zero_le _⟩) hP hD hS hcut [0, 1] [2] rfl rfl (by decide) (by decide) (fun r1 u2 H locs hm hP hD hS => ?_)
  have hP := hP.sub (ws' := [(h, .inr (5, [.ref q_people, .ref q_places, .ref q_breath, .ref q_rows, .ref q_seen, .ref q_ends, va_rf f_field, .int f_size, .int f_turn, .int f_yards, .int f_time, .int f_gap, .int f_far, .int f_flat])), (q_people, .inl (cL, 7, .inr (.inr (.inr (.inr r_people))))), (q_breath, .inl (cI, 7, .inl r_breath))]) [1, 2, 0] rfl
  have hD := hD.sub (ws' := [(h, .inr (5, [.ref q_people, .ref q_places, .ref q_breath, .ref q_rows, .ref q_seen, .ref q_ends, va_rf f_field, .int f_size, .int f_turn, .int f_yards, .int f_time, .int f_gap, .int f_far, .int f_flat])), (q_people, .inl (cL, 7, .inr (.inr (.inr (.inr r_people))))), (q_breath, .inl (cI, 7, .inl r_breath))]) [1, 2, 0] (by decide) rfl
  refine ob_ifnull (tgt := 27) hx hb (dX5_tire 3 rfl) (by decide) (fun h4 => ?_) (fun a3 h4 => ?_)
  · replace hm := hm.1 h4; subst h4
    exact hZ r_breath H locs ls 27 hm hP hD hS (dX5_tire 17 rfl)
  replace hm := hm.2 a3 h4; subst h4
  refine lv_aload_n hx hb (dX5_tire 4 rfl) rfl (lv_at hl 0 rfl) ?_
  refine va_get (D := D) (ci := 5) (v := .ref q_breath) (C := RX5) (T := TX5) (N := 14) hx hb hts inlX5 hown hK hP 0 rfl rfl 2 (by decide) (hts (.fieldLink RX5 21 "OverBacks$Line" "breath" "[I") (inR2 _ (List.mem_of_getElem? (i := 22) rfl))) (fun _ h9 => h9) rfl (dX5_tire 5 rfl) ?_
  refine lv_iload_n hx hb (dX5_tire 6 rfl) rfl (lv_at hl 1 rfl) ?_
  refine va_iald hx hb hK hP 2 0 rfl rfl hm.1 (dX5_tire 7 rfl) ?_
  replace hm := hm.2
  refine lv_if_le (tgt := 27) hx hb (dX5_tire 8 rfl) (by decide) (fun c5 => ?_) (fun c5 => ?_)
  · replace hm := hm.1 c5
    exact hZ r_breath H locs ls 27 hm hP hD hS (dX5_tire 17 rfl)
  replace hm := hm.2 c5
  refine lv_aload_n hx hb (dX5_tire 9 rfl) rfl (lv_at hl 0 rfl) ?_
  refine va_get (D := D) (ci := 5) (v := .ref q_breath) (C := RX5) (T := TX5) (N := 14) hx hb hts inlX5 hown hK hP 0 rfl rfl 2 (by decide) (hts (.fieldLink RX5 21 "OverBacks$Line" "breath" "[I") (inR2 _ (List.mem_of_getElem? (i := 22) rfl))) (fun _ h9 => h9) rfl (dX5_tire 10 rfl) ?_
  refine lv_iload_n hx hb (dX5_tire 11 rfl) rfl (lv_at hl 1 rfl) ?_
  refine lv_dup2_11 hx hb (dX5_tire 12 rfl) rfl rfl ?_
  refine va_iald hx hb hK hP 2 0 rfl rfl hm.1 (dX5_tire 13 rfl) ?_
  replace hm := hm.2
  refine lv_iconst (v := (1 : Int32)) hx hb (dX5_tire 14 rfl) (by decide) ?_
  refine lv_isub hx hb (dX5_tire 15 rfl) ?_
  refine va_iast hx hb hK hP hD hS 2 0 rfl rfl hm.1 (dX5_tire 16 rfl) (fun H locs hP hD hS => ?_)
  replace hm := hm.2
  obtain ⟨y6, ey6⟩ : ∃ q : Nat → Int32, q = upd r_breath a1.toNatClampNeg ((r_breath a1.toNatClampNeg) - (1 : Int32)) := ⟨_, rfl⟩
  replace hm := hm y6 ey6
  have hP : va_P D vwCl [(h, .inr (5, [.ref q_people, .ref q_places, .ref q_breath, .ref q_rows, .ref q_seen, .ref q_ends, va_rf f_field, .int f_size, .int f_turn, .int f_yards, .int f_time, .int f_gap, .int f_far, .int f_flat])), (q_people, .inl (cL, 7, .inr (.inr (.inr (.inr r_people))))), (q_breath, .inl (cI, 7, .inl y6))] H := by rw [ey6]; exact hP
  have hD : va_D A [(h, .inr (5, [.ref q_people, .ref q_places, .ref q_breath, .ref q_rows, .ref q_seen, .ref q_ends, va_rf f_field, .int f_size, .int f_turn, .int f_yards, .int f_time, .int f_gap, .int f_far, .int f_flat])), (q_people, .inl (cL, 7, .inr (.inr (.inr (.inr r_people))))), (q_breath, .inl (cI, 7, .inl y6))] := by rw [ey6]; exact hD
  exact hZ y6 H locs ls 27 hm hP hD hS (dX5_tire 17 rfl)
abbrev rmX5_turnsAcross : Room := { frames := 0, cells := 0, slots := 0, locals := 0 }
set_option maxHeartbeats 4000000 in
set_option maxRecDepth 100000 in
theorem k_X5_turnsAcross (l : Launch) (D : va_G) (cI cZ cL : ClassId) (im : va_W) (sz : Nat) (h : Nat) (q_people : Nat) (q_places : Nat) (q_breath : Nat) (q_rows : Nat) (q_seen : Nat) (q_ends : Nat) (f_field : Option Nat) (f_size : Int32) (f_turn : Int32) (f_yards : Int32) (f_time : Int32) (f_gap : Int32) (f_far : Int32) (f_flat : Int32) (Q : Int32 → Prop) (hm : m_X5_turnsAcross f_size f_yards f_gap f_far Q) : Met l yX5_turnsAcross (Cond.code yX5_turnsAcross cX5_turnsAcross 3 (some .int) :: wsL_law) rmX5_turnsAcross (obPre D (tyG cI cZ cL) im [(h, .inr (5, [.ref q_people, .ref q_places, .ref q_breath, .ref q_rows, .ref q_seen, .ref q_ends, va_rf f_field, .int f_size, .int f_turn, .int f_yards, .int f_time, .int f_gap, .int f_far, .int f_flat]))] sz [.ref h]) (va_Qi (fun (r : Int32) (u : Unit) => Q r) (obB D (va_A [(h, .inr (5, [.ref q_people, .ref q_places, .ref q_breath, .ref q_rows, .ref q_seen, .ref q_ends, va_rf f_field, .int f_size, .int f_turn, .int f_yards, .int f_time, .int f_gap, .int f_far, .int f_flat]))] sz) (fun _ : Unit => [(h, .inr (5, [.ref q_people, .ref q_places, .ref q_breath, .ref q_rows, .ref q_seen, .ref q_ends, va_rf f_field, .int f_size, .int f_turn, .int f_yards, .int f_time, .int f_gap, .int f_far, .int f_flat]))])) (va_A [(h, .inr (5, [.ref q_people, .ref q_places, .ref q_breath, .ref q_rows, .ref q_seen, .ref q_ends, va_rf f_field, .int f_size, .int f_turn, .int f_yards, .int f_time, .int f_gap, .int f_far, .int f_flat]))] sz)) 0 0 (va_A [(h, .inr (5, [.ref q_people, .ref q_places, .ref q_breath, .ref q_rows, .ref q_seen, .ref q_ends, va_rf f_field, .int f_size, .int f_turn, .int f_yards, .int f_time, .int f_gap, .int f_far, .int f_flat]))] sz) := by
  refine ob_met_i (cc := cX5_turnsAcross) (maxL := 3) (by decide) (Nat.le_of_ble_eq_true rfl) (fun p e s m args below meth c A Z hx hb hml hown hts hnm hN hK hA hI hP hD hS hZ ls hl => ?_)
  have hl : lv_has ls 3 [(0, .ref h)] := hl
  unfold m_X5_turnsAcross at hm
  obtain ⟨H, hH⟩ : ∃ H, H = s.heap := ⟨_, rfl⟩
  obtain ⟨locs, hlo⟩ : ∃ q : List Loc, q = [] := ⟨_, rfl⟩
  suffices hgo : W p l e rmX5_turnsAcross s m args below meth c H locs 0 0 Z (F0 m 0 ls []) by rw [hH, hlo] at hgo; exact hgo
  have hP : va_P D vwCl [(h, .inr (5, [.ref q_people, .ref q_places, .ref q_breath, .ref q_rows, .ref q_seen, .ref q_ends, va_rf f_field, .int f_size, .int f_turn, .int f_yards, .int f_time, .int f_gap, .int f_far, .int f_flat]))] H := by rw [hH]; exact hP
  have hD : va_D A [(h, .inr (5, [.ref q_people, .ref q_places, .ref q_breath, .ref q_rows, .ref q_seen, .ref q_ends, va_rf f_field, .int f_size, .int f_turn, .int f_yards, .int f_time, .int f_gap, .int f_far, .int f_flat]))] := hD
  have hS : va_S A s.heap H locs := by rw [hH, hlo]; exact hS
  refine lv_aload_n hx hb (dX5_turnsAcross 0 rfl) rfl (lv_at hl 0 rfl) ?_
  refine va_get (D := D) (ci := 5) (v := .int f_far) (C := RX5) (T := TX5) (N := 14) hx hb hts inlX5 hown hK hP 0 rfl rfl 12 (by decide) (hts (.fieldLink RX5 39 "OverBacks$Line" "far" "I") (inR3 _ (List.mem_of_getElem? (i := 3) rfl))) (fun _ h9 => h9) rfl (dX5_turnsAcross 1 rfl) ?_
  refine lv_aload_n hx hb (dX5_turnsAcross 2 rfl) rfl (lv_at hl 0 rfl) ?_
  refine va_get (D := D) (ci := 5) (v := .int f_yards) (C := RX5) (T := TX5) (N := 14) hx hb hts inlX5 hown hK hP 0 rfl rfl 9 (by decide) (hts (.fieldLink RX5 55 "OverBacks$Line" "yards" "I") (inR25 _ (List.mem_of_getElem? (i := 6) rfl))) (fun _ h9 => h9) rfl (dX5_turnsAcross 3 rfl) ?_
  refine lv_isub hx hb (dX5_turnsAcross 4 rfl) ?_
  refine lv_topi (fun x1 ex1 => ?_)
  replace hm := hm x1 ex1
  refine lv_istore_n (lv' := [(1, .int x1), (0, .ref h)]) hx hb (dX5_turnsAcross 5 rfl) rfl hl (by decide) rfl (fun ls hl => ?_)
  refine lv_iload_n hx hb (dX5_turnsAcross 6 rfl) rfl (lv_at hl 0 rfl) ?_
  refine lv_if_gt (tgt := 16) hx hb (dX5_turnsAcross 7 rfl) (by decide) (fun c2 => ?_) (fun c2 => ?_)
  · replace hm := hm.1 c2
    refine lv_aload_n hx hb (dX5_turnsAcross 10 rfl) rfl (lv_at hl 1 rfl) ?_
    refine va_get (D := D) (ci := 5) (v := .int f_size) (C := RX5) (T := TX5) (N := 14) hx hb hts inlX5 hown hK hP 0 rfl rfl 7 (by decide) (hts (.fieldLink RX5 49 "OverBacks$Line" "size" "I") (inR15 _ (List.mem_of_getElem? (i := 23) rfl))) (fun _ h9 => h9) rfl (dX5_turnsAcross 11 rfl) ?_
    refine lv_if_eq (tgt := 30) hx hb (dX5_turnsAcross 12 rfl) (by decide) (fun c3 => ?_) (fun c3 => ?_)
    · replace hm := hm.1 c3
      refine lv_bipush (v := (-5 : Int32)) hx hb (dX5_turnsAcross 16 rfl) (by decide) ?_
      exact hZ (-5 : Int32) () H locs ls 32 hm hP hD hS (dX5_turnsAcross 17 rfl) rfl
    replace hm := hm.2 c3
    refine lv_aload_n hx hb (dX5_turnsAcross 13 rfl) rfl (lv_at hl 1 rfl) ?_
    refine va_get (D := D) (ci := 5) (v := .int f_gap) (C := RX5) (T := TX5) (N := 14) hx hb hts inlX5 hown hK hP 0 rfl rfl 11 (by decide) (hts (.fieldLink RX5 35 "OverBacks$Line" "gap" "I") (inR3 _ (List.mem_of_getElem? (i := 2) rfl))) (fun _ h9 => h9) rfl (dX5_turnsAcross 14 rfl) ?_
    refine lv_if_gt (tgt := 33) hx hb (dX5_turnsAcross 15 rfl) (by decide) (fun c4 => ?_) (fun c4 => ?_)
    · replace hm := hm.1 c4
      refine lv_iload_n hx hb (dX5_turnsAcross 18 rfl) rfl (lv_at hl 0 rfl) ?_
      refine lv_aload_n hx hb (dX5_turnsAcross 19 rfl) rfl (lv_at hl 1 rfl) ?_
      refine va_get (D := D) (ci := 5) (v := .int f_gap) (C := RX5) (T := TX5) (N := 14) hx hb hts inlX5 hown hK hP 0 rfl rfl 11 (by decide) (hts (.fieldLink RX5 35 "OverBacks$Line" "gap" "I") (inR3 _ (List.mem_of_getElem? (i := 2) rfl))) (fun _ h9 => h9) rfl (dX5_turnsAcross 20 rfl) ?_
      refine lv_iadd hx hb (dX5_turnsAcross 21 rfl) ?_
      refine lv_iconst (v := (1 : Int32)) hx hb (dX5_turnsAcross 22 rfl) (by decide) ?_
      refine lv_isub hx hb (dX5_turnsAcross 23 rfl) ?_
      refine lv_aload_n hx hb (dX5_turnsAcross 24 rfl) rfl (lv_at hl 1 rfl) ?_
      refine va_get (D := D) (ci := 5) (v := .int f_gap) (C := RX5) (T := TX5) (N := 14) hx hb hts inlX5 hown hK hP 0 rfl rfl 11 (by decide) (hts (.fieldLink RX5 35 "OverBacks$Line" "gap" "I") (inR3 _ (List.mem_of_getElem? (i := 2) rfl))) (fun _ h9 => h9) rfl (dX5_turnsAcross 25 rfl) ?_
      refine lv_idiv hx hb (dX5_turnsAcross 26 rfl) hm.1 ?_
      replace hm := hm.2
      refine lv_topi (fun x5 ex5 => ?_)
      replace hm := hm x5 ex5
      refine lv_istore_n (lv' := [(2, .int x5), (1, .int x1), (0, .ref h)]) hx hb (dX5_turnsAcross 27 rfl) rfl hl (by decide) rfl (fun ls hl => ?_)
      refine lv_iload_n hx hb (dX5_turnsAcross 28 rfl) rfl (lv_at hl 0 rfl) ?_
      refine lv_sipush (v := (200 : Int32)) hx hb (dX5_turnsAcross 29 rfl) (by decide) ?_
      refine lv_icmp_gt (tgt := 58) hx hb (dX5_turnsAcross 30 rfl) (by decide) (fun c6 => ?_) (fun c6 => ?_)
      · replace hm := hm.1 c6
        refine lv_bipush (v := (-5 : Int32)) hx hb (dX5_turnsAcross 33 rfl) (by decide) ?_
        exact hZ (-5 : Int32) () H locs ls 60 hm hP hD hS (dX5_turnsAcross 34 rfl) rfl
      replace hm := hm.2 c6
      refine lv_iload_n hx hb (dX5_turnsAcross 31 rfl) rfl (lv_at hl 0 rfl) ?_
      refine lv_goto (tgt := 60) hx hb (dX5_turnsAcross 32 rfl) (by decide) ?_
      exact hZ x5 () H locs ls 60 hm hP hD hS (dX5_turnsAcross 34 rfl) rfl
    replace hm := hm.2 c4
    refine lv_bipush (v := (-5 : Int32)) hx hb (dX5_turnsAcross 16 rfl) (by decide) ?_
    exact hZ (-5 : Int32) () H locs ls 32 hm hP hD hS (dX5_turnsAcross 17 rfl) rfl
  replace hm := hm.2 c2
  refine lv_iconst (v := (0 : Int32)) hx hb (dX5_turnsAcross 8 rfl) (by decide) ?_
  exact hZ (0 : Int32) () H locs ls 15 hm hP hD hS (dX5_turnsAcross 9 rfl) rfl
abbrev rmX5_outOfBreath : Room := { frames := 0, cells := 0, slots := 0, locals := 0 }
set_option maxHeartbeats 4000000 in
set_option maxRecDepth 100000 in
theorem k_X5_outOfBreath (l : Launch) (D : va_G) (cI cZ cL : ClassId) (im : va_W) (sz : Nat) (h : Nat) (q_people : Nat) (q_places : Nat) (q_breath : Nat) (q_rows : Nat) (q_seen : Nat) (q_ends : Nat) (f_field : Option Nat) (f_size : Int32) (f_turn : Int32) (f_yards : Int32) (f_time : Int32) (f_gap : Int32) (f_far : Int32) (f_flat : Int32) (r_breath : Nat → Int32) (Q : Int32 → Prop) (hm : m_X5_outOfBreath f_size r_breath Q) : Met l yX5_outOfBreath (Cond.code yX5_outOfBreath cX5_outOfBreath 2 (some .int) :: wsL_law) rmX5_outOfBreath (obPre D (tyG cI cZ cL) im [(h, .inr (5, [.ref q_people, .ref q_places, .ref q_breath, .ref q_rows, .ref q_seen, .ref q_ends, va_rf f_field, .int f_size, .int f_turn, .int f_yards, .int f_time, .int f_gap, .int f_far, .int f_flat])), (q_breath, .inl (cI, 7, .inl r_breath))] sz [.ref h]) (va_Qi (fun (r : Int32) (u : Unit) => Q r) (obB D (va_A [(h, .inr (5, [.ref q_people, .ref q_places, .ref q_breath, .ref q_rows, .ref q_seen, .ref q_ends, va_rf f_field, .int f_size, .int f_turn, .int f_yards, .int f_time, .int f_gap, .int f_far, .int f_flat])), (q_breath, .inl (cI, 7, .inl r_breath))] sz) (fun _ : Unit => [(h, .inr (5, [.ref q_people, .ref q_places, .ref q_breath, .ref q_rows, .ref q_seen, .ref q_ends, va_rf f_field, .int f_size, .int f_turn, .int f_yards, .int f_time, .int f_gap, .int f_far, .int f_flat])), (q_breath, .inl (cI, 7, .inl r_breath))])) (va_A [(h, .inr (5, [.ref q_people, .ref q_places, .ref q_breath, .ref q_rows, .ref q_seen, .ref q_ends, va_rf f_field, .int f_size, .int f_turn, .int f_yards, .int f_time, .int f_gap, .int f_far, .int f_flat])), (q_breath, .inl (cI, 7, .inl r_breath))] sz)) 0 0 (va_A [(h, .inr (5, [.ref q_people, .ref q_places, .ref q_breath, .ref q_rows, .ref q_seen, .ref q_ends, va_rf f_field, .int f_size, .int f_turn, .int f_yards, .int f_time, .int f_gap, .int f_far, .int f_flat])), (q_breath, .inl (cI, 7, .inl r_breath))] sz) := by
  refine ob_met_i (cc := cX5_outOfBreath) (maxL := 2) (by decide) (Nat.le_of_ble_eq_true rfl) (fun p e s m args below meth c A Z hx hb hml hown hts hnm hN hK hA hI hP hD hS hZ ls hl => ?_)
  have hl : lv_has ls 2 [(0, .ref h)] := hl
  unfold m_X5_outOfBreath at hm
  have lab2 : ∀ (n2 : Nat) (v1_2 : Int32) , ∀ (H : Heap) (locs : List Loc) (ls : Array Slot), va_P D vwCl [(h, .inr (5, [.ref q_people, .ref q_places, .ref q_breath, .ref q_rows, .ref q_seen, .ref q_ends, va_rf f_field, .int f_size, .int f_turn, .int f_yards, .int f_time, .int f_gap, .int f_far, .int f_flat])), (q_breath, .inl (cI, 7, .inl r_breath))] H → va_D A [(h, .inr (5, [.ref q_people, .ref q_places, .ref q_breath, .ref q_rows, .ref q_seen, .ref q_ends, va_rf f_field, .int f_size, .int f_turn, .int f_yards, .int f_time, .int f_gap, .int f_far, .int f_flat])), (q_breath, .inl (cI, 7, .inl r_breath))] → va_S A s.heap H locs → lv_has ls 2 [(0, .ref h), (1, .int v1_2)] → m_X5_outOfBreath_L2 f_size r_breath Q n2 v1_2 → W p l e rmX5_outOfBreath s m args below meth c H locs 0 0 Z (F0 m 2 ls []) := by
    intro n2
    induction n2 with
    | zero =>
      intro v1_2 H locs ls hP hD hS hl hm
      exact hm.elim
    | succ n2 ih2 =>
      intro v1_2 H locs ls hP hD hS hl hm
      unfold m_X5_outOfBreath_L2 at hm
      obtain ⟨K2, hK2⟩ : ∃ K : Int32 → Prop, K = m_X5_outOfBreath_L2 f_size r_breath Q n2 := ⟨_, rfl⟩
      rw [← hK2] at hm ih2
      refine lv_iload_n hx hb (dX5_outOfBreath 2 rfl) rfl (lv_at hl 1 rfl) ?_
      refine lv_aload_n hx hb (dX5_outOfBreath 3 rfl) rfl (lv_at hl 0 rfl) ?_
      refine va_get (D := D) (ci := 5) (v := .int f_size) (C := RX5) (T := TX5) (N := 14) hx hb hts inlX5 hown hK hP 0 rfl rfl 7 (by decide) (hts (.fieldLink RX5 49 "OverBacks$Line" "size" "I") (inR15 _ (List.mem_of_getElem? (i := 23) rfl))) (fun _ h9 => h9) rfl (dX5_outOfBreath 4 rfl) ?_
      refine lv_icmp_ge (tgt := 27) hx hb (dX5_outOfBreath 5 rfl) (by decide) (fun c2 => ?_) (fun c2 => ?_)
      · replace hm := hm.1 c2
        refine lv_iconst (v := (-1 : Int32)) hx hb (dX5_outOfBreath 15 rfl) (by decide) ?_
        exact hZ (-1 : Int32) () H locs ls 28 hm hP hD hS (dX5_outOfBreath 16 rfl) rfl
      replace hm := hm.2 c2
      refine lv_aload_n hx hb (dX5_outOfBreath 6 rfl) rfl (lv_at hl 0 rfl) ?_
      refine va_get (D := D) (ci := 5) (v := .ref q_breath) (C := RX5) (T := TX5) (N := 14) hx hb hts inlX5 hown hK hP 0 rfl rfl 2 (by decide) (hts (.fieldLink RX5 21 "OverBacks$Line" "breath" "[I") (inR2 _ (List.mem_of_getElem? (i := 22) rfl))) (fun _ h9 => h9) rfl (dX5_outOfBreath 7 rfl) ?_
      refine lv_iload_n hx hb (dX5_outOfBreath 8 rfl) rfl (lv_at hl 1 rfl) ?_
      refine va_iald hx hb hK hP 1 0 rfl rfl hm.1 (dX5_outOfBreath 9 rfl) ?_
      replace hm := hm.2
      refine lv_if_ne (tgt := 21) hx hb (dX5_outOfBreath 10 rfl) (by decide) (fun c3 => ?_) (fun c3 => ?_)
      · replace hm := hm.2 c3
        obtain ⟨x4, ex4⟩ : ∃ y : Int32, y = v1_2 + 1 := ⟨_, rfl⟩
        replace hm := hm x4 ex4
        refine lv_iinc (v := x4) (lv' := [(1, .int x4), (0, .ref h)]) hx hb (dX5_outOfBreath 13 rfl) hl (k := 1) rfl (by rw [ex4]; rfl) (by decide) rfl (fun ls hl => ?_)
        refine lv_goto (tgt := 2) hx hb (dX5_outOfBreath 14 rfl) (by decide) ?_
        exact ih2 x4 H locs ls hP hD hS (lv_sub hl [1, 0] rfl) hm
      replace hm := hm.1 c3
      refine lv_iload_n hx hb (dX5_outOfBreath 11 rfl) rfl (lv_at hl 1 rfl) ?_
      exact hZ v1_2 () H locs ls 20 hm hP hD hS (dX5_outOfBreath 12 rfl) rfl
  obtain ⟨H, hH⟩ : ∃ H, H = s.heap := ⟨_, rfl⟩
  obtain ⟨locs, hlo⟩ : ∃ q : List Loc, q = [] := ⟨_, rfl⟩
  suffices hgo : W p l e rmX5_outOfBreath s m args below meth c H locs 0 0 Z (F0 m 0 ls []) by rw [hH, hlo] at hgo; exact hgo
  have hP : va_P D vwCl [(h, .inr (5, [.ref q_people, .ref q_places, .ref q_breath, .ref q_rows, .ref q_seen, .ref q_ends, va_rf f_field, .int f_size, .int f_turn, .int f_yards, .int f_time, .int f_gap, .int f_far, .int f_flat])), (q_breath, .inl (cI, 7, .inl r_breath))] H := by rw [hH]; exact hP
  have hD : va_D A [(h, .inr (5, [.ref q_people, .ref q_places, .ref q_breath, .ref q_rows, .ref q_seen, .ref q_ends, va_rf f_field, .int f_size, .int f_turn, .int f_yards, .int f_time, .int f_gap, .int f_far, .int f_flat])), (q_breath, .inl (cI, 7, .inl r_breath))] := hD
  have hS : va_S A s.heap H locs := by rw [hH, hlo]; exact hS
  refine lv_iconst (v := (0 : Int32)) hx hb (dX5_outOfBreath 0 rfl) (by decide) ?_
  refine lv_topi (fun x1 ex1 => ?_)
  replace hm := hm x1 ex1
  refine lv_istore_n (lv' := [(1, .int x1), (0, .ref h)]) hx hb (dX5_outOfBreath 1 rfl) rfl hl (by decide) rfl (fun ls hl => ?_)
  obtain ⟨n5, hm⟩ := hm
  exact lab2 n5 x1 H locs ls hP hD hS (lv_sub hl [1, 0] rfl) hm
abbrev rmX7_add : Room := { frames := 0, cells := 0, slots := 0, locals := 0 }
set_option maxHeartbeats 4000000 in
set_option maxRecDepth 100000 in
theorem k_X7_add (l : Launch) (D : va_G) (cI cZ cL : ClassId) (im : va_W) (sz : Nat) (h : Nat) (q_items : Nat) (f_size : Int32) (f_came : Int32) (n_items : Nat) (r_items : Nat → Int32) (a1 : Int32) (Q : Int32 → Int32 → Int32 → (Nat → Int32) → Prop) (hm : m_X7_add n_items f_size f_came r_items a1 Q) : Met l yX7_add (Cond.code yX7_add cX7_add 2 (some .boolean) :: wsL_law) rmX7_add (obPre D (tyG cI cZ cL) im [(h, .inr (7, [.ref q_items, .int f_size, .int f_came])), (q_items, .inl (cI, n_items, .inl r_items))] sz [.ref h, .int a1]) (va_Qi (fun (r : Int32) (u : Int32 × Int32 × (Nat → Int32)) => Q r u.1 u.2.1 u.2.2) (obB D (va_A [(h, .inr (7, [.ref q_items, .int f_size, .int f_came])), (q_items, .inl (cI, n_items, .inl r_items))] sz) (fun u : Int32 × Int32 × (Nat → Int32) => [(h, .inr (7, [.ref q_items, .int u.1, .int u.2.1])), (q_items, .inl (cI, n_items, .inl u.2.2))])) (va_A [(h, .inr (7, [.ref q_items, .int f_size, .int f_came])), (q_items, .inl (cI, n_items, .inl r_items))] sz)) 0 0 (va_A [(h, .inr (7, [.ref q_items, .int f_size, .int f_came])), (q_items, .inl (cI, n_items, .inl r_items))] sz) := by
  refine ob_met_i (cc := cX7_add) (maxL := 2) (by decide) (Nat.le_of_ble_eq_true rfl) (fun p e s m args below meth c A Z hx hb hml hown hts hnm hN hK hA hI hP hD hS hZ ls hl => ?_)
  have hl : lv_has ls 2 [(0, .ref h), (1, .int a1)] := hl
  unfold m_X7_add at hm
  obtain ⟨H, hH⟩ : ∃ H, H = s.heap := ⟨_, rfl⟩
  obtain ⟨locs, hlo⟩ : ∃ q : List Loc, q = [] := ⟨_, rfl⟩
  suffices hgo : W p l e rmX7_add s m args below meth c H locs 0 0 Z (F0 m 0 ls []) by rw [hH, hlo] at hgo; exact hgo
  have hP : va_P D vwCl [(h, .inr (7, [.ref q_items, .int f_size, .int f_came])), (q_items, .inl (cI, n_items, .inl r_items))] H := by rw [hH]; exact hP
  have hD : va_D A [(h, .inr (7, [.ref q_items, .int f_size, .int f_came])), (q_items, .inl (cI, n_items, .inl r_items))] := hD
  have hS : va_S A s.heap H locs := by rw [hH, hlo]; exact hS
  refine lv_aload_n hx hb (dX7_add 0 rfl) rfl (lv_at hl 0 rfl) ?_
  refine lv_dup hx hb (dX7_add 1 rfl) rfl ?_
  refine va_get (D := D) (ci := 7) (v := .int f_came) (C := RX7) (T := TX7) (N := 3) hx hb hts inlX7 hown hK hP 0 rfl rfl 2 (by decide) (hts (.fieldLink RX7 21 "OverBacks$Numbers" "came" "I") (inR4 _ (List.mem_of_getElem? (i := 17) rfl))) (fun _ h9 => h9) rfl (dX7_add 2 rfl) ?_
  refine lv_iconst (v := (1 : Int32)) hx hb (dX7_add 3 rfl) (by decide) ?_
  refine lv_iadd hx hb (dX7_add 4 rfl) ?_
  refine va_put (D := D) (ci := 7) (v := .int (f_came + (1 : Int32))) (ty := .int) (C := RX7) (T := TX7) (N := 3) hx hb hts inlX7 tyX7 tyX7_ok nmX7 hown hK hP hD hS 0 rfl rfl 2 (by decide) (hts (.fieldLink RX7 21 "OverBacks$Numbers" "came" "I") (inR4 _ (List.mem_of_getElem? (i := 17) rfl))) (fun _ h9 => h9) rfl (by decide +kernel) rfl rfl (Nat.le_of_ble_eq_true rfl) (dX7_add 5 rfl) (fun H locs hP hD hS => ?_)
  have hP : va_P D vwCl [(h, .inr (7, [.ref q_items, .int f_size, .int (f_came + (1 : Int32))])), (q_items, .inl (cI, n_items, .inl r_items))] H := hP
  have hD : va_D A [(h, .inr (7, [.ref q_items, .int f_size, .int (f_came + (1 : Int32))])), (q_items, .inl (cI, n_items, .inl r_items))] := hD
  refine lv_aload_n hx hb (dX7_add 6 rfl) rfl (lv_at hl 0 rfl) ?_
  refine va_get (D := D) (ci := 7) (v := .int f_size) (C := RX7) (T := TX7) (N := 3) hx hb hts inlX7 hown hK hP 0 rfl rfl 1 (by decide) (hts (.fieldLink RX7 25 "OverBacks$Numbers" "size" "I") (inR4 _ (List.mem_of_getElem? (i := 18) rfl))) (fun _ h9 => h9) rfl (dX7_add 7 rfl) ?_
  refine lv_aload_n hx hb (dX7_add 8 rfl) rfl (lv_at hl 0 rfl) ?_
  refine va_get (D := D) (ci := 7) (v := .ref q_items) (C := RX7) (T := TX7) (N := 3) hx hb hts inlX7 hown hK hP 0 rfl rfl 0 (by decide) (hts (.fieldLink RX7 15 "OverBacks$Numbers" "items" "[I") (inR3 _ (List.mem_of_getElem? (i := 13) rfl))) (fun _ h9 => h9) rfl (dX7_add 9 rfl) ?_
  refine va_alen (v := nI n_items) hx hb hK hP 1 0 rfl rfl rfl (dX7_add 10 rfl) ?_
  refine lv_icmp_lt (tgt := 24) hx hb (dX7_add 11 rfl) (by decide) (fun c1 => ?_) (fun c1 => ?_)
  · replace hm := hm.1 c1
    refine lv_aload_n hx hb (dX7_add 14 rfl) rfl (lv_at hl 0 rfl) ?_
    refine va_get (D := D) (ci := 7) (v := .ref q_items) (C := RX7) (T := TX7) (N := 3) hx hb hts inlX7 hown hK hP 0 rfl rfl 0 (by decide) (hts (.fieldLink RX7 15 "OverBacks$Numbers" "items" "[I") (inR3 _ (List.mem_of_getElem? (i := 13) rfl))) (fun _ h9 => h9) rfl (dX7_add 15 rfl) ?_
    refine lv_aload_n hx hb (dX7_add 16 rfl) rfl (lv_at hl 0 rfl) ?_
    refine va_get (D := D) (ci := 7) (v := .int f_size) (C := RX7) (T := TX7) (N := 3) hx hb hts inlX7 hown hK hP 0 rfl rfl 1 (by decide) (hts (.fieldLink RX7 25 "OverBacks$Numbers" "size" "I") (inR4 _ (List.mem_of_getElem? (i := 18) rfl))) (fun _ h9 => h9) rfl (dX7_add 17 rfl) ?_
    refine lv_iload_n hx hb (dX7_add 18 rfl) rfl (lv_at hl 1 rfl) ?_
    refine va_iast hx hb hK hP hD hS 1 0 rfl rfl hm.1 (dX7_add 19 rfl) (fun H locs hP hD hS => ?_)
    replace hm := hm.2
    obtain ⟨y2, ey2⟩ : ∃ q : Nat → Int32, q = upd r_items f_size.toNatClampNeg a1 := ⟨_, rfl⟩
    replace hm := hm y2 ey2
    have hP : va_P D vwCl [(h, .inr (7, [.ref q_items, .int f_size, .int (f_came + (1 : Int32))])), (q_items, .inl (cI, n_items, .inl y2))] H := by rw [ey2]; exact hP
    have hD : va_D A [(h, .inr (7, [.ref q_items, .int f_size, .int (f_came + (1 : Int32))])), (q_items, .inl (cI, n_items, .inl y2))] := by rw [ey2]; exact hD
    refine lv_aload_n hx hb (dX7_add 20 rfl) rfl (lv_at hl 0 rfl) ?_
    refine lv_dup hx hb (dX7_add 21 rfl) rfl ?_
    refine va_get (D := D) (ci := 7) (v := .int f_size) (C := RX7) (T := TX7) (N := 3) hx hb hts inlX7 hown hK hP 0 rfl rfl 1 (by decide) (hts (.fieldLink RX7 25 "OverBacks$Numbers" "size" "I") (inR4 _ (List.mem_of_getElem? (i := 18) rfl))) (fun _ h9 => h9) rfl (dX7_add 22 rfl) ?_
    refine lv_iconst (v := (1 : Int32)) hx hb (dX7_add 23 rfl) (by decide) ?_
    refine lv_iadd hx hb (dX7_add 24 rfl) ?_
    refine va_put (D := D) (ci := 7) (v := .int (f_size + (1 : Int32))) (ty := .int) (C := RX7) (T := TX7) (N := 3) hx hb hts inlX7 tyX7 tyX7_ok nmX7 hown hK hP hD hS 0 rfl rfl 1 (by decide) (hts (.fieldLink RX7 25 "OverBacks$Numbers" "size" "I") (inR4 _ (List.mem_of_getElem? (i := 18) rfl))) (fun _ h9 => h9) rfl (by decide +kernel) rfl rfl (Nat.le_of_ble_eq_true rfl) (dX7_add 25 rfl) (fun H locs hP hD hS => ?_)
    have hP : va_P D vwCl [(h, .inr (7, [.ref q_items, .int (f_size + (1 : Int32)), .int (f_came + (1 : Int32))])), (q_items, .inl (cI, n_items, .inl y2))] H := hP
    have hD : va_D A [(h, .inr (7, [.ref q_items, .int (f_size + (1 : Int32)), .int (f_came + (1 : Int32))])), (q_items, .inl (cI, n_items, .inl y2))] := hD
    refine lv_iconst (v := (1 : Int32)) hx hb (dX7_add 26 rfl) (by decide) ?_
    exact hZ (1 : Int32) (f_size + (1 : Int32), f_came + (1 : Int32), y2) H locs ls 45 hm hP hD hS (dX7_add 27 rfl) rfl
  replace hm := hm.2 c1
  refine lv_iconst (v := (0 : Int32)) hx hb (dX7_add 12 rfl) (by decide) ?_
  exact hZ (0 : Int32) (f_size, f_came + (1 : Int32), r_items) H locs ls 23 hm hP hD hS (dX7_add 13 rfl) rfl
abbrev rmX7_at : Room := { frames := 0, cells := 0, slots := 0, locals := 0 }
set_option maxHeartbeats 4000000 in
set_option maxRecDepth 100000 in
theorem k_X7_at (l : Launch) (D : va_G) (cI cZ cL : ClassId) (im : va_W) (sz : Nat) (h : Nat) (q_items : Nat) (f_size : Int32) (f_came : Int32) (n_items : Nat) (r_items : Nat → Int32) (a1 : Int32) (Q : Int32 → Prop) (hm : m_X7_at n_items f_size r_items a1 Q) : Met l yX7_at (Cond.code yX7_at cX7_at 2 (some .int) :: wsL_law) rmX7_at (obPre D (tyG cI cZ cL) im [(h, .inr (7, [.ref q_items, .int f_size, .int f_came])), (q_items, .inl (cI, n_items, .inl r_items))] sz [.ref h, .int a1]) (va_Qi (fun (r : Int32) (u : Unit) => Q r) (obB D (va_A [(h, .inr (7, [.ref q_items, .int f_size, .int f_came])), (q_items, .inl (cI, n_items, .inl r_items))] sz) (fun _ : Unit => [(h, .inr (7, [.ref q_items, .int f_size, .int f_came])), (q_items, .inl (cI, n_items, .inl r_items))])) (va_A [(h, .inr (7, [.ref q_items, .int f_size, .int f_came])), (q_items, .inl (cI, n_items, .inl r_items))] sz)) 0 0 (va_A [(h, .inr (7, [.ref q_items, .int f_size, .int f_came])), (q_items, .inl (cI, n_items, .inl r_items))] sz) := by
  refine ob_met_i (cc := cX7_at) (maxL := 2) (by decide) (Nat.le_of_ble_eq_true rfl) (fun p e s m args below meth c A Z hx hb hml hown hts hnm hN hK hA hI hP hD hS hZ ls hl => ?_)
  have hl : lv_has ls 2 [(0, .ref h), (1, .int a1)] := hl
  unfold m_X7_at at hm
  obtain ⟨H, hH⟩ : ∃ H, H = s.heap := ⟨_, rfl⟩
  obtain ⟨locs, hlo⟩ : ∃ q : List Loc, q = [] := ⟨_, rfl⟩
  suffices hgo : W p l e rmX7_at s m args below meth c H locs 0 0 Z (F0 m 0 ls []) by rw [hH, hlo] at hgo; exact hgo
  have hP : va_P D vwCl [(h, .inr (7, [.ref q_items, .int f_size, .int f_came])), (q_items, .inl (cI, n_items, .inl r_items))] H := by rw [hH]; exact hP
  have hD : va_D A [(h, .inr (7, [.ref q_items, .int f_size, .int f_came])), (q_items, .inl (cI, n_items, .inl r_items))] := hD
  have hS : va_S A s.heap H locs := by rw [hH, hlo]; exact hS
  refine lv_iload_n hx hb (dX7_at 0 rfl) rfl (lv_at hl 1 rfl) ?_
  refine lv_if_lt (tgt := 21) hx hb (dX7_at 1 rfl) (by decide) (fun c1 => ?_) (fun c1 => ?_)
  · replace hm := hm.1 c1
    refine lv_iconst (v := (-1 : Int32)) hx hb (dX7_at 11 rfl) (by decide) ?_
    exact hZ (-1 : Int32) () H locs ls 22 hm hP hD hS (dX7_at 12 rfl) rfl
  replace hm := hm.2 c1
  refine lv_iload_n hx hb (dX7_at 2 rfl) rfl (lv_at hl 1 rfl) ?_
  refine lv_aload_n hx hb (dX7_at 3 rfl) rfl (lv_at hl 0 rfl) ?_
  refine va_get (D := D) (ci := 7) (v := .int f_size) (C := RX7) (T := TX7) (N := 3) hx hb hts inlX7 hown hK hP 0 rfl rfl 1 (by decide) (hts (.fieldLink RX7 25 "OverBacks$Numbers" "size" "I") (inR4 _ (List.mem_of_getElem? (i := 18) rfl))) (fun _ h9 => h9) rfl (dX7_at 4 rfl) ?_
  refine lv_icmp_ge (tgt := 21) hx hb (dX7_at 5 rfl) (by decide) (fun c2 => ?_) (fun c2 => ?_)
  · replace hm := hm.1 c2
    refine lv_iconst (v := (-1 : Int32)) hx hb (dX7_at 11 rfl) (by decide) ?_
    exact hZ (-1 : Int32) () H locs ls 22 hm hP hD hS (dX7_at 12 rfl) rfl
  replace hm := hm.2 c2
  refine lv_aload_n hx hb (dX7_at 6 rfl) rfl (lv_at hl 0 rfl) ?_
  refine va_get (D := D) (ci := 7) (v := .ref q_items) (C := RX7) (T := TX7) (N := 3) hx hb hts inlX7 hown hK hP 0 rfl rfl 0 (by decide) (hts (.fieldLink RX7 15 "OverBacks$Numbers" "items" "[I") (inR3 _ (List.mem_of_getElem? (i := 13) rfl))) (fun _ h9 => h9) rfl (dX7_at 7 rfl) ?_
  refine lv_iload_n hx hb (dX7_at 8 rfl) rfl (lv_at hl 1 rfl) ?_
  refine va_iald hx hb hK hP 1 0 rfl rfl hm.1 (dX7_at 9 rfl) ?_
  replace hm := hm.2
  refine lv_goto (tgt := 22) hx hb (dX7_at 10 rfl) (by decide) ?_
  exact hZ (r_items a1.toNatClampNeg) () H locs ls 22 hm hP hD hS (dX7_at 12 rfl) rfl
abbrev rmX7_clear : Room := { frames := 0, cells := 0, slots := 0, locals := 0 }
set_option maxHeartbeats 4000000 in
set_option maxRecDepth 100000 in
theorem k_X7_clear (l : Launch) (D : va_G) (cI cZ cL : ClassId) (im : va_W) (sz : Nat) (h : Nat) (q_items : Nat) (f_size : Int32) (f_came : Int32) (Q : Int32 → Int32 → Prop) (hm : m_X7_clear f_size f_came Q) : Met l yX7_clear (Cond.code yX7_clear cX7_clear 1 none :: wsL_law) rmX7_clear (obPre D (tyG cI cZ cL) im [(h, .inr (7, [.ref q_items, .int f_size, .int f_came]))] sz [.ref h]) (va_Qv (fun (u : Int32 × Int32) => Q u.1 u.2) (obB D (va_A [(h, .inr (7, [.ref q_items, .int f_size, .int f_came]))] sz) (fun u : Int32 × Int32 => [(h, .inr (7, [.ref q_items, .int u.1, .int u.2]))])) (va_A [(h, .inr (7, [.ref q_items, .int f_size, .int f_came]))] sz)) 0 0 (va_A [(h, .inr (7, [.ref q_items, .int f_size, .int f_came]))] sz) := by
  refine ob_met_v (cc := cX7_clear) (maxL := 1) (by decide) (Nat.le_of_ble_eq_true rfl) (fun p e s m args below meth c A Z hx hb hml hown hts hnm hN hK hA hI hP hD hS hZ ls hl => ?_)
  have hl : lv_has ls 1 [(0, .ref h)] := hl
  unfold m_X7_clear at hm
  obtain ⟨H, hH⟩ : ∃ H, H = s.heap := ⟨_, rfl⟩
  obtain ⟨locs, hlo⟩ : ∃ q : List Loc, q = [] := ⟨_, rfl⟩
  suffices hgo : W p l e rmX7_clear s m args below meth c H locs 0 0 Z (F0 m 0 ls []) by rw [hH, hlo] at hgo; exact hgo
  have hP : va_P D vwCl [(h, .inr (7, [.ref q_items, .int f_size, .int f_came]))] H := by rw [hH]; exact hP
  have hD : va_D A [(h, .inr (7, [.ref q_items, .int f_size, .int f_came]))] := hD
  have hS : va_S A s.heap H locs := by rw [hH, hlo]; exact hS
  refine lv_aload_n hx hb (dX7_clear 0 rfl) rfl (lv_at hl 0 rfl) ?_
  refine lv_iconst (v := (0 : Int32)) hx hb (dX7_clear 1 rfl) (by decide) ?_
  refine va_put (D := D) (ci := 7) (v := .int (0 : Int32)) (ty := .int) (C := RX7) (T := TX7) (N := 3) hx hb hts inlX7 tyX7 tyX7_ok nmX7 hown hK hP hD hS 0 rfl rfl 1 (by decide) (hts (.fieldLink RX7 25 "OverBacks$Numbers" "size" "I") (inR4 _ (List.mem_of_getElem? (i := 18) rfl))) (fun _ h9 => h9) rfl (by decide +kernel) rfl rfl (Nat.le_of_ble_eq_true rfl) (dX7_clear 2 rfl) (fun H locs hP hD hS => ?_)
  have hP : va_P D vwCl [(h, .inr (7, [.ref q_items, .int (0 : Int32), .int f_came]))] H := hP
  have hD : va_D A [(h, .inr (7, [.ref q_items, .int (0 : Int32), .int f_came]))] := hD
  refine lv_aload_n hx hb (dX7_clear 3 rfl) rfl (lv_at hl 0 rfl) ?_
  refine lv_iconst (v := (0 : Int32)) hx hb (dX7_clear 4 rfl) (by decide) ?_
  refine va_put (D := D) (ci := 7) (v := .int (0 : Int32)) (ty := .int) (C := RX7) (T := TX7) (N := 3) hx hb hts inlX7 tyX7 tyX7_ok nmX7 hown hK hP hD hS 0 rfl rfl 2 (by decide) (hts (.fieldLink RX7 21 "OverBacks$Numbers" "came" "I") (inR4 _ (List.mem_of_getElem? (i := 17) rfl))) (fun _ h9 => h9) rfl (by decide +kernel) rfl rfl (Nat.le_of_ble_eq_true rfl) (dX7_clear 5 rfl) (fun H locs hP hD hS => ?_)
  have hP : va_P D vwCl [(h, .inr (7, [.ref q_items, .int (0 : Int32), .int (0 : Int32)]))] H := hP
  have hD : va_D A [(h, .inr (7, [.ref q_items, .int (0 : Int32), .int (0 : Int32)]))] := hD
  exact hZ ((0 : Int32), (0 : Int32)) H locs ls 10 hm hP hD hS (dX7_clear 6 rfl)
abbrev rmX7_become : Room := { frames := 1, cells := 0, slots := 0, locals := 21 }
set_option maxHeartbeats 4000000 in
set_option maxRecDepth 100000 in
theorem k_X7_become (l : Launch) (D : va_G) (cI cZ cL : ClassId) (im : va_W) (sz : Nat) (h : Nat) (h1 : Nat) (q_items : Nat) (f_size : Int32) (f_came : Int32) (n_items : Nat) (r_items : Nat → Int32) (q1_items : Nat) (f1_size : Int32) (f1_came : Int32) (n1_items : Nat) (r1_items : Nat → Int32) (Q : Int32 → Int32 → (Nat → Int32) → Prop) (hm : m_X7_become n_items n1_items f_size f_came r_items f1_size r1_items Q) : Met l yX7_become (Cond.code yX7_become cX7_become 3 none :: wsL_law) rmX7_become (obPre D (tyG cI cZ cL) im [(h, .inr (7, [.ref q_items, .int f_size, .int f_came])), (q_items, .inl (cI, n_items, .inl r_items)), (h1, .inr (7, [.ref q1_items, .int f1_size, .int f1_came])), (q1_items, .inl (cI, n1_items, .inl r1_items))] sz [.ref h, .ref h1]) (va_Qv (fun (u : Int32 × Int32 × (Nat → Int32)) => Q u.1 u.2.1 u.2.2) (obB D (va_A [(h, .inr (7, [.ref q_items, .int f_size, .int f_came])), (q_items, .inl (cI, n_items, .inl r_items)), (h1, .inr (7, [.ref q1_items, .int f1_size, .int f1_came])), (q1_items, .inl (cI, n1_items, .inl r1_items))] sz) (fun u : Int32 × Int32 × (Nat → Int32) => [(h, .inr (7, [.ref q_items, .int u.1, .int u.2.1])), (q_items, .inl (cI, n_items, .inl u.2.2)), (h1, .inr (7, [.ref q1_items, .int f1_size, .int f1_came])), (q1_items, .inl (cI, n1_items, .inl r1_items))])) (va_A [(h, .inr (7, [.ref q_items, .int f_size, .int f_came])), (q_items, .inl (cI, n_items, .inl r_items)), (h1, .inr (7, [.ref q1_items, .int f1_size, .int f1_came])), (q1_items, .inl (cI, n1_items, .inl r1_items))] sz)) 0 0 (va_A [(h, .inr (7, [.ref q_items, .int f_size, .int f_came])), (q_items, .inl (cI, n_items, .inl r_items)), (h1, .inr (7, [.ref q1_items, .int f1_size, .int f1_came])), (q1_items, .inl (cI, n1_items, .inl r1_items))] sz) := by
  refine ob_met_v (cc := cX7_become) (maxL := 3) (by decide) (Nat.le_of_ble_eq_true rfl) (fun p e s m args below meth c A Z hx hb hml hown hts hnm hN hK hA hI hP hD hS hZ ls hl => ?_)
  have hl : lv_has ls 3 [(0, .ref h), (1, .ref h1)] := hl
  unfold m_X7_become at hm
  have lab6 : ∀ (n6 : Nat) (f_size_6 : Int32) (f_came_6 : Int32) (r_items_6 : Nat → Int32) (v2_6 : Int32) , ∀ (H : Heap) (locs : List Loc) (ls : Array Slot), va_P D vwCl [(h, .inr (7, [.ref q_items, .int f_size_6, .int f_came_6])), (q_items, .inl (cI, n_items, .inl r_items_6)), (h1, .inr (7, [.ref q1_items, .int f1_size, .int f1_came])), (q1_items, .inl (cI, n1_items, .inl r1_items))] H → va_D A [(h, .inr (7, [.ref q_items, .int f_size_6, .int f_came_6])), (q_items, .inl (cI, n_items, .inl r_items_6)), (h1, .inr (7, [.ref q1_items, .int f1_size, .int f1_came])), (q1_items, .inl (cI, n1_items, .inl r1_items))] → va_S A s.heap H locs → lv_has ls 3 [(0, .ref h), (1, .ref h1), (2, .int v2_6)] → m_X7_become_L6 n_items n1_items f1_size r1_items Q n6 f_size_6 f_came_6 r_items_6 v2_6 → W p l e rmX7_become s m args below meth c H locs 0 0 Z (F0 m 6 ls []) := by
    intro n6
    induction n6 with
    | zero =>
      intro f_size_6 f_came_6 r_items_6 v2_6 H locs ls hP hD hS hl hm
      exact hm.elim
    | succ n6 ih6 =>
      intro f_size_6 f_came_6 r_items_6 v2_6 H locs ls hP hD hS hl hm
      unfold m_X7_become_L6 at hm
      obtain ⟨K6, hK6⟩ : ∃ K : Int32 → Int32 → (Nat → Int32) → Int32 → Prop, K = m_X7_become_L6 n_items n1_items f1_size r1_items Q n6 := ⟨_, rfl⟩
      rw [← hK6] at hm ih6
      refine lv_iload_n hx hb (dX7_become 4 rfl) rfl (lv_at hl 2 rfl) ?_
      refine lv_aload_n hx hb (dX7_become 5 rfl) rfl (lv_at hl 1 rfl) ?_
      refine va_get (D := D) (ci := 7) (v := .int f1_size) (C := RX7) (T := TX7) (N := 3) hx hb hts inlX7 hown hK hP 2 rfl rfl 1 (by decide) (hts (.fieldLink RX7 25 "OverBacks$Numbers" "size" "I") (inR4 _ (List.mem_of_getElem? (i := 18) rfl))) (fun _ h9 => h9) rfl (dX7_become 6 rfl) ?_
      refine lv_icmp_ge (tgt := 31) hx hb (dX7_become 7 rfl) (by decide) (fun c6 => ?_) (fun c6 => ?_)
      · replace hm := hm.1 c6
        exact hZ (f_size_6, f_came_6, r_items_6) H locs ls 31 hm hP hD hS (dX7_become 17 rfl)
      replace hm := hm.2 c6
      refine lv_aload_n hx hb (dX7_become 8 rfl) rfl (lv_at hl 0 rfl) ?_
      refine lv_aload_n hx hb (dX7_become 9 rfl) rfl (lv_at hl 1 rfl) ?_
      refine va_get (D := D) (ci := 7) (v := .ref q1_items) (C := RX7) (T := TX7) (N := 3) hx hb hts inlX7 hown hK hP 2 rfl rfl 0 (by decide) (hts (.fieldLink RX7 15 "OverBacks$Numbers" "items" "[I") (inR3 _ (List.mem_of_getElem? (i := 13) rfl))) (fun _ h9 => h9) rfl (dX7_become 10 rfl) ?_
      refine lv_iload_n hx hb (dX7_become 11 rfl) rfl (lv_at hl 2 rfl) ?_
      refine va_iald hx hb hK hP 3 0 rfl rfl hm.1 (dX7_become 12 rfl) ?_
      replace hm := hm.2
      have hcut := ob_cut (wc := [(h, .inr (7, [.ref q_items, .int f_size_6, .int f_came_6])), (q_items, .inl (cI, n_items, .inl r_items_6))]) hP hD hS hA [0, 1] rfl (by decide)
      refine ob_i (wr := [(h1, .inr (7, [.ref q1_items, .int f1_size, .int f1_came])), (q1_items, .inl (cI, n1_items, .inl r1_items))]) (ob_V (As := [.int (r1_items v2_6.toNatClampNeg)]) (rest := []) ⟨hx, hb, hml, hown, hts⟩ hK hcut (hI.cut hS hcut.2.2) hN (va_recv hK hP (ci := 7) (q0 := 0) rfl rfl) (k_X7_add l D cI cZ cL im _ _ _ _ _ _ _ _ _ hm) (cwV 1 hts (gU_V (inR43 _ (List.mem_of_getElem? (i := 14) rfl)) (inR4 _ (List.mem_of_getElem? (i := 14) rfl)) (inR4 _ (List.mem_of_getElem? (i := 15) rfl)) (inR1 _ (List.mem_of_getElem? (i := 23) rfl)) (inR4 _ (List.mem_of_getElem? (i := 16) rfl))) rfl rfl rfl (by decide +kernel) ⟨Nat.le_of_ble_eq_true rfl, Nat.le_of_ble_eq_true rfl⟩) rfl hl.1 rfl (Nat.le_of_ble_eq_true rfl) (dX7_become 13 rfl) ⟨Nat.zero_le _, Nat.zero_le _⟩) hP hD hS hcut [0, 1] [2, 3] rfl rfl (by decide) (by decide) (fun r7 u8 H locs hm hP hD hS => ?_)
      have hP := hP.sub (ws' := [(h, .inr (7, [.ref q_items, .int u8.1, .int u8.2.1])), (q_items, .inl (cI, n_items, .inl u8.2.2)), (h1, .inr (7, [.ref q1_items, .int f1_size, .int f1_came])), (q1_items, .inl (cI, n1_items, .inl r1_items))]) [2, 3, 0, 1] rfl
      have hD := hD.sub (ws' := [(h, .inr (7, [.ref q_items, .int u8.1, .int u8.2.1])), (q_items, .inl (cI, n_items, .inl u8.2.2)), (h1, .inr (7, [.ref q1_items, .int f1_size, .int f1_came])), (q1_items, .inl (cI, n1_items, .inl r1_items))]) [2, 3, 0, 1] (by decide) rfl
      refine lv_pop hx hb (dX7_become 14 rfl) rfl ?_
      obtain ⟨x12, ex12⟩ : ∃ y : Int32, y = v2_6 + 1 := ⟨_, rfl⟩
      replace hm := hm x12 ex12
      refine lv_iinc (v := x12) (lv' := [(2, .int x12), (0, .ref h), (1, .ref h1)]) hx hb (dX7_become 15 rfl) hl (k := 2) rfl (by rw [ex12]; rfl) (by decide) rfl (fun ls hl => ?_)
      refine lv_goto (tgt := 6) hx hb (dX7_become 16 rfl) (by decide) ?_
      exact ih6 u8.1 u8.2.1 u8.2.2 x12 H locs ls hP hD hS (lv_sub hl [1, 2, 0] rfl) hm
  obtain ⟨H, hH⟩ : ∃ H, H = s.heap := ⟨_, rfl⟩
  obtain ⟨locs, hlo⟩ : ∃ q : List Loc, q = [] := ⟨_, rfl⟩
  suffices hgo : W p l e rmX7_become s m args below meth c H locs 0 0 Z (F0 m 0 ls []) by rw [hH, hlo] at hgo; exact hgo
  have hP : va_P D vwCl [(h, .inr (7, [.ref q_items, .int f_size, .int f_came])), (q_items, .inl (cI, n_items, .inl r_items)), (h1, .inr (7, [.ref q1_items, .int f1_size, .int f1_came])), (q1_items, .inl (cI, n1_items, .inl r1_items))] H := by rw [hH]; exact hP
  have hD : va_D A [(h, .inr (7, [.ref q_items, .int f_size, .int f_came])), (q_items, .inl (cI, n_items, .inl r_items)), (h1, .inr (7, [.ref q1_items, .int f1_size, .int f1_came])), (q1_items, .inl (cI, n1_items, .inl r1_items))] := hD
  have hS : va_S A s.heap H locs := by rw [hH, hlo]; exact hS
  refine lv_aload_n hx hb (dX7_become 0 rfl) rfl (lv_at hl 0 rfl) ?_
  have hcut := ob_cut (wc := [(h, .inr (7, [.ref q_items, .int f_size, .int f_came]))]) hP hD hS hA [0] rfl (by decide)
  refine ob_v (wr := [(q_items, .inl (cI, n_items, .inl r_items)), (h1, .inr (7, [.ref q1_items, .int f1_size, .int f1_came])), (q1_items, .inl (cI, n1_items, .inl r1_items))]) (ob_V (As := []) (rest := []) ⟨hx, hb, hml, hown, hts⟩ hK hcut (hI.cut hS hcut.2.2) hN (va_recv hK hP (ci := 7) (q0 := 0) rfl rfl) (k_X7_clear l D cI cZ cL im _ _ _ _ _ _ hm) (cwV 0 hts (gU_V (inR43 _ (List.mem_of_getElem? (i := 13) rfl)) (inR10 _ (List.mem_of_getElem? (i := 7) rfl)) (inR10 _ (List.mem_of_getElem? (i := 8) rfl)) (inR1 _ (List.mem_of_getElem? (i := 23) rfl)) (inR10 _ (List.mem_of_getElem? (i := 9) rfl))) rfl rfl rfl (by decide +kernel) ⟨Nat.le_of_ble_eq_true rfl, Nat.le_of_ble_eq_true rfl⟩) rfl hl.1 rfl (Nat.le_of_ble_eq_true rfl) (dX7_become 1 rfl) ⟨Nat.zero_le _, Nat.zero_le _⟩) hP hD hS hcut [0] [1, 2, 3] rfl rfl (by decide) (by decide) (fun u2 H locs hm hP hD hS => ?_)
  have hP := hP.sub (ws' := [(h, .inr (7, [.ref q_items, .int u2.1, .int u2.2])), (q_items, .inl (cI, n_items, .inl r_items)), (h1, .inr (7, [.ref q1_items, .int f1_size, .int f1_came])), (q1_items, .inl (cI, n1_items, .inl r1_items))]) [3, 0, 1, 2] rfl
  have hD := hD.sub (ws' := [(h, .inr (7, [.ref q_items, .int u2.1, .int u2.2])), (q_items, .inl (cI, n_items, .inl r_items)), (h1, .inr (7, [.ref q1_items, .int f1_size, .int f1_came])), (q1_items, .inl (cI, n1_items, .inl r1_items))]) [3, 0, 1, 2] (by decide) rfl
  refine lv_iconst (v := (0 : Int32)) hx hb (dX7_become 2 rfl) (by decide) ?_
  refine lv_topi (fun x5 ex5 => ?_)
  replace hm := hm x5 ex5
  refine lv_istore_n (lv' := [(2, .int x5), (0, .ref h), (1, .ref h1)]) hx hb (dX7_become 3 rfl) rfl hl (by decide) rfl (fun ls hl => ?_)
  obtain ⟨n13, hm⟩ := hm
  exact lab6 n13 u2.1 u2.2 r_items x5 H locs ls hP hD hS (lv_sub hl [1, 2, 0] rfl) hm
abbrev rmX11_feed : Room := { frames := 1, cells := 0, slots := 0, locals := 21 }
set_option maxHeartbeats 4000000 in
set_option maxRecDepth 100000 in
theorem k_X11_feed (l : Launch) (D : va_G) (cI cZ cL : ClassId) (im : va_W) (sz : Nat) (h : Nat) (q_now : Nat) (q_image : Nat) (q_trial : Nat) (q_trace : Nat) (q_tried : Nat) (q_best : Nat) (f_imaged : Int32) (q_now_line : Nat) (q_now_tape : Nat) (q_now_taken : Nat) (q_now_bookTurns : Nat) (q_now_bookTimes : Nat) (f_now_fields : Int32) (q_now_tape_items : Nat) (f_now_tape_size : Int32) (f_now_tape_came : Int32) (r_now_tape_items : Nat → Int32) (a1 : Int32) (Q : Int32 → Int32 → Int32 → (Nat → Int32) → Prop) (hm : m_X11_feed f_now_tape_size f_now_tape_came r_now_tape_items a1 Q) : Met l yX11_feed (Cond.code yX11_feed cX11_feed 2 (some .int) :: wsL_law) rmX11_feed (obPre D (tyG cI cZ cL) im [(h, .inr (11, [.ref q_now, .ref q_image, .ref q_trial, .ref q_trace, .ref q_tried, .ref q_best, .int f_imaged])), (q_now, .inr (9, [.ref q_now_line, .ref q_now_tape, .ref q_now_taken, .ref q_now_bookTurns, .ref q_now_bookTimes, .int f_now_fields])), (q_now_tape, .inr (7, [.ref q_now_tape_items, .int f_now_tape_size, .int f_now_tape_came])), (q_now_tape_items, .inl (cI, 100, .inl r_now_tape_items))] sz [.ref h, .int a1]) (va_Qi (fun (r : Int32) (u : Int32 × Int32 × (Nat → Int32)) => Q r u.1 u.2.1 u.2.2) (obB D (va_A [(h, .inr (11, [.ref q_now, .ref q_image, .ref q_trial, .ref q_trace, .ref q_tried, .ref q_best, .int f_imaged])), (q_now, .inr (9, [.ref q_now_line, .ref q_now_tape, .ref q_now_taken, .ref q_now_bookTurns, .ref q_now_bookTimes, .int f_now_fields])), (q_now_tape, .inr (7, [.ref q_now_tape_items, .int f_now_tape_size, .int f_now_tape_came])), (q_now_tape_items, .inl (cI, 100, .inl r_now_tape_items))] sz) (fun u : Int32 × Int32 × (Nat → Int32) => [(h, .inr (11, [.ref q_now, .ref q_image, .ref q_trial, .ref q_trace, .ref q_tried, .ref q_best, .int f_imaged])), (q_now, .inr (9, [.ref q_now_line, .ref q_now_tape, .ref q_now_taken, .ref q_now_bookTurns, .ref q_now_bookTimes, .int f_now_fields])), (q_now_tape, .inr (7, [.ref q_now_tape_items, .int u.1, .int u.2.1])), (q_now_tape_items, .inl (cI, 100, .inl u.2.2))])) (va_A [(h, .inr (11, [.ref q_now, .ref q_image, .ref q_trial, .ref q_trace, .ref q_tried, .ref q_best, .int f_imaged])), (q_now, .inr (9, [.ref q_now_line, .ref q_now_tape, .ref q_now_taken, .ref q_now_bookTurns, .ref q_now_bookTimes, .int f_now_fields])), (q_now_tape, .inr (7, [.ref q_now_tape_items, .int f_now_tape_size, .int f_now_tape_came])), (q_now_tape_items, .inl (cI, 100, .inl r_now_tape_items))] sz)) 0 0 (va_A [(h, .inr (11, [.ref q_now, .ref q_image, .ref q_trial, .ref q_trace, .ref q_tried, .ref q_best, .int f_imaged])), (q_now, .inr (9, [.ref q_now_line, .ref q_now_tape, .ref q_now_taken, .ref q_now_bookTurns, .ref q_now_bookTimes, .int f_now_fields])), (q_now_tape, .inr (7, [.ref q_now_tape_items, .int f_now_tape_size, .int f_now_tape_came])), (q_now_tape_items, .inl (cI, 100, .inl r_now_tape_items))] sz) := by
  refine ob_met_i (cc := cX11_feed) (maxL := 2) (by decide) (Nat.le_of_ble_eq_true rfl) (fun p e s m args below meth c A Z hx hb hml hown hts hnm hN hK hA hI hP hD hS hZ ls hl => ?_)
  have hl : lv_has ls 2 [(0, .ref h), (1, .int a1)] := hl
  unfold m_X11_feed at hm
  obtain ⟨H, hH⟩ : ∃ H, H = s.heap := ⟨_, rfl⟩
  obtain ⟨locs, hlo⟩ : ∃ q : List Loc, q = [] := ⟨_, rfl⟩
  suffices hgo : W p l e rmX11_feed s m args below meth c H locs 0 0 Z (F0 m 0 ls []) by rw [hH, hlo] at hgo; exact hgo
  have hP : va_P D vwCl [(h, .inr (11, [.ref q_now, .ref q_image, .ref q_trial, .ref q_trace, .ref q_tried, .ref q_best, .int f_imaged])), (q_now, .inr (9, [.ref q_now_line, .ref q_now_tape, .ref q_now_taken, .ref q_now_bookTurns, .ref q_now_bookTimes, .int f_now_fields])), (q_now_tape, .inr (7, [.ref q_now_tape_items, .int f_now_tape_size, .int f_now_tape_came])), (q_now_tape_items, .inl (cI, 100, .inl r_now_tape_items))] H := by rw [hH]; exact hP
  have hD : va_D A [(h, .inr (11, [.ref q_now, .ref q_image, .ref q_trial, .ref q_trace, .ref q_tried, .ref q_best, .int f_imaged])), (q_now, .inr (9, [.ref q_now_line, .ref q_now_tape, .ref q_now_taken, .ref q_now_bookTurns, .ref q_now_bookTimes, .int f_now_fields])), (q_now_tape, .inr (7, [.ref q_now_tape_items, .int f_now_tape_size, .int f_now_tape_came])), (q_now_tape_items, .inl (cI, 100, .inl r_now_tape_items))] := hD
  have hS : va_S A s.heap H locs := by rw [hH, hlo]; exact hS
  refine lv_iload_n hx hb (dX11_feed 0 rfl) rfl (lv_at hl 1 rfl) ?_
  refine lv_if_lt (tgt := 10) hx hb (dX11_feed 1 rfl) (by decide) (fun c1 => ?_) (fun c1 => ?_)
  · replace hm := hm.1 c1
    refine lv_bipush (v := (-2 : Int32)) hx hb (dX11_feed 5 rfl) (by decide) ?_
    exact hZ (-2 : Int32) (f_now_tape_size, f_now_tape_came, r_now_tape_items) H locs ls 12 hm hP hD hS (dX11_feed 6 rfl) rfl
  replace hm := hm.2 c1
  refine lv_iload_n hx hb (dX11_feed 2 rfl) rfl (lv_at hl 1 rfl) ?_
  refine lv_bipush (v := (127 : Int32)) hx hb (dX11_feed 3 rfl) (by decide) ?_
  refine lv_icmp_le (tgt := 13) hx hb (dX11_feed 4 rfl) (by decide) (fun c2 => ?_) (fun c2 => ?_)
  · replace hm := hm.1 c2
    refine lv_aload_n hx hb (dX11_feed 7 rfl) rfl (lv_at hl 0 rfl) ?_
    refine va_get (D := D) (ci := 11) (v := .ref q_now) (C := RX11) (T := TX11) (N := 7) hx hb hts inlX11 hown hK hP 0 rfl rfl 0 (by decide) (hts (.fieldLink RX11 12 "OverBacks" "now" "LOverBacks$State;") (inR1 _ (List.mem_of_getElem? (i := 15) rfl))) (fun _ h9 => h9) rfl (dX11_feed 8 rfl) ?_
    refine va_getN (D := D) (ci := 9) (v := .ref q_now_tape) (C := RX9) (T := TX9) (N := 6) hx hb hts inlX9 hown hK hP 1 rfl rfl 1 (by decide) (va_Nw.use rfl (hN _ (List.mem_of_getElem? (i := 13) rfl))) (fun _ h9 => h9) rfl (dX11_feed 9 rfl) ?_
    refine lv_iload_n hx hb (dX11_feed 10 rfl) rfl (lv_at hl 1 rfl) ?_
    have hcut := ob_cut (wc := [(q_now_tape, .inr (7, [.ref q_now_tape_items, .int f_now_tape_size, .int f_now_tape_came])), (q_now_tape_items, .inl (cI, 100, .inl r_now_tape_items))]) hP hD hS hA [2, 3] rfl (by decide)
    refine ob_i (wr := [(h, .inr (11, [.ref q_now, .ref q_image, .ref q_trial, .ref q_trace, .ref q_tried, .ref q_best, .int f_imaged])), (q_now, .inr (9, [.ref q_now_line, .ref q_now_tape, .ref q_now_taken, .ref q_now_bookTurns, .ref q_now_bookTimes, .int f_now_fields]))]) (ob_V (As := [.int a1]) (rest := []) ⟨hx, hb, hml, hown, hts⟩ hK hcut (hI.cut hS hcut.2.2) hN (va_recv hK hP (ci := 7) (q0 := 2) rfl rfl) (k_X7_add l D cI cZ cL im _ _ _ _ _ _ _ _ _ hm) (cwV 1 hts (gU_V (inR4 _ (List.mem_of_getElem? (i := 13) rfl)) (inR4 _ (List.mem_of_getElem? (i := 14) rfl)) (inR4 _ (List.mem_of_getElem? (i := 15) rfl)) (inR1 _ (List.mem_of_getElem? (i := 23) rfl)) (inR4 _ (List.mem_of_getElem? (i := 16) rfl))) rfl rfl rfl (by decide +kernel) ⟨Nat.le_of_ble_eq_true rfl, Nat.le_of_ble_eq_true rfl⟩) rfl hl.1 rfl (Nat.le_of_ble_eq_true rfl) (dX11_feed 11 rfl) ⟨Nat.zero_le _, Nat.zero_le _⟩) hP hD hS hcut [2, 3] [0, 1] rfl rfl (by decide) (by decide) (fun r3 u4 H locs hm hP hD hS => ?_)
    have hP := hP.sub (ws' := [(h, .inr (11, [.ref q_now, .ref q_image, .ref q_trial, .ref q_trace, .ref q_tried, .ref q_best, .int f_imaged])), (q_now, .inr (9, [.ref q_now_line, .ref q_now_tape, .ref q_now_taken, .ref q_now_bookTurns, .ref q_now_bookTimes, .int f_now_fields])), (q_now_tape, .inr (7, [.ref q_now_tape_items, .int u4.1, .int u4.2.1])), (q_now_tape_items, .inl (cI, 100, .inl u4.2.2))]) [0, 1, 2, 3] rfl
    have hD := hD.sub (ws' := [(h, .inr (11, [.ref q_now, .ref q_image, .ref q_trial, .ref q_trace, .ref q_tried, .ref q_best, .int f_imaged])), (q_now, .inr (9, [.ref q_now_line, .ref q_now_tape, .ref q_now_taken, .ref q_now_bookTurns, .ref q_now_bookTimes, .int f_now_fields])), (q_now_tape, .inr (7, [.ref q_now_tape_items, .int u4.1, .int u4.2.1])), (q_now_tape_items, .inl (cI, 100, .inl u4.2.2))]) [0, 1, 2, 3] (by decide) rfl
    refine lv_if_ne (tgt := 30) hx hb (dX11_feed 12 rfl) (by decide) (fun c8 => ?_) (fun c8 => ?_)
    · replace hm := hm.2 c8
      refine lv_aload_n hx hb (dX11_feed 15 rfl) rfl (lv_at hl 0 rfl) ?_
      refine va_get (D := D) (ci := 11) (v := .ref q_now) (C := RX11) (T := TX11) (N := 7) hx hb hts inlX11 hown hK hP 0 rfl rfl 0 (by decide) (hts (.fieldLink RX11 12 "OverBacks" "now" "LOverBacks$State;") (inR1 _ (List.mem_of_getElem? (i := 15) rfl))) (fun _ h9 => h9) rfl (dX11_feed 16 rfl) ?_
      refine va_getN (D := D) (ci := 9) (v := .ref q_now_tape) (C := RX9) (T := TX9) (N := 6) hx hb hts inlX9 hown hK hP 1 rfl rfl 1 (by decide) (va_Nw.use rfl (hN _ (List.mem_of_getElem? (i := 13) rfl))) (fun _ h9 => h9) rfl (dX11_feed 17 rfl) ?_
      refine va_getN (D := D) (ci := 7) (v := .int u4.1) (C := RX7) (T := TX7) (N := 3) hx hb hts inlX7 hown hK hP 2 rfl rfl 1 (by decide) (va_Nw.use rfl (hN _ (List.mem_of_getElem? (i := 10) rfl))) (fun _ h9 => h9) rfl (dX11_feed 18 rfl) ?_
      exact hZ u4.1 (u4.1, u4.2.1, u4.2.2) H locs ls 40 hm hP hD hS (dX11_feed 19 rfl) rfl
    replace hm := hm.1 c8
    refine lv_bipush (v := (-4 : Int32)) hx hb (dX11_feed 13 rfl) (by decide) ?_
    exact hZ (-4 : Int32) (u4.1, u4.2.1, u4.2.2) H locs ls 29 hm hP hD hS (dX11_feed 14 rfl) rfl
  replace hm := hm.2 c2
  refine lv_bipush (v := (-2 : Int32)) hx hb (dX11_feed 5 rfl) (by decide) ?_
  exact hZ (-2 : Int32) (f_now_tape_size, f_now_tape_came, r_now_tape_items) H locs ls 12 hm hP hD hS (dX11_feed 6 rfl) rfl
abbrev rmX11_told : Room := { frames := 1, cells := 0, slots := 0, locals := 21 }
set_option maxHeartbeats 4000000 in
set_option maxRecDepth 100000 in
theorem k_X11_told (l : Launch) (D : va_G) (cI cZ cL : ClassId) (im : va_W) (sz : Nat) (h : Nat) (q_now : Nat) (q_image : Nat) (q_trial : Nat) (q_trace : Nat) (q_tried : Nat) (q_best : Nat) (f_imaged : Int32) (q_now_line : Nat) (q_now_tape : Nat) (q_now_taken : Nat) (q_now_bookTurns : Nat) (q_now_bookTimes : Nat) (f_now_fields : Int32) (q_now_line_people : Nat) (q_now_line_places : Nat) (q_now_line_breath : Nat) (q_now_line_rows : Nat) (q_now_line_seen : Nat) (q_now_line_ends : Nat) (f_now_line_field : Option Nat) (f_now_line_size : Int32) (f_now_line_turn : Int32) (f_now_line_yards : Int32) (f_now_line_time : Int32) (f_now_line_gap : Int32) (f_now_line_far : Int32) (f_now_line_flat : Int32) (r_now_line_places : Nat → Int32) (a1 : Int32) (Q : Int32 → Prop) (hm : m_X11_told f_now_line_size f_now_line_turn f_now_line_yards f_now_line_time f_now_line_gap f_now_line_far r_now_line_places a1 Q) : Met l yX11_told (Cond.code yX11_told cX11_told 3 (some .int) :: wsL_law) rmX11_told (obPre D (tyG cI cZ cL) im [(h, .inr (11, [.ref q_now, .ref q_image, .ref q_trial, .ref q_trace, .ref q_tried, .ref q_best, .int f_imaged])), (q_now, .inr (9, [.ref q_now_line, .ref q_now_tape, .ref q_now_taken, .ref q_now_bookTurns, .ref q_now_bookTimes, .int f_now_fields])), (q_now_line, .inr (5, [.ref q_now_line_people, .ref q_now_line_places, .ref q_now_line_breath, .ref q_now_line_rows, .ref q_now_line_seen, .ref q_now_line_ends, va_rf f_now_line_field, .int f_now_line_size, .int f_now_line_turn, .int f_now_line_yards, .int f_now_line_time, .int f_now_line_gap, .int f_now_line_far, .int f_now_line_flat])), (q_now_line_places, .inl (cI, 7, .inl r_now_line_places))] sz [.ref h, .int a1]) (va_Qi (fun (r : Int32) (u : Unit) => Q r) (obB D (va_A [(h, .inr (11, [.ref q_now, .ref q_image, .ref q_trial, .ref q_trace, .ref q_tried, .ref q_best, .int f_imaged])), (q_now, .inr (9, [.ref q_now_line, .ref q_now_tape, .ref q_now_taken, .ref q_now_bookTurns, .ref q_now_bookTimes, .int f_now_fields])), (q_now_line, .inr (5, [.ref q_now_line_people, .ref q_now_line_places, .ref q_now_line_breath, .ref q_now_line_rows, .ref q_now_line_seen, .ref q_now_line_ends, va_rf f_now_line_field, .int f_now_line_size, .int f_now_line_turn, .int f_now_line_yards, .int f_now_line_time, .int f_now_line_gap, .int f_now_line_far, .int f_now_line_flat])), (q_now_line_places, .inl (cI, 7, .inl r_now_line_places))] sz) (fun _ : Unit => [(h, .inr (11, [.ref q_now, .ref q_image, .ref q_trial, .ref q_trace, .ref q_tried, .ref q_best, .int f_imaged])), (q_now, .inr (9, [.ref q_now_line, .ref q_now_tape, .ref q_now_taken, .ref q_now_bookTurns, .ref q_now_bookTimes, .int f_now_fields])), (q_now_line, .inr (5, [.ref q_now_line_people, .ref q_now_line_places, .ref q_now_line_breath, .ref q_now_line_rows, .ref q_now_line_seen, .ref q_now_line_ends, va_rf f_now_line_field, .int f_now_line_size, .int f_now_line_turn, .int f_now_line_yards, .int f_now_line_time, .int f_now_line_gap, .int f_now_line_far, .int f_now_line_flat])), (q_now_line_places, .inl (cI, 7, .inl r_now_line_places))])) (va_A [(h, .inr (11, [.ref q_now, .ref q_image, .ref q_trial, .ref q_trace, .ref q_tried, .ref q_best, .int f_imaged])), (q_now, .inr (9, [.ref q_now_line, .ref q_now_tape, .ref q_now_taken, .ref q_now_bookTurns, .ref q_now_bookTimes, .int f_now_fields])), (q_now_line, .inr (5, [.ref q_now_line_people, .ref q_now_line_places, .ref q_now_line_breath, .ref q_now_line_rows, .ref q_now_line_seen, .ref q_now_line_ends, va_rf f_now_line_field, .int f_now_line_size, .int f_now_line_turn, .int f_now_line_yards, .int f_now_line_time, .int f_now_line_gap, .int f_now_line_far, .int f_now_line_flat])), (q_now_line_places, .inl (cI, 7, .inl r_now_line_places))] sz)) 0 0 (va_A [(h, .inr (11, [.ref q_now, .ref q_image, .ref q_trial, .ref q_trace, .ref q_tried, .ref q_best, .int f_imaged])), (q_now, .inr (9, [.ref q_now_line, .ref q_now_tape, .ref q_now_taken, .ref q_now_bookTurns, .ref q_now_bookTimes, .int f_now_fields])), (q_now_line, .inr (5, [.ref q_now_line_people, .ref q_now_line_places, .ref q_now_line_breath, .ref q_now_line_rows, .ref q_now_line_seen, .ref q_now_line_ends, va_rf f_now_line_field, .int f_now_line_size, .int f_now_line_turn, .int f_now_line_yards, .int f_now_line_time, .int f_now_line_gap, .int f_now_line_far, .int f_now_line_flat])), (q_now_line_places, .inl (cI, 7, .inl r_now_line_places))] sz) := by
  refine ob_met_i (cc := cX11_told) (maxL := 3) (by decide) (Nat.le_of_ble_eq_true rfl) (fun p e s m args below meth c A Z hx hb hml hown hts hnm hN hK hA hI hP hD hS hZ ls hl => ?_)
  have hl : lv_has ls 3 [(0, .ref h), (1, .int a1)] := hl
  unfold m_X11_told at hm
  obtain ⟨H, hH⟩ : ∃ H, H = s.heap := ⟨_, rfl⟩
  obtain ⟨locs, hlo⟩ : ∃ q : List Loc, q = [] := ⟨_, rfl⟩
  suffices hgo : W p l e rmX11_told s m args below meth c H locs 0 0 Z (F0 m 0 ls []) by rw [hH, hlo] at hgo; exact hgo
  have hP : va_P D vwCl [(h, .inr (11, [.ref q_now, .ref q_image, .ref q_trial, .ref q_trace, .ref q_tried, .ref q_best, .int f_imaged])), (q_now, .inr (9, [.ref q_now_line, .ref q_now_tape, .ref q_now_taken, .ref q_now_bookTurns, .ref q_now_bookTimes, .int f_now_fields])), (q_now_line, .inr (5, [.ref q_now_line_people, .ref q_now_line_places, .ref q_now_line_breath, .ref q_now_line_rows, .ref q_now_line_seen, .ref q_now_line_ends, va_rf f_now_line_field, .int f_now_line_size, .int f_now_line_turn, .int f_now_line_yards, .int f_now_line_time, .int f_now_line_gap, .int f_now_line_far, .int f_now_line_flat])), (q_now_line_places, .inl (cI, 7, .inl r_now_line_places))] H := by rw [hH]; exact hP
  have hD : va_D A [(h, .inr (11, [.ref q_now, .ref q_image, .ref q_trial, .ref q_trace, .ref q_tried, .ref q_best, .int f_imaged])), (q_now, .inr (9, [.ref q_now_line, .ref q_now_tape, .ref q_now_taken, .ref q_now_bookTurns, .ref q_now_bookTimes, .int f_now_fields])), (q_now_line, .inr (5, [.ref q_now_line_people, .ref q_now_line_places, .ref q_now_line_breath, .ref q_now_line_rows, .ref q_now_line_seen, .ref q_now_line_ends, va_rf f_now_line_field, .int f_now_line_size, .int f_now_line_turn, .int f_now_line_yards, .int f_now_line_time, .int f_now_line_gap, .int f_now_line_far, .int f_now_line_flat])), (q_now_line_places, .inl (cI, 7, .inl r_now_line_places))] := hD
  have hS : va_S A s.heap H locs := by rw [hH, hlo]; exact hS
  refine lv_aload_n hx hb (dX11_told 0 rfl) rfl (lv_at hl 0 rfl) ?_
  refine va_get (D := D) (ci := 11) (v := .ref q_now) (C := RX11) (T := TX11) (N := 7) hx hb hts inlX11 hown hK hP 0 rfl rfl 0 (by decide) (hts (.fieldLink RX11 12 "OverBacks" "now" "LOverBacks$State;") (inR1 _ (List.mem_of_getElem? (i := 15) rfl))) (fun _ h9 => h9) rfl (dX11_told 1 rfl) ?_
  refine va_getN (D := D) (ci := 9) (v := .ref q_now_line) (C := RX9) (T := TX9) (N := 6) hx hb hts inlX9 hown hK hP 1 rfl rfl 0 (by decide) (va_Nw.use rfl (hN _ (List.mem_of_getElem? (i := 12) rfl))) (fun _ h9 => h9) rfl (dX11_told 2 rfl) ?_
  refine lv_astore_n (lv' := [(2, .ref q_now_line), (0, .ref h), (1, .int a1)]) hx hb (dX11_told 3 rfl) rfl hl (by decide) rfl (fun ls hl => ?_)
  refine lv_iload_n hx hb (dX11_told 4 rfl) rfl (lv_at hl 2 rfl) ?_
  by_cases c1 : a1 = (0 : Int32)
  · refine lv_tableIn (tgt := 44) hx hb (dX11_told 5 rfl) (by rw [c1]; decide) (by rw [c1]; decide) (by rw [c1]; rfl) (by decide) ?_
    replace hm := hm.1 c1
    refine lv_aload_n hx hb (dX11_told 6 rfl) rfl (lv_at hl 0 rfl) ?_
    refine va_getN (D := D) (ci := 5) (v := .int f_now_line_turn) (C := RX5) (T := TX5) (N := 14) hx hb hts inlX5 hown hK hP 2 rfl rfl 8 (by decide) (va_Nw.use rfl (hN _ (List.mem_of_getElem? (i := 3) rfl))) (fun _ h9 => h9) rfl (dX11_told 7 rfl) ?_
    exact hZ f_now_line_turn () H locs ls 48 hm hP hD hS (dX11_told 8 rfl) rfl
  replace hm := hm.2
  by_cases c2 : a1 = (1 : Int32)
  · refine lv_tableIn (tgt := 49) hx hb (dX11_told 5 rfl) (by rw [c2]; decide) (by rw [c2]; decide) (by rw [c2]; rfl) (by decide) ?_
    replace hm := hm.1 c2
    refine lv_aload_n hx hb (dX11_told 9 rfl) rfl (lv_at hl 0 rfl) ?_
    refine va_getN (D := D) (ci := 5) (v := .int f_now_line_yards) (C := RX5) (T := TX5) (N := 14) hx hb hts inlX5 hown hK hP 2 rfl rfl 9 (by decide) (va_Nw.use rfl (hN _ (List.mem_of_getElem? (i := 4) rfl))) (fun _ h9 => h9) rfl (dX11_told 10 rfl) ?_
    exact hZ f_now_line_yards () H locs ls 53 hm hP hD hS (dX11_told 11 rfl) rfl
  replace hm := hm.2
  by_cases c3 : a1 = (2 : Int32)
  · refine lv_tableIn (tgt := 54) hx hb (dX11_told 5 rfl) (by rw [c3]; decide) (by rw [c3]; decide) (by rw [c3]; rfl) (by decide) ?_
    replace hm := hm.1 c3
    refine lv_aload_n hx hb (dX11_told 12 rfl) rfl (lv_at hl 0 rfl) ?_
    refine va_getN (D := D) (ci := 5) (v := .int f_now_line_time) (C := RX5) (T := TX5) (N := 14) hx hb hts inlX5 hown hK hP 2 rfl rfl 10 (by decide) (va_Nw.use rfl (hN _ (List.mem_of_getElem? (i := 5) rfl))) (fun _ h9 => h9) rfl (dX11_told 13 rfl) ?_
    exact hZ f_now_line_time () H locs ls 58 hm hP hD hS (dX11_told 14 rfl) rfl
  replace hm := hm.2
  by_cases c4 : a1 = (3 : Int32)
  · refine lv_tableIn (tgt := 59) hx hb (dX11_told 5 rfl) (by rw [c4]; decide) (by rw [c4]; decide) (by rw [c4]; rfl) (by decide) ?_
    replace hm := hm.1 c4
    refine lv_aload_n hx hb (dX11_told 15 rfl) rfl (lv_at hl 0 rfl) ?_
    refine va_getN (D := D) (ci := 5) (v := .int f_now_line_gap) (C := RX5) (T := TX5) (N := 14) hx hb hts inlX5 hown hK hP 2 rfl rfl 11 (by decide) (va_Nw.use rfl (hN _ (List.mem_of_getElem? (i := 6) rfl))) (fun _ h9 => h9) rfl (dX11_told 16 rfl) ?_
    exact hZ f_now_line_gap () H locs ls 63 hm hP hD hS (dX11_told 17 rfl) rfl
  replace hm := hm.2
  by_cases c5 : a1 = (4 : Int32)
  · refine lv_tableIn (tgt := 64) hx hb (dX11_told 5 rfl) (by rw [c5]; decide) (by rw [c5]; decide) (by rw [c5]; rfl) (by decide) ?_
    replace hm := hm.1 c5
    refine lv_aload_n hx hb (dX11_told 18 rfl) rfl (lv_at hl 0 rfl) ?_
    refine va_getN (D := D) (ci := 5) (v := .int f_now_line_far) (C := RX5) (T := TX5) (N := 14) hx hb hts inlX5 hown hK hP 2 rfl rfl 12 (by decide) (va_Nw.use rfl (hN _ (List.mem_of_getElem? (i := 7) rfl))) (fun _ h9 => h9) rfl (dX11_told 19 rfl) ?_
    exact hZ f_now_line_far () H locs ls 68 hm hP hD hS (dX11_told 20 rfl) rfl
  replace hm := hm.2
  have c8 : a1.toInt < 0 ∨ 4 < a1.toInt := by skip; have z0 := ob_ne c1; rw [show ((0 : Int32)).toInt = 0 from by decide] at z0; have z1 := ob_ne c2; rw [show ((1 : Int32)).toInt = 1 from by decide] at z1; have z2 := ob_ne c3; rw [show ((2 : Int32)).toInt = 2 from by decide] at z2; have z3 := ob_ne c4; rw [show ((3 : Int32)).toInt = 3 from by decide] at z3; have z4 := ob_ne c5; rw [show ((4 : Int32)).toInt = 4 from by decide] at z4; omega
  refine lv_tableOut (tgt := 69) hx hb (dX11_told 5 rfl) c8 (by decide) ?_
  replace hm := hm c8
  refine lv_aload_n hx hb (dX11_told 21 rfl) rfl (lv_at hl 0 rfl) ?_
  refine lv_iload_n hx hb (dX11_told 22 rfl) rfl (lv_at hl 2 rfl) ?_
  refine lv_bipush (v := (10 : Int32)) hx hb (dX11_told 23 rfl) (by decide) ?_
  refine lv_isub hx hb (dX11_told 24 rfl) ?_
  have hcut := ob_cut (wc := [(q_now_line, .inr (5, [.ref q_now_line_people, .ref q_now_line_places, .ref q_now_line_breath, .ref q_now_line_rows, .ref q_now_line_seen, .ref q_now_line_ends, va_rf f_now_line_field, .int f_now_line_size, .int f_now_line_turn, .int f_now_line_yards, .int f_now_line_time, .int f_now_line_gap, .int f_now_line_far, .int f_now_line_flat])), (q_now_line_places, .inl (cI, 7, .inl r_now_line_places))]) hP hD hS hA [2, 3] rfl (by decide)
  refine ob_i (wr := [(h, .inr (11, [.ref q_now, .ref q_image, .ref q_trial, .ref q_trace, .ref q_tried, .ref q_best, .int f_imaged])), (q_now, .inr (9, [.ref q_now_line, .ref q_now_tape, .ref q_now_taken, .ref q_now_bookTurns, .ref q_now_bookTimes, .int f_now_fields]))]) (ob_V (As := [.int (a1 - (10 : Int32))]) (rest := []) ⟨hx, hb, hml, hown, hts⟩ hK hcut (hI.cut hS hcut.2.2) hN (va_recv hK hP (ci := 5) (q0 := 2) rfl rfl) (k_X5_standsAt l D cI cZ cL im _ _ _ _ _ _ _ _ _ _ _ _ _ _ _ _ _ _ _ hm) (cwV 1 hts (gU_V (inR21 _ (List.mem_of_getElem? (i := 3) rfl)) (inR21 _ (List.mem_of_getElem? (i := 4) rfl)) (inR21 _ (List.mem_of_getElem? (i := 5) rfl)) (inR1 _ (List.mem_of_getElem? (i := 19) rfl)) (inR21 _ (List.mem_of_getElem? (i := 6) rfl))) rfl rfl rfl (by decide +kernel) ⟨Nat.le_of_ble_eq_true rfl, Nat.le_of_ble_eq_true rfl⟩) rfl hl.1 rfl (Nat.le_of_ble_eq_true rfl) (dX11_told 25 rfl) ⟨Nat.zero_le _, Nat.zero_le _⟩) hP hD hS hcut [2, 3] [0, 1] rfl rfl (by decide) (by decide) (fun r6 u7 H locs hm hP hD hS => ?_)
  have hP := hP.sub (ws' := [(h, .inr (11, [.ref q_now, .ref q_image, .ref q_trial, .ref q_trace, .ref q_tried, .ref q_best, .int f_imaged])), (q_now, .inr (9, [.ref q_now_line, .ref q_now_tape, .ref q_now_taken, .ref q_now_bookTurns, .ref q_now_bookTimes, .int f_now_fields])), (q_now_line, .inr (5, [.ref q_now_line_people, .ref q_now_line_places, .ref q_now_line_breath, .ref q_now_line_rows, .ref q_now_line_seen, .ref q_now_line_ends, va_rf f_now_line_field, .int f_now_line_size, .int f_now_line_turn, .int f_now_line_yards, .int f_now_line_time, .int f_now_line_gap, .int f_now_line_far, .int f_now_line_flat])), (q_now_line_places, .inl (cI, 7, .inl r_now_line_places))]) [0, 1, 2, 3] rfl
  have hD := hD.sub (ws' := [(h, .inr (11, [.ref q_now, .ref q_image, .ref q_trial, .ref q_trace, .ref q_tried, .ref q_best, .int f_imaged])), (q_now, .inr (9, [.ref q_now_line, .ref q_now_tape, .ref q_now_taken, .ref q_now_bookTurns, .ref q_now_bookTimes, .int f_now_fields])), (q_now_line, .inr (5, [.ref q_now_line_people, .ref q_now_line_places, .ref q_now_line_breath, .ref q_now_line_rows, .ref q_now_line_seen, .ref q_now_line_ends, va_rf f_now_line_field, .int f_now_line_size, .int f_now_line_turn, .int f_now_line_yards, .int f_now_line_time, .int f_now_line_gap, .int f_now_line_far, .int f_now_line_flat])), (q_now_line_places, .inl (cI, 7, .inl r_now_line_places))]) [0, 1, 2, 3] (by decide) rfl
  exact hZ r6 () H locs ls 77 hm hP hD hS (dX11_told 26 rfl) rfl
abbrev rmX11_took : Room := { frames := 1, cells := 0, slots := 0, locals := 21 }
set_option maxHeartbeats 4000000 in
set_option maxRecDepth 100000 in
theorem k_X11_took (l : Launch) (D : va_G) (cI cZ cL : ClassId) (im : va_W) (sz : Nat) (h : Nat) (q_now : Nat) (q_image : Nat) (q_trial : Nat) (q_trace : Nat) (q_tried : Nat) (q_best : Nat) (f_imaged : Int32) (q_now_line : Nat) (q_now_tape : Nat) (q_now_taken : Nat) (q_now_bookTurns : Nat) (q_now_bookTimes : Nat) (f_now_fields : Int32) (q_now_taken_items : Nat) (f_now_taken_size : Int32) (f_now_taken_came : Int32) (r_now_taken_items : Nat → Int32) (a1 : Int32) (Q : Int32 → Int32 → Int32 → (Nat → Int32) → Prop) (hm : m_X11_took f_now_taken_size f_now_taken_came r_now_taken_items a1 Q) : Met l yX11_took (Cond.code yX11_took cX11_took 2 (some .int) :: wsL_law) rmX11_took (obPre D (tyG cI cZ cL) im [(h, .inr (11, [.ref q_now, .ref q_image, .ref q_trial, .ref q_trace, .ref q_tried, .ref q_best, .int f_imaged])), (q_now, .inr (9, [.ref q_now_line, .ref q_now_tape, .ref q_now_taken, .ref q_now_bookTurns, .ref q_now_bookTimes, .int f_now_fields])), (q_now_taken, .inr (7, [.ref q_now_taken_items, .int f_now_taken_size, .int f_now_taken_came])), (q_now_taken_items, .inl (cI, 6, .inl r_now_taken_items))] sz [.ref h, .int a1]) (va_Qi (fun (r : Int32) (u : Int32 × Int32 × (Nat → Int32)) => Q r u.1 u.2.1 u.2.2) (obB D (va_A [(h, .inr (11, [.ref q_now, .ref q_image, .ref q_trial, .ref q_trace, .ref q_tried, .ref q_best, .int f_imaged])), (q_now, .inr (9, [.ref q_now_line, .ref q_now_tape, .ref q_now_taken, .ref q_now_bookTurns, .ref q_now_bookTimes, .int f_now_fields])), (q_now_taken, .inr (7, [.ref q_now_taken_items, .int f_now_taken_size, .int f_now_taken_came])), (q_now_taken_items, .inl (cI, 6, .inl r_now_taken_items))] sz) (fun u : Int32 × Int32 × (Nat → Int32) => [(h, .inr (11, [.ref q_now, .ref q_image, .ref q_trial, .ref q_trace, .ref q_tried, .ref q_best, .int f_imaged])), (q_now, .inr (9, [.ref q_now_line, .ref q_now_tape, .ref q_now_taken, .ref q_now_bookTurns, .ref q_now_bookTimes, .int f_now_fields])), (q_now_taken, .inr (7, [.ref q_now_taken_items, .int u.1, .int u.2.1])), (q_now_taken_items, .inl (cI, 6, .inl u.2.2))])) (va_A [(h, .inr (11, [.ref q_now, .ref q_image, .ref q_trial, .ref q_trace, .ref q_tried, .ref q_best, .int f_imaged])), (q_now, .inr (9, [.ref q_now_line, .ref q_now_tape, .ref q_now_taken, .ref q_now_bookTurns, .ref q_now_bookTimes, .int f_now_fields])), (q_now_taken, .inr (7, [.ref q_now_taken_items, .int f_now_taken_size, .int f_now_taken_came])), (q_now_taken_items, .inl (cI, 6, .inl r_now_taken_items))] sz)) 0 0 (va_A [(h, .inr (11, [.ref q_now, .ref q_image, .ref q_trial, .ref q_trace, .ref q_tried, .ref q_best, .int f_imaged])), (q_now, .inr (9, [.ref q_now_line, .ref q_now_tape, .ref q_now_taken, .ref q_now_bookTurns, .ref q_now_bookTimes, .int f_now_fields])), (q_now_taken, .inr (7, [.ref q_now_taken_items, .int f_now_taken_size, .int f_now_taken_came])), (q_now_taken_items, .inl (cI, 6, .inl r_now_taken_items))] sz) := by
  refine ob_met_i (cc := cX11_took) (maxL := 2) (by decide) (Nat.le_of_ble_eq_true rfl) (fun p e s m args below meth c A Z hx hb hml hown hts hnm hN hK hA hI hP hD hS hZ ls hl => ?_)
  have hl : lv_has ls 2 [(0, .ref h), (1, .int a1)] := hl
  unfold m_X11_took at hm
  obtain ⟨H, hH⟩ : ∃ H, H = s.heap := ⟨_, rfl⟩
  obtain ⟨locs, hlo⟩ : ∃ q : List Loc, q = [] := ⟨_, rfl⟩
  suffices hgo : W p l e rmX11_took s m args below meth c H locs 0 0 Z (F0 m 0 ls []) by rw [hH, hlo] at hgo; exact hgo
  have hP : va_P D vwCl [(h, .inr (11, [.ref q_now, .ref q_image, .ref q_trial, .ref q_trace, .ref q_tried, .ref q_best, .int f_imaged])), (q_now, .inr (9, [.ref q_now_line, .ref q_now_tape, .ref q_now_taken, .ref q_now_bookTurns, .ref q_now_bookTimes, .int f_now_fields])), (q_now_taken, .inr (7, [.ref q_now_taken_items, .int f_now_taken_size, .int f_now_taken_came])), (q_now_taken_items, .inl (cI, 6, .inl r_now_taken_items))] H := by rw [hH]; exact hP
  have hD : va_D A [(h, .inr (11, [.ref q_now, .ref q_image, .ref q_trial, .ref q_trace, .ref q_tried, .ref q_best, .int f_imaged])), (q_now, .inr (9, [.ref q_now_line, .ref q_now_tape, .ref q_now_taken, .ref q_now_bookTurns, .ref q_now_bookTimes, .int f_now_fields])), (q_now_taken, .inr (7, [.ref q_now_taken_items, .int f_now_taken_size, .int f_now_taken_came])), (q_now_taken_items, .inl (cI, 6, .inl r_now_taken_items))] := hD
  have hS : va_S A s.heap H locs := by rw [hH, hlo]; exact hS
  refine lv_iload_n hx hb (dX11_took 0 rfl) rfl (lv_at hl 1 rfl) ?_
  refine lv_iconst (v := (-1 : Int32)) hx hb (dX11_took 1 rfl) (by decide) ?_
  refine lv_icmp_ne (tgt := 17) hx hb (dX11_took 2 rfl) (by decide) (fun c1 => ?_) (fun c1 => ?_)
  · replace hm := hm.2 c1
    refine lv_iload_n hx hb (dX11_took 9 rfl) rfl (lv_at hl 1 rfl) ?_
    refine lv_if_lt (tgt := 28) hx hb (dX11_took 10 rfl) (by decide) (fun c2 => ?_) (fun c2 => ?_)
    · replace hm := hm.1 c2
      refine lv_bipush (v := (-2 : Int32)) hx hb (dX11_took 14 rfl) (by decide) ?_
      exact hZ (-2 : Int32) (f_now_taken_size, f_now_taken_came, r_now_taken_items) H locs ls 30 hm hP hD hS (dX11_took 15 rfl) rfl
    replace hm := hm.2 c2
    refine lv_iload_n hx hb (dX11_took 11 rfl) rfl (lv_at hl 1 rfl) ?_
    refine lv_sipush (v := (9999 : Int32)) hx hb (dX11_took 12 rfl) (by decide) ?_
    refine lv_icmp_le (tgt := 31) hx hb (dX11_took 13 rfl) (by decide) (fun c3 => ?_) (fun c3 => ?_)
    · replace hm := hm.1 c3
      refine lv_aload_n hx hb (dX11_took 16 rfl) rfl (lv_at hl 0 rfl) ?_
      refine va_get (D := D) (ci := 11) (v := .ref q_now) (C := RX11) (T := TX11) (N := 7) hx hb hts inlX11 hown hK hP 0 rfl rfl 0 (by decide) (hts (.fieldLink RX11 12 "OverBacks" "now" "LOverBacks$State;") (inR1 _ (List.mem_of_getElem? (i := 15) rfl))) (fun _ h9 => h9) rfl (dX11_took 17 rfl) ?_
      refine va_getN (D := D) (ci := 9) (v := .ref q_now_taken) (C := RX9) (T := TX9) (N := 6) hx hb hts inlX9 hown hK hP 1 rfl rfl 2 (by decide) (va_Nw.use rfl (hN _ (List.mem_of_getElem? (i := 14) rfl))) (fun _ h9 => h9) rfl (dX11_took 18 rfl) ?_
      refine lv_iload_n hx hb (dX11_took 19 rfl) rfl (lv_at hl 1 rfl) ?_
      have hcut := ob_cut (wc := [(q_now_taken, .inr (7, [.ref q_now_taken_items, .int f_now_taken_size, .int f_now_taken_came])), (q_now_taken_items, .inl (cI, 6, .inl r_now_taken_items))]) hP hD hS hA [2, 3] rfl (by decide)
      refine ob_i (wr := [(h, .inr (11, [.ref q_now, .ref q_image, .ref q_trial, .ref q_trace, .ref q_tried, .ref q_best, .int f_imaged])), (q_now, .inr (9, [.ref q_now_line, .ref q_now_tape, .ref q_now_taken, .ref q_now_bookTurns, .ref q_now_bookTimes, .int f_now_fields]))]) (ob_V (As := [.int a1]) (rest := []) ⟨hx, hb, hml, hown, hts⟩ hK hcut (hI.cut hS hcut.2.2) hN (va_recv hK hP (ci := 7) (q0 := 2) rfl rfl) (k_X7_add l D cI cZ cL im _ _ _ _ _ _ _ _ _ hm) (cwV 1 hts (gU_V (inR4 _ (List.mem_of_getElem? (i := 13) rfl)) (inR4 _ (List.mem_of_getElem? (i := 14) rfl)) (inR4 _ (List.mem_of_getElem? (i := 15) rfl)) (inR1 _ (List.mem_of_getElem? (i := 23) rfl)) (inR4 _ (List.mem_of_getElem? (i := 16) rfl))) rfl rfl rfl (by decide +kernel) ⟨Nat.le_of_ble_eq_true rfl, Nat.le_of_ble_eq_true rfl⟩) rfl hl.1 rfl (Nat.le_of_ble_eq_true rfl) (dX11_took 20 rfl) ⟨Nat.zero_le _, Nat.zero_le _⟩) hP hD hS hcut [2, 3] [0, 1] rfl rfl (by decide) (by decide) (fun r4 u5 H locs hm hP hD hS => ?_)
      have hP := hP.sub (ws' := [(h, .inr (11, [.ref q_now, .ref q_image, .ref q_trial, .ref q_trace, .ref q_tried, .ref q_best, .int f_imaged])), (q_now, .inr (9, [.ref q_now_line, .ref q_now_tape, .ref q_now_taken, .ref q_now_bookTurns, .ref q_now_bookTimes, .int f_now_fields])), (q_now_taken, .inr (7, [.ref q_now_taken_items, .int u5.1, .int u5.2.1])), (q_now_taken_items, .inl (cI, 6, .inl u5.2.2))]) [0, 1, 2, 3] rfl
      have hD := hD.sub (ws' := [(h, .inr (11, [.ref q_now, .ref q_image, .ref q_trial, .ref q_trace, .ref q_tried, .ref q_best, .int f_imaged])), (q_now, .inr (9, [.ref q_now_line, .ref q_now_tape, .ref q_now_taken, .ref q_now_bookTurns, .ref q_now_bookTimes, .int f_now_fields])), (q_now_taken, .inr (7, [.ref q_now_taken_items, .int u5.1, .int u5.2.1])), (q_now_taken_items, .inl (cI, 6, .inl u5.2.2))]) [0, 1, 2, 3] (by decide) rfl
      refine lv_if_ne (tgt := 48) hx hb (dX11_took 21 rfl) (by decide) (fun c9 => ?_) (fun c9 => ?_)
      · replace hm := hm.2 c9
        refine lv_aload_n hx hb (dX11_took 24 rfl) rfl (lv_at hl 0 rfl) ?_
        refine va_get (D := D) (ci := 11) (v := .ref q_now) (C := RX11) (T := TX11) (N := 7) hx hb hts inlX11 hown hK hP 0 rfl rfl 0 (by decide) (hts (.fieldLink RX11 12 "OverBacks" "now" "LOverBacks$State;") (inR1 _ (List.mem_of_getElem? (i := 15) rfl))) (fun _ h9 => h9) rfl (dX11_took 25 rfl) ?_
        refine va_getN (D := D) (ci := 9) (v := .ref q_now_taken) (C := RX9) (T := TX9) (N := 6) hx hb hts inlX9 hown hK hP 1 rfl rfl 2 (by decide) (va_Nw.use rfl (hN _ (List.mem_of_getElem? (i := 14) rfl))) (fun _ h9 => h9) rfl (dX11_took 26 rfl) ?_
        refine va_getN (D := D) (ci := 7) (v := .int u5.1) (C := RX7) (T := TX7) (N := 3) hx hb hts inlX7 hown hK hP 2 rfl rfl 1 (by decide) (va_Nw.use rfl (hN _ (List.mem_of_getElem? (i := 10) rfl))) (fun _ h9 => h9) rfl (dX11_took 27 rfl) ?_
        exact hZ u5.1 (u5.1, u5.2.1, u5.2.2) H locs ls 58 hm hP hD hS (dX11_took 28 rfl) rfl
      replace hm := hm.1 c9
      refine lv_bipush (v := (-4 : Int32)) hx hb (dX11_took 22 rfl) (by decide) ?_
      exact hZ (-4 : Int32) (u5.1, u5.2.1, u5.2.2) H locs ls 47 hm hP hD hS (dX11_took 23 rfl) rfl
    replace hm := hm.2 c3
    refine lv_bipush (v := (-2 : Int32)) hx hb (dX11_took 14 rfl) (by decide) ?_
    exact hZ (-2 : Int32) (f_now_taken_size, f_now_taken_came, r_now_taken_items) H locs ls 30 hm hP hD hS (dX11_took 15 rfl) rfl
  replace hm := hm.1 c1
  refine lv_aload_n hx hb (dX11_took 3 rfl) rfl (lv_at hl 0 rfl) ?_
  refine va_get (D := D) (ci := 11) (v := .ref q_now) (C := RX11) (T := TX11) (N := 7) hx hb hts inlX11 hown hK hP 0 rfl rfl 0 (by decide) (hts (.fieldLink RX11 12 "OverBacks" "now" "LOverBacks$State;") (inR1 _ (List.mem_of_getElem? (i := 15) rfl))) (fun _ h9 => h9) rfl (dX11_took 4 rfl) ?_
  refine va_getN (D := D) (ci := 9) (v := .ref q_now_taken) (C := RX9) (T := TX9) (N := 6) hx hb hts inlX9 hown hK hP 1 rfl rfl 2 (by decide) (va_Nw.use rfl (hN _ (List.mem_of_getElem? (i := 14) rfl))) (fun _ h9 => h9) rfl (dX11_took 5 rfl) ?_
  have hcut := ob_cut (wc := [(q_now_taken, .inr (7, [.ref q_now_taken_items, .int f_now_taken_size, .int f_now_taken_came]))]) hP hD hS hA [2] rfl (by decide)
  refine ob_v (wr := [(h, .inr (11, [.ref q_now, .ref q_image, .ref q_trial, .ref q_trace, .ref q_tried, .ref q_best, .int f_imaged])), (q_now, .inr (9, [.ref q_now_line, .ref q_now_tape, .ref q_now_taken, .ref q_now_bookTurns, .ref q_now_bookTimes, .int f_now_fields])), (q_now_taken_items, .inl (cI, 6, .inl r_now_taken_items))]) (ob_V (As := []) (rest := []) ⟨hx, hb, hml, hown, hts⟩ hK hcut (hI.cut hS hcut.2.2) hN (va_recv hK hP (ci := 7) (q0 := 2) rfl rfl) (k_X7_clear l D cI cZ cL im _ _ _ _ _ _ hm) (cwV 0 hts (gU_V (inR10 _ (List.mem_of_getElem? (i := 6) rfl)) (inR10 _ (List.mem_of_getElem? (i := 7) rfl)) (inR10 _ (List.mem_of_getElem? (i := 8) rfl)) (inR1 _ (List.mem_of_getElem? (i := 23) rfl)) (inR10 _ (List.mem_of_getElem? (i := 9) rfl))) rfl rfl rfl (by decide +kernel) ⟨Nat.le_of_ble_eq_true rfl, Nat.le_of_ble_eq_true rfl⟩) rfl hl.1 rfl (Nat.le_of_ble_eq_true rfl) (dX11_took 6 rfl) ⟨Nat.zero_le _, Nat.zero_le _⟩) hP hD hS hcut [2] [0, 1, 3] rfl rfl (by decide) (by decide) (fun u11 H locs hm hP hD hS => ?_)
  have hP := hP.sub (ws' := [(h, .inr (11, [.ref q_now, .ref q_image, .ref q_trial, .ref q_trace, .ref q_tried, .ref q_best, .int f_imaged])), (q_now, .inr (9, [.ref q_now_line, .ref q_now_tape, .ref q_now_taken, .ref q_now_bookTurns, .ref q_now_bookTimes, .int f_now_fields])), (q_now_taken, .inr (7, [.ref q_now_taken_items, .int u11.1, .int u11.2])), (q_now_taken_items, .inl (cI, 6, .inl r_now_taken_items))]) [0, 1, 3, 2] rfl
  have hD := hD.sub (ws' := [(h, .inr (11, [.ref q_now, .ref q_image, .ref q_trial, .ref q_trace, .ref q_tried, .ref q_best, .int f_imaged])), (q_now, .inr (9, [.ref q_now_line, .ref q_now_tape, .ref q_now_taken, .ref q_now_bookTurns, .ref q_now_bookTimes, .int f_now_fields])), (q_now_taken, .inr (7, [.ref q_now_taken_items, .int u11.1, .int u11.2])), (q_now_taken_items, .inl (cI, 6, .inl r_now_taken_items))]) [0, 1, 3, 2] (by decide) rfl
  refine lv_iconst (v := (0 : Int32)) hx hb (dX11_took 7 rfl) (by decide) ?_
  exact hZ (0 : Int32) (u11.1, u11.2, r_now_taken_items) H locs ls 16 hm hP hD hS (dX11_took 8 rfl) rfl
abbrev rmX11_book : Room := { frames := 1, cells := 0, slots := 0, locals := 21 }
set_option maxHeartbeats 4000000 in
set_option maxRecDepth 100000 in
theorem k_X11_book (l : Launch) (D : va_G) (cI cZ cL : ClassId) (im : va_W) (sz : Nat) (h : Nat) (q_now : Nat) (q_image : Nat) (q_trial : Nat) (q_trace : Nat) (q_tried : Nat) (q_best : Nat) (f_imaged : Int32) (q_now_line : Nat) (q_now_tape : Nat) (q_now_taken : Nat) (q_now_bookTurns : Nat) (q_now_bookTimes : Nat) (f_now_fields : Int32) (q_now_bookTurns_items : Nat) (f_now_bookTurns_size : Int32) (f_now_bookTurns_came : Int32) (r_now_bookTurns_items : Nat → Int32) (q_now_bookTimes_items : Nat) (f_now_bookTimes_size : Int32) (f_now_bookTimes_came : Int32) (r_now_bookTimes_items : Nat → Int32) (a1 : Int32) (a2 : Int32) (Q : Int32 → Int32 → Int32 → (Nat → Int32) → Int32 → Int32 → (Nat → Int32) → Prop) (hm : m_X11_book f_now_bookTurns_size f_now_bookTurns_came r_now_bookTurns_items f_now_bookTimes_size f_now_bookTimes_came r_now_bookTimes_items a1 a2 Q) : Met l yX11_book (Cond.code yX11_book cX11_book 3 (some .int) :: wsL_law) rmX11_book (obPre D (tyG cI cZ cL) im [(h, .inr (11, [.ref q_now, .ref q_image, .ref q_trial, .ref q_trace, .ref q_tried, .ref q_best, .int f_imaged])), (q_now, .inr (9, [.ref q_now_line, .ref q_now_tape, .ref q_now_taken, .ref q_now_bookTurns, .ref q_now_bookTimes, .int f_now_fields])), (q_now_bookTurns, .inr (7, [.ref q_now_bookTurns_items, .int f_now_bookTurns_size, .int f_now_bookTurns_came])), (q_now_bookTurns_items, .inl (cI, 8, .inl r_now_bookTurns_items)), (q_now_bookTimes, .inr (7, [.ref q_now_bookTimes_items, .int f_now_bookTimes_size, .int f_now_bookTimes_came])), (q_now_bookTimes_items, .inl (cI, 8, .inl r_now_bookTimes_items))] sz [.ref h, .int a1, .int a2]) (va_Qi (fun (r : Int32) (u : Int32 × Int32 × (Nat → Int32) × Int32 × Int32 × (Nat → Int32)) => Q r u.1 u.2.1 u.2.2.1 u.2.2.2.1 u.2.2.2.2.1 u.2.2.2.2.2) (obB D (va_A [(h, .inr (11, [.ref q_now, .ref q_image, .ref q_trial, .ref q_trace, .ref q_tried, .ref q_best, .int f_imaged])), (q_now, .inr (9, [.ref q_now_line, .ref q_now_tape, .ref q_now_taken, .ref q_now_bookTurns, .ref q_now_bookTimes, .int f_now_fields])), (q_now_bookTurns, .inr (7, [.ref q_now_bookTurns_items, .int f_now_bookTurns_size, .int f_now_bookTurns_came])), (q_now_bookTurns_items, .inl (cI, 8, .inl r_now_bookTurns_items)), (q_now_bookTimes, .inr (7, [.ref q_now_bookTimes_items, .int f_now_bookTimes_size, .int f_now_bookTimes_came])), (q_now_bookTimes_items, .inl (cI, 8, .inl r_now_bookTimes_items))] sz) (fun u : Int32 × Int32 × (Nat → Int32) × Int32 × Int32 × (Nat → Int32) => [(h, .inr (11, [.ref q_now, .ref q_image, .ref q_trial, .ref q_trace, .ref q_tried, .ref q_best, .int f_imaged])), (q_now, .inr (9, [.ref q_now_line, .ref q_now_tape, .ref q_now_taken, .ref q_now_bookTurns, .ref q_now_bookTimes, .int f_now_fields])), (q_now_bookTurns, .inr (7, [.ref q_now_bookTurns_items, .int u.1, .int u.2.1])), (q_now_bookTurns_items, .inl (cI, 8, .inl u.2.2.1)), (q_now_bookTimes, .inr (7, [.ref q_now_bookTimes_items, .int u.2.2.2.1, .int u.2.2.2.2.1])), (q_now_bookTimes_items, .inl (cI, 8, .inl u.2.2.2.2.2))])) (va_A [(h, .inr (11, [.ref q_now, .ref q_image, .ref q_trial, .ref q_trace, .ref q_tried, .ref q_best, .int f_imaged])), (q_now, .inr (9, [.ref q_now_line, .ref q_now_tape, .ref q_now_taken, .ref q_now_bookTurns, .ref q_now_bookTimes, .int f_now_fields])), (q_now_bookTurns, .inr (7, [.ref q_now_bookTurns_items, .int f_now_bookTurns_size, .int f_now_bookTurns_came])), (q_now_bookTurns_items, .inl (cI, 8, .inl r_now_bookTurns_items)), (q_now_bookTimes, .inr (7, [.ref q_now_bookTimes_items, .int f_now_bookTimes_size, .int f_now_bookTimes_came])), (q_now_bookTimes_items, .inl (cI, 8, .inl r_now_bookTimes_items))] sz)) 0 0 (va_A [(h, .inr (11, [.ref q_now, .ref q_image, .ref q_trial, .ref q_trace, .ref q_tried, .ref q_best, .int f_imaged])), (q_now, .inr (9, [.ref q_now_line, .ref q_now_tape, .ref q_now_taken, .ref q_now_bookTurns, .ref q_now_bookTimes, .int f_now_fields])), (q_now_bookTurns, .inr (7, [.ref q_now_bookTurns_items, .int f_now_bookTurns_size, .int f_now_bookTurns_came])), (q_now_bookTurns_items, .inl (cI, 8, .inl r_now_bookTurns_items)), (q_now_bookTimes, .inr (7, [.ref q_now_bookTimes_items, .int f_now_bookTimes_size, .int f_now_bookTimes_came])), (q_now_bookTimes_items, .inl (cI, 8, .inl r_now_bookTimes_items))] sz) := by
  refine ob_met_i (cc := cX11_book) (maxL := 3) (by decide) (Nat.le_of_ble_eq_true rfl) (fun p e s m args below meth c A Z hx hb hml hown hts hnm hN hK hA hI hP hD hS hZ ls hl => ?_)
  have hl : lv_has ls 3 [(0, .ref h), (1, .int a1), (2, .int a2)] := hl
  unfold m_X11_book at hm
  obtain ⟨H, hH⟩ : ∃ H, H = s.heap := ⟨_, rfl⟩
  obtain ⟨locs, hlo⟩ : ∃ q : List Loc, q = [] := ⟨_, rfl⟩
  suffices hgo : W p l e rmX11_book s m args below meth c H locs 0 0 Z (F0 m 0 ls []) by rw [hH, hlo] at hgo; exact hgo
  have hP : va_P D vwCl [(h, .inr (11, [.ref q_now, .ref q_image, .ref q_trial, .ref q_trace, .ref q_tried, .ref q_best, .int f_imaged])), (q_now, .inr (9, [.ref q_now_line, .ref q_now_tape, .ref q_now_taken, .ref q_now_bookTurns, .ref q_now_bookTimes, .int f_now_fields])), (q_now_bookTurns, .inr (7, [.ref q_now_bookTurns_items, .int f_now_bookTurns_size, .int f_now_bookTurns_came])), (q_now_bookTurns_items, .inl (cI, 8, .inl r_now_bookTurns_items)), (q_now_bookTimes, .inr (7, [.ref q_now_bookTimes_items, .int f_now_bookTimes_size, .int f_now_bookTimes_came])), (q_now_bookTimes_items, .inl (cI, 8, .inl r_now_bookTimes_items))] H := by rw [hH]; exact hP
  have hD : va_D A [(h, .inr (11, [.ref q_now, .ref q_image, .ref q_trial, .ref q_trace, .ref q_tried, .ref q_best, .int f_imaged])), (q_now, .inr (9, [.ref q_now_line, .ref q_now_tape, .ref q_now_taken, .ref q_now_bookTurns, .ref q_now_bookTimes, .int f_now_fields])), (q_now_bookTurns, .inr (7, [.ref q_now_bookTurns_items, .int f_now_bookTurns_size, .int f_now_bookTurns_came])), (q_now_bookTurns_items, .inl (cI, 8, .inl r_now_bookTurns_items)), (q_now_bookTimes, .inr (7, [.ref q_now_bookTimes_items, .int f_now_bookTimes_size, .int f_now_bookTimes_came])), (q_now_bookTimes_items, .inl (cI, 8, .inl r_now_bookTimes_items))] := hD
  have hS : va_S A s.heap H locs := by rw [hH, hlo]; exact hS
  refine lv_iload_n hx hb (dX11_book 0 rfl) rfl (lv_at hl 1 rfl) ?_
  refine lv_iconst (v := (-1 : Int32)) hx hb (dX11_book 1 rfl) (by decide) ?_
  refine lv_icmp_ne (tgt := 27) hx hb (dX11_book 2 rfl) (by decide) (fun c1 => ?_) (fun c1 => ?_)
  · replace hm := hm.2 c1
    refine lv_iload_n hx hb (dX11_book 13 rfl) rfl (lv_at hl 1 rfl) ?_
    refine lv_if_lt (tgt := 47) hx hb (dX11_book 14 rfl) (by decide) (fun c2 => ?_) (fun c2 => ?_)
    · replace hm := hm.1 c2
      refine lv_bipush (v := (-2 : Int32)) hx hb (dX11_book 23 rfl) (by decide) ?_
      exact hZ (-2 : Int32) (f_now_bookTurns_size, f_now_bookTurns_came, r_now_bookTurns_items, f_now_bookTimes_size, f_now_bookTimes_came, r_now_bookTimes_items) H locs ls 49 hm hP hD hS (dX11_book 24 rfl) rfl
    replace hm := hm.2 c2
    refine lv_iload_n hx hb (dX11_book 15 rfl) rfl (lv_at hl 1 rfl) ?_
    refine lv_bipush (v := (60 : Int32)) hx hb (dX11_book 16 rfl) (by decide) ?_
    refine lv_icmp_gt (tgt := 47) hx hb (dX11_book 17 rfl) (by decide) (fun c3 => ?_) (fun c3 => ?_)
    · replace hm := hm.1 c3
      refine lv_bipush (v := (-2 : Int32)) hx hb (dX11_book 23 rfl) (by decide) ?_
      exact hZ (-2 : Int32) (f_now_bookTurns_size, f_now_bookTurns_came, r_now_bookTurns_items, f_now_bookTimes_size, f_now_bookTimes_came, r_now_bookTimes_items) H locs ls 49 hm hP hD hS (dX11_book 24 rfl) rfl
    replace hm := hm.2 c3
    refine lv_iload_n hx hb (dX11_book 18 rfl) rfl (lv_at hl 2 rfl) ?_
    refine lv_if_lt (tgt := 47) hx hb (dX11_book 19 rfl) (by decide) (fun c4 => ?_) (fun c4 => ?_)
    · replace hm := hm.1 c4
      refine lv_bipush (v := (-2 : Int32)) hx hb (dX11_book 23 rfl) (by decide) ?_
      exact hZ (-2 : Int32) (f_now_bookTurns_size, f_now_bookTurns_came, r_now_bookTurns_items, f_now_bookTimes_size, f_now_bookTimes_came, r_now_bookTimes_items) H locs ls 49 hm hP hD hS (dX11_book 24 rfl) rfl
    replace hm := hm.2 c4
    refine lv_iload_n hx hb (dX11_book 20 rfl) rfl (lv_at hl 2 rfl) ?_
    refine lv_ldc (own := RX11) (index := 211) (v := (99999 : Int32)) hx hb hown (hts (.constant RX11 211 (99999)) (inR35 _ (List.mem_of_getElem? (i := 0) rfl))) (dX11_book 21 rfl) ?_
    refine lv_icmp_le (tgt := 50) hx hb (dX11_book 22 rfl) (by decide) (fun c5 => ?_) (fun c5 => ?_)
    · replace hm := hm.1 c5
      refine lv_aload_n hx hb (dX11_book 25 rfl) rfl (lv_at hl 0 rfl) ?_
      refine va_get (D := D) (ci := 11) (v := .ref q_now) (C := RX11) (T := TX11) (N := 7) hx hb hts inlX11 hown hK hP 0 rfl rfl 0 (by decide) (hts (.fieldLink RX11 12 "OverBacks" "now" "LOverBacks$State;") (inR1 _ (List.mem_of_getElem? (i := 15) rfl))) (fun _ h9 => h9) rfl (dX11_book 26 rfl) ?_
      refine va_getN (D := D) (ci := 9) (v := .ref q_now_bookTurns) (C := RX9) (T := TX9) (N := 6) hx hb hts inlX9 hown hK hP 1 rfl rfl 3 (by decide) (va_Nw.use rfl (hN _ (List.mem_of_getElem? (i := 15) rfl))) (fun _ h9 => h9) rfl (dX11_book 27 rfl) ?_
      refine lv_iload_n hx hb (dX11_book 28 rfl) rfl (lv_at hl 1 rfl) ?_
      have hcut := ob_cut (wc := [(q_now_bookTurns, .inr (7, [.ref q_now_bookTurns_items, .int f_now_bookTurns_size, .int f_now_bookTurns_came])), (q_now_bookTurns_items, .inl (cI, 8, .inl r_now_bookTurns_items))]) hP hD hS hA [2, 3] rfl (by decide)
      refine ob_i (wr := [(h, .inr (11, [.ref q_now, .ref q_image, .ref q_trial, .ref q_trace, .ref q_tried, .ref q_best, .int f_imaged])), (q_now, .inr (9, [.ref q_now_line, .ref q_now_tape, .ref q_now_taken, .ref q_now_bookTurns, .ref q_now_bookTimes, .int f_now_fields])), (q_now_bookTimes, .inr (7, [.ref q_now_bookTimes_items, .int f_now_bookTimes_size, .int f_now_bookTimes_came])), (q_now_bookTimes_items, .inl (cI, 8, .inl r_now_bookTimes_items))]) (ob_V (As := [.int a1]) (rest := []) ⟨hx, hb, hml, hown, hts⟩ hK hcut (hI.cut hS hcut.2.2) hN (va_recv hK hP (ci := 7) (q0 := 2) rfl rfl) (k_X7_add l D cI cZ cL im _ _ _ _ _ _ _ _ _ hm) (cwV 1 hts (gU_V (inR4 _ (List.mem_of_getElem? (i := 13) rfl)) (inR4 _ (List.mem_of_getElem? (i := 14) rfl)) (inR4 _ (List.mem_of_getElem? (i := 15) rfl)) (inR1 _ (List.mem_of_getElem? (i := 23) rfl)) (inR4 _ (List.mem_of_getElem? (i := 16) rfl))) rfl rfl rfl (by decide +kernel) ⟨Nat.le_of_ble_eq_true rfl, Nat.le_of_ble_eq_true rfl⟩) rfl hl.1 rfl (Nat.le_of_ble_eq_true rfl) (dX11_book 29 rfl) ⟨Nat.zero_le _, Nat.zero_le _⟩) hP hD hS hcut [2, 3] [0, 1, 4, 5] rfl rfl (by decide) (by decide) (fun r6 u7 H locs hm hP hD hS => ?_)
      have hP := hP.sub (ws' := [(h, .inr (11, [.ref q_now, .ref q_image, .ref q_trial, .ref q_trace, .ref q_tried, .ref q_best, .int f_imaged])), (q_now, .inr (9, [.ref q_now_line, .ref q_now_tape, .ref q_now_taken, .ref q_now_bookTurns, .ref q_now_bookTimes, .int f_now_fields])), (q_now_bookTurns, .inr (7, [.ref q_now_bookTurns_items, .int u7.1, .int u7.2.1])), (q_now_bookTurns_items, .inl (cI, 8, .inl u7.2.2)), (q_now_bookTimes, .inr (7, [.ref q_now_bookTimes_items, .int f_now_bookTimes_size, .int f_now_bookTimes_came])), (q_now_bookTimes_items, .inl (cI, 8, .inl r_now_bookTimes_items))]) [0, 1, 4, 5, 2, 3] rfl
      have hD := hD.sub (ws' := [(h, .inr (11, [.ref q_now, .ref q_image, .ref q_trial, .ref q_trace, .ref q_tried, .ref q_best, .int f_imaged])), (q_now, .inr (9, [.ref q_now_line, .ref q_now_tape, .ref q_now_taken, .ref q_now_bookTurns, .ref q_now_bookTimes, .int f_now_fields])), (q_now_bookTurns, .inr (7, [.ref q_now_bookTurns_items, .int u7.1, .int u7.2.1])), (q_now_bookTurns_items, .inl (cI, 8, .inl u7.2.2)), (q_now_bookTimes, .inr (7, [.ref q_now_bookTimes_items, .int f_now_bookTimes_size, .int f_now_bookTimes_came])), (q_now_bookTimes_items, .inl (cI, 8, .inl r_now_bookTimes_items))]) [0, 1, 4, 5, 2, 3] (by decide) rfl
      refine lv_if_ne (tgt := 67) hx hb (dX11_book 30 rfl) (by decide) (fun c11 => ?_) (fun c11 => ?_)
      · replace hm := hm.2 c11
        refine lv_aload_n hx hb (dX11_book 33 rfl) rfl (lv_at hl 0 rfl) ?_
        refine va_get (D := D) (ci := 11) (v := .ref q_now) (C := RX11) (T := TX11) (N := 7) hx hb hts inlX11 hown hK hP 0 rfl rfl 0 (by decide) (hts (.fieldLink RX11 12 "OverBacks" "now" "LOverBacks$State;") (inR1 _ (List.mem_of_getElem? (i := 15) rfl))) (fun _ h9 => h9) rfl (dX11_book 34 rfl) ?_
        refine va_getN (D := D) (ci := 9) (v := .ref q_now_bookTimes) (C := RX9) (T := TX9) (N := 6) hx hb hts inlX9 hown hK hP 1 rfl rfl 4 (by decide) (va_Nw.use rfl (hN _ (List.mem_of_getElem? (i := 16) rfl))) (fun _ h9 => h9) rfl (dX11_book 35 rfl) ?_
        refine lv_iload_n hx hb (dX11_book 36 rfl) rfl (lv_at hl 2 rfl) ?_
        have hcut := ob_cut (wc := [(q_now_bookTimes, .inr (7, [.ref q_now_bookTimes_items, .int f_now_bookTimes_size, .int f_now_bookTimes_came])), (q_now_bookTimes_items, .inl (cI, 8, .inl r_now_bookTimes_items))]) hP hD hS hA [4, 5] rfl (by decide)
        refine ob_i (wr := [(h, .inr (11, [.ref q_now, .ref q_image, .ref q_trial, .ref q_trace, .ref q_tried, .ref q_best, .int f_imaged])), (q_now, .inr (9, [.ref q_now_line, .ref q_now_tape, .ref q_now_taken, .ref q_now_bookTurns, .ref q_now_bookTimes, .int f_now_fields])), (q_now_bookTurns, .inr (7, [.ref q_now_bookTurns_items, .int u7.1, .int u7.2.1])), (q_now_bookTurns_items, .inl (cI, 8, .inl u7.2.2))]) (ob_V (As := [.int a2]) (rest := []) ⟨hx, hb, hml, hown, hts⟩ hK hcut (hI.cut hS hcut.2.2) hN (va_recv hK hP (ci := 7) (q0 := 4) rfl rfl) (k_X7_add l D cI cZ cL im _ _ _ _ _ _ _ _ _ hm) (cwV 1 hts (gU_V (inR4 _ (List.mem_of_getElem? (i := 13) rfl)) (inR4 _ (List.mem_of_getElem? (i := 14) rfl)) (inR4 _ (List.mem_of_getElem? (i := 15) rfl)) (inR1 _ (List.mem_of_getElem? (i := 23) rfl)) (inR4 _ (List.mem_of_getElem? (i := 16) rfl))) rfl rfl rfl (by decide +kernel) ⟨Nat.le_of_ble_eq_true rfl, Nat.le_of_ble_eq_true rfl⟩) rfl hl.1 rfl (Nat.le_of_ble_eq_true rfl) (dX11_book 37 rfl) ⟨Nat.zero_le _, Nat.zero_le _⟩) hP hD hS hcut [4, 5] [0, 1, 2, 3] rfl rfl (by decide) (by decide) (fun r12 u13 H locs hm hP hD hS => ?_)
        have hP := hP.sub (ws' := [(h, .inr (11, [.ref q_now, .ref q_image, .ref q_trial, .ref q_trace, .ref q_tried, .ref q_best, .int f_imaged])), (q_now, .inr (9, [.ref q_now_line, .ref q_now_tape, .ref q_now_taken, .ref q_now_bookTurns, .ref q_now_bookTimes, .int f_now_fields])), (q_now_bookTurns, .inr (7, [.ref q_now_bookTurns_items, .int u7.1, .int u7.2.1])), (q_now_bookTurns_items, .inl (cI, 8, .inl u7.2.2)), (q_now_bookTimes, .inr (7, [.ref q_now_bookTimes_items, .int u13.1, .int u13.2.1])), (q_now_bookTimes_items, .inl (cI, 8, .inl u13.2.2))]) [0, 1, 2, 3, 4, 5] rfl
        have hD := hD.sub (ws' := [(h, .inr (11, [.ref q_now, .ref q_image, .ref q_trial, .ref q_trace, .ref q_tried, .ref q_best, .int f_imaged])), (q_now, .inr (9, [.ref q_now_line, .ref q_now_tape, .ref q_now_taken, .ref q_now_bookTurns, .ref q_now_bookTimes, .int f_now_fields])), (q_now_bookTurns, .inr (7, [.ref q_now_bookTurns_items, .int u7.1, .int u7.2.1])), (q_now_bookTurns_items, .inl (cI, 8, .inl u7.2.2)), (q_now_bookTimes, .inr (7, [.ref q_now_bookTimes_items, .int u13.1, .int u13.2.1])), (q_now_bookTimes_items, .inl (cI, 8, .inl u13.2.2))]) [0, 1, 2, 3, 4, 5] (by decide) rfl
        refine lv_pop hx hb (dX11_book 38 rfl) rfl ?_
        refine lv_aload_n hx hb (dX11_book 39 rfl) rfl (lv_at hl 0 rfl) ?_
        refine va_get (D := D) (ci := 11) (v := .ref q_now) (C := RX11) (T := TX11) (N := 7) hx hb hts inlX11 hown hK hP 0 rfl rfl 0 (by decide) (hts (.fieldLink RX11 12 "OverBacks" "now" "LOverBacks$State;") (inR1 _ (List.mem_of_getElem? (i := 15) rfl))) (fun _ h9 => h9) rfl (dX11_book 40 rfl) ?_
        refine va_getN (D := D) (ci := 9) (v := .ref q_now_bookTurns) (C := RX9) (T := TX9) (N := 6) hx hb hts inlX9 hown hK hP 1 rfl rfl 3 (by decide) (va_Nw.use rfl (hN _ (List.mem_of_getElem? (i := 15) rfl))) (fun _ h9 => h9) rfl (dX11_book 41 rfl) ?_
        refine va_getN (D := D) (ci := 7) (v := .int u7.1) (C := RX7) (T := TX7) (N := 3) hx hb hts inlX7 hown hK hP 2 rfl rfl 1 (by decide) (va_Nw.use rfl (hN _ (List.mem_of_getElem? (i := 10) rfl))) (fun _ h9 => h9) rfl (dX11_book 42 rfl) ?_
        exact hZ u7.1 (u7.1, u7.2.1, u7.2.2, u13.1, u13.2.1, u13.2.2) H locs ls 89 hm hP hD hS (dX11_book 43 rfl) rfl
      replace hm := hm.1 c11
      refine lv_bipush (v := (-4 : Int32)) hx hb (dX11_book 31 rfl) (by decide) ?_
      exact hZ (-4 : Int32) (u7.1, u7.2.1, u7.2.2, f_now_bookTimes_size, f_now_bookTimes_came, r_now_bookTimes_items) H locs ls 66 hm hP hD hS (dX11_book 32 rfl) rfl
    replace hm := hm.2 c5
    refine lv_bipush (v := (-2 : Int32)) hx hb (dX11_book 23 rfl) (by decide) ?_
    exact hZ (-2 : Int32) (f_now_bookTurns_size, f_now_bookTurns_came, r_now_bookTurns_items, f_now_bookTimes_size, f_now_bookTimes_came, r_now_bookTimes_items) H locs ls 49 hm hP hD hS (dX11_book 24 rfl) rfl
  replace hm := hm.1 c1
  refine lv_aload_n hx hb (dX11_book 3 rfl) rfl (lv_at hl 0 rfl) ?_
  refine va_get (D := D) (ci := 11) (v := .ref q_now) (C := RX11) (T := TX11) (N := 7) hx hb hts inlX11 hown hK hP 0 rfl rfl 0 (by decide) (hts (.fieldLink RX11 12 "OverBacks" "now" "LOverBacks$State;") (inR1 _ (List.mem_of_getElem? (i := 15) rfl))) (fun _ h9 => h9) rfl (dX11_book 4 rfl) ?_
  refine va_getN (D := D) (ci := 9) (v := .ref q_now_bookTurns) (C := RX9) (T := TX9) (N := 6) hx hb hts inlX9 hown hK hP 1 rfl rfl 3 (by decide) (va_Nw.use rfl (hN _ (List.mem_of_getElem? (i := 15) rfl))) (fun _ h9 => h9) rfl (dX11_book 5 rfl) ?_
  have hcut := ob_cut (wc := [(q_now_bookTurns, .inr (7, [.ref q_now_bookTurns_items, .int f_now_bookTurns_size, .int f_now_bookTurns_came]))]) hP hD hS hA [2] rfl (by decide)
  refine ob_v (wr := [(h, .inr (11, [.ref q_now, .ref q_image, .ref q_trial, .ref q_trace, .ref q_tried, .ref q_best, .int f_imaged])), (q_now, .inr (9, [.ref q_now_line, .ref q_now_tape, .ref q_now_taken, .ref q_now_bookTurns, .ref q_now_bookTimes, .int f_now_fields])), (q_now_bookTurns_items, .inl (cI, 8, .inl r_now_bookTurns_items)), (q_now_bookTimes, .inr (7, [.ref q_now_bookTimes_items, .int f_now_bookTimes_size, .int f_now_bookTimes_came])), (q_now_bookTimes_items, .inl (cI, 8, .inl r_now_bookTimes_items))]) (ob_V (As := []) (rest := []) ⟨hx, hb, hml, hown, hts⟩ hK hcut (hI.cut hS hcut.2.2) hN (va_recv hK hP (ci := 7) (q0 := 2) rfl rfl) (k_X7_clear l D cI cZ cL im _ _ _ _ _ _ hm) (cwV 0 hts (gU_V (inR10 _ (List.mem_of_getElem? (i := 6) rfl)) (inR10 _ (List.mem_of_getElem? (i := 7) rfl)) (inR10 _ (List.mem_of_getElem? (i := 8) rfl)) (inR1 _ (List.mem_of_getElem? (i := 23) rfl)) (inR10 _ (List.mem_of_getElem? (i := 9) rfl))) rfl rfl rfl (by decide +kernel) ⟨Nat.le_of_ble_eq_true rfl, Nat.le_of_ble_eq_true rfl⟩) rfl hl.1 rfl (Nat.le_of_ble_eq_true rfl) (dX11_book 6 rfl) ⟨Nat.zero_le _, Nat.zero_le _⟩) hP hD hS hcut [2] [0, 1, 3, 4, 5] rfl rfl (by decide) (by decide) (fun u18 H locs hm hP hD hS => ?_)
  have hP := hP.sub (ws' := [(h, .inr (11, [.ref q_now, .ref q_image, .ref q_trial, .ref q_trace, .ref q_tried, .ref q_best, .int f_imaged])), (q_now, .inr (9, [.ref q_now_line, .ref q_now_tape, .ref q_now_taken, .ref q_now_bookTurns, .ref q_now_bookTimes, .int f_now_fields])), (q_now_bookTurns, .inr (7, [.ref q_now_bookTurns_items, .int u18.1, .int u18.2])), (q_now_bookTurns_items, .inl (cI, 8, .inl r_now_bookTurns_items)), (q_now_bookTimes, .inr (7, [.ref q_now_bookTimes_items, .int f_now_bookTimes_size, .int f_now_bookTimes_came])), (q_now_bookTimes_items, .inl (cI, 8, .inl r_now_bookTimes_items))]) [0, 1, 5, 2, 3, 4] rfl
  have hD := hD.sub (ws' := [(h, .inr (11, [.ref q_now, .ref q_image, .ref q_trial, .ref q_trace, .ref q_tried, .ref q_best, .int f_imaged])), (q_now, .inr (9, [.ref q_now_line, .ref q_now_tape, .ref q_now_taken, .ref q_now_bookTurns, .ref q_now_bookTimes, .int f_now_fields])), (q_now_bookTurns, .inr (7, [.ref q_now_bookTurns_items, .int u18.1, .int u18.2])), (q_now_bookTurns_items, .inl (cI, 8, .inl r_now_bookTurns_items)), (q_now_bookTimes, .inr (7, [.ref q_now_bookTimes_items, .int f_now_bookTimes_size, .int f_now_bookTimes_came])), (q_now_bookTimes_items, .inl (cI, 8, .inl r_now_bookTimes_items))]) [0, 1, 5, 2, 3, 4] (by decide) rfl
  refine lv_aload_n hx hb (dX11_book 7 rfl) rfl (lv_at hl 0 rfl) ?_
  refine va_get (D := D) (ci := 11) (v := .ref q_now) (C := RX11) (T := TX11) (N := 7) hx hb hts inlX11 hown hK hP 0 rfl rfl 0 (by decide) (hts (.fieldLink RX11 12 "OverBacks" "now" "LOverBacks$State;") (inR1 _ (List.mem_of_getElem? (i := 15) rfl))) (fun _ h9 => h9) rfl (dX11_book 8 rfl) ?_
  refine va_getN (D := D) (ci := 9) (v := .ref q_now_bookTimes) (C := RX9) (T := TX9) (N := 6) hx hb hts inlX9 hown hK hP 1 rfl rfl 4 (by decide) (va_Nw.use rfl (hN _ (List.mem_of_getElem? (i := 16) rfl))) (fun _ h9 => h9) rfl (dX11_book 9 rfl) ?_
  have hcut := ob_cut (wc := [(q_now_bookTimes, .inr (7, [.ref q_now_bookTimes_items, .int f_now_bookTimes_size, .int f_now_bookTimes_came]))]) hP hD hS hA [4] rfl (by decide)
  refine ob_v (wr := [(h, .inr (11, [.ref q_now, .ref q_image, .ref q_trial, .ref q_trace, .ref q_tried, .ref q_best, .int f_imaged])), (q_now, .inr (9, [.ref q_now_line, .ref q_now_tape, .ref q_now_taken, .ref q_now_bookTurns, .ref q_now_bookTimes, .int f_now_fields])), (q_now_bookTurns, .inr (7, [.ref q_now_bookTurns_items, .int u18.1, .int u18.2])), (q_now_bookTurns_items, .inl (cI, 8, .inl r_now_bookTurns_items)), (q_now_bookTimes_items, .inl (cI, 8, .inl r_now_bookTimes_items))]) (ob_V (As := []) (rest := []) ⟨hx, hb, hml, hown, hts⟩ hK hcut (hI.cut hS hcut.2.2) hN (va_recv hK hP (ci := 7) (q0 := 4) rfl rfl) (k_X7_clear l D cI cZ cL im _ _ _ _ _ _ hm) (cwV 0 hts (gU_V (inR10 _ (List.mem_of_getElem? (i := 6) rfl)) (inR10 _ (List.mem_of_getElem? (i := 7) rfl)) (inR10 _ (List.mem_of_getElem? (i := 8) rfl)) (inR1 _ (List.mem_of_getElem? (i := 23) rfl)) (inR10 _ (List.mem_of_getElem? (i := 9) rfl))) rfl rfl rfl (by decide +kernel) ⟨Nat.le_of_ble_eq_true rfl, Nat.le_of_ble_eq_true rfl⟩) rfl hl.1 rfl (Nat.le_of_ble_eq_true rfl) (dX11_book 10 rfl) ⟨Nat.zero_le _, Nat.zero_le _⟩) hP hD hS hcut [4] [0, 1, 2, 3, 5] rfl rfl (by decide) (by decide) (fun u22 H locs hm hP hD hS => ?_)
  have hP := hP.sub (ws' := [(h, .inr (11, [.ref q_now, .ref q_image, .ref q_trial, .ref q_trace, .ref q_tried, .ref q_best, .int f_imaged])), (q_now, .inr (9, [.ref q_now_line, .ref q_now_tape, .ref q_now_taken, .ref q_now_bookTurns, .ref q_now_bookTimes, .int f_now_fields])), (q_now_bookTurns, .inr (7, [.ref q_now_bookTurns_items, .int u18.1, .int u18.2])), (q_now_bookTurns_items, .inl (cI, 8, .inl r_now_bookTurns_items)), (q_now_bookTimes, .inr (7, [.ref q_now_bookTimes_items, .int u22.1, .int u22.2])), (q_now_bookTimes_items, .inl (cI, 8, .inl r_now_bookTimes_items))]) [0, 1, 2, 3, 5, 4] rfl
  have hD := hD.sub (ws' := [(h, .inr (11, [.ref q_now, .ref q_image, .ref q_trial, .ref q_trace, .ref q_tried, .ref q_best, .int f_imaged])), (q_now, .inr (9, [.ref q_now_line, .ref q_now_tape, .ref q_now_taken, .ref q_now_bookTurns, .ref q_now_bookTimes, .int f_now_fields])), (q_now_bookTurns, .inr (7, [.ref q_now_bookTurns_items, .int u18.1, .int u18.2])), (q_now_bookTurns_items, .inl (cI, 8, .inl r_now_bookTurns_items)), (q_now_bookTimes, .inr (7, [.ref q_now_bookTimes_items, .int u22.1, .int u22.2])), (q_now_bookTimes_items, .inl (cI, 8, .inl r_now_bookTimes_items))]) [0, 1, 2, 3, 5, 4] (by decide) rfl
  refine lv_iconst (v := (0 : Int32)) hx hb (dX11_book 11 rfl) (by decide) ?_
  exact hZ (0 : Int32) (u18.1, u18.2, r_now_bookTurns_items, u22.1, u22.2, r_now_bookTimes_items) H locs ls 26 hm hP hD hS (dX11_book 12 rfl) rfl
abbrev rmX11_trace : Room := { frames := 1, cells := 0, slots := 0, locals := 21 }
set_option maxHeartbeats 4000000 in
set_option maxRecDepth 100000 in
theorem k_X11_trace (l : Launch) (D : va_G) (cI cZ cL : ClassId) (im : va_W) (sz : Nat) (h : Nat) (q_now : Nat) (q_image : Nat) (q_trial : Nat) (q_trace : Nat) (q_tried : Nat) (q_best : Nat) (f_imaged : Int32) (q_trace_items : Nat) (f_trace_size : Int32) (f_trace_came : Int32) (r_trace_items : Nat → Int32) (a1 : Int32) (Q : Int32 → Prop) (hm : m_X11_trace f_trace_size r_trace_items a1 Q) : Met l yX11_trace (Cond.code yX11_trace cX11_trace 2 (some .int) :: wsL_law) rmX11_trace (obPre D (tyG cI cZ cL) im [(h, .inr (11, [.ref q_now, .ref q_image, .ref q_trial, .ref q_trace, .ref q_tried, .ref q_best, .int f_imaged])), (q_trace, .inr (7, [.ref q_trace_items, .int f_trace_size, .int f_trace_came])), (q_trace_items, .inl (cI, 20, .inl r_trace_items))] sz [.ref h, .int a1]) (va_Qi (fun (r : Int32) (u : Unit) => Q r) (obB D (va_A [(h, .inr (11, [.ref q_now, .ref q_image, .ref q_trial, .ref q_trace, .ref q_tried, .ref q_best, .int f_imaged])), (q_trace, .inr (7, [.ref q_trace_items, .int f_trace_size, .int f_trace_came])), (q_trace_items, .inl (cI, 20, .inl r_trace_items))] sz) (fun _ : Unit => [(h, .inr (11, [.ref q_now, .ref q_image, .ref q_trial, .ref q_trace, .ref q_tried, .ref q_best, .int f_imaged])), (q_trace, .inr (7, [.ref q_trace_items, .int f_trace_size, .int f_trace_came])), (q_trace_items, .inl (cI, 20, .inl r_trace_items))])) (va_A [(h, .inr (11, [.ref q_now, .ref q_image, .ref q_trial, .ref q_trace, .ref q_tried, .ref q_best, .int f_imaged])), (q_trace, .inr (7, [.ref q_trace_items, .int f_trace_size, .int f_trace_came])), (q_trace_items, .inl (cI, 20, .inl r_trace_items))] sz)) 0 0 (va_A [(h, .inr (11, [.ref q_now, .ref q_image, .ref q_trial, .ref q_trace, .ref q_tried, .ref q_best, .int f_imaged])), (q_trace, .inr (7, [.ref q_trace_items, .int f_trace_size, .int f_trace_came])), (q_trace_items, .inl (cI, 20, .inl r_trace_items))] sz) := by
  refine ob_met_i (cc := cX11_trace) (maxL := 2) (by decide) (Nat.le_of_ble_eq_true rfl) (fun p e s m args below meth c A Z hx hb hml hown hts hnm hN hK hA hI hP hD hS hZ ls hl => ?_)
  have hl : lv_has ls 2 [(0, .ref h), (1, .int a1)] := hl
  unfold m_X11_trace at hm
  obtain ⟨H, hH⟩ : ∃ H, H = s.heap := ⟨_, rfl⟩
  obtain ⟨locs, hlo⟩ : ∃ q : List Loc, q = [] := ⟨_, rfl⟩
  suffices hgo : W p l e rmX11_trace s m args below meth c H locs 0 0 Z (F0 m 0 ls []) by rw [hH, hlo] at hgo; exact hgo
  have hP : va_P D vwCl [(h, .inr (11, [.ref q_now, .ref q_image, .ref q_trial, .ref q_trace, .ref q_tried, .ref q_best, .int f_imaged])), (q_trace, .inr (7, [.ref q_trace_items, .int f_trace_size, .int f_trace_came])), (q_trace_items, .inl (cI, 20, .inl r_trace_items))] H := by rw [hH]; exact hP
  have hD : va_D A [(h, .inr (11, [.ref q_now, .ref q_image, .ref q_trial, .ref q_trace, .ref q_tried, .ref q_best, .int f_imaged])), (q_trace, .inr (7, [.ref q_trace_items, .int f_trace_size, .int f_trace_came])), (q_trace_items, .inl (cI, 20, .inl r_trace_items))] := hD
  have hS : va_S A s.heap H locs := by rw [hH, hlo]; exact hS
  refine lv_aload_n hx hb (dX11_trace 0 rfl) rfl (lv_at hl 0 rfl) ?_
  refine va_get (D := D) (ci := 11) (v := .ref q_trace) (C := RX11) (T := TX11) (N := 7) hx hb hts inlX11 hown hK hP 0 rfl rfl 3 (by decide) (hts (.fieldLink RX11 33 "OverBacks" "trace" "LOverBacks$Numbers;") (inR2 _ (List.mem_of_getElem? (i := 0) rfl))) (fun _ h9 => h9) rfl (dX11_trace 1 rfl) ?_
  refine lv_iload_n hx hb (dX11_trace 2 rfl) rfl (lv_at hl 1 rfl) ?_
  have hcut := ob_cut (wc := [(q_trace, .inr (7, [.ref q_trace_items, .int f_trace_size, .int f_trace_came])), (q_trace_items, .inl (cI, 20, .inl r_trace_items))]) hP hD hS hA [1, 2] rfl (by decide)
  refine ob_i (wr := [(h, .inr (11, [.ref q_now, .ref q_image, .ref q_trial, .ref q_trace, .ref q_tried, .ref q_best, .int f_imaged]))]) (ob_V (As := [.int a1]) (rest := []) ⟨hx, hb, hml, hown, hts⟩ hK hcut (hI.cut hS hcut.2.2) hN (va_recv hK hP (ci := 7) (q0 := 1) rfl rfl) (k_X7_at l D cI cZ cL im _ _ _ _ _ _ _ _ _ hm) (cwV 1 hts (gU_V (inR33 _ (List.mem_of_getElem? (i := 8) rfl)) (inR6 _ (List.mem_of_getElem? (i := 13) rfl)) (inR6 _ (List.mem_of_getElem? (i := 14) rfl)) (inR1 _ (List.mem_of_getElem? (i := 23) rfl)) (inR6 _ (List.mem_of_getElem? (i := 15) rfl))) rfl rfl rfl (by decide +kernel) ⟨Nat.le_of_ble_eq_true rfl, Nat.le_of_ble_eq_true rfl⟩) rfl hl.1 rfl (Nat.le_of_ble_eq_true rfl) (dX11_trace 3 rfl) ⟨Nat.zero_le _, Nat.zero_le _⟩) hP hD hS hcut [1, 2] [0] rfl rfl (by decide) (by decide) (fun r1 u2 H locs hm hP hD hS => ?_)
  have hP := hP.sub (ws' := [(h, .inr (11, [.ref q_now, .ref q_image, .ref q_trial, .ref q_trace, .ref q_tried, .ref q_best, .int f_imaged])), (q_trace, .inr (7, [.ref q_trace_items, .int f_trace_size, .int f_trace_came])), (q_trace_items, .inl (cI, 20, .inl r_trace_items))]) [0, 1, 2] rfl
  have hD := hD.sub (ws' := [(h, .inr (11, [.ref q_now, .ref q_image, .ref q_trial, .ref q_trace, .ref q_tried, .ref q_best, .int f_imaged])), (q_trace, .inr (7, [.ref q_trace_items, .int f_trace_size, .int f_trace_came])), (q_trace_items, .inl (cI, 20, .inl r_trace_items))]) [0, 1, 2] (by decide) rfl
  exact hZ r1 () H locs ls 8 hm hP hD hS (dX11_trace 4 rfl) rfl
abbrev rmX11_count : Room := { frames := 0, cells := 0, slots := 0, locals := 0 }
set_option maxHeartbeats 4000000 in
set_option maxRecDepth 100000 in
theorem k_X11_count (l : Launch) (D : va_G) (cI cZ cL : ClassId) (im : va_W) (sz : Nat) (h : Nat) (q_now : Nat) (q_image : Nat) (q_trial : Nat) (q_trace : Nat) (q_tried : Nat) (q_best : Nat) (f_imaged : Int32) (q_now_line : Nat) (q_now_tape : Nat) (q_now_taken : Nat) (q_now_bookTurns : Nat) (q_now_bookTimes : Nat) (f_now_fields : Int32) (q_now_line_people : Nat) (q_now_line_places : Nat) (q_now_line_breath : Nat) (q_now_line_rows : Nat) (q_now_line_seen : Nat) (q_now_line_ends : Nat) (f_now_line_field : Option Nat) (f_now_line_size : Int32) (f_now_line_turn : Int32) (f_now_line_yards : Int32) (f_now_line_time : Int32) (f_now_line_gap : Int32) (f_now_line_far : Int32) (f_now_line_flat : Int32) (q_now_tape_items : Nat) (f_now_tape_size : Int32) (f_now_tape_came : Int32) (q_now_taken_items : Nat) (f_now_taken_size : Int32) (f_now_taken_came : Int32) (q_now_bookTurns_items : Nat) (f_now_bookTurns_size : Int32) (f_now_bookTurns_came : Int32) (q_trace_items : Nat) (f_trace_size : Int32) (f_trace_came : Int32) (a1 : Int32) (Q : Int32 → Prop) (hm : m_X11_count f_now_fields f_now_line_size f_now_tape_size f_now_taken_size f_now_bookTurns_size f_trace_came a1 Q) : Met l yX11_count (Cond.code yX11_count cX11_count 2 (some .int) :: wsL_law) rmX11_count (obPre D (tyG cI cZ cL) im [(h, .inr (11, [.ref q_now, .ref q_image, .ref q_trial, .ref q_trace, .ref q_tried, .ref q_best, .int f_imaged])), (q_now, .inr (9, [.ref q_now_line, .ref q_now_tape, .ref q_now_taken, .ref q_now_bookTurns, .ref q_now_bookTimes, .int f_now_fields])), (q_now_line, .inr (5, [.ref q_now_line_people, .ref q_now_line_places, .ref q_now_line_breath, .ref q_now_line_rows, .ref q_now_line_seen, .ref q_now_line_ends, va_rf f_now_line_field, .int f_now_line_size, .int f_now_line_turn, .int f_now_line_yards, .int f_now_line_time, .int f_now_line_gap, .int f_now_line_far, .int f_now_line_flat])), (q_now_tape, .inr (7, [.ref q_now_tape_items, .int f_now_tape_size, .int f_now_tape_came])), (q_now_taken, .inr (7, [.ref q_now_taken_items, .int f_now_taken_size, .int f_now_taken_came])), (q_now_bookTurns, .inr (7, [.ref q_now_bookTurns_items, .int f_now_bookTurns_size, .int f_now_bookTurns_came])), (q_trace, .inr (7, [.ref q_trace_items, .int f_trace_size, .int f_trace_came]))] sz [.ref h, .int a1]) (va_Qi (fun (r : Int32) (u : Unit) => Q r) (obB D (va_A [(h, .inr (11, [.ref q_now, .ref q_image, .ref q_trial, .ref q_trace, .ref q_tried, .ref q_best, .int f_imaged])), (q_now, .inr (9, [.ref q_now_line, .ref q_now_tape, .ref q_now_taken, .ref q_now_bookTurns, .ref q_now_bookTimes, .int f_now_fields])), (q_now_line, .inr (5, [.ref q_now_line_people, .ref q_now_line_places, .ref q_now_line_breath, .ref q_now_line_rows, .ref q_now_line_seen, .ref q_now_line_ends, va_rf f_now_line_field, .int f_now_line_size, .int f_now_line_turn, .int f_now_line_yards, .int f_now_line_time, .int f_now_line_gap, .int f_now_line_far, .int f_now_line_flat])), (q_now_tape, .inr (7, [.ref q_now_tape_items, .int f_now_tape_size, .int f_now_tape_came])), (q_now_taken, .inr (7, [.ref q_now_taken_items, .int f_now_taken_size, .int f_now_taken_came])), (q_now_bookTurns, .inr (7, [.ref q_now_bookTurns_items, .int f_now_bookTurns_size, .int f_now_bookTurns_came])), (q_trace, .inr (7, [.ref q_trace_items, .int f_trace_size, .int f_trace_came]))] sz) (fun _ : Unit => [(h, .inr (11, [.ref q_now, .ref q_image, .ref q_trial, .ref q_trace, .ref q_tried, .ref q_best, .int f_imaged])), (q_now, .inr (9, [.ref q_now_line, .ref q_now_tape, .ref q_now_taken, .ref q_now_bookTurns, .ref q_now_bookTimes, .int f_now_fields])), (q_now_line, .inr (5, [.ref q_now_line_people, .ref q_now_line_places, .ref q_now_line_breath, .ref q_now_line_rows, .ref q_now_line_seen, .ref q_now_line_ends, va_rf f_now_line_field, .int f_now_line_size, .int f_now_line_turn, .int f_now_line_yards, .int f_now_line_time, .int f_now_line_gap, .int f_now_line_far, .int f_now_line_flat])), (q_now_tape, .inr (7, [.ref q_now_tape_items, .int f_now_tape_size, .int f_now_tape_came])), (q_now_taken, .inr (7, [.ref q_now_taken_items, .int f_now_taken_size, .int f_now_taken_came])), (q_now_bookTurns, .inr (7, [.ref q_now_bookTurns_items, .int f_now_bookTurns_size, .int f_now_bookTurns_came])), (q_trace, .inr (7, [.ref q_trace_items, .int f_trace_size, .int f_trace_came]))])) (va_A [(h, .inr (11, [.ref q_now, .ref q_image, .ref q_trial, .ref q_trace, .ref q_tried, .ref q_best, .int f_imaged])), (q_now, .inr (9, [.ref q_now_line, .ref q_now_tape, .ref q_now_taken, .ref q_now_bookTurns, .ref q_now_bookTimes, .int f_now_fields])), (q_now_line, .inr (5, [.ref q_now_line_people, .ref q_now_line_places, .ref q_now_line_breath, .ref q_now_line_rows, .ref q_now_line_seen, .ref q_now_line_ends, va_rf f_now_line_field, .int f_now_line_size, .int f_now_line_turn, .int f_now_line_yards, .int f_now_line_time, .int f_now_line_gap, .int f_now_line_far, .int f_now_line_flat])), (q_now_tape, .inr (7, [.ref q_now_tape_items, .int f_now_tape_size, .int f_now_tape_came])), (q_now_taken, .inr (7, [.ref q_now_taken_items, .int f_now_taken_size, .int f_now_taken_came])), (q_now_bookTurns, .inr (7, [.ref q_now_bookTurns_items, .int f_now_bookTurns_size, .int f_now_bookTurns_came])), (q_trace, .inr (7, [.ref q_trace_items, .int f_trace_size, .int f_trace_came]))] sz)) 0 0 (va_A [(h, .inr (11, [.ref q_now, .ref q_image, .ref q_trial, .ref q_trace, .ref q_tried, .ref q_best, .int f_imaged])), (q_now, .inr (9, [.ref q_now_line, .ref q_now_tape, .ref q_now_taken, .ref q_now_bookTurns, .ref q_now_bookTimes, .int f_now_fields])), (q_now_line, .inr (5, [.ref q_now_line_people, .ref q_now_line_places, .ref q_now_line_breath, .ref q_now_line_rows, .ref q_now_line_seen, .ref q_now_line_ends, va_rf f_now_line_field, .int f_now_line_size, .int f_now_line_turn, .int f_now_line_yards, .int f_now_line_time, .int f_now_line_gap, .int f_now_line_far, .int f_now_line_flat])), (q_now_tape, .inr (7, [.ref q_now_tape_items, .int f_now_tape_size, .int f_now_tape_came])), (q_now_taken, .inr (7, [.ref q_now_taken_items, .int f_now_taken_size, .int f_now_taken_came])), (q_now_bookTurns, .inr (7, [.ref q_now_bookTurns_items, .int f_now_bookTurns_size, .int f_now_bookTurns_came])), (q_trace, .inr (7, [.ref q_trace_items, .int f_trace_size, .int f_trace_came]))] sz) := by
  refine ob_met_i (cc := cX11_count) (maxL := 2) (by decide) (Nat.le_of_ble_eq_true rfl) (fun p e s m args below meth c A Z hx hb hml hown hts hnm hN hK hA hI hP hD hS hZ ls hl => ?_)
  have hl : lv_has ls 2 [(0, .ref h), (1, .int a1)] := hl
  unfold m_X11_count at hm
  obtain ⟨H, hH⟩ : ∃ H, H = s.heap := ⟨_, rfl⟩
  obtain ⟨locs, hlo⟩ : ∃ q : List Loc, q = [] := ⟨_, rfl⟩
  suffices hgo : W p l e rmX11_count s m args below meth c H locs 0 0 Z (F0 m 0 ls []) by rw [hH, hlo] at hgo; exact hgo
  have hP : va_P D vwCl [(h, .inr (11, [.ref q_now, .ref q_image, .ref q_trial, .ref q_trace, .ref q_tried, .ref q_best, .int f_imaged])), (q_now, .inr (9, [.ref q_now_line, .ref q_now_tape, .ref q_now_taken, .ref q_now_bookTurns, .ref q_now_bookTimes, .int f_now_fields])), (q_now_line, .inr (5, [.ref q_now_line_people, .ref q_now_line_places, .ref q_now_line_breath, .ref q_now_line_rows, .ref q_now_line_seen, .ref q_now_line_ends, va_rf f_now_line_field, .int f_now_line_size, .int f_now_line_turn, .int f_now_line_yards, .int f_now_line_time, .int f_now_line_gap, .int f_now_line_far, .int f_now_line_flat])), (q_now_tape, .inr (7, [.ref q_now_tape_items, .int f_now_tape_size, .int f_now_tape_came])), (q_now_taken, .inr (7, [.ref q_now_taken_items, .int f_now_taken_size, .int f_now_taken_came])), (q_now_bookTurns, .inr (7, [.ref q_now_bookTurns_items, .int f_now_bookTurns_size, .int f_now_bookTurns_came])), (q_trace, .inr (7, [.ref q_trace_items, .int f_trace_size, .int f_trace_came]))] H := by rw [hH]; exact hP
  have hD : va_D A [(h, .inr (11, [.ref q_now, .ref q_image, .ref q_trial, .ref q_trace, .ref q_tried, .ref q_best, .int f_imaged])), (q_now, .inr (9, [.ref q_now_line, .ref q_now_tape, .ref q_now_taken, .ref q_now_bookTurns, .ref q_now_bookTimes, .int f_now_fields])), (q_now_line, .inr (5, [.ref q_now_line_people, .ref q_now_line_places, .ref q_now_line_breath, .ref q_now_line_rows, .ref q_now_line_seen, .ref q_now_line_ends, va_rf f_now_line_field, .int f_now_line_size, .int f_now_line_turn, .int f_now_line_yards, .int f_now_line_time, .int f_now_line_gap, .int f_now_line_far, .int f_now_line_flat])), (q_now_tape, .inr (7, [.ref q_now_tape_items, .int f_now_tape_size, .int f_now_tape_came])), (q_now_taken, .inr (7, [.ref q_now_taken_items, .int f_now_taken_size, .int f_now_taken_came])), (q_now_bookTurns, .inr (7, [.ref q_now_bookTurns_items, .int f_now_bookTurns_size, .int f_now_bookTurns_came])), (q_trace, .inr (7, [.ref q_trace_items, .int f_trace_size, .int f_trace_came]))] := hD
  have hS : va_S A s.heap H locs := by rw [hH, hlo]; exact hS
  refine lv_iload_n hx hb (dX11_count 0 rfl) rfl (lv_at hl 1 rfl) ?_
  by_cases c1 : a1 = (0 : Int32)
  · refine lv_tableIn (tgt := 40) hx hb (dX11_count 1 rfl) (by rw [c1]; decide) (by rw [c1]; decide) (by rw [c1]; rfl) (by decide) ?_
    replace hm := hm.1 c1
    refine lv_aload_n hx hb (dX11_count 2 rfl) rfl (lv_at hl 0 rfl) ?_
    refine va_get (D := D) (ci := 11) (v := .ref q_now) (C := RX11) (T := TX11) (N := 7) hx hb hts inlX11 hown hK hP 0 rfl rfl 0 (by decide) (hts (.fieldLink RX11 12 "OverBacks" "now" "LOverBacks$State;") (inR1 _ (List.mem_of_getElem? (i := 15) rfl))) (fun _ h9 => h9) rfl (dX11_count 3 rfl) ?_
    refine va_getN (D := D) (ci := 9) (v := .ref q_now_line) (C := RX9) (T := TX9) (N := 6) hx hb hts inlX9 hown hK hP 1 rfl rfl 0 (by decide) (va_Nw.use rfl (hN _ (List.mem_of_getElem? (i := 12) rfl))) (fun _ h9 => h9) rfl (dX11_count 4 rfl) ?_
    refine va_getN (D := D) (ci := 5) (v := .int f_now_line_size) (C := RX5) (T := TX5) (N := 14) hx hb hts inlX5 hown hK hP 2 rfl rfl 7 (by decide) (va_Nw.use rfl (hN _ (List.mem_of_getElem? (i := 2) rfl))) (fun _ h9 => h9) rfl (dX11_count 5 rfl) ?_
    exact hZ f_now_line_size () H locs ls 50 hm hP hD hS (dX11_count 6 rfl) rfl
  replace hm := hm.2
  by_cases c2 : a1 = (1 : Int32)
  · refine lv_tableIn (tgt := 51) hx hb (dX11_count 1 rfl) (by rw [c2]; decide) (by rw [c2]; decide) (by rw [c2]; rfl) (by decide) ?_
    replace hm := hm.1 c2
    refine lv_aload_n hx hb (dX11_count 7 rfl) rfl (lv_at hl 0 rfl) ?_
    refine va_get (D := D) (ci := 11) (v := .ref q_now) (C := RX11) (T := TX11) (N := 7) hx hb hts inlX11 hown hK hP 0 rfl rfl 0 (by decide) (hts (.fieldLink RX11 12 "OverBacks" "now" "LOverBacks$State;") (inR1 _ (List.mem_of_getElem? (i := 15) rfl))) (fun _ h9 => h9) rfl (dX11_count 8 rfl) ?_
    refine va_getN (D := D) (ci := 9) (v := .int f_now_fields) (C := RX9) (T := TX9) (N := 6) hx hb hts inlX9 hown hK hP 1 rfl rfl 5 (by decide) (va_Nw.use rfl (hN _ (List.mem_of_getElem? (i := 17) rfl))) (fun _ h9 => h9) rfl (dX11_count 9 rfl) ?_
    exact hZ f_now_fields () H locs ls 58 hm hP hD hS (dX11_count 10 rfl) rfl
  replace hm := hm.2
  by_cases c3 : a1 = (2 : Int32)
  · refine lv_tableIn (tgt := 59) hx hb (dX11_count 1 rfl) (by rw [c3]; decide) (by rw [c3]; decide) (by rw [c3]; rfl) (by decide) ?_
    replace hm := hm.1 c3
    refine lv_aload_n hx hb (dX11_count 11 rfl) rfl (lv_at hl 0 rfl) ?_
    refine va_get (D := D) (ci := 11) (v := .ref q_now) (C := RX11) (T := TX11) (N := 7) hx hb hts inlX11 hown hK hP 0 rfl rfl 0 (by decide) (hts (.fieldLink RX11 12 "OverBacks" "now" "LOverBacks$State;") (inR1 _ (List.mem_of_getElem? (i := 15) rfl))) (fun _ h9 => h9) rfl (dX11_count 12 rfl) ?_
    refine va_getN (D := D) (ci := 9) (v := .ref q_now_taken) (C := RX9) (T := TX9) (N := 6) hx hb hts inlX9 hown hK hP 1 rfl rfl 2 (by decide) (va_Nw.use rfl (hN _ (List.mem_of_getElem? (i := 14) rfl))) (fun _ h9 => h9) rfl (dX11_count 13 rfl) ?_
    refine va_getN (D := D) (ci := 7) (v := .int f_now_taken_size) (C := RX7) (T := TX7) (N := 3) hx hb hts inlX7 hown hK hP 4 rfl rfl 1 (by decide) (va_Nw.use rfl (hN _ (List.mem_of_getElem? (i := 10) rfl))) (fun _ h9 => h9) rfl (dX11_count 14 rfl) ?_
    exact hZ f_now_taken_size () H locs ls 69 hm hP hD hS (dX11_count 15 rfl) rfl
  replace hm := hm.2
  by_cases c4 : a1 = (3 : Int32)
  · refine lv_tableIn (tgt := 70) hx hb (dX11_count 1 rfl) (by rw [c4]; decide) (by rw [c4]; decide) (by rw [c4]; rfl) (by decide) ?_
    replace hm := hm.1 c4
    refine lv_aload_n hx hb (dX11_count 16 rfl) rfl (lv_at hl 0 rfl) ?_
    refine va_get (D := D) (ci := 11) (v := .ref q_now) (C := RX11) (T := TX11) (N := 7) hx hb hts inlX11 hown hK hP 0 rfl rfl 0 (by decide) (hts (.fieldLink RX11 12 "OverBacks" "now" "LOverBacks$State;") (inR1 _ (List.mem_of_getElem? (i := 15) rfl))) (fun _ h9 => h9) rfl (dX11_count 17 rfl) ?_
    refine va_getN (D := D) (ci := 9) (v := .ref q_now_bookTurns) (C := RX9) (T := TX9) (N := 6) hx hb hts inlX9 hown hK hP 1 rfl rfl 3 (by decide) (va_Nw.use rfl (hN _ (List.mem_of_getElem? (i := 15) rfl))) (fun _ h9 => h9) rfl (dX11_count 18 rfl) ?_
    refine va_getN (D := D) (ci := 7) (v := .int f_now_bookTurns_size) (C := RX7) (T := TX7) (N := 3) hx hb hts inlX7 hown hK hP 5 rfl rfl 1 (by decide) (va_Nw.use rfl (hN _ (List.mem_of_getElem? (i := 10) rfl))) (fun _ h9 => h9) rfl (dX11_count 19 rfl) ?_
    exact hZ f_now_bookTurns_size () H locs ls 80 hm hP hD hS (dX11_count 20 rfl) rfl
  replace hm := hm.2
  by_cases c5 : a1 = (4 : Int32)
  · refine lv_tableIn (tgt := 81) hx hb (dX11_count 1 rfl) (by rw [c5]; decide) (by rw [c5]; decide) (by rw [c5]; rfl) (by decide) ?_
    replace hm := hm.1 c5
    refine lv_aload_n hx hb (dX11_count 21 rfl) rfl (lv_at hl 0 rfl) ?_
    refine va_get (D := D) (ci := 11) (v := .ref q_now) (C := RX11) (T := TX11) (N := 7) hx hb hts inlX11 hown hK hP 0 rfl rfl 0 (by decide) (hts (.fieldLink RX11 12 "OverBacks" "now" "LOverBacks$State;") (inR1 _ (List.mem_of_getElem? (i := 15) rfl))) (fun _ h9 => h9) rfl (dX11_count 22 rfl) ?_
    refine va_getN (D := D) (ci := 9) (v := .ref q_now_tape) (C := RX9) (T := TX9) (N := 6) hx hb hts inlX9 hown hK hP 1 rfl rfl 1 (by decide) (va_Nw.use rfl (hN _ (List.mem_of_getElem? (i := 13) rfl))) (fun _ h9 => h9) rfl (dX11_count 23 rfl) ?_
    refine va_getN (D := D) (ci := 7) (v := .int f_now_tape_size) (C := RX7) (T := TX7) (N := 3) hx hb hts inlX7 hown hK hP 3 rfl rfl 1 (by decide) (va_Nw.use rfl (hN _ (List.mem_of_getElem? (i := 10) rfl))) (fun _ h9 => h9) rfl (dX11_count 24 rfl) ?_
    exact hZ f_now_tape_size () H locs ls 91 hm hP hD hS (dX11_count 25 rfl) rfl
  replace hm := hm.2
  by_cases c6 : a1 = (5 : Int32)
  · refine lv_tableIn (tgt := 92) hx hb (dX11_count 1 rfl) (by rw [c6]; decide) (by rw [c6]; decide) (by rw [c6]; rfl) (by decide) ?_
    replace hm := hm.1 c6
    refine lv_aload_n hx hb (dX11_count 26 rfl) rfl (lv_at hl 0 rfl) ?_
    refine va_get (D := D) (ci := 11) (v := .ref q_trace) (C := RX11) (T := TX11) (N := 7) hx hb hts inlX11 hown hK hP 0 rfl rfl 3 (by decide) (hts (.fieldLink RX11 33 "OverBacks" "trace" "LOverBacks$Numbers;") (inR2 _ (List.mem_of_getElem? (i := 0) rfl))) (fun _ h9 => h9) rfl (dX11_count 27 rfl) ?_
    refine va_getN (D := D) (ci := 7) (v := .int f_trace_came) (C := RX7) (T := TX7) (N := 3) hx hb hts inlX7 hown hK hP 6 rfl rfl 2 (by decide) (va_Nw.use rfl (hN _ (List.mem_of_getElem? (i := 11) rfl))) (fun _ h9 => h9) rfl (dX11_count 28 rfl) ?_
    exact hZ f_trace_came () H locs ls 99 hm hP hD hS (dX11_count 29 rfl) rfl
  replace hm := hm.2
  have c7 : a1.toInt < 0 ∨ 5 < a1.toInt := by skip; have z0 := ob_ne c1; rw [show ((0 : Int32)).toInt = 0 from by decide] at z0; have z1 := ob_ne c2; rw [show ((1 : Int32)).toInt = 1 from by decide] at z1; have z2 := ob_ne c3; rw [show ((2 : Int32)).toInt = 2 from by decide] at z2; have z3 := ob_ne c4; rw [show ((3 : Int32)).toInt = 3 from by decide] at z3; have z4 := ob_ne c5; rw [show ((4 : Int32)).toInt = 4 from by decide] at z4; have z5 := ob_ne c6; rw [show ((5 : Int32)).toInt = 5 from by decide] at z5; omega
  refine lv_tableOut (tgt := 100) hx hb (dX11_count 1 rfl) c7 (by decide) ?_
  replace hm := hm c7
  refine lv_iconst (v := (-1 : Int32)) hx hb (dX11_count 30 rfl) (by decide) ?_
  exact hZ (-1 : Int32) () H locs ls 101 hm hP hD hS (dX11_count 31 rfl) rfl
abbrev rmX11_isKind : Room := { frames := 0, cells := 0, slots := 0, locals := 0 }
set_option maxHeartbeats 4000000 in
set_option maxRecDepth 100000 in
theorem k_X11_isKind (l : Launch) (D : va_G) (cI cZ cL : ClassId) (im : va_W) (sz : Nat) (a1 : Int32) (Q : Int32 → Prop) (hm : m_X11_isKind a1 Q) : Met l yX11_isKind (Cond.code yX11_isKind cX11_isKind 1 (some .boolean) :: wsL_law) rmX11_isKind (obPre D (tyG cI cZ cL) im [] sz [.int a1]) (va_Qi (fun (r : Int32) (u : Unit) => Q r) (obB D (va_A [] sz) (fun _ : Unit => [])) (va_A [] sz)) 0 0 (va_A [] sz) := by
  refine ob_met_i (cc := cX11_isKind) (maxL := 1) (by decide) (Nat.le_of_ble_eq_true rfl) (fun p e s m args below meth c A Z hx hb hml hown hts hnm hN hK hA hI hP hD hS hZ ls hl => ?_)
  have hl : lv_has ls 1 [(0, .int a1)] := hl
  unfold m_X11_isKind at hm
  obtain ⟨H, hH⟩ : ∃ H, H = s.heap := ⟨_, rfl⟩
  obtain ⟨locs, hlo⟩ : ∃ q : List Loc, q = [] := ⟨_, rfl⟩
  suffices hgo : W p l e rmX11_isKind s m args below meth c H locs 0 0 Z (F0 m 0 ls []) by rw [hH, hlo] at hgo; exact hgo
  have hP : va_P D vwCl [] H := by rw [hH]; exact hP
  have hD : va_D A [] := hD
  have hS : va_S A s.heap H locs := by rw [hH, hlo]; exact hS
  refine lv_iload_n hx hb (dX11_isKind 0 rfl) rfl (lv_at hl 0 rfl) ?_
  refine lv_if_lt (tgt := 14) hx hb (dX11_isKind 1 rfl) (by decide) (fun c1 => ?_) (fun c1 => ?_)
  · replace hm := hm.1 c1
    refine lv_iconst (v := (0 : Int32)) hx hb (dX11_isKind 7 rfl) (by decide) ?_
    exact hZ (0 : Int32) () H locs ls 15 hm hP hD hS (dX11_isKind 8 rfl) rfl
  replace hm := hm.2 c1
  refine lv_iload_n hx hb (dX11_isKind 2 rfl) rfl (lv_at hl 0 rfl) ?_
  refine lv_bipush (v := (6 : Int32)) hx hb (dX11_isKind 3 rfl) (by decide) ?_
  refine lv_icmp_gt (tgt := 14) hx hb (dX11_isKind 4 rfl) (by decide) (fun c2 => ?_) (fun c2 => ?_)
  · replace hm := hm.1 c2
    refine lv_iconst (v := (0 : Int32)) hx hb (dX11_isKind 7 rfl) (by decide) ?_
    exact hZ (0 : Int32) () H locs ls 15 hm hP hD hS (dX11_isKind 8 rfl) rfl
  replace hm := hm.2 c2
  refine lv_iconst (v := (1 : Int32)) hx hb (dX11_isKind 5 rfl) (by decide) ?_
  refine lv_goto (tgt := 15) hx hb (dX11_isKind 6 rfl) (by decide) ?_
  exact hZ (1 : Int32) () H locs ls 15 hm hP hD hS (dX11_isKind 8 rfl) rfl
abbrev rmX11_isOneDigit : Room := { frames := 0, cells := 0, slots := 0, locals := 0 }
set_option maxHeartbeats 4000000 in
set_option maxRecDepth 100000 in
theorem k_X11_isOneDigit (l : Launch) (D : va_G) (cI cZ cL : ClassId) (im : va_W) (sz : Nat) (a1 : Int32) (Q : Int32 → Prop) (hm : m_X11_isOneDigit a1 Q) : Met l yX11_isOneDigit (Cond.code yX11_isOneDigit cX11_isOneDigit 1 (some .boolean) :: wsL_law) rmX11_isOneDigit (obPre D (tyG cI cZ cL) im [] sz [.int a1]) (va_Qi (fun (r : Int32) (u : Unit) => Q r) (obB D (va_A [] sz) (fun _ : Unit => [])) (va_A [] sz)) 0 0 (va_A [] sz) := by
  refine ob_met_i (cc := cX11_isOneDigit) (maxL := 1) (by decide) (Nat.le_of_ble_eq_true rfl) (fun p e s m args below meth c A Z hx hb hml hown hts hnm hN hK hA hI hP hD hS hZ ls hl => ?_)
  have hl : lv_has ls 1 [(0, .int a1)] := hl
  unfold m_X11_isOneDigit at hm
  obtain ⟨H, hH⟩ : ∃ H, H = s.heap := ⟨_, rfl⟩
  obtain ⟨locs, hlo⟩ : ∃ q : List Loc, q = [] := ⟨_, rfl⟩
  suffices hgo : W p l e rmX11_isOneDigit s m args below meth c H locs 0 0 Z (F0 m 0 ls []) by rw [hH, hlo] at hgo; exact hgo
  have hP : va_P D vwCl [] H := by rw [hH]; exact hP
  have hD : va_D A [] := hD
  have hS : va_S A s.heap H locs := by rw [hH, hlo]; exact hS
  refine lv_iload_n hx hb (dX11_isOneDigit 0 rfl) rfl (lv_at hl 0 rfl) ?_
  refine lv_if_lt (tgt := 14) hx hb (dX11_isOneDigit 1 rfl) (by decide) (fun c1 => ?_) (fun c1 => ?_)
  · replace hm := hm.1 c1
    refine lv_iconst (v := (0 : Int32)) hx hb (dX11_isOneDigit 7 rfl) (by decide) ?_
    exact hZ (0 : Int32) () H locs ls 15 hm hP hD hS (dX11_isOneDigit 8 rfl) rfl
  replace hm := hm.2 c1
  refine lv_iload_n hx hb (dX11_isOneDigit 2 rfl) rfl (lv_at hl 0 rfl) ?_
  refine lv_bipush (v := (9 : Int32)) hx hb (dX11_isOneDigit 3 rfl) (by decide) ?_
  refine lv_icmp_gt (tgt := 14) hx hb (dX11_isOneDigit 4 rfl) (by decide) (fun c2 => ?_) (fun c2 => ?_)
  · replace hm := hm.1 c2
    refine lv_iconst (v := (0 : Int32)) hx hb (dX11_isOneDigit 7 rfl) (by decide) ?_
    exact hZ (0 : Int32) () H locs ls 15 hm hP hD hS (dX11_isOneDigit 8 rfl) rfl
  replace hm := hm.2 c2
  refine lv_iconst (v := (1 : Int32)) hx hb (dX11_isOneDigit 5 rfl) (by decide) ?_
  refine lv_goto (tgt := 15) hx hb (dX11_isOneDigit 6 rfl) (by decide) ?_
  exact hZ (1 : Int32) () H locs ls 15 hm hP hD hS (dX11_isOneDigit 8 rfl) rfl
abbrev rmX11_isOneOfTwo : Room := { frames := 0, cells := 0, slots := 0, locals := 0 }
set_option maxHeartbeats 4000000 in
set_option maxRecDepth 100000 in
theorem k_X11_isOneOfTwo (l : Launch) (D : va_G) (cI cZ cL : ClassId) (im : va_W) (sz : Nat) (a1 : Int32) (Q : Int32 → Prop) (hm : m_X11_isOneOfTwo a1 Q) : Met l yX11_isOneOfTwo (Cond.code yX11_isOneOfTwo cX11_isOneOfTwo 1 (some .boolean) :: wsL_law) rmX11_isOneOfTwo (obPre D (tyG cI cZ cL) im [] sz [.int a1]) (va_Qi (fun (r : Int32) (u : Unit) => Q r) (obB D (va_A [] sz) (fun _ : Unit => [])) (va_A [] sz)) 0 0 (va_A [] sz) := by
  refine ob_met_i (cc := cX11_isOneOfTwo) (maxL := 1) (by decide) (Nat.le_of_ble_eq_true rfl) (fun p e s m args below meth c A Z hx hb hml hown hts hnm hN hK hA hI hP hD hS hZ ls hl => ?_)
  have hl : lv_has ls 1 [(0, .int a1)] := hl
  unfold m_X11_isOneOfTwo at hm
  obtain ⟨H, hH⟩ : ∃ H, H = s.heap := ⟨_, rfl⟩
  obtain ⟨locs, hlo⟩ : ∃ q : List Loc, q = [] := ⟨_, rfl⟩
  suffices hgo : W p l e rmX11_isOneOfTwo s m args below meth c H locs 0 0 Z (F0 m 0 ls []) by rw [hH, hlo] at hgo; exact hgo
  have hP : va_P D vwCl [] H := by rw [hH]; exact hP
  have hD : va_D A [] := hD
  have hS : va_S A s.heap H locs := by rw [hH, hlo]; exact hS
  refine lv_iload_n hx hb (dX11_isOneOfTwo 0 rfl) rfl (lv_at hl 0 rfl) ?_
  refine lv_if_eq (tgt := 9) hx hb (dX11_isOneOfTwo 1 rfl) (by decide) (fun c1 => ?_) (fun c1 => ?_)
  · replace hm := hm.1 c1
    refine lv_iconst (v := (1 : Int32)) hx hb (dX11_isOneOfTwo 5 rfl) (by decide) ?_
    refine lv_goto (tgt := 14) hx hb (dX11_isOneOfTwo 6 rfl) (by decide) ?_
    exact hZ (1 : Int32) () H locs ls 14 hm hP hD hS (dX11_isOneOfTwo 8 rfl) rfl
  replace hm := hm.2 c1
  refine lv_iload_n hx hb (dX11_isOneOfTwo 2 rfl) rfl (lv_at hl 0 rfl) ?_
  refine lv_iconst (v := (1 : Int32)) hx hb (dX11_isOneOfTwo 3 rfl) (by decide) ?_
  refine lv_icmp_ne (tgt := 13) hx hb (dX11_isOneOfTwo 4 rfl) (by decide) (fun c2 => ?_) (fun c2 => ?_)
  · replace hm := hm.2 c2
    refine lv_iconst (v := (0 : Int32)) hx hb (dX11_isOneOfTwo 7 rfl) (by decide) ?_
    exact hZ (0 : Int32) () H locs ls 14 hm hP hD hS (dX11_isOneOfTwo 8 rfl) rfl
  replace hm := hm.1 c2
  refine lv_iconst (v := (1 : Int32)) hx hb (dX11_isOneOfTwo 5 rfl) (by decide) ?_
  refine lv_goto (tgt := 14) hx hb (dX11_isOneOfTwo 6 rfl) (by decide) ?_
  exact hZ (1 : Int32) () H locs ls 14 hm hP hD hS (dX11_isOneOfTwo 8 rfl) rfl
abbrev rmX11_exchangeAt : Room := { frames := 0, cells := 0, slots := 0, locals := 0 }
set_option maxHeartbeats 4000000 in
set_option maxRecDepth 100000 in
theorem k_X11_exchangeAt (l : Launch) (D : va_G) (cI cZ cL : ClassId) (im : va_W) (sz : Nat) (h1 : Nat) (n1 : Nat) (r1 : Nat → Int32) (a2 : Int32) (a3 : Int32) (Q : (Nat → Int32) → Prop) (hm : m_X11_exchangeAt n1 r1 a2 a3 Q) : Met l yX11_exchangeAt (Cond.code yX11_exchangeAt cX11_exchangeAt 4 none :: wsL_law) rmX11_exchangeAt (obPre D (tyG cI cZ cL) im [(h1, .inl (cI, n1, .inl r1))] sz [.ref h1, .int a2, .int a3]) (va_Qv (fun (u : (Nat → Int32)) => Q u) (obB D (va_A [(h1, .inl (cI, n1, .inl r1))] sz) (fun u : (Nat → Int32) => [(h1, .inl (cI, n1, .inl u))])) (va_A [(h1, .inl (cI, n1, .inl r1))] sz)) 0 0 (va_A [(h1, .inl (cI, n1, .inl r1))] sz) := by
  refine ob_met_v (cc := cX11_exchangeAt) (maxL := 4) (by decide) (Nat.le_of_ble_eq_true rfl) (fun p e s m args below meth c A Z hx hb hml hown hts hnm hN hK hA hI hP hD hS hZ ls hl => ?_)
  have hl : lv_has ls 4 [(0, .ref h1), (1, .int a2), (2, .int a3)] := hl
  unfold m_X11_exchangeAt at hm
  obtain ⟨H, hH⟩ : ∃ H, H = s.heap := ⟨_, rfl⟩
  obtain ⟨locs, hlo⟩ : ∃ q : List Loc, q = [] := ⟨_, rfl⟩
  suffices hgo : W p l e rmX11_exchangeAt s m args below meth c H locs 0 0 Z (F0 m 0 ls []) by rw [hH, hlo] at hgo; exact hgo
  have hP : va_P D vwCl [(h1, .inl (cI, n1, .inl r1))] H := by rw [hH]; exact hP
  have hD : va_D A [(h1, .inl (cI, n1, .inl r1))] := hD
  have hS : va_S A s.heap H locs := by rw [hH, hlo]; exact hS
  refine lv_aload_n hx hb (dX11_exchangeAt 0 rfl) rfl (lv_at hl 0 rfl) ?_
  refine lv_iload_n hx hb (dX11_exchangeAt 1 rfl) rfl (lv_at hl 1 rfl) ?_
  refine va_iald hx hb hK hP 0 0 rfl rfl hm.1 (dX11_exchangeAt 2 rfl) ?_
  replace hm := hm.2
  refine lv_topi (fun x1 ex1 => ?_)
  replace hm := hm x1 ex1
  refine lv_istore_n (lv' := [(3, .int x1), (0, .ref h1), (1, .int a2), (2, .int a3)]) hx hb (dX11_exchangeAt 3 rfl) rfl hl (by decide) rfl (fun ls hl => ?_)
  refine lv_aload_n hx hb (dX11_exchangeAt 4 rfl) rfl (lv_at hl 1 rfl) ?_
  refine lv_iload_n hx hb (dX11_exchangeAt 5 rfl) rfl (lv_at hl 2 rfl) ?_
  refine lv_aload_n hx hb (dX11_exchangeAt 6 rfl) rfl (lv_at hl 1 rfl) ?_
  refine lv_iload_n hx hb (dX11_exchangeAt 7 rfl) rfl (lv_at hl 3 rfl) ?_
  refine va_iald hx hb hK hP 0 0 rfl rfl hm.1 (dX11_exchangeAt 8 rfl) ?_
  replace hm := hm.2
  refine va_iast hx hb hK hP hD hS 0 0 rfl rfl hm.1 (dX11_exchangeAt 9 rfl) (fun H locs hP hD hS => ?_)
  replace hm := hm.2
  obtain ⟨y2, ey2⟩ : ∃ q : Nat → Int32, q = upd r1 a2.toNatClampNeg (r1 a3.toNatClampNeg) := ⟨_, rfl⟩
  replace hm := hm y2 ey2
  have hP : va_P D vwCl [(h1, .inl (cI, n1, .inl y2))] H := by rw [ey2]; exact hP
  have hD : va_D A [(h1, .inl (cI, n1, .inl y2))] := by rw [ey2]; exact hD
  refine lv_aload_n hx hb (dX11_exchangeAt 10 rfl) rfl (lv_at hl 1 rfl) ?_
  refine lv_iload_n hx hb (dX11_exchangeAt 11 rfl) rfl (lv_at hl 3 rfl) ?_
  refine lv_iload_n hx hb (dX11_exchangeAt 12 rfl) rfl (lv_at hl 0 rfl) ?_
  refine va_iast hx hb hK hP hD hS 0 0 rfl rfl hm.1 (dX11_exchangeAt 13 rfl) (fun H locs hP hD hS => ?_)
  replace hm := hm.2
  obtain ⟨y3, ey3⟩ : ∃ q : Nat → Int32, q = upd y2 a3.toNatClampNeg x1 := ⟨_, rfl⟩
  replace hm := hm y3 ey3
  have hP : va_P D vwCl [(h1, .inl (cI, n1, .inl y3))] H := by rw [ey3]; exact hP
  have hD : va_D A [(h1, .inl (cI, n1, .inl y3))] := by rw [ey3]; exact hD
  exact hZ y3 H locs ls 14 hm hP hD hS (dX11_exchangeAt 14 rfl)
abbrev rmX11_lowest : Room := { frames := 0, cells := 0, slots := 0, locals := 0 }
set_option maxHeartbeats 4000000 in
set_option maxRecDepth 100000 in
theorem k_X11_lowest (l : Launch) (D : va_G) (cI cZ cL : ClassId) (im : va_W) (sz : Nat) (a1 : Int64) (a2 : Int64) (a3 : Int32) (Q : Int64 → Prop) (hm : m_X11_lowest a1 a2 a3 Q) : Met l yX11_lowest (Cond.code yX11_lowest cX11_lowest 12 (some .long) :: wsL_law) rmX11_lowest (obPre D (tyG cI cZ cL) im [] sz [.long a1, .long a2, .int a3]) (va_Ql (fun (r : Int64) (u : Unit) => Q r) (obB D (va_A [] sz) (fun _ : Unit => [])) (va_A [] sz)) 0 0 (va_A [] sz) := by
  refine ob_met_l (cc := cX11_lowest) (maxL := 12) (by decide) (Nat.le_of_ble_eq_true rfl) (fun p e s m args below meth c A Z hx hb hml hown hts hnm hN hK hA hI hP hD hS hZ ls hl => ?_)
  have hl : lv_has ls 12 [(0, .long a1), (2, .long a2), (4, .int a3)] := hl
  unfold m_X11_lowest at hm
  have lab45 : ∀ (v5_45 : Int64) , ∀ (H : Heap) (locs : List Loc) (ls : Array Slot), va_P D vwCl [] H → va_D A [] → va_S A s.heap H locs → lv_has ls 12 [(0, .long a1), (2, .long a2), (4, .int a3), (5, .long v5_45)] → m_X11_lowest_L45 a1 a2 a3 v5_45 Q → W p l e rmX11_lowest s m args below meth c H locs 0 0 Z (F0 m 45 ls []) := by
    intro v5_45 H locs ls hP hD hS hl hm
    unfold m_X11_lowest_L45 at hm
    refine lv_lload hx hb (dX11_lowest 23 rfl) (lv_at hl 3 rfl) ?_
    refine lv_lconst (v := 0) hx hb (dX11_lowest 24 rfl) (by decide) ?_
    refine W.lcmp hx hb (dX11_lowest 25 rfl) ?_
    refine lv_if_ne (tgt := 56) hx hb (dX11_lowest 26 rfl) (by decide) (fun c3 => ?_) (fun c3 => ?_)
    · replace hm := hm.2 c3
      refine lv_iload hx hb (dX11_lowest 29 rfl) (lv_at hl 2 rfl) ?_
      refine lv_if_ne (tgt := 68) hx hb (dX11_lowest 30 rfl) (by decide) (fun c4 => ?_) (fun c4 => ?_)
      · replace hm := hm.2 c4
        refine lv_lload_n hx hb (dX11_lowest 35 rfl) rfl (lv_at hl 1 rfl) ?_
        refine lv_lload hx hb (dX11_lowest 36 rfl) (lv_at hl 3 rfl) ?_
        refine lv_ldiv hx hb (dX11_lowest 37 rfl) hm.1 ?_
        replace hm := hm.2
        exact hZ (a2 / v5_45) () H locs ls 72 hm hP hD hS (dX11_lowest 38 rfl)
      replace hm := hm.1 c4
      refine lv_lload_n hx hb (dX11_lowest 31 rfl) rfl (lv_at hl 0 rfl) ?_
      refine lv_lload hx hb (dX11_lowest 32 rfl) (lv_at hl 3 rfl) ?_
      refine lv_ldiv hx hb (dX11_lowest 33 rfl) hm.1 ?_
      replace hm := hm.2
      refine lv_goto (tgt := 72) hx hb (dX11_lowest 34 rfl) (by decide) ?_
      exact hZ (a1 / v5_45) () H locs ls 72 hm hP hD hS (dX11_lowest 38 rfl)
    replace hm := hm.1 c3
    refine lv_ldc2 (own := RX11) (index := 194) (v := (-9223372036854775808 : Int64)) hx hb hown (hts (.constantLong RX11 194 (-9223372036854775808)) (inR33 _ (List.mem_of_getElem? (i := 21) rfl))) (dX11_lowest 27 rfl) ?_
    exact hZ (-9223372036854775808 : Int64) () H locs ls 55 hm hP hD hS (dX11_lowest 28 rfl)
  have lab9 : ∀ (n9 : Nat) (v5_9 : Int64) (v7_9 : Int64) (v9_9 : Int32) , ∀ (H : Heap) (locs : List Loc) (ls : Array Slot), va_P D vwCl [] H → va_D A [] → va_S A s.heap H locs → lv_has ls 12 [(0, .long a1), (2, .long a2), (4, .int a3), (5, .long v5_9), (7, .long v7_9), (9, .int v9_9)] → m_X11_lowest_L9 a1 a2 a3 Q n9 v5_9 v7_9 v9_9 → W p l e rmX11_lowest s m args below meth c H locs 0 0 Z (F0 m 9 ls []) := by
    intro n9
    induction n9 with
    | zero =>
      intro v5_9 v7_9 v9_9 H locs ls hP hD hS hl hm
      exact hm.elim
    | succ n9 ih9 =>
      intro v5_9 v7_9 v9_9 H locs ls hP hD hS hl hm
      unfold m_X11_lowest_L9 at hm
      obtain ⟨K9, hK9⟩ : ∃ K : Int64 → Int64 → Int32 → Prop, K = m_X11_lowest_L9 a1 a2 a3 Q n9 := ⟨_, rfl⟩
      rw [← hK9] at hm ih9
      refine lv_iload hx hb (dX11_lowest 6 rfl) (lv_at hl 5 rfl) ?_
      refine lv_sipush (v := (1000 : Int32)) hx hb (dX11_lowest 7 rfl) (by decide) ?_
      refine lv_icmp_ge (tgt := 45) hx hb (dX11_lowest 8 rfl) (by decide) (fun c2 => ?_) (fun c2 => ?_)
      · replace hm := hm.1 c2
        exact lab45 v5_9 H locs ls hP hD hS (lv_sub hl [0, 1, 2, 3] rfl) hm
      replace hm := hm.2 c2
      refine lv_lload hx hb (dX11_lowest 9 rfl) (lv_at hl 4 rfl) ?_
      refine lv_lconst (v := 0) hx hb (dX11_lowest 10 rfl) (by decide) ?_
      refine W.lcmp hx hb (dX11_lowest 11 rfl) ?_
      refine lv_if_eq (tgt := 45) hx hb (dX11_lowest 12 rfl) (by decide) (fun c5 => ?_) (fun c5 => ?_)
      · replace hm := hm.1 c5
        exact lab45 v5_9 H locs ls hP hD hS (lv_sub hl [0, 1, 2, 3] rfl) hm
      replace hm := hm.2 c5
      refine lv_lload hx hb (dX11_lowest 13 rfl) (lv_at hl 3 rfl) ?_
      refine lv_lload hx hb (dX11_lowest 14 rfl) (lv_at hl 4 rfl) ?_
      refine lv_lrem hx hb (dX11_lowest 15 rfl) hm.1 ?_
      replace hm := hm.2
      refine lv_topl (fun x6 ex6 => ?_)
      replace hm := hm x6 ex6
      refine lv_lstore (lv' := [(10, .long x6), (0, .long a1), (2, .long a2), (4, .int a3), (5, .long v5_9), (7, .long v7_9), (9, .int v9_9)]) hx hb (dX11_lowest 16 rfl) hl (by decide) rfl (fun ls hl => ?_)
      refine lv_lload hx hb (dX11_lowest 17 rfl) (lv_at hl 5 rfl) ?_
      refine lv_lstore (lv' := [(5, .long v7_9), (10, .long x6), (0, .long a1), (2, .long a2), (4, .int a3), (7, .long v7_9), (9, .int v9_9)]) hx hb (dX11_lowest 18 rfl) hl (by decide) rfl (fun ls hl => ?_)
      refine lv_lload hx hb (dX11_lowest 19 rfl) (lv_at hl 1 rfl) ?_
      refine lv_lstore (lv' := [(7, .long x6), (5, .long v7_9), (10, .long x6), (0, .long a1), (2, .long a2), (4, .int a3), (9, .int v9_9)]) hx hb (dX11_lowest 20 rfl) hl (by decide) rfl (fun ls hl => ?_)
      obtain ⟨x7, ex7⟩ : ∃ y : Int32, y = v9_9 + 1 := ⟨_, rfl⟩
      replace hm := hm x7 ex7
      refine lv_iinc (v := x7) (lv' := [(9, .int x7), (7, .long x6), (5, .long v7_9), (10, .long x6), (0, .long a1), (2, .long a2), (4, .int a3)]) hx hb (dX11_lowest 21 rfl) hl (k := 6) rfl (by rw [ex7]; rfl) (by decide) rfl (fun ls hl => ?_)
      refine lv_goto (tgt := 9) hx hb (dX11_lowest 22 rfl) (by decide) ?_
      exact ih9 v7_9 x6 x7 H locs ls hP hD hS (lv_sub hl [4, 5, 6, 2, 1, 0] rfl) hm
  obtain ⟨H, hH⟩ : ∃ H, H = s.heap := ⟨_, rfl⟩
  obtain ⟨locs, hlo⟩ : ∃ q : List Loc, q = [] := ⟨_, rfl⟩
  suffices hgo : W p l e rmX11_lowest s m args below meth c H locs 0 0 Z (F0 m 0 ls []) by rw [hH, hlo] at hgo; exact hgo
  have hP : va_P D vwCl [] H := by rw [hH]; exact hP
  have hD : va_D A [] := hD
  have hS : va_S A s.heap H locs := by rw [hH, hlo]; exact hS
  refine lv_lload_n hx hb (dX11_lowest 0 rfl) rfl (lv_at hl 1 rfl) ?_
  refine lv_lstore (lv' := [(5, .long a2), (0, .long a1), (2, .long a2), (4, .int a3)]) hx hb (dX11_lowest 1 rfl) hl (by decide) rfl (fun ls hl => ?_)
  refine lv_lload_n hx hb (dX11_lowest 2 rfl) rfl (lv_at hl 1 rfl) ?_
  refine lv_lstore (lv' := [(7, .long a1), (5, .long a2), (0, .long a1), (2, .long a2), (4, .int a3)]) hx hb (dX11_lowest 3 rfl) hl (by decide) rfl (fun ls hl => ?_)
  refine lv_iconst (v := (0 : Int32)) hx hb (dX11_lowest 4 rfl) (by decide) ?_
  refine lv_topi (fun x1 ex1 => ?_)
  replace hm := hm x1 ex1
  refine lv_istore (lv' := [(9, .int x1), (7, .long a1), (5, .long a2), (0, .long a1), (2, .long a2), (4, .int a3)]) hx hb (dX11_lowest 5 rfl) hl (by decide) rfl (fun ls hl => ?_)
  obtain ⟨n8, hm⟩ := hm
  exact lab9 n8 a2 a1 x1 H locs ls hP hD hS (lv_sub hl [3, 4, 5, 2, 1, 0] rfl) hm
abbrev rmX1_readNumber : Room := { frames := 1, cells := 0, slots := 0, locals := 21 }
set_option maxHeartbeats 4000000 in
set_option maxRecDepth 100000 in
theorem k_X1_readNumber (l : Launch) (D : va_G) (cI cZ cL : ClassId) (im : va_W) (sz : Nat) (h : Nat) (htape : Nat) (q_steps : Nat) (q_words : Nat) (q_numbers : Nat) (q_starts : Nat) (q_ends : Nat) (f_place : Int32) (f_stepCount : Int32) (f_clauses : Int32) (f_gap : Int32) (f_far : Int32) (qtape_items : Nat) (ftape_size : Int32) (ftape_came : Int32) (rtape_items : Nat → Int32) (Q : Int32 → Int32 → Prop) (hm : m_X1_readNumber f_place ftape_size rtape_items Q) : Met l yX1_readNumber (Cond.code yX1_readNumber cX1_readNumber 3 (some .int) :: wsL_law) rmX1_readNumber (obPre D (tyG cI cZ cL) im [(h, .inr (1, [.ref htape, .ref q_steps, .ref q_words, .ref q_numbers, .ref q_starts, .ref q_ends, .int f_place, .int f_stepCount, .int f_clauses, .int f_gap, .int f_far])), (htape, .inr (7, [.ref qtape_items, .int ftape_size, .int ftape_came])), (qtape_items, .inl (cI, 100, .inl rtape_items))] sz [.ref h]) (va_Qi (fun (r : Int32) (u : Int32) => Q r u) (obB D (va_A [(h, .inr (1, [.ref htape, .ref q_steps, .ref q_words, .ref q_numbers, .ref q_starts, .ref q_ends, .int f_place, .int f_stepCount, .int f_clauses, .int f_gap, .int f_far])), (htape, .inr (7, [.ref qtape_items, .int ftape_size, .int ftape_came])), (qtape_items, .inl (cI, 100, .inl rtape_items))] sz) (fun u : Int32 => [(h, .inr (1, [.ref htape, .ref q_steps, .ref q_words, .ref q_numbers, .ref q_starts, .ref q_ends, .int u, .int f_stepCount, .int f_clauses, .int f_gap, .int f_far])), (htape, .inr (7, [.ref qtape_items, .int ftape_size, .int ftape_came])), (qtape_items, .inl (cI, 100, .inl rtape_items))])) (va_A [(h, .inr (1, [.ref htape, .ref q_steps, .ref q_words, .ref q_numbers, .ref q_starts, .ref q_ends, .int f_place, .int f_stepCount, .int f_clauses, .int f_gap, .int f_far])), (htape, .inr (7, [.ref qtape_items, .int ftape_size, .int ftape_came])), (qtape_items, .inl (cI, 100, .inl rtape_items))] sz)) 0 0 (va_A [(h, .inr (1, [.ref htape, .ref q_steps, .ref q_words, .ref q_numbers, .ref q_starts, .ref q_ends, .int f_place, .int f_stepCount, .int f_clauses, .int f_gap, .int f_far])), (htape, .inr (7, [.ref qtape_items, .int ftape_size, .int ftape_came])), (qtape_items, .inl (cI, 100, .inl rtape_items))] sz) := by
  refine ob_met_i (cc := cX1_readNumber) (maxL := 3) (by decide) (Nat.le_of_ble_eq_true rfl) (fun p e s m args below meth c A Z hx hb hml hown hts hnm hN hK hA hI hP hD hS hZ ls hl => ?_)
  have hl : lv_has ls 3 [(0, .ref h)] := hl
  unfold m_X1_readNumber at hm
  obtain ⟨H, hH⟩ : ∃ H, H = s.heap := ⟨_, rfl⟩
  obtain ⟨locs, hlo⟩ : ∃ q : List Loc, q = [] := ⟨_, rfl⟩
  suffices hgo : W p l e rmX1_readNumber s m args below meth c H locs 0 0 Z (F0 m 0 ls []) by rw [hH, hlo] at hgo; exact hgo
  have hP : va_P D vwCl [(h, .inr (1, [.ref htape, .ref q_steps, .ref q_words, .ref q_numbers, .ref q_starts, .ref q_ends, .int f_place, .int f_stepCount, .int f_clauses, .int f_gap, .int f_far])), (htape, .inr (7, [.ref qtape_items, .int ftape_size, .int ftape_came])), (qtape_items, .inl (cI, 100, .inl rtape_items))] H := by rw [hH]; exact hP
  have hD : va_D A [(h, .inr (1, [.ref htape, .ref q_steps, .ref q_words, .ref q_numbers, .ref q_starts, .ref q_ends, .int f_place, .int f_stepCount, .int f_clauses, .int f_gap, .int f_far])), (htape, .inr (7, [.ref qtape_items, .int ftape_size, .int ftape_came])), (qtape_items, .inl (cI, 100, .inl rtape_items))] := hD
  have hS : va_S A s.heap H locs := by rw [hH, hlo]; exact hS
  refine lv_aload_n hx hb (dX1_readNumber 0 rfl) rfl (lv_at hl 0 rfl) ?_
  refine va_get (D := D) (ci := 1) (v := .ref htape) (C := RX1) (T := TX1) (N := 11) hx hb hts inlX1 hown hK hP 0 rfl rfl 0 (by decide) (hts (.fieldLink RX1 9 "OverBacks$Field" "tape" "LOverBacks$Numbers;") (inR5 _ (List.mem_of_getElem? (i := 13) rfl))) (fun _ h9 => h9) rfl (dX1_readNumber 1 rfl) ?_
  refine lv_aload_n hx hb (dX1_readNumber 2 rfl) rfl (lv_at hl 0 rfl) ?_
  refine va_get (D := D) (ci := 1) (v := .int f_place) (C := RX1) (T := TX1) (N := 11) hx hb hts inlX1 hown hK hP 0 rfl rfl 6 (by decide) (hts (.fieldLink RX1 42 "OverBacks$Field" "place" "I") (inR6 _ (List.mem_of_getElem? (i := 1) rfl))) (fun _ h9 => h9) rfl (dX1_readNumber 3 rfl) ?_
  have hcut := ob_cut (wc := [(htape, .inr (7, [.ref qtape_items, .int ftape_size, .int ftape_came])), (qtape_items, .inl (cI, 100, .inl rtape_items))]) hP hD hS hA [1, 2] rfl (by decide)
  refine ob_i (wr := [(h, .inr (1, [.ref htape, .ref q_steps, .ref q_words, .ref q_numbers, .ref q_starts, .ref q_ends, .int f_place, .int f_stepCount, .int f_clauses, .int f_gap, .int f_far]))]) (ob_V (As := [.int f_place]) (rest := []) ⟨hx, hb, hml, hown, hts⟩ hK hcut (hI.cut hS hcut.2.2) hN (va_recv hK hP (ci := 7) (q0 := 1) rfl rfl) (k_X7_at l D cI cZ cL im _ _ _ _ _ _ _ _ _ hm) (cwV 1 hts (gU_V (inR6 _ (List.mem_of_getElem? (i := 12) rfl)) (inR6 _ (List.mem_of_getElem? (i := 13) rfl)) (inR6 _ (List.mem_of_getElem? (i := 14) rfl)) (inR1 _ (List.mem_of_getElem? (i := 23) rfl)) (inR6 _ (List.mem_of_getElem? (i := 15) rfl))) rfl rfl rfl (by decide +kernel) ⟨Nat.le_of_ble_eq_true rfl, Nat.le_of_ble_eq_true rfl⟩) rfl hl.1 rfl (Nat.le_of_ble_eq_true rfl) (dX1_readNumber 4 rfl) ⟨Nat.zero_le _, Nat.zero_le _⟩) hP hD hS hcut [1, 2] [0] rfl rfl (by decide) (by decide) (fun r1 u2 H locs hm hP hD hS => ?_)
  have hP := hP.sub (ws' := [(h, .inr (1, [.ref htape, .ref q_steps, .ref q_words, .ref q_numbers, .ref q_starts, .ref q_ends, .int f_place, .int f_stepCount, .int f_clauses, .int f_gap, .int f_far])), (htape, .inr (7, [.ref qtape_items, .int ftape_size, .int ftape_came])), (qtape_items, .inl (cI, 100, .inl rtape_items))]) [0, 1, 2] rfl
  have hD := hD.sub (ws' := [(h, .inr (1, [.ref htape, .ref q_steps, .ref q_words, .ref q_numbers, .ref q_starts, .ref q_ends, .int f_place, .int f_stepCount, .int f_clauses, .int f_gap, .int f_far])), (htape, .inr (7, [.ref qtape_items, .int ftape_size, .int ftape_came])), (qtape_items, .inl (cI, 100, .inl rtape_items))]) [0, 1, 2] (by decide) rfl
  refine lv_istore_n (lv' := [(1, .int r1), (0, .ref h)]) hx hb (dX1_readNumber 5 rfl) rfl hl (by decide) rfl (fun ls hl => ?_)
  refine lv_iload_n hx hb (dX1_readNumber 6 rfl) rfl (lv_at hl 0 rfl) ?_
  have hcut := ob_cut (wc := []) hP hD hS hA [] rfl (by decide)
  refine ob_i (wr := [(h, .inr (1, [.ref htape, .ref q_steps, .ref q_words, .ref q_numbers, .ref q_starts, .ref q_ends, .int f_place, .int f_stepCount, .int f_clauses, .int f_gap, .int f_far])), (htape, .inr (7, [.ref qtape_items, .int ftape_size, .int ftape_came])), (qtape_items, .inl (cI, 100, .inl rtape_items))]) (ob_S (As := [.int r1]) (rest := []) ⟨hx, hb, hml, hown, hts⟩ hK hcut (hI.cut hS hcut.2.2) hN (k_X1_isDigitSign l D cI cZ cL im _ _ _ hm) (cwS2 1 hts (hts (.methodLink RX1 85 yX1_isDigitSign) (inR9 _ (List.mem_of_getElem? (i := 5) rfl))) (hts (.static yX1_isDigitSign) (inR9 _ (List.mem_of_getElem? (i := 6) rfl))) (hts (.initialized RX1) (inR5 _ (List.mem_of_getElem? (i := 8) rfl))) (goodU_c (inR9 _ (List.mem_of_getElem? (i := 7) rfl))) rfl rfl rfl (by decide +kernel) ⟨Nat.le_of_ble_eq_true rfl, Nat.le_of_ble_eq_true rfl⟩) rfl hl.1 rfl (Nat.le_of_ble_eq_true rfl) (dX1_readNumber 7 rfl) ⟨Nat.zero_le _, Nat.zero_le _⟩) hP hD hS hcut [] [0, 1, 2] rfl rfl (by decide) (by decide) (fun r3 u4 H locs hm hP hD hS => ?_)
  have hP := hP.sub (ws' := [(h, .inr (1, [.ref htape, .ref q_steps, .ref q_words, .ref q_numbers, .ref q_starts, .ref q_ends, .int f_place, .int f_stepCount, .int f_clauses, .int f_gap, .int f_far])), (htape, .inr (7, [.ref qtape_items, .int ftape_size, .int ftape_came])), (qtape_items, .inl (cI, 100, .inl rtape_items))]) [0, 1, 2] rfl
  have hD := hD.sub (ws' := [(h, .inr (1, [.ref htape, .ref q_steps, .ref q_words, .ref q_numbers, .ref q_starts, .ref q_ends, .int f_place, .int f_stepCount, .int f_clauses, .int f_gap, .int f_far])), (htape, .inr (7, [.ref qtape_items, .int ftape_size, .int ftape_came])), (qtape_items, .inl (cI, 100, .inl rtape_items))]) [0, 1, 2] (by decide) rfl
  refine lv_if_ne (tgt := 21) hx hb (dX1_readNumber 8 rfl) (by decide) (fun c5 => ?_) (fun c5 => ?_)
  · replace hm := hm.2 c5
    refine lv_aload_n hx hb (dX1_readNumber 11 rfl) rfl (lv_at hl 1 rfl) ?_
    refine lv_dup hx hb (dX1_readNumber 12 rfl) rfl ?_
    refine va_get (D := D) (ci := 1) (v := .int f_place) (C := RX1) (T := TX1) (N := 11) hx hb hts inlX1 hown hK hP 0 rfl rfl 6 (by decide) (hts (.fieldLink RX1 42 "OverBacks$Field" "place" "I") (inR6 _ (List.mem_of_getElem? (i := 1) rfl))) (fun _ h9 => h9) rfl (dX1_readNumber 13 rfl) ?_
    refine lv_iconst (v := (1 : Int32)) hx hb (dX1_readNumber 14 rfl) (by decide) ?_
    refine lv_iadd hx hb (dX1_readNumber 15 rfl) ?_
    refine va_put (D := D) (ci := 1) (v := .int (f_place + (1 : Int32))) (ty := .int) (C := RX1) (T := TX1) (N := 11) hx hb hts inlX1 tyX1 tyX1_ok nmX1 hown hK hP hD hS 0 rfl rfl 6 (by decide) (hts (.fieldLink RX1 42 "OverBacks$Field" "place" "I") (inR6 _ (List.mem_of_getElem? (i := 1) rfl))) (fun _ h9 => h9) rfl (by decide +kernel) rfl rfl (Nat.le_of_ble_eq_true rfl) (dX1_readNumber 16 rfl) (fun H locs hP hD hS => ?_)
    have hP : va_P D vwCl [(h, .inr (1, [.ref htape, .ref q_steps, .ref q_words, .ref q_numbers, .ref q_starts, .ref q_ends, .int (f_place + (1 : Int32)), .int f_stepCount, .int f_clauses, .int f_gap, .int f_far])), (htape, .inr (7, [.ref qtape_items, .int ftape_size, .int ftape_came])), (qtape_items, .inl (cI, 100, .inl rtape_items))] H := hP
    have hD : va_D A [(h, .inr (1, [.ref htape, .ref q_steps, .ref q_words, .ref q_numbers, .ref q_starts, .ref q_ends, .int (f_place + (1 : Int32)), .int f_stepCount, .int f_clauses, .int f_gap, .int f_far])), (htape, .inr (7, [.ref qtape_items, .int ftape_size, .int ftape_came])), (qtape_items, .inl (cI, 100, .inl rtape_items))] := hD
    refine lv_aload_n hx hb (dX1_readNumber 17 rfl) rfl (lv_at hl 1 rfl) ?_
    refine va_get (D := D) (ci := 1) (v := .ref htape) (C := RX1) (T := TX1) (N := 11) hx hb hts inlX1 hown hK hP 0 rfl rfl 0 (by decide) (hts (.fieldLink RX1 9 "OverBacks$Field" "tape" "LOverBacks$Numbers;") (inR5 _ (List.mem_of_getElem? (i := 13) rfl))) (fun _ h9 => h9) rfl (dX1_readNumber 18 rfl) ?_
    refine lv_aload_n hx hb (dX1_readNumber 19 rfl) rfl (lv_at hl 1 rfl) ?_
    refine va_get (D := D) (ci := 1) (v := .int (f_place + (1 : Int32))) (C := RX1) (T := TX1) (N := 11) hx hb hts inlX1 hown hK hP 0 rfl rfl 6 (by decide) (hts (.fieldLink RX1 42 "OverBacks$Field" "place" "I") (inR6 _ (List.mem_of_getElem? (i := 1) rfl))) (fun _ h9 => h9) rfl (dX1_readNumber 20 rfl) ?_
    have hcut := ob_cut (wc := [(htape, .inr (7, [.ref qtape_items, .int ftape_size, .int ftape_came])), (qtape_items, .inl (cI, 100, .inl rtape_items))]) hP hD hS hA [1, 2] rfl (by decide)
    refine ob_i (wr := [(h, .inr (1, [.ref htape, .ref q_steps, .ref q_words, .ref q_numbers, .ref q_starts, .ref q_ends, .int (f_place + (1 : Int32)), .int f_stepCount, .int f_clauses, .int f_gap, .int f_far]))]) (ob_V (As := [.int (f_place + (1 : Int32))]) (rest := []) ⟨hx, hb, hml, hown, hts⟩ hK hcut (hI.cut hS hcut.2.2) hN (va_recv hK hP (ci := 7) (q0 := 1) rfl rfl) (k_X7_at l D cI cZ cL im _ _ _ _ _ _ _ _ _ hm) (cwV 1 hts (gU_V (inR6 _ (List.mem_of_getElem? (i := 12) rfl)) (inR6 _ (List.mem_of_getElem? (i := 13) rfl)) (inR6 _ (List.mem_of_getElem? (i := 14) rfl)) (inR1 _ (List.mem_of_getElem? (i := 23) rfl)) (inR6 _ (List.mem_of_getElem? (i := 15) rfl))) rfl rfl rfl (by decide +kernel) ⟨Nat.le_of_ble_eq_true rfl, Nat.le_of_ble_eq_true rfl⟩) rfl hl.1 rfl (Nat.le_of_ble_eq_true rfl) (dX1_readNumber 21 rfl) ⟨Nat.zero_le _, Nat.zero_le _⟩) hP hD hS hcut [1, 2] [0] rfl rfl (by decide) (by decide) (fun r6 u7 H locs hm hP hD hS => ?_)
    have hP := hP.sub (ws' := [(h, .inr (1, [.ref htape, .ref q_steps, .ref q_words, .ref q_numbers, .ref q_starts, .ref q_ends, .int (f_place + (1 : Int32)), .int f_stepCount, .int f_clauses, .int f_gap, .int f_far])), (htape, .inr (7, [.ref qtape_items, .int ftape_size, .int ftape_came])), (qtape_items, .inl (cI, 100, .inl rtape_items))]) [0, 1, 2] rfl
    have hD := hD.sub (ws' := [(h, .inr (1, [.ref htape, .ref q_steps, .ref q_words, .ref q_numbers, .ref q_starts, .ref q_ends, .int (f_place + (1 : Int32)), .int f_stepCount, .int f_clauses, .int f_gap, .int f_far])), (htape, .inr (7, [.ref qtape_items, .int ftape_size, .int ftape_came])), (qtape_items, .inl (cI, 100, .inl rtape_items))]) [0, 1, 2] (by decide) rfl
    refine lv_istore_n (lv' := [(2, .int r6), (1, .int r1), (0, .ref h)]) hx hb (dX1_readNumber 22 rfl) rfl hl (by decide) rfl (fun ls hl => ?_)
    refine lv_iload_n hx hb (dX1_readNumber 23 rfl) rfl (lv_at hl 0 rfl) ?_
    have hcut := ob_cut (wc := []) hP hD hS hA [] rfl (by decide)
    refine ob_i (wr := [(h, .inr (1, [.ref htape, .ref q_steps, .ref q_words, .ref q_numbers, .ref q_starts, .ref q_ends, .int (f_place + (1 : Int32)), .int f_stepCount, .int f_clauses, .int f_gap, .int f_far])), (htape, .inr (7, [.ref qtape_items, .int ftape_size, .int ftape_came])), (qtape_items, .inl (cI, 100, .inl rtape_items))]) (ob_S (As := [.int r6]) (rest := []) ⟨hx, hb, hml, hown, hts⟩ hK hcut (hI.cut hS hcut.2.2) hN (k_X1_isDigitSign l D cI cZ cL im _ _ _ hm) (cwS2 1 hts (hts (.methodLink RX1 85 yX1_isDigitSign) (inR9 _ (List.mem_of_getElem? (i := 5) rfl))) (hts (.static yX1_isDigitSign) (inR9 _ (List.mem_of_getElem? (i := 6) rfl))) (hts (.initialized RX1) (inR5 _ (List.mem_of_getElem? (i := 8) rfl))) (goodU_c (inR9 _ (List.mem_of_getElem? (i := 7) rfl))) rfl rfl rfl (by decide +kernel) ⟨Nat.le_of_ble_eq_true rfl, Nat.le_of_ble_eq_true rfl⟩) rfl hl.1 rfl (Nat.le_of_ble_eq_true rfl) (dX1_readNumber 24 rfl) ⟨Nat.zero_le _, Nat.zero_le _⟩) hP hD hS hcut [] [0, 1, 2] rfl rfl (by decide) (by decide) (fun r8 u9 H locs hm hP hD hS => ?_)
    have hP := hP.sub (ws' := [(h, .inr (1, [.ref htape, .ref q_steps, .ref q_words, .ref q_numbers, .ref q_starts, .ref q_ends, .int (f_place + (1 : Int32)), .int f_stepCount, .int f_clauses, .int f_gap, .int f_far])), (htape, .inr (7, [.ref qtape_items, .int ftape_size, .int ftape_came])), (qtape_items, .inl (cI, 100, .inl rtape_items))]) [0, 1, 2] rfl
    have hD := hD.sub (ws' := [(h, .inr (1, [.ref htape, .ref q_steps, .ref q_words, .ref q_numbers, .ref q_starts, .ref q_ends, .int (f_place + (1 : Int32)), .int f_stepCount, .int f_clauses, .int f_gap, .int f_far])), (htape, .inr (7, [.ref qtape_items, .int ftape_size, .int ftape_came])), (qtape_items, .inl (cI, 100, .inl rtape_items))]) [0, 1, 2] (by decide) rfl
    refine lv_if_ne (tgt := 55) hx hb (dX1_readNumber 25 rfl) (by decide) (fun c10 => ?_) (fun c10 => ?_)
    · replace hm := hm.2 c10
      refine lv_iload_n hx hb (dX1_readNumber 30 rfl) rfl (lv_at hl 1 rfl) ?_
      refine lv_bipush (v := (48 : Int32)) hx hb (dX1_readNumber 31 rfl) (by decide) ?_
      refine lv_icmp_ne (tgt := 63) hx hb (dX1_readNumber 32 rfl) (by decide) (fun c11 => ?_) (fun c11 => ?_)
      · replace hm := hm.2 c11
        refine lv_aload_n hx hb (dX1_readNumber 35 rfl) rfl (lv_at hl 2 rfl) ?_
        refine lv_dup hx hb (dX1_readNumber 36 rfl) rfl ?_
        refine va_get (D := D) (ci := 1) (v := .int (f_place + (1 : Int32))) (C := RX1) (T := TX1) (N := 11) hx hb hts inlX1 hown hK hP 0 rfl rfl 6 (by decide) (hts (.fieldLink RX1 42 "OverBacks$Field" "place" "I") (inR6 _ (List.mem_of_getElem? (i := 1) rfl))) (fun _ h9 => h9) rfl (dX1_readNumber 37 rfl) ?_
        refine lv_iconst (v := (1 : Int32)) hx hb (dX1_readNumber 38 rfl) (by decide) ?_
        refine lv_iadd hx hb (dX1_readNumber 39 rfl) ?_
        refine va_put (D := D) (ci := 1) (v := .int ((f_place + (1 : Int32)) + (1 : Int32))) (ty := .int) (C := RX1) (T := TX1) (N := 11) hx hb hts inlX1 tyX1 tyX1_ok nmX1 hown hK hP hD hS 0 rfl rfl 6 (by decide) (hts (.fieldLink RX1 42 "OverBacks$Field" "place" "I") (inR6 _ (List.mem_of_getElem? (i := 1) rfl))) (fun _ h9 => h9) rfl (by decide +kernel) rfl rfl (Nat.le_of_ble_eq_true rfl) (dX1_readNumber 40 rfl) (fun H locs hP hD hS => ?_)
        have hP : va_P D vwCl [(h, .inr (1, [.ref htape, .ref q_steps, .ref q_words, .ref q_numbers, .ref q_starts, .ref q_ends, .int ((f_place + (1 : Int32)) + (1 : Int32)), .int f_stepCount, .int f_clauses, .int f_gap, .int f_far])), (htape, .inr (7, [.ref qtape_items, .int ftape_size, .int ftape_came])), (qtape_items, .inl (cI, 100, .inl rtape_items))] H := hP
        have hD : va_D A [(h, .inr (1, [.ref htape, .ref q_steps, .ref q_words, .ref q_numbers, .ref q_starts, .ref q_ends, .int ((f_place + (1 : Int32)) + (1 : Int32)), .int f_stepCount, .int f_clauses, .int f_gap, .int f_far])), (htape, .inr (7, [.ref qtape_items, .int ftape_size, .int ftape_came])), (qtape_items, .inl (cI, 100, .inl rtape_items))] := hD
        refine lv_iload_n hx hb (dX1_readNumber 41 rfl) rfl (lv_at hl 1 rfl) ?_
        refine lv_bipush (v := (48 : Int32)) hx hb (dX1_readNumber 42 rfl) (by decide) ?_
        refine lv_isub hx hb (dX1_readNumber 43 rfl) ?_
        refine lv_bipush (v := (10 : Int32)) hx hb (dX1_readNumber 44 rfl) (by decide) ?_
        refine lv_imul hx hb (dX1_readNumber 45 rfl) ?_
        refine lv_iload_n hx hb (dX1_readNumber 46 rfl) rfl (lv_at hl 0 rfl) ?_
        refine lv_bipush (v := (48 : Int32)) hx hb (dX1_readNumber 47 rfl) (by decide) ?_
        refine lv_isub hx hb (dX1_readNumber 48 rfl) ?_
        refine lv_iadd hx hb (dX1_readNumber 49 rfl) ?_
        exact hZ (((r1 - (48 : Int32)) * (10 : Int32)) + (r6 - (48 : Int32))) (f_place + (1 : Int32)) + (1 : Int32) H locs ls 85 hm hP hD hS (dX1_readNumber 50 rfl) rfl
      replace hm := hm.1 c11
      refine lv_iconst (v := (-1 : Int32)) hx hb (dX1_readNumber 33 rfl) (by decide) ?_
      exact hZ (-1 : Int32) (f_place + (1 : Int32)) H locs ls 62 hm hP hD hS (dX1_readNumber 34 rfl) rfl
    replace hm := hm.1 c10
    refine lv_iload_n hx hb (dX1_readNumber 26 rfl) rfl (lv_at hl 1 rfl) ?_
    refine lv_bipush (v := (48 : Int32)) hx hb (dX1_readNumber 27 rfl) (by decide) ?_
    refine lv_isub hx hb (dX1_readNumber 28 rfl) ?_
    exact hZ (r1 - (48 : Int32)) (f_place + (1 : Int32)) H locs ls 54 hm hP hD hS (dX1_readNumber 29 rfl) rfl
  replace hm := hm.1 c5
  refine lv_iconst (v := (-1 : Int32)) hx hb (dX1_readNumber 9 rfl) (by decide) ?_
  exact hZ (-1 : Int32) f_place H locs ls 20 hm hP hD hS (dX1_readNumber 10 rfl) rfl
abbrev rmX1_readTest : Room := { frames := 2, cells := 0, slots := 0, locals := 43 }
set_option maxHeartbeats 4000000 in
set_option maxRecDepth 100000 in
theorem k_X1_readTest (l : Launch) (D : va_G) (cI cZ cL : ClassId) (im : va_W) (sz : Nat) (h : Nat) (htape : Nat) (q_steps : Nat) (q_words : Nat) (q_numbers : Nat) (q_starts : Nat) (q_ends : Nat) (f_place : Int32) (f_stepCount : Int32) (f_clauses : Int32) (f_gap : Int32) (f_far : Int32) (r_steps : Nat → Int32) (qtape_items : Nat) (ftape_size : Int32) (ftape_came : Int32) (rtape_items : Nat → Int32) (Q : Int32 → Int32 → Int32 → (Nat → Int32) → Prop) (hm : m_X1_readTest f_place f_stepCount r_steps ftape_size rtape_items Q) : Met l yX1_readTest (Cond.code yX1_readTest cX1_readTest 4 (some .boolean) :: wsL_law) rmX1_readTest (obPre D (tyG cI cZ cL) im [(h, .inr (1, [.ref htape, .ref q_steps, .ref q_words, .ref q_numbers, .ref q_starts, .ref q_ends, .int f_place, .int f_stepCount, .int f_clauses, .int f_gap, .int f_far])), (q_steps, .inl (cI, 100, .inl r_steps)), (htape, .inr (7, [.ref qtape_items, .int ftape_size, .int ftape_came])), (qtape_items, .inl (cI, 100, .inl rtape_items))] sz [.ref h]) (va_Qi (fun (r : Int32) (u : Int32 × Int32 × (Nat → Int32)) => Q r u.1 u.2.1 u.2.2) (obB D (va_A [(h, .inr (1, [.ref htape, .ref q_steps, .ref q_words, .ref q_numbers, .ref q_starts, .ref q_ends, .int f_place, .int f_stepCount, .int f_clauses, .int f_gap, .int f_far])), (q_steps, .inl (cI, 100, .inl r_steps)), (htape, .inr (7, [.ref qtape_items, .int ftape_size, .int ftape_came])), (qtape_items, .inl (cI, 100, .inl rtape_items))] sz) (fun u : Int32 × Int32 × (Nat → Int32) => [(h, .inr (1, [.ref htape, .ref q_steps, .ref q_words, .ref q_numbers, .ref q_starts, .ref q_ends, .int u.1, .int u.2.1, .int f_clauses, .int f_gap, .int f_far])), (q_steps, .inl (cI, 100, .inl u.2.2)), (htape, .inr (7, [.ref qtape_items, .int ftape_size, .int ftape_came])), (qtape_items, .inl (cI, 100, .inl rtape_items))])) (va_A [(h, .inr (1, [.ref htape, .ref q_steps, .ref q_words, .ref q_numbers, .ref q_starts, .ref q_ends, .int f_place, .int f_stepCount, .int f_clauses, .int f_gap, .int f_far])), (q_steps, .inl (cI, 100, .inl r_steps)), (htape, .inr (7, [.ref qtape_items, .int ftape_size, .int ftape_came])), (qtape_items, .inl (cI, 100, .inl rtape_items))] sz)) 0 0 (va_A [(h, .inr (1, [.ref htape, .ref q_steps, .ref q_words, .ref q_numbers, .ref q_starts, .ref q_ends, .int f_place, .int f_stepCount, .int f_clauses, .int f_gap, .int f_far])), (q_steps, .inl (cI, 100, .inl r_steps)), (htape, .inr (7, [.ref qtape_items, .int ftape_size, .int ftape_came])), (qtape_items, .inl (cI, 100, .inl rtape_items))] sz) := by
  refine ob_met_i (cc := cX1_readTest) (maxL := 4) (by decide) (Nat.le_of_ble_eq_true rfl) (fun p e s m args below meth c A Z hx hb hml hown hts hnm hN hK hA hI hP hD hS hZ ls hl => ?_)
  have hl : lv_has ls 4 [(0, .ref h)] := hl
  unfold m_X1_readTest at hm
  obtain ⟨H, hH⟩ : ∃ H, H = s.heap := ⟨_, rfl⟩
  obtain ⟨locs, hlo⟩ : ∃ q : List Loc, q = [] := ⟨_, rfl⟩
  suffices hgo : W p l e rmX1_readTest s m args below meth c H locs 0 0 Z (F0 m 0 ls []) by rw [hH, hlo] at hgo; exact hgo
  have hP : va_P D vwCl [(h, .inr (1, [.ref htape, .ref q_steps, .ref q_words, .ref q_numbers, .ref q_starts, .ref q_ends, .int f_place, .int f_stepCount, .int f_clauses, .int f_gap, .int f_far])), (q_steps, .inl (cI, 100, .inl r_steps)), (htape, .inr (7, [.ref qtape_items, .int ftape_size, .int ftape_came])), (qtape_items, .inl (cI, 100, .inl rtape_items))] H := by rw [hH]; exact hP
  have hD : va_D A [(h, .inr (1, [.ref htape, .ref q_steps, .ref q_words, .ref q_numbers, .ref q_starts, .ref q_ends, .int f_place, .int f_stepCount, .int f_clauses, .int f_gap, .int f_far])), (q_steps, .inl (cI, 100, .inl r_steps)), (htape, .inr (7, [.ref qtape_items, .int ftape_size, .int ftape_came])), (qtape_items, .inl (cI, 100, .inl rtape_items))] := hD
  have hS : va_S A s.heap H locs := by rw [hH, hlo]; exact hS
  refine lv_aload_n hx hb (dX1_readTest 0 rfl) rfl (lv_at hl 0 rfl) ?_
  refine va_get (D := D) (ci := 1) (v := .ref htape) (C := RX1) (T := TX1) (N := 11) hx hb hts inlX1 hown hK hP 0 rfl rfl 0 (by decide) (hts (.fieldLink RX1 9 "OverBacks$Field" "tape" "LOverBacks$Numbers;") (inR5 _ (List.mem_of_getElem? (i := 13) rfl))) (fun _ h9 => h9) rfl (dX1_readTest 1 rfl) ?_
  refine lv_aload_n hx hb (dX1_readTest 2 rfl) rfl (lv_at hl 0 rfl) ?_
  refine va_get (D := D) (ci := 1) (v := .int f_place) (C := RX1) (T := TX1) (N := 11) hx hb hts inlX1 hown hK hP 0 rfl rfl 6 (by decide) (hts (.fieldLink RX1 42 "OverBacks$Field" "place" "I") (inR6 _ (List.mem_of_getElem? (i := 1) rfl))) (fun _ h9 => h9) rfl (dX1_readTest 3 rfl) ?_
  have hcut := ob_cut (wc := [(htape, .inr (7, [.ref qtape_items, .int ftape_size, .int ftape_came])), (qtape_items, .inl (cI, 100, .inl rtape_items))]) hP hD hS hA [2, 3] rfl (by decide)
  refine ob_i (wr := [(h, .inr (1, [.ref htape, .ref q_steps, .ref q_words, .ref q_numbers, .ref q_starts, .ref q_ends, .int f_place, .int f_stepCount, .int f_clauses, .int f_gap, .int f_far])), (q_steps, .inl (cI, 100, .inl r_steps))]) (ob_V (As := [.int f_place]) (rest := []) ⟨hx, hb, hml, hown, hts⟩ hK hcut (hI.cut hS hcut.2.2) hN (va_recv hK hP (ci := 7) (q0 := 2) rfl rfl) (k_X7_at l D cI cZ cL im _ _ _ _ _ _ _ _ _ hm) (cwV 1 hts (gU_V (inR6 _ (List.mem_of_getElem? (i := 12) rfl)) (inR6 _ (List.mem_of_getElem? (i := 13) rfl)) (inR6 _ (List.mem_of_getElem? (i := 14) rfl)) (inR1 _ (List.mem_of_getElem? (i := 23) rfl)) (inR6 _ (List.mem_of_getElem? (i := 15) rfl))) rfl rfl rfl (by decide +kernel) ⟨Nat.le_of_ble_eq_true rfl, Nat.le_of_ble_eq_true rfl⟩) rfl hl.1 rfl (Nat.le_of_ble_eq_true rfl) (dX1_readTest 4 rfl) ⟨Nat.zero_le _, Nat.zero_le _⟩) hP hD hS hcut [2, 3] [0, 1] rfl rfl (by decide) (by decide) (fun r1 u2 H locs hm hP hD hS => ?_)
  have hP := hP.sub (ws' := [(h, .inr (1, [.ref htape, .ref q_steps, .ref q_words, .ref q_numbers, .ref q_starts, .ref q_ends, .int f_place, .int f_stepCount, .int f_clauses, .int f_gap, .int f_far])), (q_steps, .inl (cI, 100, .inl r_steps)), (htape, .inr (7, [.ref qtape_items, .int ftape_size, .int ftape_came])), (qtape_items, .inl (cI, 100, .inl rtape_items))]) [0, 1, 2, 3] rfl
  have hD := hD.sub (ws' := [(h, .inr (1, [.ref htape, .ref q_steps, .ref q_words, .ref q_numbers, .ref q_starts, .ref q_ends, .int f_place, .int f_stepCount, .int f_clauses, .int f_gap, .int f_far])), (q_steps, .inl (cI, 100, .inl r_steps)), (htape, .inr (7, [.ref qtape_items, .int ftape_size, .int ftape_came])), (qtape_items, .inl (cI, 100, .inl rtape_items))]) [0, 1, 2, 3] (by decide) rfl
  have hcut := ob_cut (wc := []) hP hD hS hA [] rfl (by decide)
  refine ob_i (wr := [(h, .inr (1, [.ref htape, .ref q_steps, .ref q_words, .ref q_numbers, .ref q_starts, .ref q_ends, .int f_place, .int f_stepCount, .int f_clauses, .int f_gap, .int f_far])), (q_steps, .inl (cI, 100, .inl r_steps)), (htape, .inr (7, [.ref qtape_items, .int ftape_size, .int ftape_came])), (qtape_items, .inl (cI, 100, .inl rtape_items))]) (ob_S (As := [.int r1]) (rest := []) ⟨hx, hb, hml, hown, hts⟩ hK hcut (hI.cut hS hcut.2.2) hN (k_X1_subject l D cI cZ cL im _ _ _ hm) (cwS2 1 hts (hts (.methodLink RX1 99 yX1_subject) (inR10 _ (List.mem_of_getElem? (i := 0) rfl))) (hts (.static yX1_subject) (inR10 _ (List.mem_of_getElem? (i := 1) rfl))) (hts (.initialized RX1) (inR5 _ (List.mem_of_getElem? (i := 8) rfl))) (goodU_c (inR10 _ (List.mem_of_getElem? (i := 2) rfl))) rfl rfl rfl (by decide +kernel) ⟨Nat.le_of_ble_eq_true rfl, Nat.le_of_ble_eq_true rfl⟩) rfl hl.1 rfl (Nat.le_of_ble_eq_true rfl) (dX1_readTest 5 rfl) ⟨Nat.zero_le _, Nat.zero_le _⟩) hP hD hS hcut [] [0, 1, 2, 3] rfl rfl (by decide) (by decide) (fun r3 u4 H locs hm hP hD hS => ?_)
  have hP := hP.sub (ws' := [(h, .inr (1, [.ref htape, .ref q_steps, .ref q_words, .ref q_numbers, .ref q_starts, .ref q_ends, .int f_place, .int f_stepCount, .int f_clauses, .int f_gap, .int f_far])), (q_steps, .inl (cI, 100, .inl r_steps)), (htape, .inr (7, [.ref qtape_items, .int ftape_size, .int ftape_came])), (qtape_items, .inl (cI, 100, .inl rtape_items))]) [0, 1, 2, 3] rfl
  have hD := hD.sub (ws' := [(h, .inr (1, [.ref htape, .ref q_steps, .ref q_words, .ref q_numbers, .ref q_starts, .ref q_ends, .int f_place, .int f_stepCount, .int f_clauses, .int f_gap, .int f_far])), (q_steps, .inl (cI, 100, .inl r_steps)), (htape, .inr (7, [.ref qtape_items, .int ftape_size, .int ftape_came])), (qtape_items, .inl (cI, 100, .inl rtape_items))]) [0, 1, 2, 3] (by decide) rfl
  refine lv_istore_n (lv' := [(1, .int r3), (0, .ref h)]) hx hb (dX1_readTest 6 rfl) rfl hl (by decide) rfl (fun ls hl => ?_)
  refine lv_iload_n hx hb (dX1_readTest 7 rfl) rfl (lv_at hl 0 rfl) ?_
  refine lv_iconst (v := (-1 : Int32)) hx hb (dX1_readTest 8 rfl) (by decide) ?_
  refine lv_icmp_ne (tgt := 22) hx hb (dX1_readTest 9 rfl) (by decide) (fun c5 => ?_) (fun c5 => ?_)
  · replace hm := hm.2 c5
    refine lv_aload_n hx hb (dX1_readTest 12 rfl) rfl (lv_at hl 1 rfl) ?_
    refine lv_dup hx hb (dX1_readTest 13 rfl) rfl ?_
    refine va_get (D := D) (ci := 1) (v := .int f_place) (C := RX1) (T := TX1) (N := 11) hx hb hts inlX1 hown hK hP 0 rfl rfl 6 (by decide) (hts (.fieldLink RX1 42 "OverBacks$Field" "place" "I") (inR6 _ (List.mem_of_getElem? (i := 1) rfl))) (fun _ h9 => h9) rfl (dX1_readTest 14 rfl) ?_
    refine lv_iconst (v := (1 : Int32)) hx hb (dX1_readTest 15 rfl) (by decide) ?_
    refine lv_iadd hx hb (dX1_readTest 16 rfl) ?_
    refine va_put (D := D) (ci := 1) (v := .int (f_place + (1 : Int32))) (ty := .int) (C := RX1) (T := TX1) (N := 11) hx hb hts inlX1 tyX1 tyX1_ok nmX1 hown hK hP hD hS 0 rfl rfl 6 (by decide) (hts (.fieldLink RX1 42 "OverBacks$Field" "place" "I") (inR6 _ (List.mem_of_getElem? (i := 1) rfl))) (fun _ h9 => h9) rfl (by decide +kernel) rfl rfl (Nat.le_of_ble_eq_true rfl) (dX1_readTest 17 rfl) (fun H locs hP hD hS => ?_)
    have hP : va_P D vwCl [(h, .inr (1, [.ref htape, .ref q_steps, .ref q_words, .ref q_numbers, .ref q_starts, .ref q_ends, .int (f_place + (1 : Int32)), .int f_stepCount, .int f_clauses, .int f_gap, .int f_far])), (q_steps, .inl (cI, 100, .inl r_steps)), (htape, .inr (7, [.ref qtape_items, .int ftape_size, .int ftape_came])), (qtape_items, .inl (cI, 100, .inl rtape_items))] H := hP
    have hD : va_D A [(h, .inr (1, [.ref htape, .ref q_steps, .ref q_words, .ref q_numbers, .ref q_starts, .ref q_ends, .int (f_place + (1 : Int32)), .int f_stepCount, .int f_clauses, .int f_gap, .int f_far])), (q_steps, .inl (cI, 100, .inl r_steps)), (htape, .inr (7, [.ref qtape_items, .int ftape_size, .int ftape_came])), (qtape_items, .inl (cI, 100, .inl rtape_items))] := hD
    refine lv_aload_n hx hb (dX1_readTest 18 rfl) rfl (lv_at hl 1 rfl) ?_
    refine va_get (D := D) (ci := 1) (v := .ref htape) (C := RX1) (T := TX1) (N := 11) hx hb hts inlX1 hown hK hP 0 rfl rfl 0 (by decide) (hts (.fieldLink RX1 9 "OverBacks$Field" "tape" "LOverBacks$Numbers;") (inR5 _ (List.mem_of_getElem? (i := 13) rfl))) (fun _ h9 => h9) rfl (dX1_readTest 19 rfl) ?_
    refine lv_aload_n hx hb (dX1_readTest 20 rfl) rfl (lv_at hl 1 rfl) ?_
    refine va_get (D := D) (ci := 1) (v := .int (f_place + (1 : Int32))) (C := RX1) (T := TX1) (N := 11) hx hb hts inlX1 hown hK hP 0 rfl rfl 6 (by decide) (hts (.fieldLink RX1 42 "OverBacks$Field" "place" "I") (inR6 _ (List.mem_of_getElem? (i := 1) rfl))) (fun _ h9 => h9) rfl (dX1_readTest 21 rfl) ?_
    have hcut := ob_cut (wc := [(htape, .inr (7, [.ref qtape_items, .int ftape_size, .int ftape_came])), (qtape_items, .inl (cI, 100, .inl rtape_items))]) hP hD hS hA [2, 3] rfl (by decide)
    refine ob_i (wr := [(h, .inr (1, [.ref htape, .ref q_steps, .ref q_words, .ref q_numbers, .ref q_starts, .ref q_ends, .int (f_place + (1 : Int32)), .int f_stepCount, .int f_clauses, .int f_gap, .int f_far])), (q_steps, .inl (cI, 100, .inl r_steps))]) (ob_V (As := [.int (f_place + (1 : Int32))]) (rest := []) ⟨hx, hb, hml, hown, hts⟩ hK hcut (hI.cut hS hcut.2.2) hN (va_recv hK hP (ci := 7) (q0 := 2) rfl rfl) (k_X7_at l D cI cZ cL im _ _ _ _ _ _ _ _ _ hm) (cwV 1 hts (gU_V (inR6 _ (List.mem_of_getElem? (i := 12) rfl)) (inR6 _ (List.mem_of_getElem? (i := 13) rfl)) (inR6 _ (List.mem_of_getElem? (i := 14) rfl)) (inR1 _ (List.mem_of_getElem? (i := 23) rfl)) (inR6 _ (List.mem_of_getElem? (i := 15) rfl))) rfl rfl rfl (by decide +kernel) ⟨Nat.le_of_ble_eq_true rfl, Nat.le_of_ble_eq_true rfl⟩) rfl hl.1 rfl (Nat.le_of_ble_eq_true rfl) (dX1_readTest 22 rfl) ⟨Nat.zero_le _, Nat.zero_le _⟩) hP hD hS hcut [2, 3] [0, 1] rfl rfl (by decide) (by decide) (fun r6 u7 H locs hm hP hD hS => ?_)
    have hP := hP.sub (ws' := [(h, .inr (1, [.ref htape, .ref q_steps, .ref q_words, .ref q_numbers, .ref q_starts, .ref q_ends, .int (f_place + (1 : Int32)), .int f_stepCount, .int f_clauses, .int f_gap, .int f_far])), (q_steps, .inl (cI, 100, .inl r_steps)), (htape, .inr (7, [.ref qtape_items, .int ftape_size, .int ftape_came])), (qtape_items, .inl (cI, 100, .inl rtape_items))]) [0, 1, 2, 3] rfl
    have hD := hD.sub (ws' := [(h, .inr (1, [.ref htape, .ref q_steps, .ref q_words, .ref q_numbers, .ref q_starts, .ref q_ends, .int (f_place + (1 : Int32)), .int f_stepCount, .int f_clauses, .int f_gap, .int f_far])), (q_steps, .inl (cI, 100, .inl r_steps)), (htape, .inr (7, [.ref qtape_items, .int ftape_size, .int ftape_came])), (qtape_items, .inl (cI, 100, .inl rtape_items))]) [0, 1, 2, 3] (by decide) rfl
    have hcut := ob_cut (wc := []) hP hD hS hA [] rfl (by decide)
    refine ob_i (wr := [(h, .inr (1, [.ref htape, .ref q_steps, .ref q_words, .ref q_numbers, .ref q_starts, .ref q_ends, .int (f_place + (1 : Int32)), .int f_stepCount, .int f_clauses, .int f_gap, .int f_far])), (q_steps, .inl (cI, 100, .inl r_steps)), (htape, .inr (7, [.ref qtape_items, .int ftape_size, .int ftape_came])), (qtape_items, .inl (cI, 100, .inl rtape_items))]) (ob_S (As := [.int r6]) (rest := []) ⟨hx, hb, hml, hown, hts⟩ hK hcut (hI.cut hS hcut.2.2) hN (k_X1_relation l D cI cZ cL im _ _ _ hm) (cwS2 1 hts (hts (.methodLink RX1 102 yX1_relation) (inR10 _ (List.mem_of_getElem? (i := 3) rfl))) (hts (.static yX1_relation) (inR10 _ (List.mem_of_getElem? (i := 4) rfl))) (hts (.initialized RX1) (inR5 _ (List.mem_of_getElem? (i := 8) rfl))) (goodU_c (inR10 _ (List.mem_of_getElem? (i := 5) rfl))) rfl rfl rfl (by decide +kernel) ⟨Nat.le_of_ble_eq_true rfl, Nat.le_of_ble_eq_true rfl⟩) rfl hl.1 rfl (Nat.le_of_ble_eq_true rfl) (dX1_readTest 23 rfl) ⟨Nat.zero_le _, Nat.zero_le _⟩) hP hD hS hcut [] [0, 1, 2, 3] rfl rfl (by decide) (by decide) (fun r8 u9 H locs hm hP hD hS => ?_)
    have hP := hP.sub (ws' := [(h, .inr (1, [.ref htape, .ref q_steps, .ref q_words, .ref q_numbers, .ref q_starts, .ref q_ends, .int (f_place + (1 : Int32)), .int f_stepCount, .int f_clauses, .int f_gap, .int f_far])), (q_steps, .inl (cI, 100, .inl r_steps)), (htape, .inr (7, [.ref qtape_items, .int ftape_size, .int ftape_came])), (qtape_items, .inl (cI, 100, .inl rtape_items))]) [0, 1, 2, 3] rfl
    have hD := hD.sub (ws' := [(h, .inr (1, [.ref htape, .ref q_steps, .ref q_words, .ref q_numbers, .ref q_starts, .ref q_ends, .int (f_place + (1 : Int32)), .int f_stepCount, .int f_clauses, .int f_gap, .int f_far])), (q_steps, .inl (cI, 100, .inl r_steps)), (htape, .inr (7, [.ref qtape_items, .int ftape_size, .int ftape_came])), (qtape_items, .inl (cI, 100, .inl rtape_items))]) [0, 1, 2, 3] (by decide) rfl
    refine lv_istore_n (lv' := [(2, .int r8), (1, .int r3), (0, .ref h)]) hx hb (dX1_readTest 24 rfl) rfl hl (by decide) rfl (fun ls hl => ?_)
    refine lv_iload_n hx hb (dX1_readTest 25 rfl) rfl (lv_at hl 0 rfl) ?_
    refine lv_iconst (v := (-1 : Int32)) hx hb (dX1_readTest 26 rfl) (by decide) ?_
    refine lv_icmp_ne (tgt := 54) hx hb (dX1_readTest 27 rfl) (by decide) (fun c10 => ?_) (fun c10 => ?_)
    · replace hm := hm.2 c10
      refine lv_aload_n hx hb (dX1_readTest 30 rfl) rfl (lv_at hl 2 rfl) ?_
      refine lv_dup hx hb (dX1_readTest 31 rfl) rfl ?_
      refine va_get (D := D) (ci := 1) (v := .int (f_place + (1 : Int32))) (C := RX1) (T := TX1) (N := 11) hx hb hts inlX1 hown hK hP 0 rfl rfl 6 (by decide) (hts (.fieldLink RX1 42 "OverBacks$Field" "place" "I") (inR6 _ (List.mem_of_getElem? (i := 1) rfl))) (fun _ h9 => h9) rfl (dX1_readTest 32 rfl) ?_
      refine lv_iconst (v := (1 : Int32)) hx hb (dX1_readTest 33 rfl) (by decide) ?_
      refine lv_iadd hx hb (dX1_readTest 34 rfl) ?_
      refine va_put (D := D) (ci := 1) (v := .int ((f_place + (1 : Int32)) + (1 : Int32))) (ty := .int) (C := RX1) (T := TX1) (N := 11) hx hb hts inlX1 tyX1 tyX1_ok nmX1 hown hK hP hD hS 0 rfl rfl 6 (by decide) (hts (.fieldLink RX1 42 "OverBacks$Field" "place" "I") (inR6 _ (List.mem_of_getElem? (i := 1) rfl))) (fun _ h9 => h9) rfl (by decide +kernel) rfl rfl (Nat.le_of_ble_eq_true rfl) (dX1_readTest 35 rfl) (fun H locs hP hD hS => ?_)
      have hP : va_P D vwCl [(h, .inr (1, [.ref htape, .ref q_steps, .ref q_words, .ref q_numbers, .ref q_starts, .ref q_ends, .int ((f_place + (1 : Int32)) + (1 : Int32)), .int f_stepCount, .int f_clauses, .int f_gap, .int f_far])), (q_steps, .inl (cI, 100, .inl r_steps)), (htape, .inr (7, [.ref qtape_items, .int ftape_size, .int ftape_came])), (qtape_items, .inl (cI, 100, .inl rtape_items))] H := hP
      have hD : va_D A [(h, .inr (1, [.ref htape, .ref q_steps, .ref q_words, .ref q_numbers, .ref q_starts, .ref q_ends, .int ((f_place + (1 : Int32)) + (1 : Int32)), .int f_stepCount, .int f_clauses, .int f_gap, .int f_far])), (q_steps, .inl (cI, 100, .inl r_steps)), (htape, .inr (7, [.ref qtape_items, .int ftape_size, .int ftape_came])), (qtape_items, .inl (cI, 100, .inl rtape_items))] := hD
      refine lv_aload_n hx hb (dX1_readTest 36 rfl) rfl (lv_at hl 2 rfl) ?_
      have hcut := ob_cut (wc := [(h, .inr (1, [.ref htape, .ref q_steps, .ref q_words, .ref q_numbers, .ref q_starts, .ref q_ends, .int ((f_place + (1 : Int32)) + (1 : Int32)), .int f_stepCount, .int f_clauses, .int f_gap, .int f_far])), (htape, .inr (7, [.ref qtape_items, .int ftape_size, .int ftape_came])), (qtape_items, .inl (cI, 100, .inl rtape_items))]) hP hD hS hA [0, 2, 3] rfl (by decide)
      refine ob_i (wr := [(q_steps, .inl (cI, 100, .inl r_steps))]) (ob_V (As := []) (rest := []) ⟨hx, hb, hml, hown, hts⟩ hK hcut (hI.cut hS hcut.2.2) hN (va_recv hK hP (ci := 1) (q0 := 0) rfl rfl) (k_X1_readNumber l D cI cZ cL im _ _ _ _ _ _ _ _ _ _ _ _ _ _ _ _ _ _ hm) (cwV 0 hts (gU_V (inR9 _ (List.mem_of_getElem? (i := 1) rfl)) (inR9 _ (List.mem_of_getElem? (i := 2) rfl)) (inR9 _ (List.mem_of_getElem? (i := 3) rfl)) (inR5 _ (List.mem_of_getElem? (i := 8) rfl)) (inR9 _ (List.mem_of_getElem? (i := 4) rfl))) rfl rfl rfl (by decide +kernel) ⟨Nat.le_of_ble_eq_true rfl, Nat.le_of_ble_eq_true rfl⟩) rfl hl.1 rfl (Nat.le_of_ble_eq_true rfl) (dX1_readTest 37 rfl) ⟨Nat.zero_le _, Nat.zero_le _⟩) hP hD hS hcut [0, 2, 3] [1] rfl rfl (by decide) (by decide) (fun r11 u12 H locs hm hP hD hS => ?_)
      have hP := hP.sub (ws' := [(h, .inr (1, [.ref htape, .ref q_steps, .ref q_words, .ref q_numbers, .ref q_starts, .ref q_ends, .int u12, .int f_stepCount, .int f_clauses, .int f_gap, .int f_far])), (q_steps, .inl (cI, 100, .inl r_steps)), (htape, .inr (7, [.ref qtape_items, .int ftape_size, .int ftape_came])), (qtape_items, .inl (cI, 100, .inl rtape_items))]) [1, 0, 2, 3] rfl
      have hD := hD.sub (ws' := [(h, .inr (1, [.ref htape, .ref q_steps, .ref q_words, .ref q_numbers, .ref q_starts, .ref q_ends, .int u12, .int f_stepCount, .int f_clauses, .int f_gap, .int f_far])), (q_steps, .inl (cI, 100, .inl r_steps)), (htape, .inr (7, [.ref qtape_items, .int ftape_size, .int ftape_came])), (qtape_items, .inl (cI, 100, .inl rtape_items))]) [1, 0, 2, 3] (by decide) rfl
      refine lv_istore_n (lv' := [(3, .int r11), (2, .int r8), (1, .int r3), (0, .ref h)]) hx hb (dX1_readTest 38 rfl) rfl hl (by decide) rfl (fun ls hl => ?_)
      refine lv_iload_n hx hb (dX1_readTest 39 rfl) rfl (lv_at hl 0 rfl) ?_
      refine lv_iconst (v := (-1 : Int32)) hx hb (dX1_readTest 40 rfl) (by decide) ?_
      refine lv_icmp_ne (tgt := 76) hx hb (dX1_readTest 41 rfl) (by decide) (fun c14 => ?_) (fun c14 => ?_)
      · replace hm := hm.2 c14
        refine lv_aload_n hx hb (dX1_readTest 44 rfl) rfl (lv_at hl 3 rfl) ?_
        refine lv_iload_n hx hb (dX1_readTest 45 rfl) rfl (lv_at hl 2 rfl) ?_
        refine lv_sipush (v := (300 : Int32)) hx hb (dX1_readTest 46 rfl) (by decide) ?_
        refine lv_imul hx hb (dX1_readTest 47 rfl) ?_
        refine lv_iload_n hx hb (dX1_readTest 48 rfl) rfl (lv_at hl 1 rfl) ?_
        refine lv_bipush (v := (100 : Int32)) hx hb (dX1_readTest 49 rfl) (by decide) ?_
        refine lv_imul hx hb (dX1_readTest 50 rfl) ?_
        refine lv_iadd hx hb (dX1_readTest 51 rfl) ?_
        refine lv_iload_n hx hb (dX1_readTest 52 rfl) rfl (lv_at hl 0 rfl) ?_
        refine lv_iadd hx hb (dX1_readTest 53 rfl) ?_
        have hcut := ob_cut (wc := [(h, .inr (1, [.ref htape, .ref q_steps, .ref q_words, .ref q_numbers, .ref q_starts, .ref q_ends, .int u12, .int f_stepCount, .int f_clauses, .int f_gap, .int f_far])), (q_steps, .inl (cI, 100, .inl r_steps))]) hP hD hS hA [0, 1] rfl (by decide)
        refine ob_v (wr := [(htape, .inr (7, [.ref qtape_items, .int ftape_size, .int ftape_came])), (qtape_items, .inl (cI, 100, .inl rtape_items))]) (ob_V (As := [.int (((r3 * (300 : Int32)) + (r8 * (100 : Int32))) + r11)]) (rest := []) ⟨hx, hb, hml, hown, hts⟩ hK hcut (hI.cut hS hcut.2.2) hN (va_recv hK hP (ci := 1) (q0 := 0) rfl rfl) (k_X1_addStep l D cI cZ cL im _ _ _ _ _ _ _ _ _ _ _ _ _ _ _ _ hm) (cwV 1 hts (gU_V (inR9 _ (List.mem_of_getElem? (i := 15) rfl)) (inR9 _ (List.mem_of_getElem? (i := 16) rfl)) (inR9 _ (List.mem_of_getElem? (i := 17) rfl)) (inR5 _ (List.mem_of_getElem? (i := 8) rfl)) (inR9 _ (List.mem_of_getElem? (i := 18) rfl))) rfl rfl rfl (by decide +kernel) ⟨Nat.le_of_ble_eq_true rfl, Nat.le_of_ble_eq_true rfl⟩) rfl hl.1 rfl (Nat.le_of_ble_eq_true rfl) (dX1_readTest 54 rfl) ⟨Nat.zero_le _, Nat.zero_le _⟩) hP hD hS hcut [0, 1] [2, 3] rfl rfl (by decide) (by decide) (fun u16 H locs hm hP hD hS => ?_)
        have hP := hP.sub (ws' := [(h, .inr (1, [.ref htape, .ref q_steps, .ref q_words, .ref q_numbers, .ref q_starts, .ref q_ends, .int u12, .int u16.1, .int f_clauses, .int f_gap, .int f_far])), (q_steps, .inl (cI, 100, .inl u16.2)), (htape, .inr (7, [.ref qtape_items, .int ftape_size, .int ftape_came])), (qtape_items, .inl (cI, 100, .inl rtape_items))]) [2, 3, 0, 1] rfl
        have hD := hD.sub (ws' := [(h, .inr (1, [.ref htape, .ref q_steps, .ref q_words, .ref q_numbers, .ref q_starts, .ref q_ends, .int u12, .int u16.1, .int f_clauses, .int f_gap, .int f_far])), (q_steps, .inl (cI, 100, .inl u16.2)), (htape, .inr (7, [.ref qtape_items, .int ftape_size, .int ftape_came])), (qtape_items, .inl (cI, 100, .inl rtape_items))]) [2, 3, 0, 1] (by decide) rfl
        refine lv_iconst (v := (1 : Int32)) hx hb (dX1_readTest 55 rfl) (by decide) ?_
        exact hZ (1 : Int32) (u12, u16.1, u16.2) H locs ls 93 hm hP hD hS (dX1_readTest 56 rfl) rfl
      replace hm := hm.1 c14
      refine lv_iconst (v := (0 : Int32)) hx hb (dX1_readTest 42 rfl) (by decide) ?_
      exact hZ (0 : Int32) (u12, f_stepCount, r_steps) H locs ls 75 hm hP hD hS (dX1_readTest 43 rfl) rfl
    replace hm := hm.1 c10
    refine lv_iconst (v := (0 : Int32)) hx hb (dX1_readTest 28 rfl) (by decide) ?_
    exact hZ (0 : Int32) (f_place + (1 : Int32), f_stepCount, r_steps) H locs ls 53 hm hP hD hS (dX1_readTest 29 rfl) rfl
  replace hm := hm.1 c5
  refine lv_iconst (v := (0 : Int32)) hx hb (dX1_readTest 10 rfl) (by decide) ?_
  exact hZ (0 : Int32) (f_place, f_stepCount, r_steps) H locs ls 21 hm hP hD hS (dX1_readTest 11 rfl) rfl
abbrev rmX1_take : Room := { frames := 1, cells := 0, slots := 0, locals := 21 }
set_option maxHeartbeats 4000000 in
set_option maxRecDepth 100000 in
theorem k_X1_take (l : Launch) (D : va_G) (cI cZ cL : ClassId) (im : va_W) (sz : Nat) (h : Nat) (htape : Nat) (q_steps : Nat) (q_words : Nat) (q_numbers : Nat) (q_starts : Nat) (q_ends : Nat) (f_place : Int32) (f_stepCount : Int32) (f_clauses : Int32) (f_gap : Int32) (f_far : Int32) (qtape_items : Nat) (ftape_size : Int32) (ftape_came : Int32) (rtape_items : Nat → Int32) (a1 : Int32) (Q : Int32 → Int32 → Prop) (hm : m_X1_take f_place ftape_size rtape_items a1 Q) : Met l yX1_take (Cond.code yX1_take cX1_take 2 (some .boolean) :: wsL_law) rmX1_take (obPre D (tyG cI cZ cL) im [(h, .inr (1, [.ref htape, .ref q_steps, .ref q_words, .ref q_numbers, .ref q_starts, .ref q_ends, .int f_place, .int f_stepCount, .int f_clauses, .int f_gap, .int f_far])), (htape, .inr (7, [.ref qtape_items, .int ftape_size, .int ftape_came])), (qtape_items, .inl (cI, 100, .inl rtape_items))] sz [.ref h, .int a1]) (va_Qi (fun (r : Int32) (u : Int32) => Q r u) (obB D (va_A [(h, .inr (1, [.ref htape, .ref q_steps, .ref q_words, .ref q_numbers, .ref q_starts, .ref q_ends, .int f_place, .int f_stepCount, .int f_clauses, .int f_gap, .int f_far])), (htape, .inr (7, [.ref qtape_items, .int ftape_size, .int ftape_came])), (qtape_items, .inl (cI, 100, .inl rtape_items))] sz) (fun u : Int32 => [(h, .inr (1, [.ref htape, .ref q_steps, .ref q_words, .ref q_numbers, .ref q_starts, .ref q_ends, .int u, .int f_stepCount, .int f_clauses, .int f_gap, .int f_far])), (htape, .inr (7, [.ref qtape_items, .int ftape_size, .int ftape_came])), (qtape_items, .inl (cI, 100, .inl rtape_items))])) (va_A [(h, .inr (1, [.ref htape, .ref q_steps, .ref q_words, .ref q_numbers, .ref q_starts, .ref q_ends, .int f_place, .int f_stepCount, .int f_clauses, .int f_gap, .int f_far])), (htape, .inr (7, [.ref qtape_items, .int ftape_size, .int ftape_came])), (qtape_items, .inl (cI, 100, .inl rtape_items))] sz)) 0 0 (va_A [(h, .inr (1, [.ref htape, .ref q_steps, .ref q_words, .ref q_numbers, .ref q_starts, .ref q_ends, .int f_place, .int f_stepCount, .int f_clauses, .int f_gap, .int f_far])), (htape, .inr (7, [.ref qtape_items, .int ftape_size, .int ftape_came])), (qtape_items, .inl (cI, 100, .inl rtape_items))] sz) := by
  refine ob_met_i (cc := cX1_take) (maxL := 2) (by decide) (Nat.le_of_ble_eq_true rfl) (fun p e s m args below meth c A Z hx hb hml hown hts hnm hN hK hA hI hP hD hS hZ ls hl => ?_)
  have hl : lv_has ls 2 [(0, .ref h), (1, .int a1)] := hl
  unfold m_X1_take at hm
  obtain ⟨H, hH⟩ : ∃ H, H = s.heap := ⟨_, rfl⟩
  obtain ⟨locs, hlo⟩ : ∃ q : List Loc, q = [] := ⟨_, rfl⟩
  suffices hgo : W p l e rmX1_take s m args below meth c H locs 0 0 Z (F0 m 0 ls []) by rw [hH, hlo] at hgo; exact hgo
  have hP : va_P D vwCl [(h, .inr (1, [.ref htape, .ref q_steps, .ref q_words, .ref q_numbers, .ref q_starts, .ref q_ends, .int f_place, .int f_stepCount, .int f_clauses, .int f_gap, .int f_far])), (htape, .inr (7, [.ref qtape_items, .int ftape_size, .int ftape_came])), (qtape_items, .inl (cI, 100, .inl rtape_items))] H := by rw [hH]; exact hP
  have hD : va_D A [(h, .inr (1, [.ref htape, .ref q_steps, .ref q_words, .ref q_numbers, .ref q_starts, .ref q_ends, .int f_place, .int f_stepCount, .int f_clauses, .int f_gap, .int f_far])), (htape, .inr (7, [.ref qtape_items, .int ftape_size, .int ftape_came])), (qtape_items, .inl (cI, 100, .inl rtape_items))] := hD
  have hS : va_S A s.heap H locs := by rw [hH, hlo]; exact hS
  refine lv_aload_n hx hb (dX1_take 0 rfl) rfl (lv_at hl 0 rfl) ?_
  refine va_get (D := D) (ci := 1) (v := .ref htape) (C := RX1) (T := TX1) (N := 11) hx hb hts inlX1 hown hK hP 0 rfl rfl 0 (by decide) (hts (.fieldLink RX1 9 "OverBacks$Field" "tape" "LOverBacks$Numbers;") (inR5 _ (List.mem_of_getElem? (i := 13) rfl))) (fun _ h9 => h9) rfl (dX1_take 1 rfl) ?_
  refine lv_aload_n hx hb (dX1_take 2 rfl) rfl (lv_at hl 0 rfl) ?_
  refine va_get (D := D) (ci := 1) (v := .int f_place) (C := RX1) (T := TX1) (N := 11) hx hb hts inlX1 hown hK hP 0 rfl rfl 6 (by decide) (hts (.fieldLink RX1 42 "OverBacks$Field" "place" "I") (inR6 _ (List.mem_of_getElem? (i := 1) rfl))) (fun _ h9 => h9) rfl (dX1_take 3 rfl) ?_
  have hcut := ob_cut (wc := [(htape, .inr (7, [.ref qtape_items, .int ftape_size, .int ftape_came])), (qtape_items, .inl (cI, 100, .inl rtape_items))]) hP hD hS hA [1, 2] rfl (by decide)
  refine ob_i (wr := [(h, .inr (1, [.ref htape, .ref q_steps, .ref q_words, .ref q_numbers, .ref q_starts, .ref q_ends, .int f_place, .int f_stepCount, .int f_clauses, .int f_gap, .int f_far]))]) (ob_V (As := [.int f_place]) (rest := []) ⟨hx, hb, hml, hown, hts⟩ hK hcut (hI.cut hS hcut.2.2) hN (va_recv hK hP (ci := 7) (q0 := 1) rfl rfl) (k_X7_at l D cI cZ cL im _ _ _ _ _ _ _ _ _ hm) (cwV 1 hts (gU_V (inR6 _ (List.mem_of_getElem? (i := 12) rfl)) (inR6 _ (List.mem_of_getElem? (i := 13) rfl)) (inR6 _ (List.mem_of_getElem? (i := 14) rfl)) (inR1 _ (List.mem_of_getElem? (i := 23) rfl)) (inR6 _ (List.mem_of_getElem? (i := 15) rfl))) rfl rfl rfl (by decide +kernel) ⟨Nat.le_of_ble_eq_true rfl, Nat.le_of_ble_eq_true rfl⟩) rfl hl.1 rfl (Nat.le_of_ble_eq_true rfl) (dX1_take 4 rfl) ⟨Nat.zero_le _, Nat.zero_le _⟩) hP hD hS hcut [1, 2] [0] rfl rfl (by decide) (by decide) (fun r1 u2 H locs hm hP hD hS => ?_)
  have hP := hP.sub (ws' := [(h, .inr (1, [.ref htape, .ref q_steps, .ref q_words, .ref q_numbers, .ref q_starts, .ref q_ends, .int f_place, .int f_stepCount, .int f_clauses, .int f_gap, .int f_far])), (htape, .inr (7, [.ref qtape_items, .int ftape_size, .int ftape_came])), (qtape_items, .inl (cI, 100, .inl rtape_items))]) [0, 1, 2] rfl
  have hD := hD.sub (ws' := [(h, .inr (1, [.ref htape, .ref q_steps, .ref q_words, .ref q_numbers, .ref q_starts, .ref q_ends, .int f_place, .int f_stepCount, .int f_clauses, .int f_gap, .int f_far])), (htape, .inr (7, [.ref qtape_items, .int ftape_size, .int ftape_came])), (qtape_items, .inl (cI, 100, .inl rtape_items))]) [0, 1, 2] (by decide) rfl
  refine lv_iload_n hx hb (dX1_take 5 rfl) rfl (lv_at hl 1 rfl) ?_
  refine lv_icmp_eq (tgt := 17) hx hb (dX1_take 6 rfl) (by decide) (fun c3 => ?_) (fun c3 => ?_)
  · replace hm := hm.1 c3
    refine lv_aload_n hx hb (dX1_take 9 rfl) rfl (lv_at hl 0 rfl) ?_
    refine lv_dup hx hb (dX1_take 10 rfl) rfl ?_
    refine va_get (D := D) (ci := 1) (v := .int f_place) (C := RX1) (T := TX1) (N := 11) hx hb hts inlX1 hown hK hP 0 rfl rfl 6 (by decide) (hts (.fieldLink RX1 42 "OverBacks$Field" "place" "I") (inR6 _ (List.mem_of_getElem? (i := 1) rfl))) (fun _ h9 => h9) rfl (dX1_take 11 rfl) ?_
    refine lv_iconst (v := (1 : Int32)) hx hb (dX1_take 12 rfl) (by decide) ?_
    refine lv_iadd hx hb (dX1_take 13 rfl) ?_
    refine va_put (D := D) (ci := 1) (v := .int (f_place + (1 : Int32))) (ty := .int) (C := RX1) (T := TX1) (N := 11) hx hb hts inlX1 tyX1 tyX1_ok nmX1 hown hK hP hD hS 0 rfl rfl 6 (by decide) (hts (.fieldLink RX1 42 "OverBacks$Field" "place" "I") (inR6 _ (List.mem_of_getElem? (i := 1) rfl))) (fun _ h9 => h9) rfl (by decide +kernel) rfl rfl (Nat.le_of_ble_eq_true rfl) (dX1_take 14 rfl) (fun H locs hP hD hS => ?_)
    have hP : va_P D vwCl [(h, .inr (1, [.ref htape, .ref q_steps, .ref q_words, .ref q_numbers, .ref q_starts, .ref q_ends, .int (f_place + (1 : Int32)), .int f_stepCount, .int f_clauses, .int f_gap, .int f_far])), (htape, .inr (7, [.ref qtape_items, .int ftape_size, .int ftape_came])), (qtape_items, .inl (cI, 100, .inl rtape_items))] H := hP
    have hD : va_D A [(h, .inr (1, [.ref htape, .ref q_steps, .ref q_words, .ref q_numbers, .ref q_starts, .ref q_ends, .int (f_place + (1 : Int32)), .int f_stepCount, .int f_clauses, .int f_gap, .int f_far])), (htape, .inr (7, [.ref qtape_items, .int ftape_size, .int ftape_came])), (qtape_items, .inl (cI, 100, .inl rtape_items))] := hD
    refine lv_iconst (v := (1 : Int32)) hx hb (dX1_take 15 rfl) (by decide) ?_
    exact hZ (1 : Int32) (f_place + (1 : Int32)) H locs ls 28 hm hP hD hS (dX1_take 16 rfl) rfl
  replace hm := hm.2 c3
  refine lv_iconst (v := (0 : Int32)) hx hb (dX1_take 7 rfl) (by decide) ?_
  exact hZ (0 : Int32) f_place H locs ls 16 hm hP hD hS (dX1_take 8 rfl) rfl
abbrev rmX5_leave : Room := { frames := 1, cells := 0, slots := 0, locals := 22 }
set_option maxHeartbeats 4000000 in
set_option maxRecDepth 100000 in
theorem k_X5_leave (l : Launch) (D : va_G) (cI cZ cL : ClassId) (im : va_W) (sz : Nat) (h : Nat) (q_people : Nat) (q_places : Nat) (q_breath : Nat) (q_rows : Nat) (q_seen : Nat) (q_ends : Nat) (f_field : Option Nat) (f_size : Int32) (f_turn : Int32) (f_yards : Int32) (f_time : Int32) (f_gap : Int32) (f_far : Int32) (f_flat : Int32) (r_places : Nat → Int32) (a1 : Int32) (Q : Int32 → (Nat → Int32) → Prop) (hm : m_X5_leave f_size r_places a1 Q) : Met l yX5_leave (Cond.code yX5_leave cX5_leave 4 none :: wsL_law) rmX5_leave (obPre D (tyG cI cZ cL) im [(h, .inr (5, [.ref q_people, .ref q_places, .ref q_breath, .ref q_rows, .ref q_seen, .ref q_ends, va_rf f_field, .int f_size, .int f_turn, .int f_yards, .int f_time, .int f_gap, .int f_far, .int f_flat])), (q_places, .inl (cI, 7, .inl r_places))] sz [.ref h, .int a1]) (va_Qv (fun (u : Int32 × (Nat → Int32)) => Q u.1 u.2) (obB D (va_A [(h, .inr (5, [.ref q_people, .ref q_places, .ref q_breath, .ref q_rows, .ref q_seen, .ref q_ends, va_rf f_field, .int f_size, .int f_turn, .int f_yards, .int f_time, .int f_gap, .int f_far, .int f_flat])), (q_places, .inl (cI, 7, .inl r_places))] sz) (fun u : Int32 × (Nat → Int32) => [(h, .inr (5, [.ref q_people, .ref q_places, .ref q_breath, .ref q_rows, .ref q_seen, .ref q_ends, va_rf f_field, .int u.1, .int f_turn, .int f_yards, .int f_time, .int f_gap, .int f_far, .int f_flat])), (q_places, .inl (cI, 7, .inl u.2))])) (va_A [(h, .inr (5, [.ref q_people, .ref q_places, .ref q_breath, .ref q_rows, .ref q_seen, .ref q_ends, va_rf f_field, .int f_size, .int f_turn, .int f_yards, .int f_time, .int f_gap, .int f_far, .int f_flat])), (q_places, .inl (cI, 7, .inl r_places))] sz)) 0 0 (va_A [(h, .inr (5, [.ref q_people, .ref q_places, .ref q_breath, .ref q_rows, .ref q_seen, .ref q_ends, va_rf f_field, .int f_size, .int f_turn, .int f_yards, .int f_time, .int f_gap, .int f_far, .int f_flat])), (q_places, .inl (cI, 7, .inl r_places))] sz) := by
  refine ob_met_v (cc := cX5_leave) (maxL := 4) (by decide) (Nat.le_of_ble_eq_true rfl) (fun p e s m args below meth c A Z hx hb hml hown hts hnm hN hK hA hI hP hD hS hZ ls hl => ?_)
  have hl : lv_has ls 4 [(0, .ref h), (1, .int a1)] := hl
  unfold m_X5_leave at hm
  have lab14 : ∀ (f_size_14 : Int32) (n14 : Nat) (r_places_14 : Nat → Int32) (v3_14 : Int32) , ∀ (H : Heap) (locs : List Loc) (ls : Array Slot), va_P D vwCl [(h, .inr (5, [.ref q_people, .ref q_places, .ref q_breath, .ref q_rows, .ref q_seen, .ref q_ends, va_rf f_field, .int f_size_14, .int f_turn, .int f_yards, .int f_time, .int f_gap, .int f_far, .int f_flat])), (q_places, .inl (cI, 7, .inl r_places_14))] H → va_D A [(h, .inr (5, [.ref q_people, .ref q_places, .ref q_breath, .ref q_rows, .ref q_seen, .ref q_ends, va_rf f_field, .int f_size_14, .int f_turn, .int f_yards, .int f_time, .int f_gap, .int f_far, .int f_flat])), (q_places, .inl (cI, 7, .inl r_places_14))] → va_S A s.heap H locs → lv_has ls 4 [(0, .ref h), (3, .int v3_14)] → m_X5_leave_L14 f_size_14 Q n14 r_places_14 v3_14 → W p l e rmX5_leave s m args below meth c H locs 0 0 Z (F0 m 14 ls []) := by
    intro f_size_14
    intro n14
    induction n14 with
    | zero =>
      intro r_places_14 v3_14 H locs ls hP hD hS hl hm
      exact hm.elim
    | succ n14 ih14 =>
      intro r_places_14 v3_14 H locs ls hP hD hS hl hm
      unfold m_X5_leave_L14 at hm
      obtain ⟨K14, hK14⟩ : ∃ K : (Nat → Int32) → Int32 → Prop, K = m_X5_leave_L14 f_size_14 Q n14 := ⟨_, rfl⟩
      rw [← hK14] at hm ih14
      refine lv_iload_n hx hb (dX5_leave 10 rfl) rfl (lv_at hl 1 rfl) ?_
      refine lv_aload_n hx hb (dX5_leave 11 rfl) rfl (lv_at hl 0 rfl) ?_
      refine va_get (D := D) (ci := 5) (v := .int f_size_14) (C := RX5) (T := TX5) (N := 14) hx hb hts inlX5 hown hK hP 0 rfl rfl 7 (by decide) (hts (.fieldLink RX5 49 "OverBacks$Line" "size" "I") (inR15 _ (List.mem_of_getElem? (i := 23) rfl))) (fun _ h9 => h9) rfl (dX5_leave 12 rfl) ?_
      refine lv_iconst (v := (1 : Int32)) hx hb (dX5_leave 13 rfl) (by decide) ?_
      refine lv_isub hx hb (dX5_leave 14 rfl) ?_
      refine lv_icmp_ge (tgt := 44) hx hb (dX5_leave 15 rfl) (by decide) (fun c4 => ?_) (fun c4 => ?_)
      · replace hm := hm.1 c4
        refine lv_aload_n hx hb (dX5_leave 28 rfl) rfl (lv_at hl 0 rfl) ?_
        refine lv_dup hx hb (dX5_leave 29 rfl) rfl ?_
        refine va_get (D := D) (ci := 5) (v := .int f_size_14) (C := RX5) (T := TX5) (N := 14) hx hb hts inlX5 hown hK hP 0 rfl rfl 7 (by decide) (hts (.fieldLink RX5 49 "OverBacks$Line" "size" "I") (inR15 _ (List.mem_of_getElem? (i := 23) rfl))) (fun _ h9 => h9) rfl (dX5_leave 30 rfl) ?_
        refine lv_iconst (v := (1 : Int32)) hx hb (dX5_leave 31 rfl) (by decide) ?_
        refine lv_isub hx hb (dX5_leave 32 rfl) ?_
        refine va_put (D := D) (ci := 5) (v := .int (f_size_14 - (1 : Int32))) (ty := .int) (C := RX5) (T := TX5) (N := 14) hx hb hts inlX5 tyX5 tyX5_ok nmX5 hown hK hP hD hS 0 rfl rfl 7 (by decide) (hts (.fieldLink RX5 49 "OverBacks$Line" "size" "I") (inR15 _ (List.mem_of_getElem? (i := 23) rfl))) (fun _ h9 => h9) rfl (by decide +kernel) rfl rfl (Nat.le_of_ble_eq_true rfl) (dX5_leave 33 rfl) (fun H locs hP hD hS => ?_)
        have hP : va_P D vwCl [(h, .inr (5, [.ref q_people, .ref q_places, .ref q_breath, .ref q_rows, .ref q_seen, .ref q_ends, va_rf f_field, .int (f_size_14 - (1 : Int32)), .int f_turn, .int f_yards, .int f_time, .int f_gap, .int f_far, .int f_flat])), (q_places, .inl (cI, 7, .inl r_places_14))] H := hP
        have hD : va_D A [(h, .inr (5, [.ref q_people, .ref q_places, .ref q_breath, .ref q_rows, .ref q_seen, .ref q_ends, va_rf f_field, .int (f_size_14 - (1 : Int32)), .int f_turn, .int f_yards, .int f_time, .int f_gap, .int f_far, .int f_flat])), (q_places, .inl (cI, 7, .inl r_places_14))] := hD
        exact hZ (f_size_14 - (1 : Int32), r_places_14) H locs ls 54 hm hP hD hS (dX5_leave 34 rfl)
      replace hm := hm.2 c4
      refine lv_aload_n hx hb (dX5_leave 16 rfl) rfl (lv_at hl 0 rfl) ?_
      refine va_get (D := D) (ci := 5) (v := .ref q_places) (C := RX5) (T := TX5) (N := 14) hx hb hts inlX5 hown hK hP 0 rfl rfl 1 (by decide) (hts (.fieldLink RX5 17 "OverBacks$Line" "places" "[I") (inR2 _ (List.mem_of_getElem? (i := 21) rfl))) (fun _ h9 => h9) rfl (dX5_leave 17 rfl) ?_
      refine lv_iload_n hx hb (dX5_leave 18 rfl) rfl (lv_at hl 1 rfl) ?_
      refine lv_aload_n hx hb (dX5_leave 19 rfl) rfl (lv_at hl 0 rfl) ?_
      refine va_get (D := D) (ci := 5) (v := .ref q_places) (C := RX5) (T := TX5) (N := 14) hx hb hts inlX5 hown hK hP 0 rfl rfl 1 (by decide) (hts (.fieldLink RX5 17 "OverBacks$Line" "places" "[I") (inR2 _ (List.mem_of_getElem? (i := 21) rfl))) (fun _ h9 => h9) rfl (dX5_leave 20 rfl) ?_
      refine lv_iload_n hx hb (dX5_leave 21 rfl) rfl (lv_at hl 1 rfl) ?_
      refine lv_iconst (v := (1 : Int32)) hx hb (dX5_leave 22 rfl) (by decide) ?_
      refine lv_iadd hx hb (dX5_leave 23 rfl) ?_
      refine va_iald hx hb hK hP 1 0 rfl rfl hm.1 (dX5_leave 24 rfl) ?_
      replace hm := hm.2
      refine va_iast hx hb hK hP hD hS 1 0 rfl rfl hm.1 (dX5_leave 25 rfl) (fun H locs hP hD hS => ?_)
      replace hm := hm.2
      obtain ⟨y5, ey5⟩ : ∃ q : Nat → Int32, q = upd r_places_14 v3_14.toNatClampNeg (r_places_14 (v3_14 + (1 : Int32)).toNatClampNeg) := ⟨_, rfl⟩
      replace hm := hm y5 ey5
      have hP : va_P D vwCl [(h, .inr (5, [.ref q_people, .ref q_places, .ref q_breath, .ref q_rows, .ref q_seen, .ref q_ends, va_rf f_field, .int f_size_14, .int f_turn, .int f_yards, .int f_time, .int f_gap, .int f_far, .int f_flat])), (q_places, .inl (cI, 7, .inl y5))] H := by rw [ey5]; exact hP
      have hD : va_D A [(h, .inr (5, [.ref q_people, .ref q_places, .ref q_breath, .ref q_rows, .ref q_seen, .ref q_ends, va_rf f_field, .int f_size_14, .int f_turn, .int f_yards, .int f_time, .int f_gap, .int f_far, .int f_flat])), (q_places, .inl (cI, 7, .inl y5))] := by rw [ey5]; exact hD
      obtain ⟨x6, ex6⟩ : ∃ y : Int32, y = v3_14 + 1 := ⟨_, rfl⟩
      replace hm := hm x6 ex6
      refine lv_iinc (v := x6) (lv' := [(3, .int x6), (0, .ref h)]) hx hb (dX5_leave 26 rfl) hl (k := 1) rfl (by rw [ex6]; rfl) (by decide) rfl (fun ls hl => ?_)
      refine lv_goto (tgt := 14) hx hb (dX5_leave 27 rfl) (by decide) ?_
      exact ih14 y5 x6 H locs ls hP hD hS (lv_sub hl [1, 0] rfl) hm
  obtain ⟨H, hH⟩ : ∃ H, H = s.heap := ⟨_, rfl⟩
  obtain ⟨locs, hlo⟩ : ∃ q : List Loc, q = [] := ⟨_, rfl⟩
  suffices hgo : W p l e rmX5_leave s m args below meth c H locs 0 0 Z (F0 m 0 ls []) by rw [hH, hlo] at hgo; exact hgo
  have hP : va_P D vwCl [(h, .inr (5, [.ref q_people, .ref q_places, .ref q_breath, .ref q_rows, .ref q_seen, .ref q_ends, va_rf f_field, .int f_size, .int f_turn, .int f_yards, .int f_time, .int f_gap, .int f_far, .int f_flat])), (q_places, .inl (cI, 7, .inl r_places))] H := by rw [hH]; exact hP
  have hD : va_D A [(h, .inr (5, [.ref q_people, .ref q_places, .ref q_breath, .ref q_rows, .ref q_seen, .ref q_ends, va_rf f_field, .int f_size, .int f_turn, .int f_yards, .int f_time, .int f_gap, .int f_far, .int f_flat])), (q_places, .inl (cI, 7, .inl r_places))] := hD
  have hS : va_S A s.heap H locs := by rw [hH, hlo]; exact hS
  refine lv_aload_n hx hb (dX5_leave 0 rfl) rfl (lv_at hl 0 rfl) ?_
  refine lv_iload_n hx hb (dX5_leave 1 rfl) rfl (lv_at hl 1 rfl) ?_
  have hcut := ob_cut (wc := [(h, .inr (5, [.ref q_people, .ref q_places, .ref q_breath, .ref q_rows, .ref q_seen, .ref q_ends, va_rf f_field, .int f_size, .int f_turn, .int f_yards, .int f_time, .int f_gap, .int f_far, .int f_flat])), (q_places, .inl (cI, 7, .inl r_places))]) hP hD hS hA [0, 1] rfl (by decide)
  refine ob_i (wr := []) (ob_V (As := [.int a1]) (rest := []) ⟨hx, hb, hml, hown, hts⟩ hK hcut (hI.cut hS hcut.2.2) hN (va_recv hK hP (ci := 5) (q0 := 0) rfl rfl) (k_X5_placeOf l D cI cZ cL im _ _ _ _ _ _ _ _ _ _ _ _ _ _ _ _ _ _ _ hm) (cwV 1 hts (gU_V (inR20 _ (List.mem_of_getElem? (i := 8) rfl)) (inR18 _ (List.mem_of_getElem? (i := 21) rfl)) (inR18 _ (List.mem_of_getElem? (i := 22) rfl)) (inR1 _ (List.mem_of_getElem? (i := 19) rfl)) (inR18 _ (List.mem_of_getElem? (i := 23) rfl))) rfl rfl rfl (by decide +kernel) ⟨Nat.le_of_ble_eq_true rfl, Nat.le_of_ble_eq_true rfl⟩) rfl hl.1 rfl (Nat.le_of_ble_eq_true rfl) (dX5_leave 2 rfl) ⟨Nat.zero_le _, Nat.zero_le _⟩) hP hD hS hcut [0, 1] [] rfl rfl (by decide) (by decide) (fun r1 u2 H locs hm hP hD hS => ?_)
  have hP := hP.sub (ws' := [(h, .inr (5, [.ref q_people, .ref q_places, .ref q_breath, .ref q_rows, .ref q_seen, .ref q_ends, va_rf f_field, .int f_size, .int f_turn, .int f_yards, .int f_time, .int f_gap, .int f_far, .int f_flat])), (q_places, .inl (cI, 7, .inl r_places))]) [0, 1] rfl
  have hD := hD.sub (ws' := [(h, .inr (5, [.ref q_people, .ref q_places, .ref q_breath, .ref q_rows, .ref q_seen, .ref q_ends, va_rf f_field, .int f_size, .int f_turn, .int f_yards, .int f_time, .int f_gap, .int f_far, .int f_flat])), (q_places, .inl (cI, 7, .inl r_places))]) [0, 1] (by decide) rfl
  refine lv_istore_n (lv' := [(2, .int r1), (0, .ref h), (1, .int a1)]) hx hb (dX5_leave 3 rfl) rfl hl (by decide) rfl (fun ls hl => ?_)
  refine lv_iload_n hx hb (dX5_leave 4 rfl) rfl (lv_at hl 0 rfl) ?_
  refine lv_iconst (v := (-1 : Int32)) hx hb (dX5_leave 5 rfl) (by decide) ?_
  refine lv_icmp_ne (tgt := 12) hx hb (dX5_leave 6 rfl) (by decide) (fun c3 => ?_) (fun c3 => ?_)
  · replace hm := hm.2 c3
    refine lv_iload_n hx hb (dX5_leave 8 rfl) rfl (lv_at hl 0 rfl) ?_
    refine lv_istore_n (lv' := [(3, .int r1), (2, .int r1), (0, .ref h), (1, .int a1)]) hx hb (dX5_leave 9 rfl) rfl hl (by decide) rfl (fun ls hl => ?_)
    obtain ⟨n7, hm⟩ := hm
    exact lab14 f_size n7 r_places r1 H locs ls hP hD hS (lv_sub hl [2, 0] rfl) hm
  replace hm := hm.1 c3
  exact hZ (f_size, r_places) H locs ls 11 hm hP hD hS (dX5_leave 7 rfl)
abbrev rmX11_breath : Room := { frames := 1, cells := 0, slots := 0, locals := 21 }
set_option maxHeartbeats 4000000 in
set_option maxRecDepth 100000 in
theorem k_X11_breath (l : Launch) (D : va_G) (cI cZ cL : ClassId) (im : va_W) (sz : Nat) (h : Nat) (q_now : Nat) (q_image : Nat) (q_trial : Nat) (q_trace : Nat) (q_tried : Nat) (q_best : Nat) (f_imaged : Int32) (q_now_line : Nat) (q_now_tape : Nat) (q_now_taken : Nat) (q_now_bookTurns : Nat) (q_now_bookTimes : Nat) (f_now_fields : Int32) (q_now_line_people : Nat) (q_now_line_places : Nat) (q_now_line_breath : Nat) (q_now_line_rows : Nat) (q_now_line_seen : Nat) (q_now_line_ends : Nat) (f_now_line_field : Option Nat) (f_now_line_size : Int32) (f_now_line_turn : Int32) (f_now_line_yards : Int32) (f_now_line_time : Int32) (f_now_line_gap : Int32) (f_now_line_far : Int32) (f_now_line_flat : Int32) (r_now_line_people : Nat → Option Nat) (r_now_line_breath : Nat → Int32) (a1 : Int32) (a2 : Int32) (Q : Int32 → (Nat → Int32) → Prop) (hm : m_X11_breath r_now_line_people r_now_line_breath a1 a2 Q) : Met l yX11_breath (Cond.code yX11_breath cX11_breath 5 (some .int) :: wsL_law) rmX11_breath (obPre D (tyG cI cZ cL) im [(h, .inr (11, [.ref q_now, .ref q_image, .ref q_trial, .ref q_trace, .ref q_tried, .ref q_best, .int f_imaged])), (q_now, .inr (9, [.ref q_now_line, .ref q_now_tape, .ref q_now_taken, .ref q_now_bookTurns, .ref q_now_bookTimes, .int f_now_fields])), (q_now_line, .inr (5, [.ref q_now_line_people, .ref q_now_line_places, .ref q_now_line_breath, .ref q_now_line_rows, .ref q_now_line_seen, .ref q_now_line_ends, va_rf f_now_line_field, .int f_now_line_size, .int f_now_line_turn, .int f_now_line_yards, .int f_now_line_time, .int f_now_line_gap, .int f_now_line_far, .int f_now_line_flat])), (q_now_line_people, .inl (cL, 7, .inr (.inr (.inr (.inr r_now_line_people))))), (q_now_line_breath, .inl (cI, 7, .inl r_now_line_breath))] sz [.ref h, .int a1, .int a2]) (va_Qi (fun (r : Int32) (u : (Nat → Int32)) => Q r u) (obB D (va_A [(h, .inr (11, [.ref q_now, .ref q_image, .ref q_trial, .ref q_trace, .ref q_tried, .ref q_best, .int f_imaged])), (q_now, .inr (9, [.ref q_now_line, .ref q_now_tape, .ref q_now_taken, .ref q_now_bookTurns, .ref q_now_bookTimes, .int f_now_fields])), (q_now_line, .inr (5, [.ref q_now_line_people, .ref q_now_line_places, .ref q_now_line_breath, .ref q_now_line_rows, .ref q_now_line_seen, .ref q_now_line_ends, va_rf f_now_line_field, .int f_now_line_size, .int f_now_line_turn, .int f_now_line_yards, .int f_now_line_time, .int f_now_line_gap, .int f_now_line_far, .int f_now_line_flat])), (q_now_line_people, .inl (cL, 7, .inr (.inr (.inr (.inr r_now_line_people))))), (q_now_line_breath, .inl (cI, 7, .inl r_now_line_breath))] sz) (fun u : (Nat → Int32) => [(h, .inr (11, [.ref q_now, .ref q_image, .ref q_trial, .ref q_trace, .ref q_tried, .ref q_best, .int f_imaged])), (q_now, .inr (9, [.ref q_now_line, .ref q_now_tape, .ref q_now_taken, .ref q_now_bookTurns, .ref q_now_bookTimes, .int f_now_fields])), (q_now_line, .inr (5, [.ref q_now_line_people, .ref q_now_line_places, .ref q_now_line_breath, .ref q_now_line_rows, .ref q_now_line_seen, .ref q_now_line_ends, va_rf f_now_line_field, .int f_now_line_size, .int f_now_line_turn, .int f_now_line_yards, .int f_now_line_time, .int f_now_line_gap, .int f_now_line_far, .int f_now_line_flat])), (q_now_line_people, .inl (cL, 7, .inr (.inr (.inr (.inr r_now_line_people))))), (q_now_line_breath, .inl (cI, 7, .inl u))])) (va_A [(h, .inr (11, [.ref q_now, .ref q_image, .ref q_trial, .ref q_trace, .ref q_tried, .ref q_best, .int f_imaged])), (q_now, .inr (9, [.ref q_now_line, .ref q_now_tape, .ref q_now_taken, .ref q_now_bookTurns, .ref q_now_bookTimes, .int f_now_fields])), (q_now_line, .inr (5, [.ref q_now_line_people, .ref q_now_line_places, .ref q_now_line_breath, .ref q_now_line_rows, .ref q_now_line_seen, .ref q_now_line_ends, va_rf f_now_line_field, .int f_now_line_size, .int f_now_line_turn, .int f_now_line_yards, .int f_now_line_time, .int f_now_line_gap, .int f_now_line_far, .int f_now_line_flat])), (q_now_line_people, .inl (cL, 7, .inr (.inr (.inr (.inr r_now_line_people))))), (q_now_line_breath, .inl (cI, 7, .inl r_now_line_breath))] sz)) 0 0 (va_A [(h, .inr (11, [.ref q_now, .ref q_image, .ref q_trial, .ref q_trace, .ref q_tried, .ref q_best, .int f_imaged])), (q_now, .inr (9, [.ref q_now_line, .ref q_now_tape, .ref q_now_taken, .ref q_now_bookTurns, .ref q_now_bookTimes, .int f_now_fields])), (q_now_line, .inr (5, [.ref q_now_line_people, .ref q_now_line_places, .ref q_now_line_breath, .ref q_now_line_rows, .ref q_now_line_seen, .ref q_now_line_ends, va_rf f_now_line_field, .int f_now_line_size, .int f_now_line_turn, .int f_now_line_yards, .int f_now_line_time, .int f_now_line_gap, .int f_now_line_far, .int f_now_line_flat])), (q_now_line_people, .inl (cL, 7, .inr (.inr (.inr (.inr r_now_line_people))))), (q_now_line_breath, .inl (cI, 7, .inl r_now_line_breath))] sz) := by
  refine ob_met_i (cc := cX11_breath) (maxL := 5) (by decide) (Nat.le_of_ble_eq_true rfl) (fun p e s m args below meth c A Z hx hb hml hown hts hnm hN hK hA hI hP hD hS hZ ls hl => ?_)
  have hl : lv_has ls 5 [(0, .ref h), (1, .int a1), (2, .int a2)] := hl
  unfold m_X11_breath at hm
  obtain ⟨H, hH⟩ : ∃ H, H = s.heap := ⟨_, rfl⟩
  obtain ⟨locs, hlo⟩ : ∃ q : List Loc, q = [] := ⟨_, rfl⟩
  suffices hgo : W p l e rmX11_breath s m args below meth c H locs 0 0 Z (F0 m 0 ls []) by rw [hH, hlo] at hgo; exact hgo
  have hP : va_P D vwCl [(h, .inr (11, [.ref q_now, .ref q_image, .ref q_trial, .ref q_trace, .ref q_tried, .ref q_best, .int f_imaged])), (q_now, .inr (9, [.ref q_now_line, .ref q_now_tape, .ref q_now_taken, .ref q_now_bookTurns, .ref q_now_bookTimes, .int f_now_fields])), (q_now_line, .inr (5, [.ref q_now_line_people, .ref q_now_line_places, .ref q_now_line_breath, .ref q_now_line_rows, .ref q_now_line_seen, .ref q_now_line_ends, va_rf f_now_line_field, .int f_now_line_size, .int f_now_line_turn, .int f_now_line_yards, .int f_now_line_time, .int f_now_line_gap, .int f_now_line_far, .int f_now_line_flat])), (q_now_line_people, .inl (cL, 7, .inr (.inr (.inr (.inr r_now_line_people))))), (q_now_line_breath, .inl (cI, 7, .inl r_now_line_breath))] H := by rw [hH]; exact hP
  have hD : va_D A [(h, .inr (11, [.ref q_now, .ref q_image, .ref q_trial, .ref q_trace, .ref q_tried, .ref q_best, .int f_imaged])), (q_now, .inr (9, [.ref q_now_line, .ref q_now_tape, .ref q_now_taken, .ref q_now_bookTurns, .ref q_now_bookTimes, .int f_now_fields])), (q_now_line, .inr (5, [.ref q_now_line_people, .ref q_now_line_places, .ref q_now_line_breath, .ref q_now_line_rows, .ref q_now_line_seen, .ref q_now_line_ends, va_rf f_now_line_field, .int f_now_line_size, .int f_now_line_turn, .int f_now_line_yards, .int f_now_line_time, .int f_now_line_gap, .int f_now_line_far, .int f_now_line_flat])), (q_now_line_people, .inl (cL, 7, .inr (.inr (.inr (.inr r_now_line_people))))), (q_now_line_breath, .inl (cI, 7, .inl r_now_line_breath))] := hD
  have hS : va_S A s.heap H locs := by rw [hH, hlo]; exact hS
  refine lv_aload_n hx hb (dX11_breath 0 rfl) rfl (lv_at hl 0 rfl) ?_
  refine va_get (D := D) (ci := 11) (v := .ref q_now) (C := RX11) (T := TX11) (N := 7) hx hb hts inlX11 hown hK hP 0 rfl rfl 0 (by decide) (hts (.fieldLink RX11 12 "OverBacks" "now" "LOverBacks$State;") (inR1 _ (List.mem_of_getElem? (i := 15) rfl))) (fun _ h9 => h9) rfl (dX11_breath 1 rfl) ?_
  refine va_getN (D := D) (ci := 9) (v := .ref q_now_line) (C := RX9) (T := TX9) (N := 6) hx hb hts inlX9 hown hK hP 1 rfl rfl 0 (by decide) (va_Nw.use rfl (hN _ (List.mem_of_getElem? (i := 12) rfl))) (fun _ h9 => h9) rfl (dX11_breath 2 rfl) ?_
  refine lv_astore_n (lv' := [(3, .ref q_now_line), (0, .ref h), (1, .int a1), (2, .int a2)]) hx hb (dX11_breath 3 rfl) rfl hl (by decide) rfl (fun ls hl => ?_)
  refine lv_aload_n hx hb (dX11_breath 4 rfl) rfl (lv_at hl 0 rfl) ?_
  refine lv_iload_n hx hb (dX11_breath 5 rfl) rfl (lv_at hl 2 rfl) ?_
  have hcut := ob_cut (wc := [(q_now_line, .inr (5, [.ref q_now_line_people, .ref q_now_line_places, .ref q_now_line_breath, .ref q_now_line_rows, .ref q_now_line_seen, .ref q_now_line_ends, va_rf f_now_line_field, .int f_now_line_size, .int f_now_line_turn, .int f_now_line_yards, .int f_now_line_time, .int f_now_line_gap, .int f_now_line_far, .int f_now_line_flat])), (q_now_line_people, .inl (cL, 7, .inr (.inr (.inr (.inr r_now_line_people)))))]) hP hD hS hA [2, 3] rfl (by decide)
  refine ob_q (wr := [(h, .inr (11, [.ref q_now, .ref q_image, .ref q_trial, .ref q_trace, .ref q_tried, .ref q_best, .int f_imaged])), (q_now, .inr (9, [.ref q_now_line, .ref q_now_tape, .ref q_now_taken, .ref q_now_bookTurns, .ref q_now_bookTimes, .int f_now_fields])), (q_now_line_breath, .inl (cI, 7, .inl r_now_line_breath))]) (ob_V (As := [.int a1]) (rest := []) ⟨hx, hb, hml, hown, hts⟩ hK hcut (hI.cut hS hcut.2.2) hN (va_recv hK hP (ci := 5) (q0 := 2) rfl rfl) (k_X5_find l D cI cZ cL im _ _ _ _ _ _ _ _ _ _ _ _ _ _ _ _ _ _ _ hm) (cwV 1 hts (gU_V (inR16 _ (List.mem_of_getElem? (i := 10) rfl)) (inR16 _ (List.mem_of_getElem? (i := 11) rfl)) (inR16 _ (List.mem_of_getElem? (i := 12) rfl)) (inR1 _ (List.mem_of_getElem? (i := 19) rfl)) (inR16 _ (List.mem_of_getElem? (i := 13) rfl))) rfl rfl rfl (by decide +kernel) ⟨Nat.le_of_ble_eq_true rfl, Nat.le_of_ble_eq_true rfl⟩) rfl hl.1 rfl (Nat.le_of_ble_eq_true rfl) (dX11_breath 6 rfl) ⟨Nat.zero_le _, Nat.zero_le _⟩) hP hD hS hcut [2, 3] [0, 1, 4] rfl rfl (by decide) (by decide) (fun r1 u2 H locs hm hP hD hS => ?_)
  have hP := hP.sub (ws' := [(h, .inr (11, [.ref q_now, .ref q_image, .ref q_trial, .ref q_trace, .ref q_tried, .ref q_best, .int f_imaged])), (q_now, .inr (9, [.ref q_now_line, .ref q_now_tape, .ref q_now_taken, .ref q_now_bookTurns, .ref q_now_bookTimes, .int f_now_fields])), (q_now_line, .inr (5, [.ref q_now_line_people, .ref q_now_line_places, .ref q_now_line_breath, .ref q_now_line_rows, .ref q_now_line_seen, .ref q_now_line_ends, va_rf f_now_line_field, .int f_now_line_size, .int f_now_line_turn, .int f_now_line_yards, .int f_now_line_time, .int f_now_line_gap, .int f_now_line_far, .int f_now_line_flat])), (q_now_line_people, .inl (cL, 7, .inr (.inr (.inr (.inr r_now_line_people))))), (q_now_line_breath, .inl (cI, 7, .inl r_now_line_breath))]) [0, 1, 3, 4, 2] rfl
  have hD := hD.sub (ws' := [(h, .inr (11, [.ref q_now, .ref q_image, .ref q_trial, .ref q_trace, .ref q_tried, .ref q_best, .int f_imaged])), (q_now, .inr (9, [.ref q_now_line, .ref q_now_tape, .ref q_now_taken, .ref q_now_bookTurns, .ref q_now_bookTimes, .int f_now_fields])), (q_now_line, .inr (5, [.ref q_now_line_people, .ref q_now_line_places, .ref q_now_line_breath, .ref q_now_line_rows, .ref q_now_line_seen, .ref q_now_line_ends, va_rf f_now_line_field, .int f_now_line_size, .int f_now_line_turn, .int f_now_line_yards, .int f_now_line_time, .int f_now_line_gap, .int f_now_line_far, .int f_now_line_flat])), (q_now_line_people, .inl (cL, 7, .inr (.inr (.inr (.inr r_now_line_people))))), (q_now_line_breath, .inl (cI, 7, .inl r_now_line_breath))]) [0, 1, 3, 4, 2] (by decide) rfl
  refine ob_ifnonnull (tgt := 18) hx hb (dX11_breath 7 rfl) (by decide) (fun h4 => ?_) (fun a3 h4 => ?_)
  · replace hm := hm.1 h4; subst h4
    refine lv_iconst (v := (-1 : Int32)) hx hb (dX11_breath 8 rfl) (by decide) ?_
    exact hZ (-1 : Int32) r_now_line_breath H locs ls 17 hm hP hD hS (dX11_breath 9 rfl) rfl
  replace hm := hm.2 a3 h4; subst h4
  refine lv_iload_n hx hb (dX11_breath 10 rfl) rfl (lv_at hl 3 rfl) ?_
  have hcut := ob_cut (wc := []) hP hD hS hA [] rfl (by decide)
  refine ob_i (wr := [(h, .inr (11, [.ref q_now, .ref q_image, .ref q_trial, .ref q_trace, .ref q_tried, .ref q_best, .int f_imaged])), (q_now, .inr (9, [.ref q_now_line, .ref q_now_tape, .ref q_now_taken, .ref q_now_bookTurns, .ref q_now_bookTimes, .int f_now_fields])), (q_now_line, .inr (5, [.ref q_now_line_people, .ref q_now_line_places, .ref q_now_line_breath, .ref q_now_line_rows, .ref q_now_line_seen, .ref q_now_line_ends, va_rf f_now_line_field, .int f_now_line_size, .int f_now_line_turn, .int f_now_line_yards, .int f_now_line_time, .int f_now_line_gap, .int f_now_line_far, .int f_now_line_flat])), (q_now_line_people, .inl (cL, 7, .inr (.inr (.inr (.inr r_now_line_people))))), (q_now_line_breath, .inl (cI, 7, .inl r_now_line_breath))]) (ob_S (As := [.int a2]) (rest := []) ⟨hx, hb, hml, hown, hts⟩ hK hcut (hI.cut hS hcut.2.2) hN (k_X11_isOneDigit l D cI cZ cL im _ _ _ hm) (cwS2 1 hts (hts (.methodLink RX11 83 yX11_isOneDigit) (inR13 _ (List.mem_of_getElem? (i := 9) rfl))) (hts (.static yX11_isOneDigit) (inR13 _ (List.mem_of_getElem? (i := 10) rfl))) (hts (.initialized RX11) (inR1 _ (List.mem_of_getElem? (i := 2) rfl))) (goodU_c (inR13 _ (List.mem_of_getElem? (i := 11) rfl))) rfl rfl rfl (by decide +kernel) ⟨Nat.le_of_ble_eq_true rfl, Nat.le_of_ble_eq_true rfl⟩) rfl hl.1 rfl (Nat.le_of_ble_eq_true rfl) (dX11_breath 11 rfl) ⟨Nat.zero_le _, Nat.zero_le _⟩) hP hD hS hcut [] [0, 1, 2, 3, 4] rfl rfl (by decide) (by decide) (fun r5 u6 H locs hm hP hD hS => ?_)
  have hP := hP.sub (ws' := [(h, .inr (11, [.ref q_now, .ref q_image, .ref q_trial, .ref q_trace, .ref q_tried, .ref q_best, .int f_imaged])), (q_now, .inr (9, [.ref q_now_line, .ref q_now_tape, .ref q_now_taken, .ref q_now_bookTurns, .ref q_now_bookTimes, .int f_now_fields])), (q_now_line, .inr (5, [.ref q_now_line_people, .ref q_now_line_places, .ref q_now_line_breath, .ref q_now_line_rows, .ref q_now_line_seen, .ref q_now_line_ends, va_rf f_now_line_field, .int f_now_line_size, .int f_now_line_turn, .int f_now_line_yards, .int f_now_line_time, .int f_now_line_gap, .int f_now_line_far, .int f_now_line_flat])), (q_now_line_people, .inl (cL, 7, .inr (.inr (.inr (.inr r_now_line_people))))), (q_now_line_breath, .inl (cI, 7, .inl r_now_line_breath))]) [0, 1, 2, 3, 4] rfl
  have hD := hD.sub (ws' := [(h, .inr (11, [.ref q_now, .ref q_image, .ref q_trial, .ref q_trace, .ref q_tried, .ref q_best, .int f_imaged])), (q_now, .inr (9, [.ref q_now_line, .ref q_now_tape, .ref q_now_taken, .ref q_now_bookTurns, .ref q_now_bookTimes, .int f_now_fields])), (q_now_line, .inr (5, [.ref q_now_line_people, .ref q_now_line_places, .ref q_now_line_breath, .ref q_now_line_rows, .ref q_now_line_seen, .ref q_now_line_ends, va_rf f_now_line_field, .int f_now_line_size, .int f_now_line_turn, .int f_now_line_yards, .int f_now_line_time, .int f_now_line_gap, .int f_now_line_far, .int f_now_line_flat])), (q_now_line_people, .inl (cL, 7, .inr (.inr (.inr (.inr r_now_line_people))))), (q_now_line_breath, .inl (cI, 7, .inl r_now_line_breath))]) [0, 1, 2, 3, 4] (by decide) rfl
  refine lv_if_ne (tgt := 28) hx hb (dX11_breath 12 rfl) (by decide) (fun c7 => ?_) (fun c7 => ?_)
  · replace hm := hm.2 c7
    refine lv_aload_n hx hb (dX11_breath 15 rfl) rfl (lv_at hl 0 rfl) ?_
    refine va_getN (D := D) (ci := 5) (v := .ref q_now_line_breath) (C := RX5) (T := TX5) (N := 14) hx hb hts inlX5 hown hK hP 2 rfl rfl 2 (by decide) (va_Nw.use rfl (hN _ (List.mem_of_getElem? (i := 0) rfl))) (fun _ h9 => h9) rfl (dX11_breath 16 rfl) ?_
    refine lv_iload_n hx hb (dX11_breath 17 rfl) rfl (lv_at hl 2 rfl) ?_
    refine va_iald hx hb hK hP 4 0 rfl rfl hm.1 (dX11_breath 18 rfl) ?_
    replace hm := hm.2
    refine lv_topi (fun x8 ex8 => ?_)
    replace hm := hm x8 ex8
    refine lv_istore (lv' := [(4, .int x8), (3, .ref q_now_line), (0, .ref h), (1, .int a1), (2, .int a2)]) hx hb (dX11_breath 19 rfl) hl (by decide) rfl (fun ls hl => ?_)
    refine lv_aload_n hx hb (dX11_breath 20 rfl) rfl (lv_at hl 1 rfl) ?_
    refine va_getN (D := D) (ci := 5) (v := .ref q_now_line_breath) (C := RX5) (T := TX5) (N := 14) hx hb hts inlX5 hown hK hP 2 rfl rfl 2 (by decide) (va_Nw.use rfl (hN _ (List.mem_of_getElem? (i := 0) rfl))) (fun _ h9 => h9) rfl (dX11_breath 21 rfl) ?_
    refine lv_iload_n hx hb (dX11_breath 22 rfl) rfl (lv_at hl 3 rfl) ?_
    refine lv_iload_n hx hb (dX11_breath 23 rfl) rfl (lv_at hl 4 rfl) ?_
    refine va_iast hx hb hK hP hD hS 4 0 rfl rfl hm.1 (dX11_breath 24 rfl) (fun H locs hP hD hS => ?_)
    replace hm := hm.2
    obtain ⟨y9, ey9⟩ : ∃ q : Nat → Int32, q = upd r_now_line_breath a1.toNatClampNeg a2 := ⟨_, rfl⟩
    replace hm := hm y9 ey9
    have hP : va_P D vwCl [(h, .inr (11, [.ref q_now, .ref q_image, .ref q_trial, .ref q_trace, .ref q_tried, .ref q_best, .int f_imaged])), (q_now, .inr (9, [.ref q_now_line, .ref q_now_tape, .ref q_now_taken, .ref q_now_bookTurns, .ref q_now_bookTimes, .int f_now_fields])), (q_now_line, .inr (5, [.ref q_now_line_people, .ref q_now_line_places, .ref q_now_line_breath, .ref q_now_line_rows, .ref q_now_line_seen, .ref q_now_line_ends, va_rf f_now_line_field, .int f_now_line_size, .int f_now_line_turn, .int f_now_line_yards, .int f_now_line_time, .int f_now_line_gap, .int f_now_line_far, .int f_now_line_flat])), (q_now_line_people, .inl (cL, 7, .inr (.inr (.inr (.inr r_now_line_people))))), (q_now_line_breath, .inl (cI, 7, .inl y9))] H := by rw [ey9]; exact hP
    have hD : va_D A [(h, .inr (11, [.ref q_now, .ref q_image, .ref q_trial, .ref q_trace, .ref q_tried, .ref q_best, .int f_imaged])), (q_now, .inr (9, [.ref q_now_line, .ref q_now_tape, .ref q_now_taken, .ref q_now_bookTurns, .ref q_now_bookTimes, .int f_now_fields])), (q_now_line, .inr (5, [.ref q_now_line_people, .ref q_now_line_places, .ref q_now_line_breath, .ref q_now_line_rows, .ref q_now_line_seen, .ref q_now_line_ends, va_rf f_now_line_field, .int f_now_line_size, .int f_now_line_turn, .int f_now_line_yards, .int f_now_line_time, .int f_now_line_gap, .int f_now_line_far, .int f_now_line_flat])), (q_now_line_people, .inl (cL, 7, .inr (.inr (.inr (.inr r_now_line_people))))), (q_now_line_breath, .inl (cI, 7, .inl y9))] := by rw [ey9]; exact hD
    refine lv_iload hx hb (dX11_breath 25 rfl) (lv_at hl 0 rfl) ?_
    exact hZ x8 y9 H locs ls 45 hm hP hD hS (dX11_breath 26 rfl) rfl
  replace hm := hm.1 c7
  refine lv_bipush (v := (-2 : Int32)) hx hb (dX11_breath 13 rfl) (by decide) ?_
  exact hZ (-2 : Int32) r_now_line_breath H locs ls 27 hm hP hD hS (dX11_breath 14 rfl) rfl
abbrev rmX11_toNextOrder : Room := { frames := 1, cells := 0, slots := 0, locals := 23 }
set_option maxHeartbeats 4000000 in
set_option maxRecDepth 100000 in
theorem k_X11_toNextOrder (l : Launch) (D : va_G) (cI cZ cL : ClassId) (im : va_W) (sz : Nat) (h1 : Nat) (n1 : Nat) (r1 : Nat → Int32) (a2 : Int32) (Q : Int32 → (Nat → Int32) → Prop) (hm : m_X11_toNextOrder n1 r1 a2 Q) : Met l yX11_toNextOrder (Cond.code yX11_toNextOrder cX11_toNextOrder 6 (some .boolean) :: wsL_law) rmX11_toNextOrder (obPre D (tyG cI cZ cL) im [(h1, .inl (cI, n1, .inl r1))] sz [.ref h1, .int a2]) (va_Qi (fun (r : Int32) (u : (Nat → Int32)) => Q r u) (obB D (va_A [(h1, .inl (cI, n1, .inl r1))] sz) (fun u : (Nat → Int32) => [(h1, .inl (cI, n1, .inl u))])) (va_A [(h1, .inl (cI, n1, .inl r1))] sz)) 0 0 (va_A [(h1, .inl (cI, n1, .inl r1))] sz) := by
  refine ob_met_i (cc := cX11_toNextOrder) (maxL := 6) (by decide) (Nat.le_of_ble_eq_true rfl) (fun p e s m args below meth c A Z hx hb hml hown hts hnm hN hK hA hI hP hD hS hZ ls hl => ?_)
  have hl : lv_has ls 6 [(0, .ref h1), (1, .int a2)] := hl
  unfold m_X11_toNextOrder at hm
  have lab73 : ∀ (n73 : Nat) (r1_73 : Nat → Int32) (v4_73 : Int32) (v5_73 : Int32) , ∀ (H : Heap) (locs : List Loc) (ls : Array Slot), va_P D vwCl [(h1, .inl (cI, n1, .inl r1_73))] H → va_D A [(h1, .inl (cI, n1, .inl r1_73))] → va_S A s.heap H locs → lv_has ls 6 [(0, .ref h1), (4, .int v4_73), (5, .int v5_73)] → m_X11_toNextOrder_L73 n1 Q n73 r1_73 v4_73 v5_73 → W p l e rmX11_toNextOrder s m args below meth c H locs 0 0 Z (F0 m 73 ls []) := by
    intro n73
    induction n73 with
    | zero =>
      intro r1_73 v4_73 v5_73 H locs ls hP hD hS hl hm
      exact hm.elim
    | succ n73 ih73 =>
      intro r1_73 v4_73 v5_73 H locs ls hP hD hS hl hm
      unfold m_X11_toNextOrder_L73 at hm
      obtain ⟨K73, hK73⟩ : ∃ K : (Nat → Int32) → Int32 → Int32 → Prop, K = m_X11_toNextOrder_L73 n1 Q n73 := ⟨_, rfl⟩
      rw [← hK73] at hm ih73
      refine lv_iload hx hb (dX11_toNextOrder 51 rfl) (lv_at hl 1 rfl) ?_
      refine lv_iload hx hb (dX11_toNextOrder 52 rfl) (lv_at hl 2 rfl) ?_
      refine lv_icmp_ge (tgt := 97) hx hb (dX11_toNextOrder 53 rfl) (by decide) (fun c11 => ?_) (fun c11 => ?_)
      · replace hm := hm.1 c11
        refine lv_iconst (v := (1 : Int32)) hx hb (dX11_toNextOrder 61 rfl) (by decide) ?_
        exact hZ (1 : Int32) r1_73 H locs ls 98 hm hP hD hS (dX11_toNextOrder 62 rfl) rfl
      replace hm := hm.2 c11
      refine lv_aload_n hx hb (dX11_toNextOrder 54 rfl) rfl (lv_at hl 0 rfl) ?_
      refine lv_iload hx hb (dX11_toNextOrder 55 rfl) (lv_at hl 1 rfl) ?_
      refine lv_iload hx hb (dX11_toNextOrder 56 rfl) (lv_at hl 2 rfl) ?_
      have hcut := ob_cut (wc := [(h1, .inl (cI, n1, .inl r1_73))]) hP hD hS hA [0] rfl (by decide)
      refine ob_v (wr := []) (ob_S (As := [.ref h1, .int v4_73, .int v5_73]) (rest := []) ⟨hx, hb, hml, hown, hts⟩ hK hcut (hI.cut hS hcut.2.2) hN (k_X11_exchangeAt l D cI cZ cL im _ _ _ _ _ _ _ hm) (cwS2 3 hts (hts (.methodLink RX11 275 yX11_exchangeAt) (inR30 _ (List.mem_of_getElem? (i := 6) rfl))) (hts (.static yX11_exchangeAt) (inR20 _ (List.mem_of_getElem? (i := 9) rfl))) (hts (.initialized RX11) (inR1 _ (List.mem_of_getElem? (i := 2) rfl))) (goodU_c (inR20 _ (List.mem_of_getElem? (i := 10) rfl))) rfl rfl rfl (by decide +kernel) ⟨Nat.le_of_ble_eq_true rfl, Nat.le_of_ble_eq_true rfl⟩) rfl hl.1 rfl (Nat.le_of_ble_eq_true rfl) (dX11_toNextOrder 57 rfl) ⟨Nat.zero_le _, Nat.zero_le _⟩) hP hD hS hcut [0] [] rfl rfl (by decide) (by decide) (fun u13 H locs hm hP hD hS => ?_)
      have hP := hP.sub (ws' := [(h1, .inl (cI, n1, .inl u13))]) [0] rfl
      have hD := hD.sub (ws' := [(h1, .inl (cI, n1, .inl u13))]) [0] (by decide) rfl
      obtain ⟨x15, ex15⟩ : ∃ y : Int32, y = v4_73 + 1 := ⟨_, rfl⟩
      replace hm := hm x15 ex15
      refine lv_iinc (v := x15) (lv' := [(4, .int x15), (0, .ref h1), (5, .int v5_73)]) hx hb (dX11_toNextOrder 58 rfl) hl (k := 1) rfl (by rw [ex15]; rfl) (by decide) rfl (fun ls hl => ?_)
      obtain ⟨x16, ex16⟩ : ∃ y : Int32, y = v5_73 + (-1 : Int32) := ⟨_, rfl⟩
      replace hm := hm x16 ex16
      refine lv_iinc (v := x16) (lv' := [(5, .int x16), (4, .int x15), (0, .ref h1)]) hx hb (dX11_toNextOrder 59 rfl) hl (k := 2) rfl (by rw [ex16]; rfl) (by decide) rfl (fun ls hl => ?_)
      refine lv_goto (tgt := 73) hx hb (dX11_toNextOrder 60 rfl) (by decide) ?_
      exact ih73 u13 x15 x16 H locs ls hP hD hS (lv_sub hl [2, 1, 0] rfl) hm
  have lab57 : ∀ (r1_57 : Nat → Int32) (v2_57 : Int32) (v3_57 : Int32) , ∀ (H : Heap) (locs : List Loc) (ls : Array Slot), va_P D vwCl [(h1, .inl (cI, n1, .inl r1_57))] H → va_D A [(h1, .inl (cI, n1, .inl r1_57))] → va_S A s.heap H locs → lv_has ls 6 [(0, .ref h1), (1, .int a2), (2, .int v2_57), (3, .int v3_57)] → m_X11_toNextOrder_L57 n1 a2 r1_57 v2_57 v3_57 Q → W p l e rmX11_toNextOrder s m args below meth c H locs 0 0 Z (F0 m 57 ls []) := by
    intro r1_57 v2_57 v3_57 H locs ls hP hD hS hl hm
    unfold m_X11_toNextOrder_L57 at hm
    refine lv_aload_n hx hb (dX11_toNextOrder 39 rfl) rfl (lv_at hl 0 rfl) ?_
    refine lv_iload_n hx hb (dX11_toNextOrder 40 rfl) rfl (lv_at hl 2 rfl) ?_
    refine lv_iload_n hx hb (dX11_toNextOrder 41 rfl) rfl (lv_at hl 3 rfl) ?_
    have hcut := ob_cut (wc := [(h1, .inl (cI, n1, .inl r1_57))]) hP hD hS hA [0] rfl (by decide)
    refine ob_v (wr := []) (ob_S (As := [.ref h1, .int v2_57, .int v3_57]) (rest := []) ⟨hx, hb, hml, hown, hts⟩ hK hcut (hI.cut hS hcut.2.2) hN (k_X11_exchangeAt l D cI cZ cL im _ _ _ _ _ _ _ hm) (cwS2 3 hts (hts (.methodLink RX11 275 yX11_exchangeAt) (inR30 _ (List.mem_of_getElem? (i := 6) rfl))) (hts (.static yX11_exchangeAt) (inR20 _ (List.mem_of_getElem? (i := 9) rfl))) (hts (.initialized RX11) (inR1 _ (List.mem_of_getElem? (i := 2) rfl))) (goodU_c (inR20 _ (List.mem_of_getElem? (i := 10) rfl))) rfl rfl rfl (by decide +kernel) ⟨Nat.le_of_ble_eq_true rfl, Nat.le_of_ble_eq_true rfl⟩) rfl hl.1 rfl (Nat.le_of_ble_eq_true rfl) (dX11_toNextOrder 42 rfl) ⟨Nat.zero_le _, Nat.zero_le _⟩) hP hD hS hcut [0] [] rfl rfl (by decide) (by decide) (fun u7 H locs hm hP hD hS => ?_)
    have hP := hP.sub (ws' := [(h1, .inl (cI, n1, .inl u7))]) [0] rfl
    have hD := hD.sub (ws' := [(h1, .inl (cI, n1, .inl u7))]) [0] (by decide) rfl
    refine lv_iload_n hx hb (dX11_toNextOrder 43 rfl) rfl (lv_at hl 2 rfl) ?_
    refine lv_iconst (v := (1 : Int32)) hx hb (dX11_toNextOrder 44 rfl) (by decide) ?_
    refine lv_iadd hx hb (dX11_toNextOrder 45 rfl) ?_
    refine lv_topi (fun x9 ex9 => ?_)
    replace hm := hm x9 ex9
    refine lv_istore (lv' := [(4, .int x9), (0, .ref h1), (1, .int a2), (2, .int v2_57), (3, .int v3_57)]) hx hb (dX11_toNextOrder 46 rfl) hl (by decide) rfl (fun ls hl => ?_)
    refine lv_iload_n hx hb (dX11_toNextOrder 47 rfl) rfl (lv_at hl 2 rfl) ?_
    refine lv_iconst (v := (1 : Int32)) hx hb (dX11_toNextOrder 48 rfl) (by decide) ?_
    refine lv_isub hx hb (dX11_toNextOrder 49 rfl) ?_
    refine lv_topi (fun x10 ex10 => ?_)
    replace hm := hm x10 ex10
    refine lv_istore (lv' := [(5, .int x10), (4, .int x9), (0, .ref h1), (1, .int a2), (2, .int v2_57), (3, .int v3_57)]) hx hb (dX11_toNextOrder 50 rfl) hl (by decide) rfl (fun ls hl => ?_)
    obtain ⟨n17, hm⟩ := hm
    exact lab73 n17 u7 x9 x10 H locs ls hP hD hS (lv_sub hl [2, 1, 0] rfl) hm
  have lab35 : ∀ (r1_35 : Nat → Int32) (v2_35 : Int32) (n35 : Nat) (v3_35 : Int32) , ∀ (H : Heap) (locs : List Loc) (ls : Array Slot), va_P D vwCl [(h1, .inl (cI, n1, .inl r1_35))] H → va_D A [(h1, .inl (cI, n1, .inl r1_35))] → va_S A s.heap H locs → lv_has ls 6 [(0, .ref h1), (1, .int a2), (2, .int v2_35), (3, .int v3_35)] → m_X11_toNextOrder_L35 n1 a2 r1_35 v2_35 Q n35 v3_35 → W p l e rmX11_toNextOrder s m args below meth c H locs 0 0 Z (F0 m 35 ls []) := by
    intro r1_35 v2_35
    intro n35
    induction n35 with
    | zero =>
      intro v3_35 H locs ls hP hD hS hl hm
      exact hm.elim
    | succ n35 ih35 =>
      intro v3_35 H locs ls hP hD hS hl hm
      unfold m_X11_toNextOrder_L35 at hm
      obtain ⟨K35, hK35⟩ : ∃ K : Int32 → Prop, K = m_X11_toNextOrder_L35 n1 a2 r1_35 v2_35 Q n35 := ⟨_, rfl⟩
      rw [← hK35] at hm ih35
      refine lv_iload_n hx hb (dX11_toNextOrder 25 rfl) rfl (lv_at hl 3 rfl) ?_
      refine lv_iload_n hx hb (dX11_toNextOrder 26 rfl) rfl (lv_at hl 2 rfl) ?_
      refine lv_iconst (v := (1 : Int32)) hx hb (dX11_toNextOrder 27 rfl) (by decide) ?_
      refine lv_iadd hx hb (dX11_toNextOrder 28 rfl) ?_
      refine lv_icmp_le (tgt := 57) hx hb (dX11_toNextOrder 29 rfl) (by decide) (fun c5 => ?_) (fun c5 => ?_)
      · replace hm := hm.1 c5
        exact lab57 r1_35 v2_35 v3_35 H locs ls hP hD hS (lv_sub hl [0, 1, 2, 3] rfl) hm
      replace hm := hm.2 c5
      refine lv_aload_n hx hb (dX11_toNextOrder 30 rfl) rfl (lv_at hl 0 rfl) ?_
      refine lv_iload_n hx hb (dX11_toNextOrder 31 rfl) rfl (lv_at hl 3 rfl) ?_
      refine va_iald hx hb hK hP 0 0 rfl rfl hm.1 (dX11_toNextOrder 32 rfl) ?_
      replace hm := hm.2
      refine lv_aload_n hx hb (dX11_toNextOrder 33 rfl) rfl (lv_at hl 0 rfl) ?_
      refine lv_iload_n hx hb (dX11_toNextOrder 34 rfl) rfl (lv_at hl 2 rfl) ?_
      refine va_iald hx hb hK hP 0 0 rfl rfl hm.1 (dX11_toNextOrder 35 rfl) ?_
      replace hm := hm.2
      refine lv_icmp_ge (tgt := 57) hx hb (dX11_toNextOrder 36 rfl) (by decide) (fun c18 => ?_) (fun c18 => ?_)
      · replace hm := hm.1 c18
        exact lab57 r1_35 v2_35 v3_35 H locs ls hP hD hS (lv_sub hl [0, 1, 2, 3] rfl) hm
      replace hm := hm.2 c18
      obtain ⟨x19, ex19⟩ : ∃ y : Int32, y = v3_35 + (-1 : Int32) := ⟨_, rfl⟩
      replace hm := hm x19 ex19
      refine lv_iinc (v := x19) (lv' := [(3, .int x19), (0, .ref h1), (1, .int a2), (2, .int v2_35)]) hx hb (dX11_toNextOrder 37 rfl) hl (k := 3) rfl (by rw [ex19]; rfl) (by decide) rfl (fun ls hl => ?_)
      refine lv_goto (tgt := 35) hx hb (dX11_toNextOrder 38 rfl) (by decide) ?_
      exact ih35 x19 H locs ls hP hD hS (lv_sub hl [1, 2, 3, 0] rfl) hm
  have lab25 : ∀ (r1_25 : Nat → Int32) (v2_25 : Int32) , ∀ (H : Heap) (locs : List Loc) (ls : Array Slot), va_P D vwCl [(h1, .inl (cI, n1, .inl r1_25))] H → va_D A [(h1, .inl (cI, n1, .inl r1_25))] → va_S A s.heap H locs → lv_has ls 6 [(0, .ref h1), (1, .int a2), (2, .int v2_25)] → m_X11_toNextOrder_L25 n1 a2 r1_25 v2_25 Q → W p l e rmX11_toNextOrder s m args below meth c H locs 0 0 Z (F0 m 25 ls []) := by
    intro r1_25 v2_25 H locs ls hP hD hS hl hm
    unfold m_X11_toNextOrder_L25 at hm
    refine lv_iload_n hx hb (dX11_toNextOrder 17 rfl) rfl (lv_at hl 2 rfl) ?_
    refine lv_if_ge (tgt := 31) hx hb (dX11_toNextOrder 18 rfl) (by decide) (fun c3 => ?_) (fun c3 => ?_)
    · replace hm := hm.1 c3
      refine lv_iload_n hx hb (dX11_toNextOrder 21 rfl) rfl (lv_at hl 1 rfl) ?_
      refine lv_iconst (v := (1 : Int32)) hx hb (dX11_toNextOrder 22 rfl) (by decide) ?_
      refine lv_isub hx hb (dX11_toNextOrder 23 rfl) ?_
      refine lv_topi (fun x4 ex4 => ?_)
      replace hm := hm x4 ex4
      refine lv_istore_n (lv' := [(3, .int x4), (0, .ref h1), (1, .int a2), (2, .int v2_25)]) hx hb (dX11_toNextOrder 24 rfl) rfl hl (by decide) rfl (fun ls hl => ?_)
      obtain ⟨n20, hm⟩ := hm
      exact lab35 r1_25 v2_25 n20 x4 H locs ls hP hD hS (lv_sub hl [1, 2, 3, 0] rfl) hm
    replace hm := hm.2 c3
    refine lv_iconst (v := (0 : Int32)) hx hb (dX11_toNextOrder 19 rfl) (by decide) ?_
    exact hZ (0 : Int32) r1_25 H locs ls 30 hm hP hD hS (dX11_toNextOrder 20 rfl) rfl
  have lab4 : ∀ (r1_4 : Nat → Int32) (n4 : Nat) (v2_4 : Int32) , ∀ (H : Heap) (locs : List Loc) (ls : Array Slot), va_P D vwCl [(h1, .inl (cI, n1, .inl r1_4))] H → va_D A [(h1, .inl (cI, n1, .inl r1_4))] → va_S A s.heap H locs → lv_has ls 6 [(0, .ref h1), (1, .int a2), (2, .int v2_4)] → m_X11_toNextOrder_L4 n1 a2 r1_4 Q n4 v2_4 → W p l e rmX11_toNextOrder s m args below meth c H locs 0 0 Z (F0 m 4 ls []) := by
    intro r1_4
    intro n4
    induction n4 with
    | zero =>
      intro v2_4 H locs ls hP hD hS hl hm
      exact hm.elim
    | succ n4 ih4 =>
      intro v2_4 H locs ls hP hD hS hl hm
      unfold m_X11_toNextOrder_L4 at hm
      obtain ⟨K4, hK4⟩ : ∃ K : Int32 → Prop, K = m_X11_toNextOrder_L4 n1 a2 r1_4 Q n4 := ⟨_, rfl⟩
      rw [← hK4] at hm ih4
      refine lv_iload_n hx hb (dX11_toNextOrder 4 rfl) rfl (lv_at hl 2 rfl) ?_
      refine lv_if_lt (tgt := 25) hx hb (dX11_toNextOrder 5 rfl) (by decide) (fun c2 => ?_) (fun c2 => ?_)
      · replace hm := hm.1 c2
        exact lab25 r1_4 v2_4 H locs ls hP hD hS (lv_sub hl [0, 1, 2] rfl) hm
      replace hm := hm.2 c2
      refine lv_aload_n hx hb (dX11_toNextOrder 6 rfl) rfl (lv_at hl 0 rfl) ?_
      refine lv_iload_n hx hb (dX11_toNextOrder 7 rfl) rfl (lv_at hl 2 rfl) ?_
      refine va_iald hx hb hK hP 0 0 rfl rfl hm.1 (dX11_toNextOrder 8 rfl) ?_
      replace hm := hm.2
      refine lv_aload_n hx hb (dX11_toNextOrder 9 rfl) rfl (lv_at hl 0 rfl) ?_
      refine lv_iload_n hx hb (dX11_toNextOrder 10 rfl) rfl (lv_at hl 2 rfl) ?_
      refine lv_iconst (v := (1 : Int32)) hx hb (dX11_toNextOrder 11 rfl) (by decide) ?_
      refine lv_iadd hx hb (dX11_toNextOrder 12 rfl) ?_
      refine va_iald hx hb hK hP 0 0 rfl rfl hm.1 (dX11_toNextOrder 13 rfl) ?_
      replace hm := hm.2
      refine lv_icmp_le (tgt := 25) hx hb (dX11_toNextOrder 14 rfl) (by decide) (fun c21 => ?_) (fun c21 => ?_)
      · replace hm := hm.1 c21
        exact lab25 r1_4 v2_4 H locs ls hP hD hS (lv_sub hl [0, 1, 2] rfl) hm
      replace hm := hm.2 c21
      obtain ⟨x22, ex22⟩ : ∃ y : Int32, y = v2_4 + (-1 : Int32) := ⟨_, rfl⟩
      replace hm := hm x22 ex22
      refine lv_iinc (v := x22) (lv' := [(2, .int x22), (0, .ref h1), (1, .int a2)]) hx hb (dX11_toNextOrder 15 rfl) hl (k := 2) rfl (by rw [ex22]; rfl) (by decide) rfl (fun ls hl => ?_)
      refine lv_goto (tgt := 4) hx hb (dX11_toNextOrder 16 rfl) (by decide) ?_
      exact ih4 x22 H locs ls hP hD hS (lv_sub hl [1, 2, 0] rfl) hm
  obtain ⟨H, hH⟩ : ∃ H, H = s.heap := ⟨_, rfl⟩
  obtain ⟨locs, hlo⟩ : ∃ q : List Loc, q = [] := ⟨_, rfl⟩
  suffices hgo : W p l e rmX11_toNextOrder s m args below meth c H locs 0 0 Z (F0 m 0 ls []) by rw [hH, hlo] at hgo; exact hgo
  have hP : va_P D vwCl [(h1, .inl (cI, n1, .inl r1))] H := by rw [hH]; exact hP
  have hD : va_D A [(h1, .inl (cI, n1, .inl r1))] := hD
  have hS : va_S A s.heap H locs := by rw [hH, hlo]; exact hS
  refine lv_iload_n hx hb (dX11_toNextOrder 0 rfl) rfl (lv_at hl 1 rfl) ?_
  refine lv_iconst (v := (2 : Int32)) hx hb (dX11_toNextOrder 1 rfl) (by decide) ?_
  refine lv_isub hx hb (dX11_toNextOrder 2 rfl) ?_
  refine lv_topi (fun x1 ex1 => ?_)
  replace hm := hm x1 ex1
  refine lv_istore_n (lv' := [(2, .int x1), (0, .ref h1), (1, .int a2)]) hx hb (dX11_toNextOrder 3 rfl) rfl hl (by decide) rfl (fun ls hl => ?_)
  obtain ⟨n23, hm⟩ := hm
  exact lab4 r1 n23 x1 H locs ls hP hD hS (lv_sub hl [1, 2, 0] rfl) hm
