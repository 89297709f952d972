abbrev rmX0_kind : Room := { frames := 0, cells := 0, slots := 0, locals := 0 }
set_option maxHeartbeats 4000000 in
set_option maxRecDepth 100000 in
theorem k_X0_kind (l : Launch) (D : va_G) (cI cZ cL : ClassId) (im : obIM) (sz : Nat) (h : Nat) (Q : Int32 → Prop) (hm : m_X0_kind h Q) : Met l yX0_kind (Cond.code yX0_kind cX0_kind 1 (some .int) :: wsL_law) rmX0_kind (obPre D (tyG cI cZ cL) im [] sz [.ref h]) (va_Qi (fun (r : Int32) (u : Unit) => Q r) (obB D (va_A [] sz) (fun _ : Unit => [])) (va_A [] sz)) 0 0 (va_A [] sz) := by
  refine ob_met_i (cc := cX0_kind) (maxL := 1) (by decide) (Nat.le_of_ble_eq_true rfl) (fun p e s m args below meth c A Z hx hb hml hown hts hnm hN hK hA hI hP hD hS hZ ls hl => ?_)
  have hl : lv_has ls 1 [(0, .ref h)] := hl
  unfold m_X0_kind at hm
  obtain ⟨H, hH⟩ : ∃ H, H = s.heap := ⟨_, rfl⟩
  obtain ⟨locs, hlo⟩ : ∃ q : List Loc, q = [] := ⟨_, rfl⟩
  suffices hgo : W p l e rmX0_kind s m args below meth c H locs 0 0 Z (F0 m 0 ls []) by rw [hH, hlo] at hgo; exact hgo
  have hP : va_P D vwCl [] H := by rw [hH]; exact hP
  have hD : va_D A [] := hD
  have hS : va_S A s.heap H locs := by rw [hH, hlo]; exact hS
  refine lv_iconst (v := (3 : Int32)) hx hb (dX0_kind 0 rfl) (by decide) ?_
  exact hZ (3 : Int32) () H locs ls 1 hm hP hD hS (dX0_kind 1 rfl) rfl
abbrev rmX0_pace : Room := { frames := 0, cells := 0, slots := 0, locals := 0 }
set_option maxHeartbeats 4000000 in
set_option maxRecDepth 100000 in
theorem k_X0_pace (l : Launch) (D : va_G) (cI cZ cL : ClassId) (im : obIM) (lk : Nat → Option (Nat × Int32 × Int32 × Int32)) (hlk : obLK im lk) (sz : Nat) (h : Nat) (a1 : Int32) (Q : Int32 → Prop) (hm : m_X0_pace lk h a1 Q) : Met l yX0_pace (Cond.code yX0_pace cX0_pace 2 (some .int) :: wsL_law) rmX0_pace (obPre D (tyG cI cZ cL) im [] sz [.ref h, .int a1]) (va_Qi (fun (r : Int32) (u : Unit) => Q r) (obB D (va_A [] sz) (fun _ : Unit => [])) (va_A [] sz)) 0 0 (va_A [] sz) := by
  refine ob_met_i (cc := cX0_pace) (maxL := 2) (by decide) (Nat.le_of_ble_eq_true rfl) (fun p e s m args below meth c A Z hx hb hml hown hts hnm hN hK hA hI hP hD hS hZ ls hl => ?_)
  have hl : lv_has ls 2 [(0, .ref h), (1, .int a1)] := hl
  unfold m_X0_pace at hm
  obtain ⟨H, hH⟩ : ∃ H, H = s.heap := ⟨_, rfl⟩
  obtain ⟨locs, hlo⟩ : ∃ q : List Loc, q = [] := ⟨_, rfl⟩
  suffices hgo : W p l e rmX0_pace s m args below meth c H locs 0 0 Z (F0 m 0 ls []) by rw [hH, hlo] at hgo; exact hgo
  have hP : va_P D vwCl [] H := by rw [hH]; exact hP
  have hD : va_D A [] := hD
  have hS : va_S A s.heap H locs := by rw [hH, hlo]; exact hS
  refine lv_iload_n hx hb (dX0_pace 0 rfl) rfl (lv_at hl 1 rfl) ?_
  refine lv_aload_n hx hb (dX0_pace 1 rfl) rfl (lv_at hl 0 rfl) ?_
  obtain ⟨d1, n1, v1, t1, e1, hm⟩ := hm
  obtain ⟨hc1, k1, hk1⟩ := hlk _ _ _ _ _ e1
  refine ob_getL hx hb hts hown hK (hI.now hS) hc1 hk1 (j := 1) (by decide) rfl (hts (.fieldLink RX0 13 "OverBacks$Afraid" "v" "I") (inR22 _ (List.mem_of_getElem? (i := 9) rfl))) (u_same (hts (.sameField "OverBacks$Afraid" "OverBacks$Leaper" "v" "I") (inR22 _ (List.mem_of_getElem? (i := 10) rfl)))) (dX0_pace 2 rfl) ?_
  refine lv_icmp_le (tgt := 13) hx hb (dX0_pace 3 rfl) (by decide) (fun c2 => ?_) (fun c2 => ?_)
  · replace hm := hm.1 c2
    refine lv_iconst (v := (5 : Int32)) hx hb (dX0_pace 6 rfl) (by decide) ?_
    exact hZ (5 : Int32) () H locs ls 14 hm hP hD hS (dX0_pace 7 rfl) rfl
  replace hm := hm.2 c2
  refine lv_bipush (v := (8 : Int32)) hx hb (dX0_pace 4 rfl) (by decide) ?_
  refine lv_goto (tgt := 14) hx hb (dX0_pace 5 rfl) (by decide) ?_
  exact hZ (8 : Int32) () H locs ls 14 hm hP hD hS (dX0_pace 7 rfl) rfl
abbrev rmX1_subject : Room := { frames := 0, cells := 0, slots := 0, locals := 0 }
set_option maxHeartbeats 4000000 in
set_option maxRecDepth 100000 in
theorem k_X1_subject (l : Launch) (D : va_G) (cI cZ cL : ClassId) (im : obIM) (sz : Nat) (a1 : Int32) (Q : Int32 → Prop) (hm : m_X1_subject a1 Q) : Met l yX1_subject (Cond.code yX1_subject cX1_subject 1 (some .int) :: wsL_law) rmX1_subject (obPre D (tyG cI cZ cL) im [] sz [.int a1]) (va_Qi (fun (r : Int32) (u : Unit) => Q r) (obB D (va_A [] sz) (fun _ : Unit => [])) (va_A [] sz)) 0 0 (va_A [] sz) := by
  refine ob_met_i (cc := cX1_subject) (maxL := 1) (by decide) (Nat.le_of_ble_eq_true rfl) (fun p e s m args below meth c A Z hx hb hml hown hts hnm hN hK hA hI hP hD hS hZ ls hl => ?_)
  have hl : lv_has ls 1 [(0, .int a1)] := hl
  unfold m_X1_subject at hm
  obtain ⟨H, hH⟩ : ∃ H, H = s.heap := ⟨_, rfl⟩
  obtain ⟨locs, hlo⟩ : ∃ q : List Loc, q = [] := ⟨_, rfl⟩
  suffices hgo : W p l e rmX1_subject s m args below meth c H locs 0 0 Z (F0 m 0 ls []) by rw [hH, hlo] at hgo; exact hgo
  have hP : va_P D vwCl [] H := by rw [hH]; exact hP
  have hD : va_D A [] := hD
  have hS : va_S A s.heap H locs := by rw [hH, hlo]; exact hS
  refine lv_iload_n hx hb (dX1_subject 0 rfl) rfl (lv_at hl 0 rfl) ?_
  by_cases c1 : a1 = (98 : Int32)
  · refine lv_tableIn (tgt := 84) hx hb (dX1_subject 1 rfl) (by rw [c1]; decide) (by rw [c1]; decide) (by rw [c1]; rfl) (by decide) ?_
    replace hm := hm.1 c1
    refine lv_iconst (v := (4 : Int32)) hx hb (dX1_subject 10 rfl) (by decide) ?_
    exact hZ (4 : Int32) () H locs ls 85 hm hP hD hS (dX1_subject 11 rfl) rfl
  replace hm := hm.2
  by_cases c2 : a1 = (99 : Int32)
  · refine lv_tableIn (tgt := 86) hx hb (dX1_subject 1 rfl) (by rw [c2]; decide) (by rw [c2]; decide) (by rw [c2]; rfl) (by decide) ?_
    replace hm := hm.1 c2
    refine lv_iconst (v := (-1 : Int32)) hx hb (dX1_subject 12 rfl) (by decide) ?_
    exact hZ (-1 : Int32) () H locs ls 87 hm hP hD hS (dX1_subject 13 rfl) rfl
  replace hm := hm.2
  by_cases c3 : a1 = (100 : Int32)
  · refine lv_tableIn (tgt := 86) hx hb (dX1_subject 1 rfl) (by rw [c3]; decide) (by rw [c3]; decide) (by rw [c3]; rfl) (by decide) ?_
    replace hm := hm.1 c3
    refine lv_iconst (v := (-1 : Int32)) hx hb (dX1_subject 12 rfl) (by decide) ?_
    exact hZ (-1 : Int32) () H locs ls 87 hm hP hD hS (dX1_subject 13 rfl) rfl
  replace hm := hm.2
  by_cases c4 : a1 = (101 : Int32)
  · refine lv_tableIn (tgt := 86) hx hb (dX1_subject 1 rfl) (by rw [c4]; decide) (by rw [c4]; decide) (by rw [c4]; rfl) (by decide) ?_
    replace hm := hm.1 c4
    refine lv_iconst (v := (-1 : Int32)) hx hb (dX1_subject 12 rfl) (by decide) ?_
    exact hZ (-1 : Int32) () H locs ls 87 hm hP hD hS (dX1_subject 13 rfl) rfl
  replace hm := hm.2
  by_cases c5 : a1 = (102 : Int32)
  · refine lv_tableIn (tgt := 86) hx hb (dX1_subject 1 rfl) (by rw [c5]; decide) (by rw [c5]; decide) (by rw [c5]; rfl) (by decide) ?_
    replace hm := hm.1 c5
    refine lv_iconst (v := (-1 : Int32)) hx hb (dX1_subject 12 rfl) (by decide) ?_
    exact hZ (-1 : Int32) () H locs ls 87 hm hP hD hS (dX1_subject 13 rfl) rfl
  replace hm := hm.2
  by_cases c6 : a1 = (103 : Int32)
  · refine lv_tableIn (tgt := 86) hx hb (dX1_subject 1 rfl) (by rw [c6]; decide) (by rw [c6]; decide) (by rw [c6]; rfl) (by decide) ?_
    replace hm := hm.1 c6
    refine lv_iconst (v := (-1 : Int32)) hx hb (dX1_subject 12 rfl) (by decide) ?_
    exact hZ (-1 : Int32) () H locs ls 87 hm hP hD hS (dX1_subject 13 rfl) rfl
  replace hm := hm.2
  by_cases c7 : a1 = (104 : Int32)
  · refine lv_tableIn (tgt := 82) hx hb (dX1_subject 1 rfl) (by rw [c7]; decide) (by rw [c7]; decide) (by rw [c7]; rfl) (by decide) ?_
    replace hm := hm.1 c7
    refine lv_iconst (v := (3 : Int32)) hx hb (dX1_subject 8 rfl) (by decide) ?_
    exact hZ (3 : Int32) () H locs ls 83 hm hP hD hS (dX1_subject 9 rfl) rfl
  replace hm := hm.2
  by_cases c8 : a1 = (105 : Int32)
  · refine lv_tableIn (tgt := 86) hx hb (dX1_subject 1 rfl) (by rw [c8]; decide) (by rw [c8]; decide) (by rw [c8]; rfl) (by decide) ?_
    replace hm := hm.1 c8
    refine lv_iconst (v := (-1 : Int32)) hx hb (dX1_subject 12 rfl) (by decide) ?_
    exact hZ (-1 : Int32) () H locs ls 87 hm hP hD hS (dX1_subject 13 rfl) rfl
  replace hm := hm.2
  by_cases c9 : a1 = (106 : Int32)
  · refine lv_tableIn (tgt := 86) hx hb (dX1_subject 1 rfl) (by rw [c9]; decide) (by rw [c9]; decide) (by rw [c9]; rfl) (by decide) ?_
    replace hm := hm.1 c9
    refine lv_iconst (v := (-1 : Int32)) hx hb (dX1_subject 12 rfl) (by decide) ?_
    exact hZ (-1 : Int32) () H locs ls 87 hm hP hD hS (dX1_subject 13 rfl) rfl
  replace hm := hm.2
  by_cases c10 : a1 = (107 : Int32)
  · refine lv_tableIn (tgt := 80) hx hb (dX1_subject 1 rfl) (by rw [c10]; decide) (by rw [c10]; decide) (by rw [c10]; rfl) (by decide) ?_
    replace hm := hm.1 c10
    refine lv_iconst (v := (2 : Int32)) hx hb (dX1_subject 6 rfl) (by decide) ?_
    exact hZ (2 : Int32) () H locs ls 81 hm hP hD hS (dX1_subject 7 rfl) rfl
  replace hm := hm.2
  by_cases c11 : a1 = (108 : Int32)
  · refine lv_tableIn (tgt := 86) hx hb (dX1_subject 1 rfl) (by rw [c11]; decide) (by rw [c11]; decide) (by rw [c11]; rfl) (by decide) ?_
    replace hm := hm.1 c11
    refine lv_iconst (v := (-1 : Int32)) hx hb (dX1_subject 12 rfl) (by decide) ?_
    exact hZ (-1 : Int32) () H locs ls 87 hm hP hD hS (dX1_subject 13 rfl) rfl
  replace hm := hm.2
  by_cases c12 : a1 = (109 : Int32)
  · refine lv_tableIn (tgt := 86) hx hb (dX1_subject 1 rfl) (by rw [c12]; decide) (by rw [c12]; decide) (by rw [c12]; rfl) (by decide) ?_
    replace hm := hm.1 c12
    refine lv_iconst (v := (-1 : Int32)) hx hb (dX1_subject 12 rfl) (by decide) ?_
    exact hZ (-1 : Int32) () H locs ls 87 hm hP hD hS (dX1_subject 13 rfl) rfl
  replace hm := hm.2
  by_cases c13 : a1 = (110 : Int32)
  · refine lv_tableIn (tgt := 86) hx hb (dX1_subject 1 rfl) (by rw [c13]; decide) (by rw [c13]; decide) (by rw [c13]; rfl) (by decide) ?_
    replace hm := hm.1 c13
    refine lv_iconst (v := (-1 : Int32)) hx hb (dX1_subject 12 rfl) (by decide) ?_
    exact hZ (-1 : Int32) () H locs ls 87 hm hP hD hS (dX1_subject 13 rfl) rfl
  replace hm := hm.2
  by_cases c14 : a1 = (111 : Int32)
  · refine lv_tableIn (tgt := 78) hx hb (dX1_subject 1 rfl) (by rw [c14]; decide) (by rw [c14]; decide) (by rw [c14]; rfl) (by decide) ?_
    replace hm := hm.1 c14
    refine lv_iconst (v := (1 : Int32)) hx hb (dX1_subject 4 rfl) (by decide) ?_
    exact hZ (1 : Int32) () H locs ls 79 hm hP hD hS (dX1_subject 5 rfl) rfl
  replace hm := hm.2
  by_cases c15 : a1 = (112 : Int32)
  · refine lv_tableIn (tgt := 76) hx hb (dX1_subject 1 rfl) (by rw [c15]; decide) (by rw [c15]; decide) (by rw [c15]; rfl) (by decide) ?_
    replace hm := hm.1 c15
    refine lv_iconst (v := (0 : Int32)) hx hb (dX1_subject 2 rfl) (by decide) ?_
    exact hZ (0 : Int32) () H locs ls 77 hm hP hD hS (dX1_subject 3 rfl) rfl
  replace hm := hm.2
  have c16 : a1.toInt < 98 ∨ 112 < a1.toInt := by skip; have z0 := ob_ne c1; rw [show ((98 : Int32)).toInt = 98 from by decide] at z0; have z1 := ob_ne c2; rw [show ((99 : Int32)).toInt = 99 from by decide] at z1; have z2 := ob_ne c3; rw [show ((100 : Int32)).toInt = 100 from by decide] at z2; have z3 := ob_ne c4; rw [show ((101 : Int32)).toInt = 101 from by decide] at z3; have z4 := ob_ne c5; rw [show ((102 : Int32)).toInt = 102 from by decide] at z4; have z5 := ob_ne c6; rw [show ((103 : Int32)).toInt = 103 from by decide] at z5; have z6 := ob_ne c7; rw [show ((104 : Int32)).toInt = 104 from by decide] at z6; have z7 := ob_ne c8; rw [show ((105 : Int32)).toInt = 105 from by decide] at z7; have z8 := ob_ne c9; rw [show ((106 : Int32)).toInt = 106 from by decide] at z8; have z9 := ob_ne c10; rw [show ((107 : Int32)).toInt = 107 from by decide] at z9; have z10 := ob_ne c11; rw [show ((108 : Int32)).toInt = 108 from by decide] at z10; have z11 := ob_ne c12; rw [show ((109 : Int32)).toInt = 109 from by decide] at z11; have z12 := ob_ne c13; rw [show ((110 : Int32)).toInt = 110 from by decide] at z12; have z13 := ob_ne c14; rw [show ((111 : Int32)).toInt = 111 from by decide] at z13; have z14 := ob_ne c15; rw [show ((112 : Int32)).toInt = 112 from by decide] at z14; omega
  refine lv_tableOut (tgt := 86) hx hb (dX1_subject 1 rfl) c16 (by decide) ?_
  replace hm := hm c16
  refine lv_iconst (v := (-1 : Int32)) hx hb (dX1_subject 12 rfl) (by decide) ?_
  exact hZ (-1 : Int32) () H locs ls 87 hm hP hD hS (dX1_subject 13 rfl) rfl
abbrev rmX1_relation : Room := { frames := 0, cells := 0, slots := 0, locals := 0 }
set_option maxHeartbeats 4000000 in
set_option maxRecDepth 100000 in
theorem k_X1_relation (l : Launch) (D : va_G) (cI cZ cL : ClassId) (im : obIM) (sz : Nat) (a1 : Int32) (Q : Int32 → Prop) (hm : m_X1_relation a1 Q) : Met l yX1_relation (Cond.code yX1_relation cX1_relation 1 (some .int) :: wsL_law) rmX1_relation (obPre D (tyG cI cZ cL) im [] sz [.int a1]) (va_Qi (fun (r : Int32) (u : Unit) => Q r) (obB D (va_A [] sz) (fun _ : Unit => [])) (va_A [] sz)) 0 0 (va_A [] sz) := by
  refine ob_met_i (cc := cX1_relation) (maxL := 1) (by decide) (Nat.le_of_ble_eq_true rfl) (fun p e s m args below meth c A Z hx hb hml hown hts hnm hN hK hA hI hP hD hS hZ ls hl => ?_)
  have hl : lv_has ls 1 [(0, .int a1)] := hl
  unfold m_X1_relation at hm
  obtain ⟨H, hH⟩ : ∃ H, H = s.heap := ⟨_, rfl⟩
  obtain ⟨locs, hlo⟩ : ∃ q : List Loc, q = [] := ⟨_, rfl⟩
  suffices hgo : W p l e rmX1_relation s m args below meth c H locs 0 0 Z (F0 m 0 ls []) by rw [hH, hlo] at hgo; exact hgo
  have hP : va_P D vwCl [] H := by rw [hH]; exact hP
  have hD : va_D A [] := hD
  have hS : va_S A s.heap H locs := by rw [hH, hlo]; exact hS
  refine lv_iload_n hx hb (dX1_relation 0 rfl) rfl (lv_at hl 0 rfl) ?_
  by_cases c1 : a1 = (60 : Int32)
  · refine lv_tableIn (tgt := 28) hx hb (dX1_relation 1 rfl) (by rw [c1]; decide) (by rw [c1]; decide) (by rw [c1]; rfl) (by decide) ?_
    replace hm := hm.1 c1
    refine lv_iconst (v := (0 : Int32)) hx hb (dX1_relation 2 rfl) (by decide) ?_
    exact hZ (0 : Int32) () H locs ls 29 hm hP hD hS (dX1_relation 3 rfl) rfl
  replace hm := hm.2
  by_cases c2 : a1 = (61 : Int32)
  · refine lv_tableIn (tgt := 30) hx hb (dX1_relation 1 rfl) (by rw [c2]; decide) (by rw [c2]; decide) (by rw [c2]; rfl) (by decide) ?_
    replace hm := hm.1 c2
    refine lv_iconst (v := (1 : Int32)) hx hb (dX1_relation 4 rfl) (by decide) ?_
    exact hZ (1 : Int32) () H locs ls 31 hm hP hD hS (dX1_relation 5 rfl) rfl
  replace hm := hm.2
  by_cases c3 : a1 = (62 : Int32)
  · refine lv_tableIn (tgt := 32) hx hb (dX1_relation 1 rfl) (by rw [c3]; decide) (by rw [c3]; decide) (by rw [c3]; rfl) (by decide) ?_
    replace hm := hm.1 c3
    refine lv_iconst (v := (2 : Int32)) hx hb (dX1_relation 6 rfl) (by decide) ?_
    exact hZ (2 : Int32) () H locs ls 33 hm hP hD hS (dX1_relation 7 rfl) rfl
  replace hm := hm.2
  have c4 : a1.toInt < 60 ∨ 62 < a1.toInt := by skip; have z0 := ob_ne c1; rw [show ((60 : Int32)).toInt = 60 from by decide] at z0; have z1 := ob_ne c2; rw [show ((61 : Int32)).toInt = 61 from by decide] at z1; have z2 := ob_ne c3; rw [show ((62 : Int32)).toInt = 62 from by decide] at z2; omega
  refine lv_tableOut (tgt := 34) hx hb (dX1_relation 1 rfl) c4 (by decide) ?_
  replace hm := hm c4
  refine lv_iconst (v := (-1 : Int32)) hx hb (dX1_relation 8 rfl) (by decide) ?_
  exact hZ (-1 : Int32) () H locs ls 35 hm hP hD hS (dX1_relation 9 rfl) rfl
abbrev rmX1_isDigitSign : Room := { frames := 0, cells := 0, slots := 0, locals := 0 }
set_option maxHeartbeats 4000000 in
set_option maxRecDepth 100000 in
theorem k_X1_isDigitSign (l : Launch) (D : va_G) (cI cZ cL : ClassId) (im : obIM) (sz : Nat) (a1 : Int32) (Q : Int32 → Prop) (hm : m_X1_isDigitSign a1 Q) : Met l yX1_isDigitSign (Cond.code yX1_isDigitSign cX1_isDigitSign 1 (some .boolean) :: wsL_law) rmX1_isDigitSign (obPre D (tyG cI cZ cL) im [] sz [.int a1]) (va_Qi (fun (r : Int32) (u : Unit) => Q r) (obB D (va_A [] sz) (fun _ : Unit => [])) (va_A [] sz)) 0 0 (va_A [] sz) := by
  refine ob_met_i (cc := cX1_isDigitSign) (maxL := 1) (by decide) (Nat.le_of_ble_eq_true rfl) (fun p e s m args below meth c A Z hx hb hml hown hts hnm hN hK hA hI hP hD hS hZ ls hl => ?_)
  have hl : lv_has ls 1 [(0, .int a1)] := hl
  unfold m_X1_isDigitSign at hm
  obtain ⟨H, hH⟩ : ∃ H, H = s.heap := ⟨_, rfl⟩
  obtain ⟨locs, hlo⟩ : ∃ q : List Loc, q = [] := ⟨_, rfl⟩
  suffices hgo : W p l e rmX1_isDigitSign s m args below meth c H locs 0 0 Z (F0 m 0 ls []) by rw [hH, hlo] at hgo; exact hgo
  have hP : va_P D vwCl [] H := by rw [hH]; exact hP
  have hD : va_D A [] := hD
  have hS : va_S A s.heap H locs := by rw [hH, hlo]; exact hS
  refine lv_iload_n hx hb (dX1_isDigitSign 0 rfl) rfl (lv_at hl 0 rfl) ?_
  refine lv_bipush (v := (48 : Int32)) hx hb (dX1_isDigitSign 1 rfl) (by decide) ?_
  refine lv_icmp_lt (tgt := 16) hx hb (dX1_isDigitSign 2 rfl) (by decide) (fun c1 => ?_) (fun c1 => ?_)
  · replace hm := hm.1 c1
    refine lv_iconst (v := (0 : Int32)) hx hb (dX1_isDigitSign 8 rfl) (by decide) ?_
    exact hZ (0 : Int32) () H locs ls 17 hm hP hD hS (dX1_isDigitSign 9 rfl) rfl
  replace hm := hm.2 c1
  refine lv_iload_n hx hb (dX1_isDigitSign 3 rfl) rfl (lv_at hl 0 rfl) ?_
  refine lv_bipush (v := (57 : Int32)) hx hb (dX1_isDigitSign 4 rfl) (by decide) ?_
  refine lv_icmp_gt (tgt := 16) hx hb (dX1_isDigitSign 5 rfl) (by decide) (fun c2 => ?_) (fun c2 => ?_)
  · replace hm := hm.1 c2
    refine lv_iconst (v := (0 : Int32)) hx hb (dX1_isDigitSign 8 rfl) (by decide) ?_
    exact hZ (0 : Int32) () H locs ls 17 hm hP hD hS (dX1_isDigitSign 9 rfl) rfl
  replace hm := hm.2 c2
  refine lv_iconst (v := (1 : Int32)) hx hb (dX1_isDigitSign 6 rfl) (by decide) ?_
  refine lv_goto (tgt := 17) hx hb (dX1_isDigitSign 7 rfl) (by decide) ?_
  exact hZ (1 : Int32) () H locs ls 17 hm hP hD hS (dX1_isDigitSign 9 rfl) rfl
abbrev rmX1_addStep : Room := { frames := 0, cells := 0, slots := 0, locals := 0 }
set_option maxHeartbeats 4000000 in
set_option maxRecDepth 100000 in
theorem k_X1_addStep (l : Launch) (D : va_G) (cI cZ cL : ClassId) (im : obIM) (sz : Nat) (h : Nat) (htape : Nat) (q_steps : Nat) (q_words : Nat) (q_numbers : Nat) (q_starts : Nat) (q_ends : Nat) (f_place : Int32) (f_stepCount : Int32) (f_clauses : Int32) (f_gap : Int32) (f_far : Int32) (r_steps : Nat → Int32) (a1 : Int32) (Q : Int32 → (Nat → Int32) → Prop) (hm : m_X1_addStep f_stepCount r_steps a1 Q) : Met l yX1_addStep (Cond.code yX1_addStep cX1_addStep 2 none :: wsL_law) rmX1_addStep (obPre D (tyG cI cZ cL) im [(h, .inr (1, [.ref htape, .ref q_steps, .ref q_words, .ref q_numbers, .ref q_starts, .ref q_ends, .int f_place, .int f_stepCount, .int f_clauses, .int f_gap, .int f_far])), (q_steps, .inl (cI, 100, .inl r_steps))] sz [.ref h, .int a1]) (va_Qv (fun (u : Int32 × (Nat → Int32)) => Q u.1 u.2) (obB D (va_A [(h, .inr (1, [.ref htape, .ref q_steps, .ref q_words, .ref q_numbers, .ref q_starts, .ref q_ends, .int f_place, .int f_stepCount, .int f_clauses, .int f_gap, .int f_far])), (q_steps, .inl (cI, 100, .inl r_steps))] sz) (fun u : Int32 × (Nat → Int32) => [(h, .inr (1, [.ref htape, .ref q_steps, .ref q_words, .ref q_numbers, .ref q_starts, .ref q_ends, .int f_place, .int u.1, .int f_clauses, .int f_gap, .int f_far])), (q_steps, .inl (cI, 100, .inl u.2))])) (va_A [(h, .inr (1, [.ref htape, .ref q_steps, .ref q_words, .ref q_numbers, .ref q_starts, .ref q_ends, .int f_place, .int f_stepCount, .int f_clauses, .int f_gap, .int f_far])), (q_steps, .inl (cI, 100, .inl r_steps))] sz)) 0 0 (va_A [(h, .inr (1, [.ref htape, .ref q_steps, .ref q_words, .ref q_numbers, .ref q_starts, .ref q_ends, .int f_place, .int f_stepCount, .int f_clauses, .int f_gap, .int f_far])), (q_steps, .inl (cI, 100, .inl r_steps))] sz) := by
  refine ob_met_v (cc := cX1_addStep) (maxL := 2) (by decide) (Nat.le_of_ble_eq_true rfl) (fun p e s m args below meth c A Z hx hb hml hown hts hnm hN hK hA hI hP hD hS hZ ls hl => ?_)
  have hl : lv_has ls 2 [(0, .ref h), (1, .int a1)] := hl
  unfold m_X1_addStep at hm
  obtain ⟨H, hH⟩ : ∃ H, H = s.heap := ⟨_, rfl⟩
  obtain ⟨locs, hlo⟩ : ∃ q : List Loc, q = [] := ⟨_, rfl⟩
  suffices hgo : W p l e rmX1_addStep s m args below meth c H locs 0 0 Z (F0 m 0 ls []) by rw [hH, hlo] at hgo; exact hgo
  have hP : va_P D vwCl [(h, .inr (1, [.ref htape, .ref q_steps, .ref q_words, .ref q_numbers, .ref q_starts, .ref q_ends, .int f_place, .int f_stepCount, .int f_clauses, .int f_gap, .int f_far])), (q_steps, .inl (cI, 100, .inl r_steps))] H := by rw [hH]; exact hP
  have hD : va_D A [(h, .inr (1, [.ref htape, .ref q_steps, .ref q_words, .ref q_numbers, .ref q_starts, .ref q_ends, .int f_place, .int f_stepCount, .int f_clauses, .int f_gap, .int f_far])), (q_steps, .inl (cI, 100, .inl r_steps))] := hD
  have hS : va_S A s.heap H locs := by rw [hH, hlo]; exact hS
  refine lv_aload_n hx hb (dX1_addStep 0 rfl) rfl (lv_at hl 0 rfl) ?_
  refine va_get (D := D) (ci := 1) (v := .int f_stepCount) (C := RX1) (T := TX1) (N := 11) hx hb hts inlX1 hown hK hP 0 rfl rfl 7 (by decide) (hts (.fieldLink RX1 61 "OverBacks$Field" "stepCount" "I") (inR6 _ (List.mem_of_getElem? (i := 6) rfl))) (fun _ h9 => h9) rfl (dX1_addStep 1 rfl) ?_
  refine lv_aload_n hx hb (dX1_addStep 2 rfl) rfl (lv_at hl 0 rfl) ?_
  refine va_get (D := D) (ci := 1) (v := .ref q_steps) (C := RX1) (T := TX1) (N := 11) hx hb hts inlX1 hown hK hP 0 rfl rfl 1 (by decide) (hts (.fieldLink RX1 15 "OverBacks$Field" "steps" "[I") (inR5 _ (List.mem_of_getElem? (i := 14) rfl))) (fun _ h9 => h9) rfl (dX1_addStep 3 rfl) ?_
  refine va_alen (v := (100 : Int32)) hx hb hK hP 1 0 rfl rfl rfl (dX1_addStep 4 rfl) ?_
  refine lv_icmp_lt (tgt := 13) hx hb (dX1_addStep 5 rfl) (by decide) (fun c1 => ?_) (fun c1 => ?_)
  · replace hm := hm.1 c1
    refine lv_aload_n hx hb (dX1_addStep 7 rfl) rfl (lv_at hl 0 rfl) ?_
    refine va_get (D := D) (ci := 1) (v := .ref q_steps) (C := RX1) (T := TX1) (N := 11) hx hb hts inlX1 hown hK hP 0 rfl rfl 1 (by decide) (hts (.fieldLink RX1 15 "OverBacks$Field" "steps" "[I") (inR5 _ (List.mem_of_getElem? (i := 14) rfl))) (fun _ h9 => h9) rfl (dX1_addStep 8 rfl) ?_
    refine lv_aload_n hx hb (dX1_addStep 9 rfl) rfl (lv_at hl 0 rfl) ?_
    refine va_get (D := D) (ci := 1) (v := .int f_stepCount) (C := RX1) (T := TX1) (N := 11) hx hb hts inlX1 hown hK hP 0 rfl rfl 7 (by decide) (hts (.fieldLink RX1 61 "OverBacks$Field" "stepCount" "I") (inR6 _ (List.mem_of_getElem? (i := 6) rfl))) (fun _ h9 => h9) rfl (dX1_addStep 10 rfl) ?_
    refine lv_iload_n hx hb (dX1_addStep 11 rfl) rfl (lv_at hl 1 rfl) ?_
    refine va_iast hx hb hK hP hD hS 1 0 rfl rfl hm.1 (dX1_addStep 12 rfl) (fun H locs hP hD hS => ?_)
    replace hm := hm.2
    obtain ⟨y2, ey2⟩ : ∃ q : Nat → Int32, q = upd r_steps f_stepCount.toNatClampNeg a1 := ⟨_, rfl⟩
    replace hm := hm y2 ey2
    have hP : va_P D vwCl [(h, .inr (1, [.ref htape, .ref q_steps, .ref q_words, .ref q_numbers, .ref q_starts, .ref q_ends, .int f_place, .int f_stepCount, .int f_clauses, .int f_gap, .int f_far])), (q_steps, .inl (cI, 100, .inl y2))] H := by rw [ey2]; exact hP
    have hD : va_D A [(h, .inr (1, [.ref htape, .ref q_steps, .ref q_words, .ref q_numbers, .ref q_starts, .ref q_ends, .int f_place, .int f_stepCount, .int f_clauses, .int f_gap, .int f_far])), (q_steps, .inl (cI, 100, .inl y2))] := by rw [ey2]; exact hD
    refine lv_aload_n hx hb (dX1_addStep 13 rfl) rfl (lv_at hl 0 rfl) ?_
    refine lv_dup hx hb (dX1_addStep 14 rfl) rfl ?_
    refine va_get (D := D) (ci := 1) (v := .int f_stepCount) (C := RX1) (T := TX1) (N := 11) hx hb hts inlX1 hown hK hP 0 rfl rfl 7 (by decide) (hts (.fieldLink RX1 61 "OverBacks$Field" "stepCount" "I") (inR6 _ (List.mem_of_getElem? (i := 6) rfl))) (fun _ h9 => h9) rfl (dX1_addStep 15 rfl) ?_
    refine lv_iconst (v := (1 : Int32)) hx hb (dX1_addStep 16 rfl) (by decide) ?_
    refine lv_iadd hx hb (dX1_addStep 17 rfl) ?_
    refine va_put (D := D) (ci := 1) (v := .int (f_stepCount + (1 : Int32))) (ty := .int) (C := RX1) (T := TX1) (N := 11) hx hb hts inlX1 tyX1 tyX1_ok nmX1 hown hK hP hD hS 0 rfl rfl 7 (by decide) (hts (.fieldLink RX1 61 "OverBacks$Field" "stepCount" "I") (inR6 _ (List.mem_of_getElem? (i := 6) rfl))) (fun _ h9 => h9) rfl (by decide +kernel) rfl rfl (Nat.le_of_ble_eq_true rfl) (dX1_addStep 18 rfl) (fun H locs hP hD hS => ?_)
    have hP : va_P D vwCl [(h, .inr (1, [.ref htape, .ref q_steps, .ref q_words, .ref q_numbers, .ref q_starts, .ref q_ends, .int f_place, .int (f_stepCount + (1 : Int32)), .int f_clauses, .int f_gap, .int f_far])), (q_steps, .inl (cI, 100, .inl y2))] H := hP
    have hD : va_D A [(h, .inr (1, [.ref htape, .ref q_steps, .ref q_words, .ref q_numbers, .ref q_starts, .ref q_ends, .int f_place, .int (f_stepCount + (1 : Int32)), .int f_clauses, .int f_gap, .int f_far])), (q_steps, .inl (cI, 100, .inl y2))] := hD
    exact hZ (f_stepCount + (1 : Int32), y2) H locs ls 33 hm hP hD hS (dX1_addStep 19 rfl)
  replace hm := hm.2 c1
  exact hZ (f_stepCount, r_steps) H locs ls 12 hm hP hD hS (dX1_addStep 6 rfl)
abbrev rmX1_isSo : Room := { frames := 0, cells := 0, slots := 0, locals := 0 }
set_option maxHeartbeats 4000000 in
set_option maxRecDepth 100000 in
theorem k_X1_isSo (l : Launch) (D : va_G) (cI cZ cL : ClassId) (im : obIM) (sz : Nat) (h2 : Nat) (n2 : Nat) (r2 : Nat → Int32) (a1 : Int32) (Q : Int32 → Prop) (hm : m_X1_isSo n2 r2 a1 Q) : Met l yX1_isSo (Cond.code yX1_isSo cX1_isSo 4 (some .boolean) :: wsL_law) rmX1_isSo (obPre D (tyG cI cZ cL) im [(h2, .inl (cI, n2, .inl r2))] sz [.int a1, .ref h2]) (va_Qi (fun (r : Int32) (u : Unit) => Q r) (obB D (va_A [(h2, .inl (cI, n2, .inl r2))] sz) (fun _ : Unit => [(h2, .inl (cI, n2, .inl r2))])) (va_A [(h2, .inl (cI, n2, .inl r2))] sz)) 0 0 (va_A [(h2, .inl (cI, n2, .inl r2))] sz) := by
  refine ob_met_i (cc := cX1_isSo) (maxL := 4) (by decide) (Nat.le_of_ble_eq_true rfl) (fun p e s m args below meth c A Z hx hb hml hown hts hnm hN hK hA hI hP hD hS hZ ls hl => ?_)
  have hl : lv_has ls 4 [(0, .int a1), (1, .ref h2)] := hl
  unfold m_X1_isSo at hm
  obtain ⟨H, hH⟩ : ∃ H, H = s.heap := ⟨_, rfl⟩
  obtain ⟨locs, hlo⟩ : ∃ q : List Loc, q = [] := ⟨_, rfl⟩
  suffices hgo : W p l e rmX1_isSo s m args below meth c H locs 0 0 Z (F0 m 0 ls []) by rw [hH, hlo] at hgo; exact hgo
  have hP : va_P D vwCl [(h2, .inl (cI, n2, .inl r2))] H := by rw [hH]; exact hP
  have hD : va_D A [(h2, .inl (cI, n2, .inl r2))] := hD
  have hS : va_S A s.heap H locs := by rw [hH, hlo]; exact hS
  refine lv_iload_n hx hb (dX1_isSo 0 rfl) rfl (lv_at hl 0 rfl) ?_
  refine lv_sipush (v := (300 : Int32)) hx hb (dX1_isSo 1 rfl) (by decide) ?_
  refine lv_idiv hx hb (dX1_isSo 2 rfl) (by decide) ?_
  refine lv_topi (fun x1 ex1 => ?_)
  replace hm := hm x1 ex1
  refine lv_istore_n (lv' := [(2, .int x1), (0, .int a1), (1, .ref h2)]) hx hb (dX1_isSo 3 rfl) rfl hl (by decide) rfl (fun ls hl => ?_)
  refine lv_iload_n hx hb (dX1_isSo 4 rfl) rfl (lv_at hl 0 rfl) ?_
  refine lv_if_lt (tgt := 16) hx hb (dX1_isSo 5 rfl) (by decide) (fun c2 => ?_) (fun c2 => ?_)
  · replace hm := hm.1 c2
    refine lv_iconst (v := (0 : Int32)) hx hb (dX1_isSo 10 rfl) (by decide) ?_
    exact hZ (0 : Int32) () H locs ls 17 hm hP hD hS (dX1_isSo 11 rfl) rfl
  replace hm := hm.2 c2
  refine lv_iload_n hx hb (dX1_isSo 6 rfl) rfl (lv_at hl 0 rfl) ?_
  refine lv_aload_n hx hb (dX1_isSo 7 rfl) rfl (lv_at hl 2 rfl) ?_
  refine va_alen (v := nI n2) hx hb hK hP 0 0 rfl rfl rfl (dX1_isSo 8 rfl) ?_
  refine lv_icmp_lt (tgt := 18) hx hb (dX1_isSo 9 rfl) (by decide) (fun c3 => ?_) (fun c3 => ?_)
  · replace hm := hm.1 c3
    refine lv_iload_n hx hb (dX1_isSo 12 rfl) rfl (lv_at hl 1 rfl) ?_
    refine lv_bipush (v := (100 : Int32)) hx hb (dX1_isSo 13 rfl) (by decide) ?_
    refine lv_irem hx hb (dX1_isSo 14 rfl) (by decide) ?_
    refine lv_topi (fun x4 ex4 => ?_)
    replace hm := hm x4 ex4
    refine lv_istore_n (lv' := [(3, .int x4), (2, .int x1), (0, .int a1), (1, .ref h2)]) hx hb (dX1_isSo 15 rfl) rfl hl (by decide) rfl (fun ls hl => ?_)
    refine lv_iload_n hx hb (dX1_isSo 16 rfl) rfl (lv_at hl 2 rfl) ?_
    refine lv_sipush (v := (300 : Int32)) hx hb (dX1_isSo 17 rfl) (by decide) ?_
    refine lv_irem hx hb (dX1_isSo 18 rfl) (by decide) ?_
    refine lv_bipush (v := (100 : Int32)) hx hb (dX1_isSo 19 rfl) (by decide) ?_
    refine lv_idiv hx hb (dX1_isSo 20 rfl) (by decide) ?_
    refine lv_topi (fun x5 ex5 => ?_)
    replace hm := hm x5 ex5
    by_cases c7 : x5 = (0 : Int32)
    · refine lv_lookup (off := 25) (tgt := 56) hx hb (dX1_isSo 21 rfl) (by decide) (by rw [c7]; rfl) (by decide) ?_
      replace hm := hm.1 c7
      refine lv_aload_n hx hb (dX1_isSo 22 rfl) rfl (lv_at hl 3 rfl) ?_
      refine lv_iload_n hx hb (dX1_isSo 23 rfl) rfl (lv_at hl 1 rfl) ?_
      refine va_iald hx hb hK hP 0 0 rfl rfl hm.1 (dX1_isSo 24 rfl) ?_
      replace hm := hm.2
      refine lv_iload_n hx hb (dX1_isSo 25 rfl) rfl (lv_at hl 0 rfl) ?_
      refine lv_icmp_ge (tgt := 67) hx hb (dX1_isSo 26 rfl) (by decide) (fun c6 => ?_) (fun c6 => ?_)
      · replace hm := hm.1 c6
        refine lv_iconst (v := (0 : Int32)) hx hb (dX1_isSo 29 rfl) (by decide) ?_
        exact hZ (0 : Int32) () H locs ls 68 hm hP hD hS (dX1_isSo 30 rfl) rfl
      replace hm := hm.2 c6
      refine lv_iconst (v := (1 : Int32)) hx hb (dX1_isSo 27 rfl) (by decide) ?_
      refine lv_goto (tgt := 68) hx hb (dX1_isSo 28 rfl) (by decide) ?_
      exact hZ (1 : Int32) () H locs ls 68 hm hP hD hS (dX1_isSo 30 rfl) rfl
    replace hm := hm.2
    by_cases c9 : x5 = (1 : Int32)
    · refine lv_lookup (off := 38) (tgt := 69) hx hb (dX1_isSo 21 rfl) (by decide) (by rw [c9]; rfl) (by decide) ?_
      replace hm := hm.1 c9
      refine lv_aload_n hx hb (dX1_isSo 31 rfl) rfl (lv_at hl 3 rfl) ?_
      refine lv_iload_n hx hb (dX1_isSo 32 rfl) rfl (lv_at hl 1 rfl) ?_
      refine va_iald hx hb hK hP 0 0 rfl rfl hm.1 (dX1_isSo 33 rfl) ?_
      replace hm := hm.2
      refine lv_iload_n hx hb (dX1_isSo 34 rfl) rfl (lv_at hl 0 rfl) ?_
      refine lv_icmp_ne (tgt := 80) hx hb (dX1_isSo 35 rfl) (by decide) (fun c8 => ?_) (fun c8 => ?_)
      · replace hm := hm.2 c8
        refine lv_iconst (v := (0 : Int32)) hx hb (dX1_isSo 38 rfl) (by decide) ?_
        exact hZ (0 : Int32) () H locs ls 81 hm hP hD hS (dX1_isSo 39 rfl) rfl
      replace hm := hm.1 c8
      refine lv_iconst (v := (1 : Int32)) hx hb (dX1_isSo 36 rfl) (by decide) ?_
      refine lv_goto (tgt := 81) hx hb (dX1_isSo 37 rfl) (by decide) ?_
      exact hZ (1 : Int32) () H locs ls 81 hm hP hD hS (dX1_isSo 39 rfl) rfl
    replace hm := hm.2
    refine lv_lookup (off := 51) (tgt := 82) hx hb (dX1_isSo 21 rfl) (by decide) (by simp [Op.lookupswitch.offset, ob_nes (n := 0) c7 (by decide), ob_nes (n := 1) c9 (by decide)]) (by decide) ?_
    replace hm := hm c7 c9
    refine lv_aload_n hx hb (dX1_isSo 40 rfl) rfl (lv_at hl 3 rfl) ?_
    refine lv_iload_n hx hb (dX1_isSo 41 rfl) rfl (lv_at hl 1 rfl) ?_
    refine va_iald hx hb hK hP 0 0 rfl rfl hm.1 (dX1_isSo 42 rfl) ?_
    replace hm := hm.2
    refine lv_iload_n hx hb (dX1_isSo 43 rfl) rfl (lv_at hl 0 rfl) ?_
    refine lv_icmp_le (tgt := 93) hx hb (dX1_isSo 44 rfl) (by decide) (fun c10 => ?_) (fun c10 => ?_)
    · replace hm := hm.1 c10
      refine lv_iconst (v := (0 : Int32)) hx hb (dX1_isSo 47 rfl) (by decide) ?_
      exact hZ (0 : Int32) () H locs ls 94 hm hP hD hS (dX1_isSo 48 rfl) rfl
    replace hm := hm.2 c10
    refine lv_iconst (v := (1 : Int32)) hx hb (dX1_isSo 45 rfl) (by decide) ?_
    refine lv_goto (tgt := 94) hx hb (dX1_isSo 46 rfl) (by decide) ?_
    exact hZ (1 : Int32) () H locs ls 94 hm hP hD hS (dX1_isSo 48 rfl) rfl
  replace hm := hm.2 c3
  refine lv_iconst (v := (0 : Int32)) hx hb (dX1_isSo 10 rfl) (by decide) ?_
  exact hZ (0 : Int32) () H locs ls 17 hm hP hD hS (dX1_isSo 11 rfl) rfl
abbrev rmX2_kind : Room := { frames := 0, cells := 0, slots := 0, locals := 0 }
set_option maxHeartbeats 4000000 in
set_option maxRecDepth 100000 in
theorem k_X2_kind (l : Launch) (D : va_G) (cI cZ cL : ClassId) (im : obIM) (sz : Nat) (h : Nat) (Q : Int32 → Prop) (hm : m_X2_kind h Q) : Met l yX2_kind (Cond.code yX2_kind cX2_kind 1 (some .int) :: wsL_law) rmX2_kind (obPre D (tyG cI cZ cL) im [] sz [.ref h]) (va_Qi (fun (r : Int32) (u : Unit) => Q r) (obB D (va_A [] sz) (fun _ : Unit => [])) (va_A [] sz)) 0 0 (va_A [] sz) := by
  refine ob_met_i (cc := cX2_kind) (maxL := 1) (by decide) (Nat.le_of_ble_eq_true rfl) (fun p e s m args below meth c A Z hx hb hml hown hts hnm hN hK hA hI hP hD hS hZ ls hl => ?_)
  have hl : lv_has ls 1 [(0, .ref h)] := hl
  unfold m_X2_kind at hm
  obtain ⟨H, hH⟩ : ∃ H, H = s.heap := ⟨_, rfl⟩
  obtain ⟨locs, hlo⟩ : ∃ q : List Loc, q = [] := ⟨_, rfl⟩
  suffices hgo : W p l e rmX2_kind s m args below meth c H locs 0 0 Z (F0 m 0 ls []) by rw [hH, hlo] at hgo; exact hgo
  have hP : va_P D vwCl [] H := by rw [hH]; exact hP
  have hD : va_D A [] := hD
  have hS : va_S A s.heap H locs := by rw [hH, hlo]; exact hS
  refine lv_iconst (v := (5 : Int32)) hx hb (dX2_kind 0 rfl) (by decide) ?_
  exact hZ (5 : Int32) () H locs ls 1 hm hP hD hS (dX2_kind 1 rfl) rfl
abbrev rmX2_pace : Room := { frames := 0, cells := 0, slots := 0, locals := 0 }
set_option maxHeartbeats 4000000 in
set_option maxRecDepth 100000 in
theorem k_X2_pace (l : Launch) (D : va_G) (cI cZ cL : ClassId) (im : obIM) (lk : Nat → Option (Nat × Int32 × Int32 × Int32)) (hlk : obLK im lk) (sz : Nat) (h : Nat) (a1 : Int32) (Q : Int32 → Prop) (hm : m_X2_pace lk h a1 Q) : Met l yX2_pace (Cond.code yX2_pace cX2_pace 2 (some .int) :: wsL_law) rmX2_pace (obPre D (tyG cI cZ cL) im [] sz [.ref h, .int a1]) (va_Qi (fun (r : Int32) (u : Unit) => Q r) (obB D (va_A [] sz) (fun _ : Unit => [])) (va_A [] sz)) 0 0 (va_A [] sz) := by
  refine ob_met_i (cc := cX2_pace) (maxL := 2) (by decide) (Nat.le_of_ble_eq_true rfl) (fun p e s m args below meth c A Z hx hb hml hown hts hnm hN hK hA hI hP hD hS hZ ls hl => ?_)
  have hl : lv_has ls 2 [(0, .ref h), (1, .int a1)] := hl
  unfold m_X2_pace at hm
  obtain ⟨H, hH⟩ : ∃ H, H = s.heap := ⟨_, rfl⟩
  obtain ⟨locs, hlo⟩ : ∃ q : List Loc, q = [] := ⟨_, rfl⟩
  suffices hgo : W p l e rmX2_pace s m args below meth c H locs 0 0 Z (F0 m 0 ls []) by rw [hH, hlo] at hgo; exact hgo
  have hP : va_P D vwCl [] H := by rw [hH]; exact hP
  have hD : va_D A [] := hD
  have hS : va_S A s.heap H locs := by rw [hH, hlo]; exact hS
  refine lv_iconst (v := (5 : Int32)) hx hb (dX2_pace 0 rfl) (by decide) ?_
  refine lv_aload_n hx hb (dX2_pace 1 rfl) rfl (lv_at hl 0 rfl) ?_
  obtain ⟨d1, n1, v1, t1, e1, hm⟩ := hm
  obtain ⟨hc1, k1, hk1⟩ := hlk _ _ _ _ _ e1
  refine ob_getL hx hb hts hown hK (hI.now hS) hc1 hk1 (j := 1) (by decide) rfl (hts (.fieldLink RX2 13 "OverBacks$Heavy" "v" "I") (inR22 _ (List.mem_of_getElem? (i := 15) rfl))) (u_same (hts (.sameField "OverBacks$Heavy" "OverBacks$Leaper" "v" "I") (inR22 _ (List.mem_of_getElem? (i := 16) rfl)))) (dX2_pace 2 rfl) ?_
  refine lv_iadd hx hb (dX2_pace 3 rfl) ?_
  exact hZ ((5 : Int32) + v1) () H locs ls 6 hm hP hD hS (dX2_pace 4 rfl) rfl
abbrev rmX3_kind : Room := { frames := 0, cells := 0, slots := 0, locals := 0 }
set_option maxHeartbeats 4000000 in
set_option maxRecDepth 100000 in
theorem k_X3_kind (l : Launch) (D : va_G) (cI cZ cL : ClassId) (im : obIM) (sz : Nat) (h : Nat) (Q : Int32 → Prop) (hm : m_X3_kind h Q) : Met l yX3_kind (Cond.code yX3_kind cX3_kind 1 (some .int) :: wsL_law) rmX3_kind (obPre D (tyG cI cZ cL) im [] sz [.ref h]) (va_Qi (fun (r : Int32) (u : Unit) => Q r) (obB D (va_A [] sz) (fun _ : Unit => [])) (va_A [] sz)) 0 0 (va_A [] sz) := by
  refine ob_met_i (cc := cX3_kind) (maxL := 1) (by decide) (Nat.le_of_ble_eq_true rfl) (fun p e s m args below meth c A Z hx hb hml hown hts hnm hN hK hA hI hP hD hS hZ ls hl => ?_)
  have hl : lv_has ls 1 [(0, .ref h)] := hl
  unfold m_X3_kind at hm
  obtain ⟨H, hH⟩ : ∃ H, H = s.heap := ⟨_, rfl⟩
  obtain ⟨locs, hlo⟩ : ∃ q : List Loc, q = [] := ⟨_, rfl⟩
  suffices hgo : W p l e rmX3_kind s m args below meth c H locs 0 0 Z (F0 m 0 ls []) by rw [hH, hlo] at hgo; exact hgo
  have hP : va_P D vwCl [] H := by rw [hH]; exact hP
  have hD : va_D A [] := hD
  have hS : va_S A s.heap H locs := by rw [hH, hlo]; exact hS
  refine lv_iconst (v := (2 : Int32)) hx hb (dX3_kind 0 rfl) (by decide) ?_
  exact hZ (2 : Int32) () H locs ls 1 hm hP hD hS (dX3_kind 1 rfl) rfl
abbrev rmX3_back : Room := { frames := 0, cells := 0, slots := 0, locals := 0 }
set_option maxHeartbeats 4000000 in
set_option maxRecDepth 100000 in
theorem k_X3_back (l : Launch) (D : va_G) (cI cZ cL : ClassId) (im : obIM) (lk : Nat → Option (Nat × Int32 × Int32 × Int32)) (hlk : obLK im lk) (sz : Nat) (h : Nat) (a1 : Int32) (Q : Int32 → Prop) (hm : m_X3_back lk h a1 Q) : Met l yX3_back (Cond.code yX3_back cX3_back 2 (some .int) :: wsL_law) rmX3_back (obPre D (tyG cI cZ cL) im [] sz [.ref h, .int a1]) (va_Qi (fun (r : Int32) (u : Unit) => Q r) (obB D (va_A [] sz) (fun _ : Unit => [])) (va_A [] sz)) 0 0 (va_A [] sz) := by
  refine ob_met_i (cc := cX3_back) (maxL := 2) (by decide) (Nat.le_of_ble_eq_true rfl) (fun p e s m args below meth c A Z hx hb hml hown hts hnm hN hK hA hI hP hD hS hZ ls hl => ?_)
  have hl : lv_has ls 2 [(0, .ref h), (1, .int a1)] := hl
  unfold m_X3_back at hm
  obtain ⟨H, hH⟩ : ∃ H, H = s.heap := ⟨_, rfl⟩
  obtain ⟨locs, hlo⟩ : ∃ q : List Loc, q = [] := ⟨_, rfl⟩
  suffices hgo : W p l e rmX3_back s m args below meth c H locs 0 0 Z (F0 m 0 ls []) by rw [hH, hlo] at hgo; exact hgo
  have hP : va_P D vwCl [] H := by rw [hH]; exact hP
  have hD : va_D A [] := hD
  have hS : va_S A s.heap H locs := by rw [hH, hlo]; exact hS
  refine lv_aload_n hx hb (dX3_back 0 rfl) rfl (lv_at hl 0 rfl) ?_
  obtain ⟨d1, n1, v1, t1, e1, hm⟩ := hm
  obtain ⟨hc1, k1, hk1⟩ := hlk _ _ _ _ _ e1
  refine ob_getL hx hb hts hown hK (hI.now hS) hc1 hk1 (j := 2) (by decide) rfl (hts (.fieldLink RX3 13 "OverBacks$High" "height" "I") (inR18 _ (List.mem_of_getElem? (i := 6) rfl))) (u_same (hts (.sameField "OverBacks$High" "OverBacks$Leaper" "height" "I") (inR18 _ (List.mem_of_getElem? (i := 7) rfl)))) (dX3_back 1 rfl) ?_
  refine lv_iconst (v := (2 : Int32)) hx hb (dX3_back 2 rfl) (by decide) ?_
  refine lv_iadd hx hb (dX3_back 3 rfl) ?_
  exact hZ (t1 + (2 : Int32)) () H locs ls 6 hm hP hD hS (dX3_back 4 rfl) rfl
abbrev rmX4_kind : Room := { frames := 0, cells := 0, slots := 0, locals := 0 }
set_option maxHeartbeats 4000000 in
set_option maxRecDepth 100000 in
theorem k_X4_kind (l : Launch) (D : va_G) (cI cZ cL : ClassId) (im : obIM) (sz : Nat) (h : Nat) (Q : Int32 → Prop) (hm : m_X4_kind h Q) : Met l yX4_kind (Cond.code yX4_kind cX4_kind 1 (some .int) :: wsL_law) rmX4_kind (obPre D (tyG cI cZ cL) im [] sz [.ref h]) (va_Qi (fun (r : Int32) (u : Unit) => Q r) (obB D (va_A [] sz) (fun _ : Unit => [])) (va_A [] sz)) 0 0 (va_A [] sz) := by
  refine ob_met_i (cc := cX4_kind) (maxL := 1) (by decide) (Nat.le_of_ble_eq_true rfl) (fun p e s m args below meth c A Z hx hb hml hown hts hnm hN hK hA hI hP hD hS hZ ls hl => ?_)
  have hl : lv_has ls 1 [(0, .ref h)] := hl
  unfold m_X4_kind at hm
  obtain ⟨H, hH⟩ : ∃ H, H = s.heap := ⟨_, rfl⟩
  obtain ⟨locs, hlo⟩ : ∃ q : List Loc, q = [] := ⟨_, rfl⟩
  suffices hgo : W p l e rmX4_kind s m args below meth c H locs 0 0 Z (F0 m 0 ls []) by rw [hH, hlo] at hgo; exact hgo
  have hP : va_P D vwCl [] H := by rw [hH]; exact hP
  have hD : va_D A [] := hD
  have hS : va_S A s.heap H locs := by rw [hH, hlo]; exact hS
  refine lv_iconst (v := (0 : Int32)) hx hb (dX4_kind 0 rfl) (by decide) ?_
  exact hZ (0 : Int32) () H locs ls 1 hm hP hD hS (dX4_kind 1 rfl) rfl
abbrev rmX4_isUnder : Room := { frames := 0, cells := 0, slots := 0, locals := 0 }
set_option maxHeartbeats 4000000 in
set_option maxRecDepth 100000 in
theorem k_X4_isUnder (l : Launch) (D : va_G) (cI cZ cL : ClassId) (im : obIM) (sz : Nat) (h : Nat) (a1 : Int32) (Q : Int32 → Prop) (hm : m_X4_isUnder h a1 Q) : Met l yX4_isUnder (Cond.code yX4_isUnder cX4_isUnder 2 (some .boolean) :: wsL_law) rmX4_isUnder (obPre D (tyG cI cZ cL) im [] sz [.ref h, .int a1]) (va_Qi (fun (r : Int32) (u : Unit) => Q r) (obB D (va_A [] sz) (fun _ : Unit => [])) (va_A [] sz)) 0 0 (va_A [] sz) := by
  refine ob_met_i (cc := cX4_isUnder) (maxL := 2) (by decide) (Nat.le_of_ble_eq_true rfl) (fun p e s m args below meth c A Z hx hb hml hown hts hnm hN hK hA hI hP hD hS hZ ls hl => ?_)
  have hl : lv_has ls 2 [(0, .ref h), (1, .int a1)] := hl
  unfold m_X4_isUnder at hm
  obtain ⟨H, hH⟩ : ∃ H, H = s.heap := ⟨_, rfl⟩
  obtain ⟨locs, hlo⟩ : ∃ q : List Loc, q = [] := ⟨_, rfl⟩
  suffices hgo : W p l e rmX4_isUnder s m args below meth c H locs 0 0 Z (F0 m 0 ls []) by rw [hH, hlo] at hgo; exact hgo
  have hP : va_P D vwCl [] H := by rw [hH]; exact hP
  have hD : va_D A [] := hD
  have hS : va_S A s.heap H locs := by rw [hH, hlo]; exact hS
  refine lv_iload_n hx hb (dX4_isUnder 0 rfl) rfl (lv_at hl 1 rfl) ?_
  refine lv_if_ne (tgt := 8) hx hb (dX4_isUnder 1 rfl) (by decide) (fun c1 => ?_) (fun c1 => ?_)
  · replace hm := hm.2 c1
    refine lv_iconst (v := (0 : Int32)) hx hb (dX4_isUnder 4 rfl) (by decide) ?_
    exact hZ (0 : Int32) () H locs ls 9 hm hP hD hS (dX4_isUnder 5 rfl) rfl
  replace hm := hm.1 c1
  refine lv_iconst (v := (1 : Int32)) hx hb (dX4_isUnder 2 rfl) (by decide) ?_
  refine lv_goto (tgt := 9) hx hb (dX4_isUnder 3 rfl) (by decide) ?_
  exact hZ (1 : Int32) () H locs ls 9 hm hP hD hS (dX4_isUnder 5 rfl) rfl
abbrev rmX4_back : Room := { frames := 0, cells := 0, slots := 0, locals := 0 }
set_option maxHeartbeats 4000000 in
set_option maxRecDepth 100000 in
theorem k_X4_back (l : Launch) (D : va_G) (cI cZ cL : ClassId) (im : obIM) (lk : Nat → Option (Nat × Int32 × Int32 × Int32)) (hlk : obLK im lk) (sz : Nat) (h : Nat) (a1 : Int32) (Q : Int32 → Prop) (hm : m_X4_back lk h a1 Q) : Met l yX4_back (Cond.code yX4_back cX4_back 2 (some .int) :: wsL_law) rmX4_back (obPre D (tyG cI cZ cL) im [] sz [.ref h, .int a1]) (va_Qi (fun (r : Int32) (u : Unit) => Q r) (obB D (va_A [] sz) (fun _ : Unit => [])) (va_A [] sz)) 0 0 (va_A [] sz) := by
  refine ob_met_i (cc := cX4_back) (maxL := 2) (by decide) (Nat.le_of_ble_eq_true rfl) (fun p e s m args below meth c A Z hx hb hml hown hts hnm hN hK hA hI hP hD hS hZ ls hl => ?_)
  have hl : lv_has ls 2 [(0, .ref h), (1, .int a1)] := hl
  unfold m_X4_back at hm
  obtain ⟨H, hH⟩ : ∃ H, H = s.heap := ⟨_, rfl⟩
  obtain ⟨locs, hlo⟩ : ∃ q : List Loc, q = [] := ⟨_, rfl⟩
  suffices hgo : W p l e rmX4_back s m args below meth c H locs 0 0 Z (F0 m 0 ls []) by rw [hH, hlo] at hgo; exact hgo
  have hP : va_P D vwCl [] H := by rw [hH]; exact hP
  have hD : va_D A [] := hD
  have hS : va_S A s.heap H locs := by rw [hH, hlo]; exact hS
  refine lv_aload_n hx hb (dX4_back 0 rfl) rfl (lv_at hl 0 rfl) ?_
  obtain ⟨d1, n1, v1, t1, e1, hm⟩ := hm
  obtain ⟨hc1, k1, hk1⟩ := hlk _ _ _ _ _ e1
  refine ob_getL hx hb hts hown hK (hI.now hS) hc1 hk1 (j := 2) (by decide) rfl (hts (.fieldLink RX4 18 "OverBacks$Leaper" "height" "I") (inR14 _ (List.mem_of_getElem? (i := 21) rfl))) (fun _ h9 => h9) (dX4_back 1 rfl) ?_
  exact hZ t1 () H locs ls 4 hm hP hD hS (dX4_back 2 rfl) rfl
abbrev rmX4_pace : Room := { frames := 0, cells := 0, slots := 0, locals := 0 }
set_option maxHeartbeats 4000000 in
set_option maxRecDepth 100000 in
theorem k_X4_pace (l : Launch) (D : va_G) (cI cZ cL : ClassId) (im : obIM) (sz : Nat) (h : Nat) (a1 : Int32) (Q : Int32 → Prop) (hm : m_X4_pace h a1 Q) : Met l yX4_pace (Cond.code yX4_pace cX4_pace 2 (some .int) :: wsL_law) rmX4_pace (obPre D (tyG cI cZ cL) im [] sz [.ref h, .int a1]) (va_Qi (fun (r : Int32) (u : Unit) => Q r) (obB D (va_A [] sz) (fun _ : Unit => [])) (va_A [] sz)) 0 0 (va_A [] sz) := by
  refine ob_met_i (cc := cX4_pace) (maxL := 2) (by decide) (Nat.le_of_ble_eq_true rfl) (fun p e s m args below meth c A Z hx hb hml hown hts hnm hN hK hA hI hP hD hS hZ ls hl => ?_)
  have hl : lv_has ls 2 [(0, .ref h), (1, .int a1)] := hl
  unfold m_X4_pace at hm
  obtain ⟨H, hH⟩ : ∃ H, H = s.heap := ⟨_, rfl⟩
  obtain ⟨locs, hlo⟩ : ∃ q : List Loc, q = [] := ⟨_, rfl⟩
  suffices hgo : W p l e rmX4_pace s m args below meth c H locs 0 0 Z (F0 m 0 ls []) by rw [hH, hlo] at hgo; exact hgo
  have hP : va_P D vwCl [] H := by rw [hH]; exact hP
  have hD : va_D A [] := hD
  have hS : va_S A s.heap H locs := by rw [hH, hlo]; exact hS
  refine lv_iconst (v := (5 : Int32)) hx hb (dX4_pace 0 rfl) (by decide) ?_
  exact hZ (5 : Int32) () H locs ls 1 hm hP hD hS (dX4_pace 1 rfl) rfl
abbrev rmX5_become : Room := { frames := 0, cells := 0, slots := 0, locals := 0 }
set_option maxHeartbeats 4000000 in
set_option maxRecDepth 100000 in
theorem k_X5_become (l : Launch) (D : va_G) (cI cZ cL : ClassId) (im : obIM) (lk : Nat → Option (Nat × Int32 × Int32 × Int32)) (hlk : obLK im lk) (sz : Nat) (h : Nat) (h1 : Nat) (q_people : Nat) (q_places : Nat) (q_breath : Nat) (q_rows : Nat) (q_seen : Nat) (q_ends : Nat) (f_field : Option Nat) (f_size : Int32) (f_turn : Int32) (f_yards : Int32) (f_time : Int32) (f_gap : Int32) (f_far : Int32) (f_flat : Int32) (r_people : Nat → Option Nat) (r_places : Nat → Int32) (r_breath : Nat → Int32) (r_rows : Nat → Int32) (q1_people : Nat) (q1_places : Nat) (q1_breath : Nat) (q1_rows : Nat) (q1_seen : Nat) (q1_ends : Nat) (f1_field : Option Nat) (f1_size : Int32) (f1_turn : Int32) (f1_yards : Int32) (f1_time : Int32) (f1_gap : Int32) (f1_far : Int32) (f1_flat : Int32) (r1_people : Nat → Option Nat) (r1_places : Nat → Int32) (r1_breath : Nat → Int32) (r1_rows : Nat → Int32) (Q : Option Nat → Int32 → Int32 → Int32 → Int32 → Int32 → Int32 → Int32 → (Nat → Option Nat) → (Nat → Int32) → (Nat → Int32) → (Nat → Int32) → Prop) (hm : m_X5_become lk f_field f_size f_turn f_yards f_time f_gap f_far f_flat r_people r_places r_breath r_rows f1_field f1_size f1_turn f1_yards f1_time f1_gap f1_far f1_flat r1_people r1_places r1_breath r1_rows Q) : Met l yX5_become (Cond.code yX5_become cX5_become 3 none :: wsL_law) rmX5_become (obPre D (tyG cI cZ cL) im [(h, .inr (5, [.ref q_people, .ref q_places, .ref q_breath, .ref q_rows, .ref q_seen, .ref q_ends, va_rf f_field, .int f_size, .int f_turn, .int f_yards, .int f_time, .int f_gap, .int f_far, .int f_flat])), (q_people, .inl (cL, 7, .inr (.inr (.inr (.inr r_people))))), (q_places, .inl (cI, 7, .inl r_places)), (q_breath, .inl (cI, 7, .inl r_breath)), (q_rows, .inl (cI, 21, .inl r_rows)), (h1, .inr (5, [.ref q1_people, .ref q1_places, .ref q1_breath, .ref q1_rows, .ref q1_seen, .ref q1_ends, va_rf f1_field, .int f1_size, .int f1_turn, .int f1_yards, .int f1_time, .int f1_gap, .int f1_far, .int f1_flat])), (q1_people, .inl (cL, 7, .inr (.inr (.inr (.inr r1_people))))), (q1_places, .inl (cI, 7, .inl r1_places)), (q1_breath, .inl (cI, 7, .inl r1_breath)), (q1_rows, .inl (cI, 21, .inl r1_rows))] sz [.ref h, .ref h1]) (va_Qv (fun (u : Option Nat × Int32 × Int32 × Int32 × Int32 × Int32 × Int32 × Int32 × (Nat → Option Nat) × (Nat → Int32) × (Nat → Int32) × (Nat → Int32)) => Q u.1 u.2.1 u.2.2.1 u.2.2.2.1 u.2.2.2.2.1 u.2.2.2.2.2.1 u.2.2.2.2.2.2.1 u.2.2.2.2.2.2.2.1 u.2.2.2.2.2.2.2.2.1 u.2.2.2.2.2.2.2.2.2.1 u.2.2.2.2.2.2.2.2.2.2.1 u.2.2.2.2.2.2.2.2.2.2.2) (obB D (va_A [(h, .inr (5, [.ref q_people, .ref q_places, .ref q_breath, .ref q_rows, .ref q_seen, .ref q_ends, va_rf f_field, .int f_size, .int f_turn, .int f_yards, .int f_time, .int f_gap, .int f_far, .int f_flat])), (q_people, .inl (cL, 7, .inr (.inr (.inr (.inr r_people))))), (q_places, .inl (cI, 7, .inl r_places)), (q_breath, .inl (cI, 7, .inl r_breath)), (q_rows, .inl (cI, 21, .inl r_rows)), (h1, .inr (5, [.ref q1_people, .ref q1_places, .ref q1_breath, .ref q1_rows, .ref q1_seen, .ref q1_ends, va_rf f1_field, .int f1_size, .int f1_turn, .int f1_yards, .int f1_time, .int f1_gap, .int f1_far, .int f1_flat])), (q1_people, .inl (cL, 7, .inr (.inr (.inr (.inr r1_people))))), (q1_places, .inl (cI, 7, .inl r1_places)), (q1_breath, .inl (cI, 7, .inl r1_breath)), (q1_rows, .inl (cI, 21, .inl r1_rows))] sz) (fun u : Option Nat × Int32 × Int32 × Int32 × Int32 × Int32 × Int32 × Int32 × (Nat → Option Nat) × (Nat → Int32) × (Nat → Int32) × (Nat → Int32) => [(h, .inr (5, [.ref q_people, .ref q_places, .ref q_breath, .ref q_rows, .ref q_seen, .ref q_ends, va_rf u.1, .int u.2.1, .int u.2.2.1, .int u.2.2.2.1, .int u.2.2.2.2.1, .int u.2.2.2.2.2.1, .int u.2.2.2.2.2.2.1, .int u.2.2.2.2.2.2.2.1])), (q_people, .inl (cL, 7, .inr (.inr (.inr (.inr u.2.2.2.2.2.2.2.2.1))))), (q_places, .inl (cI, 7, .inl u.2.2.2.2.2.2.2.2.2.1)), (q_breath, .inl (cI, 7, .inl u.2.2.2.2.2.2.2.2.2.2.1)), (q_rows, .inl (cI, 21, .inl u.2.2.2.2.2.2.2.2.2.2.2)), (h1, .inr (5, [.ref q1_people, .ref q1_places, .ref q1_breath, .ref q1_rows, .ref q1_seen, .ref q1_ends, va_rf f1_field, .int f1_size, .int f1_turn, .int f1_yards, .int f1_time, .int f1_gap, .int f1_far, .int f1_flat])), (q1_people, .inl (cL, 7, .inr (.inr (.inr (.inr r1_people))))), (q1_places, .inl (cI, 7, .inl r1_places)), (q1_breath, .inl (cI, 7, .inl r1_breath)), (q1_rows, .inl (cI, 21, .inl r1_rows))])) (va_A [(h, .inr (5, [.ref q_people, .ref q_places, .ref q_breath, .ref q_rows, .ref q_seen, .ref q_ends, va_rf f_field, .int f_size, .int f_turn, .int f_yards, .int f_time, .int f_gap, .int f_far, .int f_flat])), (q_people, .inl (cL, 7, .inr (.inr (.inr (.inr r_people))))), (q_places, .inl (cI, 7, .inl r_places)), (q_breath, .inl (cI, 7, .inl r_breath)), (q_rows, .inl (cI, 21, .inl r_rows)), (h1, .inr (5, [.ref q1_people, .ref q1_places, .ref q1_breath, .ref q1_rows, .ref q1_seen, .ref q1_ends, va_rf f1_field, .int f1_size, .int f1_turn, .int f1_yards, .int f1_time, .int f1_gap, .int f1_far, .int f1_flat])), (q1_people, .inl (cL, 7, .inr (.inr (.inr (.inr r1_people))))), (q1_places, .inl (cI, 7, .inl r1_places)), (q1_breath, .inl (cI, 7, .inl r1_breath)), (q1_rows, .inl (cI, 21, .inl r1_rows))] sz)) 0 0 (va_A [(h, .inr (5, [.ref q_people, .ref q_places, .ref q_breath, .ref q_rows, .ref q_seen, .ref q_ends, va_rf f_field, .int f_size, .int f_turn, .int f_yards, .int f_time, .int f_gap, .int f_far, .int f_flat])), (q_people, .inl (cL, 7, .inr (.inr (.inr (.inr r_people))))), (q_places, .inl (cI, 7, .inl r_places)), (q_breath, .inl (cI, 7, .inl r_breath)), (q_rows, .inl (cI, 21, .inl r_rows)), (h1, .inr (5, [.ref q1_people, .ref q1_places, .ref q1_breath, .ref q1_rows, .ref q1_seen, .ref q1_ends, va_rf f1_field, .int f1_size, .int f1_turn, .int f1_yards, .int f1_time, .int f1_gap, .int f1_far, .int f1_flat])), (q1_people, .inl (cL, 7, .inr (.inr (.inr (.inr r1_people))))), (q1_places, .inl (cI, 7, .inl r1_places)), (q1_breath, .inl (cI, 7, .inl r1_breath)), (q1_rows, .inl (cI, 21, .inl r1_rows))] sz) := by
  refine ob_met_v (cc := cX5_become) (maxL := 3) (by decide) (Nat.le_of_ble_eq_true rfl) (fun p e s m args below meth c A Z hx hb hml hown hts hnm hN hK hA hI hP hD hS hZ ls hl => ?_)
  have hl : lv_has ls 3 [(0, .ref h), (1, .ref h1)] := hl
  unfold m_X5_become at hm
  have lab52 : ∀ (f_field_52 : Option Nat) (f_size_52 : Int32) (f_turn_52 : Int32) (f_yards_52 : Int32) (f_time_52 : Int32) (f_gap_52 : Int32) (f_far_52 : Int32) (f_flat_52 : Int32) (r_people_52 : Nat → Option Nat) (r_places_52 : Nat → Int32) (r_breath_52 : Nat → Int32) (n52 : Nat) (r_rows_52 : Nat → Int32) (v2_52 : Int32) , ∀ (H : Heap) (locs : List Loc) (ls : Array Slot), va_P D vwCl [(h, .inr (5, [.ref q_people, .ref q_places, .ref q_breath, .ref q_rows, .ref q_seen, .ref q_ends, va_rf f_field_52, .int f_size_52, .int f_turn_52, .int f_yards_52, .int f_time_52, .int f_gap_52, .int f_far_52, .int f_flat_52])), (q_people, .inl (cL, 7, .inr (.inr (.inr (.inr r_people_52))))), (q_places, .inl (cI, 7, .inl r_places_52)), (q_breath, .inl (cI, 7, .inl r_breath_52)), (q_rows, .inl (cI, 21, .inl r_rows_52)), (h1, .inr (5, [.ref q1_people, .ref q1_places, .ref q1_breath, .ref q1_rows, .ref q1_seen, .ref q1_ends, va_rf f1_field, .int f1_size, .int f1_turn, .int f1_yards, .int f1_time, .int f1_gap, .int f1_far, .int f1_flat])), (q1_people, .inl (cL, 7, .inr (.inr (.inr (.inr r1_people))))), (q1_places, .inl (cI, 7, .inl r1_places)), (q1_breath, .inl (cI, 7, .inl r1_breath)), (q1_rows, .inl (cI, 21, .inl r1_rows))] H → va_D A [(h, .inr (5, [.ref q_people, .ref q_places, .ref q_breath, .ref q_rows, .ref q_seen, .ref q_ends, va_rf f_field_52, .int f_size_52, .int f_turn_52, .int f_yards_52, .int f_time_52, .int f_gap_52, .int f_far_52, .int f_flat_52])), (q_people, .inl (cL, 7, .inr (.inr (.inr (.inr r_people_52))))), (q_places, .inl (cI, 7, .inl r_places_52)), (q_breath, .inl (cI, 7, .inl r_breath_52)), (q_rows, .inl (cI, 21, .inl r_rows_52)), (h1, .inr (5, [.ref q1_people, .ref q1_places, .ref q1_breath, .ref q1_rows, .ref q1_seen, .ref q1_ends, va_rf f1_field, .int f1_size, .int f1_turn, .int f1_yards, .int f1_time, .int f1_gap, .int f1_far, .int f1_flat])), (q1_people, .inl (cL, 7, .inr (.inr (.inr (.inr r1_people))))), (q1_places, .inl (cI, 7, .inl r1_places)), (q1_breath, .inl (cI, 7, .inl r1_breath)), (q1_rows, .inl (cI, 21, .inl r1_rows))] → va_S A s.heap H locs → lv_has ls 3 [(0, .ref h), (1, .ref h1), (2, .int v2_52)] → m_X5_become_L52 lk f1_field f1_size f1_turn f1_yards f1_time f1_gap f1_far f1_flat r1_rows f_field_52 f_size_52 f_turn_52 f_yards_52 f_time_52 f_gap_52 f_far_52 f_flat_52 r_people_52 r_places_52 r_breath_52 Q n52 r_rows_52 v2_52 → W p l e rmX5_become s m args below meth c H locs 0 0 Z (F0 m 52 ls []) := by
    clear hm
    intro f_field_52 f_size_52 f_turn_52 f_yards_52 f_time_52 f_gap_52 f_far_52 f_flat_52 r_people_52 r_places_52 r_breath_52
    intro n52
    induction n52 with
    | zero =>
      intro r_rows_52 v2_52 H locs ls hP hD hS hl hm
      exact hm.elim
    | succ n52 ih52 =>
      intro r_rows_52 v2_52 H locs ls hP hD hS hl hm
      unfold m_X5_become_L52 at hm
      obtain ⟨K52, hK52⟩ : ∃ K : (Nat → Int32) → Int32 → Prop, K = m_X5_become_L52 lk f1_field f1_size f1_turn f1_yards f1_time f1_gap f1_far f1_flat r1_rows f_field_52 f_size_52 f_turn_52 f_yards_52 f_time_52 f_gap_52 f_far_52 f_flat_52 r_people_52 r_places_52 r_breath_52 Q n52 := ⟨_, rfl⟩
      rw [← hK52] at hm ih52
      refine lv_iload_n hx hb (dX5_become 33 rfl) rfl (lv_at hl 2 rfl) ?_
      refine lv_bipush (v := (21 : Int32)) hx hb (dX5_become 34 rfl) (by decide) ?_
      refine lv_icmp_ge (tgt := 76) hx hb (dX5_become 35 rfl) (by decide) (fun c4 => ?_) (fun c4 => ?_)
      · replace hm := hm.1 c4
        refine lv_aload_n hx hb (dX5_become 46 rfl) rfl (lv_at hl 0 rfl) ?_
        refine lv_aload_n hx hb (dX5_become 47 rfl) rfl (lv_at hl 1 rfl) ?_
        refine va_get (D := D) (ci := 5) (v := va_rf f1_field) (C := RX5) (T := TX5) (N := 14) hx hb hts inlX5 hown hK hP 5 rfl rfl 6 (by decide) (hts (.fieldLink RX5 45 "OverBacks$Line" "field" "LOverBacks$Field;") (inR10 _ (List.mem_of_getElem? (i := 14) rfl))) (fun _ h9 => h9) rfl (dX5_become 48 rfl) ?_
        refine va_put (D := D) (ci := 5) (v := va_rf f1_field) (ty := .object "OverBacks$Field") (C := RX5) (T := TX5) (N := 14) hx hb hts inlX5 tyX5 tyX5_ok nmX5 hown hK hP hD hS 0 rfl rfl 6 (by decide) (hts (.fieldLink RX5 45 "OverBacks$Line" "field" "LOverBacks$Field;") (inR10 _ (List.mem_of_getElem? (i := 14) rfl))) (fun _ h9 => h9) rfl (by decide +kernel) (ob_nq _) (ob_fq _) (Nat.le_of_ble_eq_true rfl) (dX5_become 49 rfl) (fun H locs hP hD hS => ?_)
        have hP : va_P D vwCl [(h, .inr (5, [.ref q_people, .ref q_places, .ref q_breath, .ref q_rows, .ref q_seen, .ref q_ends, va_rf f1_field, .int f_size_52, .int f_turn_52, .int f_yards_52, .int f_time_52, .int f_gap_52, .int f_far_52, .int f_flat_52])), (q_people, .inl (cL, 7, .inr (.inr (.inr (.inr r_people_52))))), (q_places, .inl (cI, 7, .inl r_places_52)), (q_breath, .inl (cI, 7, .inl r_breath_52)), (q_rows, .inl (cI, 21, .inl r_rows_52)), (h1, .inr (5, [.ref q1_people, .ref q1_places, .ref q1_breath, .ref q1_rows, .ref q1_seen, .ref q1_ends, va_rf f1_field, .int f1_size, .int f1_turn, .int f1_yards, .int f1_time, .int f1_gap, .int f1_far, .int f1_flat])), (q1_people, .inl (cL, 7, .inr (.inr (.inr (.inr r1_people))))), (q1_places, .inl (cI, 7, .inl r1_places)), (q1_breath, .inl (cI, 7, .inl r1_breath)), (q1_rows, .inl (cI, 21, .inl r1_rows))] H := hP
        have hD : va_D A [(h, .inr (5, [.ref q_people, .ref q_places, .ref q_breath, .ref q_rows, .ref q_seen, .ref q_ends, va_rf f1_field, .int f_size_52, .int f_turn_52, .int f_yards_52, .int f_time_52, .int f_gap_52, .int f_far_52, .int f_flat_52])), (q_people, .inl (cL, 7, .inr (.inr (.inr (.inr r_people_52))))), (q_places, .inl (cI, 7, .inl r_places_52)), (q_breath, .inl (cI, 7, .inl r_breath_52)), (q_rows, .inl (cI, 21, .inl r_rows_52)), (h1, .inr (5, [.ref q1_people, .ref q1_places, .ref q1_breath, .ref q1_rows, .ref q1_seen, .ref q1_ends, va_rf f1_field, .int f1_size, .int f1_turn, .int f1_yards, .int f1_time, .int f1_gap, .int f1_far, .int f1_flat])), (q1_people, .inl (cL, 7, .inr (.inr (.inr (.inr r1_people))))), (q1_places, .inl (cI, 7, .inl r1_places)), (q1_breath, .inl (cI, 7, .inl r1_breath)), (q1_rows, .inl (cI, 21, .inl r1_rows))] := hD
        refine lv_aload_n hx hb (dX5_become 50 rfl) rfl (lv_at hl 0 rfl) ?_
        refine lv_aload_n hx hb (dX5_become 51 rfl) rfl (lv_at hl 1 rfl) ?_
        refine va_get (D := D) (ci := 5) (v := .int f1_size) (C := RX5) (T := TX5) (N := 14) hx hb hts inlX5 hown hK hP 5 rfl rfl 7 (by decide) (hts (.fieldLink RX5 49 "OverBacks$Line" "size" "I") (inR15 _ (List.mem_of_getElem? (i := 23) rfl))) (fun _ h9 => h9) rfl (dX5_become 52 rfl) ?_
        refine va_put (D := D) (ci := 5) (v := .int f1_size) (ty := .int) (C := RX5) (T := TX5) (N := 14) hx hb hts inlX5 tyX5 tyX5_ok nmX5 hown hK hP hD hS 0 rfl rfl 7 (by decide) (hts (.fieldLink RX5 49 "OverBacks$Line" "size" "I") (inR15 _ (List.mem_of_getElem? (i := 23) rfl))) (fun _ h9 => h9) rfl (by decide +kernel) rfl rfl (Nat.le_of_ble_eq_true rfl) (dX5_become 53 rfl) (fun H locs hP hD hS => ?_)
        have hP : va_P D vwCl [(h, .inr (5, [.ref q_people, .ref q_places, .ref q_breath, .ref q_rows, .ref q_seen, .ref q_ends, va_rf f1_field, .int f1_size, .int f_turn_52, .int f_yards_52, .int f_time_52, .int f_gap_52, .int f_far_52, .int f_flat_52])), (q_people, .inl (cL, 7, .inr (.inr (.inr (.inr r_people_52))))), (q_places, .inl (cI, 7, .inl r_places_52)), (q_breath, .inl (cI, 7, .inl r_breath_52)), (q_rows, .inl (cI, 21, .inl r_rows_52)), (h1, .inr (5, [.ref q1_people, .ref q1_places, .ref q1_breath, .ref q1_rows, .ref q1_seen, .ref q1_ends, va_rf f1_field, .int f1_size, .int f1_turn, .int f1_yards, .int f1_time, .int f1_gap, .int f1_far, .int f1_flat])), (q1_people, .inl (cL, 7, .inr (.inr (.inr (.inr r1_people))))), (q1_places, .inl (cI, 7, .inl r1_places)), (q1_breath, .inl (cI, 7, .inl r1_breath)), (q1_rows, .inl (cI, 21, .inl r1_rows))] H := hP
        have hD : va_D A [(h, .inr (5, [.ref q_people, .ref q_places, .ref q_breath, .ref q_rows, .ref q_seen, .ref q_ends, va_rf f1_field, .int f1_size, .int f_turn_52, .int f_yards_52, .int f_time_52, .int f_gap_52, .int f_far_52, .int f_flat_52])), (q_people, .inl (cL, 7, .inr (.inr (.inr (.inr r_people_52))))), (q_places, .inl (cI, 7, .inl r_places_52)), (q_breath, .inl (cI, 7, .inl r_breath_52)), (q_rows, .inl (cI, 21, .inl r_rows_52)), (h1, .inr (5, [.ref q1_people, .ref q1_places, .ref q1_breath, .ref q1_rows, .ref q1_seen, .ref q1_ends, va_rf f1_field, .int f1_size, .int f1_turn, .int f1_yards, .int f1_time, .int f1_gap, .int f1_far, .int f1_flat])), (q1_people, .inl (cL, 7, .inr (.inr (.inr (.inr r1_people))))), (q1_places, .inl (cI, 7, .inl r1_places)), (q1_breath, .inl (cI, 7, .inl r1_breath)), (q1_rows, .inl (cI, 21, .inl r1_rows))] := hD
        refine lv_aload_n hx hb (dX5_become 54 rfl) rfl (lv_at hl 0 rfl) ?_
        refine lv_aload_n hx hb (dX5_become 55 rfl) rfl (lv_at hl 1 rfl) ?_
        refine va_get (D := D) (ci := 5) (v := .int f1_turn) (C := RX5) (T := TX5) (N := 14) hx hb hts inlX5 hown hK hP 5 rfl rfl 8 (by decide) (hts (.fieldLink RX5 52 "OverBacks$Line" "turn" "I") (inR17 _ (List.mem_of_getElem? (i := 19) rfl))) (fun _ h9 => h9) rfl (dX5_become 56 rfl) ?_
        refine va_put (D := D) (ci := 5) (v := .int f1_turn) (ty := .int) (C := RX5) (T := TX5) (N := 14) hx hb hts inlX5 tyX5 tyX5_ok nmX5 hown hK hP hD hS 0 rfl rfl 8 (by decide) (hts (.fieldLink RX5 52 "OverBacks$Line" "turn" "I") (inR17 _ (List.mem_of_getElem? (i := 19) rfl))) (fun _ h9 => h9) rfl (by decide +kernel) rfl rfl (Nat.le_of_ble_eq_true rfl) (dX5_become 57 rfl) (fun H locs hP hD hS => ?_)
        have hP : va_P D vwCl [(h, .inr (5, [.ref q_people, .ref q_places, .ref q_breath, .ref q_rows, .ref q_seen, .ref q_ends, va_rf f1_field, .int f1_size, .int f1_turn, .int f_yards_52, .int f_time_52, .int f_gap_52, .int f_far_52, .int f_flat_52])), (q_people, .inl (cL, 7, .inr (.inr (.inr (.inr r_people_52))))), (q_places, .inl (cI, 7, .inl r_places_52)), (q_breath, .inl (cI, 7, .inl r_breath_52)), (q_rows, .inl (cI, 21, .inl r_rows_52)), (h1, .inr (5, [.ref q1_people, .ref q1_places, .ref q1_breath, .ref q1_rows, .ref q1_seen, .ref q1_ends, va_rf f1_field, .int f1_size, .int f1_turn, .int f1_yards, .int f1_time, .int f1_gap, .int f1_far, .int f1_flat])), (q1_people, .inl (cL, 7, .inr (.inr (.inr (.inr r1_people))))), (q1_places, .inl (cI, 7, .inl r1_places)), (q1_breath, .inl (cI, 7, .inl r1_breath)), (q1_rows, .inl (cI, 21, .inl r1_rows))] H := hP
        have hD : va_D A [(h, .inr (5, [.ref q_people, .ref q_places, .ref q_breath, .ref q_rows, .ref q_seen, .ref q_ends, va_rf f1_field, .int f1_size, .int f1_turn, .int f_yards_52, .int f_time_52, .int f_gap_52, .int f_far_52, .int f_flat_52])), (q_people, .inl (cL, 7, .inr (.inr (.inr (.inr r_people_52))))), (q_places, .inl (cI, 7, .inl r_places_52)), (q_breath, .inl (cI, 7, .inl r_breath_52)), (q_rows, .inl (cI, 21, .inl r_rows_52)), (h1, .inr (5, [.ref q1_people, .ref q1_places, .ref q1_breath, .ref q1_rows, .ref q1_seen, .ref q1_ends, va_rf f1_field, .int f1_size, .int f1_turn, .int f1_yards, .int f1_time, .int f1_gap, .int f1_far, .int f1_flat])), (q1_people, .inl (cL, 7, .inr (.inr (.inr (.inr r1_people))))), (q1_places, .inl (cI, 7, .inl r1_places)), (q1_breath, .inl (cI, 7, .inl r1_breath)), (q1_rows, .inl (cI, 21, .inl r1_rows))] := hD
        refine lv_aload_n hx hb (dX5_become 58 rfl) rfl (lv_at hl 0 rfl) ?_
        refine lv_aload_n hx hb (dX5_become 59 rfl) rfl (lv_at hl 1 rfl) ?_
        refine va_get (D := D) (ci := 5) (v := .int f1_yards) (C := RX5) (T := TX5) (N := 14) hx hb hts inlX5 hown hK hP 5 rfl rfl 9 (by decide) (hts (.fieldLink RX5 55 "OverBacks$Line" "yards" "I") (inR25 _ (List.mem_of_getElem? (i := 6) rfl))) (fun _ h9 => h9) rfl (dX5_become 60 rfl) ?_
        refine va_put (D := D) (ci := 5) (v := .int f1_yards) (ty := .int) (C := RX5) (T := TX5) (N := 14) hx hb hts inlX5 tyX5 tyX5_ok nmX5 hown hK hP hD hS 0 rfl rfl 9 (by decide) (hts (.fieldLink RX5 55 "OverBacks$Line" "yards" "I") (inR25 _ (List.mem_of_getElem? (i := 6) rfl))) (fun _ h9 => h9) rfl (by decide +kernel) rfl rfl (Nat.le_of_ble_eq_true rfl) (dX5_become 61 rfl) (fun H locs hP hD hS => ?_)
        have hP : va_P D vwCl [(h, .inr (5, [.ref q_people, .ref q_places, .ref q_breath, .ref q_rows, .ref q_seen, .ref q_ends, va_rf f1_field, .int f1_size, .int f1_turn, .int f1_yards, .int f_time_52, .int f_gap_52, .int f_far_52, .int f_flat_52])), (q_people, .inl (cL, 7, .inr (.inr (.inr (.inr r_people_52))))), (q_places, .inl (cI, 7, .inl r_places_52)), (q_breath, .inl (cI, 7, .inl r_breath_52)), (q_rows, .inl (cI, 21, .inl r_rows_52)), (h1, .inr (5, [.ref q1_people, .ref q1_places, .ref q1_breath, .ref q1_rows, .ref q1_seen, .ref q1_ends, va_rf f1_field, .int f1_size, .int f1_turn, .int f1_yards, .int f1_time, .int f1_gap, .int f1_far, .int f1_flat])), (q1_people, .inl (cL, 7, .inr (.inr (.inr (.inr r1_people))))), (q1_places, .inl (cI, 7, .inl r1_places)), (q1_breath, .inl (cI, 7, .inl r1_breath)), (q1_rows, .inl (cI, 21, .inl r1_rows))] H := hP
        have hD : va_D A [(h, .inr (5, [.ref q_people, .ref q_places, .ref q_breath, .ref q_rows, .ref q_seen, .ref q_ends, va_rf f1_field, .int f1_size, .int f1_turn, .int f1_yards, .int f_time_52, .int f_gap_52, .int f_far_52, .int f_flat_52])), (q_people, .inl (cL, 7, .inr (.inr (.inr (.inr r_people_52))))), (q_places, .inl (cI, 7, .inl r_places_52)), (q_breath, .inl (cI, 7, .inl r_breath_52)), (q_rows, .inl (cI, 21, .inl r_rows_52)), (h1, .inr (5, [.ref q1_people, .ref q1_places, .ref q1_breath, .ref q1_rows, .ref q1_seen, .ref q1_ends, va_rf f1_field, .int f1_size, .int f1_turn, .int f1_yards, .int f1_time, .int f1_gap, .int f1_far, .int f1_flat])), (q1_people, .inl (cL, 7, .inr (.inr (.inr (.inr r1_people))))), (q1_places, .inl (cI, 7, .inl r1_places)), (q1_breath, .inl (cI, 7, .inl r1_breath)), (q1_rows, .inl (cI, 21, .inl r1_rows))] := hD
        refine lv_aload_n hx hb (dX5_become 62 rfl) rfl (lv_at hl 0 rfl) ?_
        refine lv_aload_n hx hb (dX5_become 63 rfl) rfl (lv_at hl 1 rfl) ?_
        refine va_get (D := D) (ci := 5) (v := .int f1_time) (C := RX5) (T := TX5) (N := 14) hx hb hts inlX5 hown hK hP 5 rfl rfl 10 (by decide) (hts (.fieldLink RX5 58 "OverBacks$Line" "time" "I") (inR25 _ (List.mem_of_getElem? (i := 5) rfl))) (fun _ h9 => h9) rfl (dX5_become 64 rfl) ?_
        refine va_put (D := D) (ci := 5) (v := .int f1_time) (ty := .int) (C := RX5) (T := TX5) (N := 14) hx hb hts inlX5 tyX5 tyX5_ok nmX5 hown hK hP hD hS 0 rfl rfl 10 (by decide) (hts (.fieldLink RX5 58 "OverBacks$Line" "time" "I") (inR25 _ (List.mem_of_getElem? (i := 5) rfl))) (fun _ h9 => h9) rfl (by decide +kernel) rfl rfl (Nat.le_of_ble_eq_true rfl) (dX5_become 65 rfl) (fun H locs hP hD hS => ?_)
        have hP : va_P D vwCl [(h, .inr (5, [.ref q_people, .ref q_places, .ref q_breath, .ref q_rows, .ref q_seen, .ref q_ends, va_rf f1_field, .int f1_size, .int f1_turn, .int f1_yards, .int f1_time, .int f_gap_52, .int f_far_52, .int f_flat_52])), (q_people, .inl (cL, 7, .inr (.inr (.inr (.inr r_people_52))))), (q_places, .inl (cI, 7, .inl r_places_52)), (q_breath, .inl (cI, 7, .inl r_breath_52)), (q_rows, .inl (cI, 21, .inl r_rows_52)), (h1, .inr (5, [.ref q1_people, .ref q1_places, .ref q1_breath, .ref q1_rows, .ref q1_seen, .ref q1_ends, va_rf f1_field, .int f1_size, .int f1_turn, .int f1_yards, .int f1_time, .int f1_gap, .int f1_far, .int f1_flat])), (q1_people, .inl (cL, 7, .inr (.inr (.inr (.inr r1_people))))), (q1_places, .inl (cI, 7, .inl r1_places)), (q1_breath, .inl (cI, 7, .inl r1_breath)), (q1_rows, .inl (cI, 21, .inl r1_rows))] H := hP
        have hD : va_D A [(h, .inr (5, [.ref q_people, .ref q_places, .ref q_breath, .ref q_rows, .ref q_seen, .ref q_ends, va_rf f1_field, .int f1_size, .int f1_turn, .int f1_yards, .int f1_time, .int f_gap_52, .int f_far_52, .int f_flat_52])), (q_people, .inl (cL, 7, .inr (.inr (.inr (.inr r_people_52))))), (q_places, .inl (cI, 7, .inl r_places_52)), (q_breath, .inl (cI, 7, .inl r_breath_52)), (q_rows, .inl (cI, 21, .inl r_rows_52)), (h1, .inr (5, [.ref q1_people, .ref q1_places, .ref q1_breath, .ref q1_rows, .ref q1_seen, .ref q1_ends, va_rf f1_field, .int f1_size, .int f1_turn, .int f1_yards, .int f1_time, .int f1_gap, .int f1_far, .int f1_flat])), (q1_people, .inl (cL, 7, .inr (.inr (.inr (.inr r1_people))))), (q1_places, .inl (cI, 7, .inl r1_places)), (q1_breath, .inl (cI, 7, .inl r1_breath)), (q1_rows, .inl (cI, 21, .inl r1_rows))] := hD
        refine lv_aload_n hx hb (dX5_become 66 rfl) rfl (lv_at hl 0 rfl) ?_
        refine lv_aload_n hx hb (dX5_become 67 rfl) rfl (lv_at hl 1 rfl) ?_
        refine va_get (D := D) (ci := 5) (v := .int f1_gap) (C := RX5) (T := TX5) (N := 14) hx hb hts inlX5 hown hK hP 5 rfl rfl 11 (by decide) (hts (.fieldLink RX5 35 "OverBacks$Line" "gap" "I") (inR3 _ (List.mem_of_getElem? (i := 2) rfl))) (fun _ h9 => h9) rfl (dX5_become 68 rfl) ?_
        refine va_put (D := D) (ci := 5) (v := .int f1_gap) (ty := .int) (C := RX5) (T := TX5) (N := 14) hx hb hts inlX5 tyX5 tyX5_ok nmX5 hown hK hP hD hS 0 rfl rfl 11 (by decide) (hts (.fieldLink RX5 35 "OverBacks$Line" "gap" "I") (inR3 _ (List.mem_of_getElem? (i := 2) rfl))) (fun _ h9 => h9) rfl (by decide +kernel) rfl rfl (Nat.le_of_ble_eq_true rfl) (dX5_become 69 rfl) (fun H locs hP hD hS => ?_)
        have hP : va_P D vwCl [(h, .inr (5, [.ref q_people, .ref q_places, .ref q_breath, .ref q_rows, .ref q_seen, .ref q_ends, va_rf f1_field, .int f1_size, .int f1_turn, .int f1_yards, .int f1_time, .int f1_gap, .int f_far_52, .int f_flat_52])), (q_people, .inl (cL, 7, .inr (.inr (.inr (.inr r_people_52))))), (q_places, .inl (cI, 7, .inl r_places_52)), (q_breath, .inl (cI, 7, .inl r_breath_52)), (q_rows, .inl (cI, 21, .inl r_rows_52)), (h1, .inr (5, [.ref q1_people, .ref q1_places, .ref q1_breath, .ref q1_rows, .ref q1_seen, .ref q1_ends, va_rf f1_field, .int f1_size, .int f1_turn, .int f1_yards, .int f1_time, .int f1_gap, .int f1_far, .int f1_flat])), (q1_people, .inl (cL, 7, .inr (.inr (.inr (.inr r1_people))))), (q1_places, .inl (cI, 7, .inl r1_places)), (q1_breath, .inl (cI, 7, .inl r1_breath)), (q1_rows, .inl (cI, 21, .inl r1_rows))] H := hP
        have hD : va_D A [(h, .inr (5, [.ref q_people, .ref q_places, .ref q_breath, .ref q_rows, .ref q_seen, .ref q_ends, va_rf f1_field, .int f1_size, .int f1_turn, .int f1_yards, .int f1_time, .int f1_gap, .int f_far_52, .int f_flat_52])), (q_people, .inl (cL, 7, .inr (.inr (.inr (.inr r_people_52))))), (q_places, .inl (cI, 7, .inl r_places_52)), (q_breath, .inl (cI, 7, .inl r_breath_52)), (q_rows, .inl (cI, 21, .inl r_rows_52)), (h1, .inr (5, [.ref q1_people, .ref q1_places, .ref q1_breath, .ref q1_rows, .ref q1_seen, .ref q1_ends, va_rf f1_field, .int f1_size, .int f1_turn, .int f1_yards, .int f1_time, .int f1_gap, .int f1_far, .int f1_flat])), (q1_people, .inl (cL, 7, .inr (.inr (.inr (.inr r1_people))))), (q1_places, .inl (cI, 7, .inl r1_places)), (q1_breath, .inl (cI, 7, .inl r1_breath)), (q1_rows, .inl (cI, 21, .inl r1_rows))] := hD
        refine lv_aload_n hx hb (dX5_become 70 rfl) rfl (lv_at hl 0 rfl) ?_
        refine lv_aload_n hx hb (dX5_become 71 rfl) rfl (lv_at hl 1 rfl) ?_
        refine va_get (D := D) (ci := 5) (v := .int f1_far) (C := RX5) (T := TX5) (N := 14) hx hb hts inlX5 hown hK hP 5 rfl rfl 12 (by decide) (hts (.fieldLink RX5 39 "OverBacks$Line" "far" "I") (inR3 _ (List.mem_of_getElem? (i := 3) rfl))) (fun _ h9 => h9) rfl (dX5_become 72 rfl) ?_
        refine va_put (D := D) (ci := 5) (v := .int f1_far) (ty := .int) (C := RX5) (T := TX5) (N := 14) hx hb hts inlX5 tyX5 tyX5_ok nmX5 hown hK hP hD hS 0 rfl rfl 12 (by decide) (hts (.fieldLink RX5 39 "OverBacks$Line" "far" "I") (inR3 _ (List.mem_of_getElem? (i := 3) rfl))) (fun _ h9 => h9) rfl (by decide +kernel) rfl rfl (Nat.le_of_ble_eq_true rfl) (dX5_become 73 rfl) (fun H locs hP hD hS => ?_)
        have hP : va_P D vwCl [(h, .inr (5, [.ref q_people, .ref q_places, .ref q_breath, .ref q_rows, .ref q_seen, .ref q_ends, va_rf f1_field, .int f1_size, .int f1_turn, .int f1_yards, .int f1_time, .int f1_gap, .int f1_far, .int f_flat_52])), (q_people, .inl (cL, 7, .inr (.inr (.inr (.inr r_people_52))))), (q_places, .inl (cI, 7, .inl r_places_52)), (q_breath, .inl (cI, 7, .inl r_breath_52)), (q_rows, .inl (cI, 21, .inl r_rows_52)), (h1, .inr (5, [.ref q1_people, .ref q1_places, .ref q1_breath, .ref q1_rows, .ref q1_seen, .ref q1_ends, va_rf f1_field, .int f1_size, .int f1_turn, .int f1_yards, .int f1_time, .int f1_gap, .int f1_far, .int f1_flat])), (q1_people, .inl (cL, 7, .inr (.inr (.inr (.inr r1_people))))), (q1_places, .inl (cI, 7, .inl r1_places)), (q1_breath, .inl (cI, 7, .inl r1_breath)), (q1_rows, .inl (cI, 21, .inl r1_rows))] H := hP
        have hD : va_D A [(h, .inr (5, [.ref q_people, .ref q_places, .ref q_breath, .ref q_rows, .ref q_seen, .ref q_ends, va_rf f1_field, .int f1_size, .int f1_turn, .int f1_yards, .int f1_time, .int f1_gap, .int f1_far, .int f_flat_52])), (q_people, .inl (cL, 7, .inr (.inr (.inr (.inr r_people_52))))), (q_places, .inl (cI, 7, .inl r_places_52)), (q_breath, .inl (cI, 7, .inl r_breath_52)), (q_rows, .inl (cI, 21, .inl r_rows_52)), (h1, .inr (5, [.ref q1_people, .ref q1_places, .ref q1_breath, .ref q1_rows, .ref q1_seen, .ref q1_ends, va_rf f1_field, .int f1_size, .int f1_turn, .int f1_yards, .int f1_time, .int f1_gap, .int f1_far, .int f1_flat])), (q1_people, .inl (cL, 7, .inr (.inr (.inr (.inr r1_people))))), (q1_places, .inl (cI, 7, .inl r1_places)), (q1_breath, .inl (cI, 7, .inl r1_breath)), (q1_rows, .inl (cI, 21, .inl r1_rows))] := hD
        refine lv_aload_n hx hb (dX5_become 74 rfl) rfl (lv_at hl 0 rfl) ?_
        refine lv_aload_n hx hb (dX5_become 75 rfl) rfl (lv_at hl 1 rfl) ?_
        refine va_get (D := D) (ci := 5) (v := .int f1_flat) (C := RX5) (T := TX5) (N := 14) hx hb hts inlX5 hown hK hP 5 rfl rfl 13 (by decide) (hts (.fieldLink RX5 42 "OverBacks$Line" "flat" "I") (inR3 _ (List.mem_of_getElem? (i := 4) rfl))) (fun _ h9 => h9) rfl (dX5_become 76 rfl) ?_
        refine va_put (D := D) (ci := 5) (v := .int f1_flat) (ty := .int) (C := RX5) (T := TX5) (N := 14) hx hb hts inlX5 tyX5 tyX5_ok nmX5 hown hK hP hD hS 0 rfl rfl 13 (by decide) (hts (.fieldLink RX5 42 "OverBacks$Line" "flat" "I") (inR3 _ (List.mem_of_getElem? (i := 4) rfl))) (fun _ h9 => h9) rfl (by decide +kernel) rfl rfl (Nat.le_of_ble_eq_true rfl) (dX5_become 77 rfl) (fun H locs hP hD hS => ?_)
        have hP : va_P D vwCl [(h, .inr (5, [.ref q_people, .ref q_places, .ref q_breath, .ref q_rows, .ref q_seen, .ref q_ends, va_rf f1_field, .int f1_size, .int f1_turn, .int f1_yards, .int f1_time, .int f1_gap, .int f1_far, .int f1_flat])), (q_people, .inl (cL, 7, .inr (.inr (.inr (.inr r_people_52))))), (q_places, .inl (cI, 7, .inl r_places_52)), (q_breath, .inl (cI, 7, .inl r_breath_52)), (q_rows, .inl (cI, 21, .inl r_rows_52)), (h1, .inr (5, [.ref q1_people, .ref q1_places, .ref q1_breath, .ref q1_rows, .ref q1_seen, .ref q1_ends, va_rf f1_field, .int f1_size, .int f1_turn, .int f1_yards, .int f1_time, .int f1_gap, .int f1_far, .int f1_flat])), (q1_people, .inl (cL, 7, .inr (.inr (.inr (.inr r1_people))))), (q1_places, .inl (cI, 7, .inl r1_places)), (q1_breath, .inl (cI, 7, .inl r1_breath)), (q1_rows, .inl (cI, 21, .inl r1_rows))] H := hP
        have hD : va_D A [(h, .inr (5, [.ref q_people, .ref q_places, .ref q_breath, .ref q_rows, .ref q_seen, .ref q_ends, va_rf f1_field, .int f1_size, .int f1_turn, .int f1_yards, .int f1_time, .int f1_gap, .int f1_far, .int f1_flat])), (q_people, .inl (cL, 7, .inr (.inr (.inr (.inr r_people_52))))), (q_places, .inl (cI, 7, .inl r_places_52)), (q_breath, .inl (cI, 7, .inl r_breath_52)), (q_rows, .inl (cI, 21, .inl r_rows_52)), (h1, .inr (5, [.ref q1_people, .ref q1_places, .ref q1_breath, .ref q1_rows, .ref q1_seen, .ref q1_ends, va_rf f1_field, .int f1_size, .int f1_turn, .int f1_yards, .int f1_time, .int f1_gap, .int f1_far, .int f1_flat])), (q1_people, .inl (cL, 7, .inr (.inr (.inr (.inr r1_people))))), (q1_places, .inl (cI, 7, .inl r1_places)), (q1_breath, .inl (cI, 7, .inl r1_breath)), (q1_rows, .inl (cI, 21, .inl r1_rows))] := hD
        exact hZ (f1_field, f1_size, f1_turn, f1_yards, f1_time, f1_gap, f1_far, f1_flat, r_people_52, r_places_52, r_breath_52, r_rows_52) H locs ls 140 hm hP hD hS (dX5_become 78 rfl)
      replace hm := hm.2 c4
      refine lv_aload_n hx hb (dX5_become 36 rfl) rfl (lv_at hl 0 rfl) ?_
      refine va_get (D := D) (ci := 5) (v := .ref q_rows) (C := RX5) (T := TX5) (N := 14) hx hb hts inlX5 hown hK hP 0 rfl rfl 3 (by decide) (hts (.fieldLink RX5 24 "OverBacks$Line" "rows" "[I") (inR2 _ (List.mem_of_getElem? (i := 23) rfl))) (fun _ h9 => h9) rfl (dX5_become 37 rfl) ?_
      refine lv_iload_n hx hb (dX5_become 38 rfl) rfl (lv_at hl 2 rfl) ?_
      refine lv_aload_n hx hb (dX5_become 39 rfl) rfl (lv_at hl 1 rfl) ?_
      refine va_get (D := D) (ci := 5) (v := .ref q1_rows) (C := RX5) (T := TX5) (N := 14) hx hb hts inlX5 hown hK hP 5 rfl rfl 3 (by decide) (hts (.fieldLink RX5 24 "OverBacks$Line" "rows" "[I") (inR2 _ (List.mem_of_getElem? (i := 23) rfl))) (fun _ h9 => h9) rfl (dX5_become 40 rfl) ?_
      refine lv_iload_n hx hb (dX5_become 41 rfl) rfl (lv_at hl 2 rfl) ?_
      refine va_iald hx hb hK hP 9 0 rfl rfl hm.1 (dX5_become 42 rfl) ?_
      replace hm := hm.2
      refine va_iast hx hb hK hP hD hS 4 0 rfl rfl hm.1 (dX5_become 43 rfl) (fun H locs hP hD hS => ?_)
      replace hm := hm.2
      obtain ⟨y5, ey5⟩ : ∃ q : Nat → Int32, q = upd r_rows_52 v2_52.toNatClampNeg (r1_rows v2_52.toNatClampNeg) := ⟨_, rfl⟩
      replace hm := hm y5 ey5
      have hP : va_P D vwCl [(h, .inr (5, [.ref q_people, .ref q_places, .ref q_breath, .ref q_rows, .ref q_seen, .ref q_ends, va_rf f_field_52, .int f_size_52, .int f_turn_52, .int f_yards_52, .int f_time_52, .int f_gap_52, .int f_far_52, .int f_flat_52])), (q_people, .inl (cL, 7, .inr (.inr (.inr (.inr r_people_52))))), (q_places, .inl (cI, 7, .inl r_places_52)), (q_breath, .inl (cI, 7, .inl r_breath_52)), (q_rows, .inl (cI, 21, .inl y5)), (h1, .inr (5, [.ref q1_people, .ref q1_places, .ref q1_breath, .ref q1_rows, .ref q1_seen, .ref q1_ends, va_rf f1_field, .int f1_size, .int f1_turn, .int f1_yards, .int f1_time, .int f1_gap, .int f1_far, .int f1_flat])), (q1_people, .inl (cL, 7, .inr (.inr (.inr (.inr r1_people))))), (q1_places, .inl (cI, 7, .inl r1_places)), (q1_breath, .inl (cI, 7, .inl r1_breath)), (q1_rows, .inl (cI, 21, .inl r1_rows))] H := by rw [ey5]; exact hP
      have hD : va_D A [(h, .inr (5, [.ref q_people, .ref q_places, .ref q_breath, .ref q_rows, .ref q_seen, .ref q_ends, va_rf f_field_52, .int f_size_52, .int f_turn_52, .int f_yards_52, .int f_time_52, .int f_gap_52, .int f_far_52, .int f_flat_52])), (q_people, .inl (cL, 7, .inr (.inr (.inr (.inr r_people_52))))), (q_places, .inl (cI, 7, .inl r_places_52)), (q_breath, .inl (cI, 7, .inl r_breath_52)), (q_rows, .inl (cI, 21, .inl y5)), (h1, .inr (5, [.ref q1_people, .ref q1_places, .ref q1_breath, .ref q1_rows, .ref q1_seen, .ref q1_ends, va_rf f1_field, .int f1_size, .int f1_turn, .int f1_yards, .int f1_time, .int f1_gap, .int f1_far, .int f1_flat])), (q1_people, .inl (cL, 7, .inr (.inr (.inr (.inr r1_people))))), (q1_places, .inl (cI, 7, .inl r1_places)), (q1_breath, .inl (cI, 7, .inl r1_breath)), (q1_rows, .inl (cI, 21, .inl r1_rows))] := by rw [ey5]; exact hD
      obtain ⟨x6, ex6⟩ : ∃ y : Int32, y = v2_52 + 1 := ⟨_, rfl⟩
      replace hm := hm x6 ex6
      refine lv_iinc (v := x6) (lv' := [(2, .int x6), (0, .ref h), (1, .ref h1)]) hx hb (dX5_become 44 rfl) hl (k := 2) rfl (by rw [ex6]; rfl) (by decide) rfl (fun ls hl => ?_)
      refine lv_goto (tgt := 52) hx hb (dX5_become 45 rfl) (by decide) ?_
      exact ih52 y5 x6 H locs ls hP hD hS (lv_sub hl [1, 2, 0] rfl) hm
  have lab2 : ∀ (f_field_2 : Option Nat) (f_size_2 : Int32) (f_turn_2 : Int32) (f_yards_2 : Int32) (f_time_2 : Int32) (f_gap_2 : Int32) (f_far_2 : Int32) (f_flat_2 : Int32) (r_rows_2 : Nat → Int32) (n2 : Nat) (r_people_2 : Nat → Option Nat) (r_places_2 : Nat → Int32) (r_breath_2 : Nat → Int32) (v2_2 : Int32) , ∀ (H : Heap) (locs : List Loc) (ls : Array Slot), va_P D vwCl [(h, .inr (5, [.ref q_people, .ref q_places, .ref q_breath, .ref q_rows, .ref q_seen, .ref q_ends, va_rf f_field_2, .int f_size_2, .int f_turn_2, .int f_yards_2, .int f_time_2, .int f_gap_2, .int f_far_2, .int f_flat_2])), (q_people, .inl (cL, 7, .inr (.inr (.inr (.inr r_people_2))))), (q_places, .inl (cI, 7, .inl r_places_2)), (q_breath, .inl (cI, 7, .inl r_breath_2)), (q_rows, .inl (cI, 21, .inl r_rows_2)), (h1, .inr (5, [.ref q1_people, .ref q1_places, .ref q1_breath, .ref q1_rows, .ref q1_seen, .ref q1_ends, va_rf f1_field, .int f1_size, .int f1_turn, .int f1_yards, .int f1_time, .int f1_gap, .int f1_far, .int f1_flat])), (q1_people, .inl (cL, 7, .inr (.inr (.inr (.inr r1_people))))), (q1_places, .inl (cI, 7, .inl r1_places)), (q1_breath, .inl (cI, 7, .inl r1_breath)), (q1_rows, .inl (cI, 21, .inl r1_rows))] H → va_D A [(h, .inr (5, [.ref q_people, .ref q_places, .ref q_breath, .ref q_rows, .ref q_seen, .ref q_ends, va_rf f_field_2, .int f_size_2, .int f_turn_2, .int f_yards_2, .int f_time_2, .int f_gap_2, .int f_far_2, .int f_flat_2])), (q_people, .inl (cL, 7, .inr (.inr (.inr (.inr r_people_2))))), (q_places, .inl (cI, 7, .inl r_places_2)), (q_breath, .inl (cI, 7, .inl r_breath_2)), (q_rows, .inl (cI, 21, .inl r_rows_2)), (h1, .inr (5, [.ref q1_people, .ref q1_places, .ref q1_breath, .ref q1_rows, .ref q1_seen, .ref q1_ends, va_rf f1_field, .int f1_size, .int f1_turn, .int f1_yards, .int f1_time, .int f1_gap, .int f1_far, .int f1_flat])), (q1_people, .inl (cL, 7, .inr (.inr (.inr (.inr r1_people))))), (q1_places, .inl (cI, 7, .inl r1_places)), (q1_breath, .inl (cI, 7, .inl r1_breath)), (q1_rows, .inl (cI, 21, .inl r1_rows))] → va_S A s.heap H locs → lv_has ls 3 [(0, .ref h), (1, .ref h1), (2, .int v2_2)] → m_X5_become_L2 lk f1_field f1_size f1_turn f1_yards f1_time f1_gap f1_far f1_flat r1_people r1_places r1_breath r1_rows f_field_2 f_size_2 f_turn_2 f_yards_2 f_time_2 f_gap_2 f_far_2 f_flat_2 r_rows_2 Q n2 r_people_2 r_places_2 r_breath_2 v2_2 → W p l e rmX5_become s m args below meth c H locs 0 0 Z (F0 m 2 ls []) := by
    clear hm
    intro f_field_2 f_size_2 f_turn_2 f_yards_2 f_time_2 f_gap_2 f_far_2 f_flat_2 r_rows_2
    intro n2
    induction n2 with
    | zero =>
      intro r_people_2 r_places_2 r_breath_2 v2_2 H locs ls hP hD hS hl hm
      exact hm.elim
    | succ n2 ih2 =>
      intro r_people_2 r_places_2 r_breath_2 v2_2 H locs ls hP hD hS hl hm
      unfold m_X5_become_L2 at hm
      obtain ⟨K2, hK2⟩ : ∃ K : (Nat → Option Nat) → (Nat → Int32) → (Nat → Int32) → Int32 → Prop, K = m_X5_become_L2 lk f1_field f1_size f1_turn f1_yards f1_time f1_gap f1_far f1_flat r1_people r1_places r1_breath r1_rows f_field_2 f_size_2 f_turn_2 f_yards_2 f_time_2 f_gap_2 f_far_2 f_flat_2 r_rows_2 Q n2 := ⟨_, rfl⟩
      rw [← hK2] at hm ih2
      refine lv_iload_n hx hb (dX5_become 2 rfl) rfl (lv_at hl 2 rfl) ?_
      refine lv_bipush (v := (7 : Int32)) hx hb (dX5_become 3 rfl) (by decide) ?_
      refine lv_icmp_ge (tgt := 50) hx hb (dX5_become 4 rfl) (by decide) (fun c2 => ?_) (fun c2 => ?_)
      · replace hm := hm.1 c2
        refine lv_iconst (v := (0 : Int32)) hx hb (dX5_become 31 rfl) (by decide) ?_
        refine lv_topi (fun x3 ex3 => ?_)
        replace hm := hm x3 ex3
        refine lv_istore_n (lv' := [(2, .int x3), (0, .ref h), (1, .ref h1)]) hx hb (dX5_become 32 rfl) rfl hl (by decide) rfl (fun ls hl => ?_)
        obtain ⟨n7, hm⟩ := hm
        exact lab52 f_field_2 f_size_2 f_turn_2 f_yards_2 f_time_2 f_gap_2 f_far_2 f_flat_2 r_people_2 r_places_2 r_breath_2 n7 r_rows_2 x3 H locs ls hP hD hS (lv_sub hl [1, 2, 0] rfl) hm
      replace hm := hm.2 c2
      refine lv_aload_n hx hb (dX5_become 5 rfl) rfl (lv_at hl 0 rfl) ?_
      refine va_get (D := D) (ci := 5) (v := .ref q_people) (C := RX5) (T := TX5) (N := 14) hx hb hts inlX5 hown hK hP 0 rfl rfl 0 (by decide) (hts (.fieldLink RX5 11 "OverBacks$Line" "people" "[LOverBacks$Leaper;") (inR2 _ (List.mem_of_getElem? (i := 20) rfl))) (fun _ h9 => h9) rfl (dX5_become 6 rfl) ?_
      refine lv_iload_n hx hb (dX5_become 7 rfl) rfl (lv_at hl 2 rfl) ?_
      refine lv_aload_n hx hb (dX5_become 8 rfl) rfl (lv_at hl 1 rfl) ?_
      refine va_get (D := D) (ci := 5) (v := .ref q1_people) (C := RX5) (T := TX5) (N := 14) hx hb hts inlX5 hown hK hP 5 rfl rfl 0 (by decide) (hts (.fieldLink RX5 11 "OverBacks$Line" "people" "[LOverBacks$Leaper;") (inR2 _ (List.mem_of_getElem? (i := 20) rfl))) (fun _ h9 => h9) rfl (dX5_become 9 rfl) ?_
      refine lv_iload_n hx hb (dX5_become 10 rfl) rfl (lv_at hl 2 rfl) ?_
      refine va_aldq hx hb hK hP 6 2 rfl rfl hm.1 (dX5_become 11 rfl) ?_
      replace hm := hm.2
      refine ob_astO (r := r1_people v2_2.toNatClampNeg) hx hb hN hK hP hD hS (hI.now hS) hlk hm.1 (q0 := 1) (t0 := 2) rfl rfl hm.2.1 (dX5_become 12 rfl) (fun H locs hP hD hS => ?_)
      replace hm := hm.2.2
      obtain ⟨y9, ey9⟩ : ∃ q : Nat → Option Nat, q = va_up r_people_2 v2_2.toNatClampNeg (r1_people v2_2.toNatClampNeg) := ⟨_, rfl⟩
      replace hm := hm y9 ey9
      have hP : va_P D vwCl [(h, .inr (5, [.ref q_people, .ref q_places, .ref q_breath, .ref q_rows, .ref q_seen, .ref q_ends, va_rf f_field_2, .int f_size_2, .int f_turn_2, .int f_yards_2, .int f_time_2, .int f_gap_2, .int f_far_2, .int f_flat_2])), (q_people, .inl (cL, 7, .inr (.inr (.inr (.inr y9))))), (q_places, .inl (cI, 7, .inl r_places_2)), (q_breath, .inl (cI, 7, .inl r_breath_2)), (q_rows, .inl (cI, 21, .inl r_rows_2)), (h1, .inr (5, [.ref q1_people, .ref q1_places, .ref q1_breath, .ref q1_rows, .ref q1_seen, .ref q1_ends, va_rf f1_field, .int f1_size, .int f1_turn, .int f1_yards, .int f1_time, .int f1_gap, .int f1_far, .int f1_flat])), (q1_people, .inl (cL, 7, .inr (.inr (.inr (.inr r1_people))))), (q1_places, .inl (cI, 7, .inl r1_places)), (q1_breath, .inl (cI, 7, .inl r1_breath)), (q1_rows, .inl (cI, 21, .inl r1_rows))] H := by rw [ey9]; exact hP
      have hD : va_D A [(h, .inr (5, [.ref q_people, .ref q_places, .ref q_breath, .ref q_rows, .ref q_seen, .ref q_ends, va_rf f_field_2, .int f_size_2, .int f_turn_2, .int f_yards_2, .int f_time_2, .int f_gap_2, .int f_far_2, .int f_flat_2])), (q_people, .inl (cL, 7, .inr (.inr (.inr (.inr y9))))), (q_places, .inl (cI, 7, .inl r_places_2)), (q_breath, .inl (cI, 7, .inl r_breath_2)), (q_rows, .inl (cI, 21, .inl r_rows_2)), (h1, .inr (5, [.ref q1_people, .ref q1_places, .ref q1_breath, .ref q1_rows, .ref q1_seen, .ref q1_ends, va_rf f1_field, .int f1_size, .int f1_turn, .int f1_yards, .int f1_time, .int f1_gap, .int f1_far, .int f1_flat])), (q1_people, .inl (cL, 7, .inr (.inr (.inr (.inr r1_people))))), (q1_places, .inl (cI, 7, .inl r1_places)), (q1_breath, .inl (cI, 7, .inl r1_breath)), (q1_rows, .inl (cI, 21, .inl r1_rows))] := by rw [ey9]; exact hD
      refine lv_aload_n hx hb (dX5_become 13 rfl) rfl (lv_at hl 0 rfl) ?_
      refine va_get (D := D) (ci := 5) (v := .ref q_places) (C := RX5) (T := TX5) (N := 14) hx hb hts inlX5 hown hK hP 0 rfl rfl 1 (by decide) (hts (.fieldLink RX5 17 "OverBacks$Line" "places" "[I") (inR2 _ (List.mem_of_getElem? (i := 21) rfl))) (fun _ h9 => h9) rfl (dX5_become 14 rfl) ?_
      refine lv_iload_n hx hb (dX5_become 15 rfl) rfl (lv_at hl 2 rfl) ?_
      refine lv_aload_n hx hb (dX5_become 16 rfl) rfl (lv_at hl 1 rfl) ?_
      refine va_get (D := D) (ci := 5) (v := .ref q1_places) (C := RX5) (T := TX5) (N := 14) hx hb hts inlX5 hown hK hP 5 rfl rfl 1 (by decide) (hts (.fieldLink RX5 17 "OverBacks$Line" "places" "[I") (inR2 _ (List.mem_of_getElem? (i := 21) rfl))) (fun _ h9 => h9) rfl (dX5_become 17 rfl) ?_
      refine lv_iload_n hx hb (dX5_become 18 rfl) rfl (lv_at hl 2 rfl) ?_
      refine va_iald hx hb hK hP 7 0 rfl rfl hm.1 (dX5_become 19 rfl) ?_
      replace hm := hm.2
      refine va_iast hx hb hK hP hD hS 2 0 rfl rfl hm.1 (dX5_become 20 rfl) (fun H locs hP hD hS => ?_)
      replace hm := hm.2
      obtain ⟨y10, ey10⟩ : ∃ q : Nat → Int32, q = upd r_places_2 v2_2.toNatClampNeg (r1_places v2_2.toNatClampNeg) := ⟨_, rfl⟩
      replace hm := hm y10 ey10
      have hP : va_P D vwCl [(h, .inr (5, [.ref q_people, .ref q_places, .ref q_breath, .ref q_rows, .ref q_seen, .ref q_ends, va_rf f_field_2, .int f_size_2, .int f_turn_2, .int f_yards_2, .int f_time_2, .int f_gap_2, .int f_far_2, .int f_flat_2])), (q_people, .inl (cL, 7, .inr (.inr (.inr (.inr y9))))), (q_places, .inl (cI, 7, .inl y10)), (q_breath, .inl (cI, 7, .inl r_breath_2)), (q_rows, .inl (cI, 21, .inl r_rows_2)), (h1, .inr (5, [.ref q1_people, .ref q1_places, .ref q1_breath, .ref q1_rows, .ref q1_seen, .ref q1_ends, va_rf f1_field, .int f1_size, .int f1_turn, .int f1_yards, .int f1_time, .int f1_gap, .int f1_far, .int f1_flat])), (q1_people, .inl (cL, 7, .inr (.inr (.inr (.inr r1_people))))), (q1_places, .inl (cI, 7, .inl r1_places)), (q1_breath, .inl (cI, 7, .inl r1_breath)), (q1_rows, .inl (cI, 21, .inl r1_rows))] H := by rw [ey10]; exact hP
      have hD : va_D A [(h, .inr (5, [.ref q_people, .ref q_places, .ref q_breath, .ref q_rows, .ref q_seen, .ref q_ends, va_rf f_field_2, .int f_size_2, .int f_turn_2, .int f_yards_2, .int f_time_2, .int f_gap_2, .int f_far_2, .int f_flat_2])), (q_people, .inl (cL, 7, .inr (.inr (.inr (.inr y9))))), (q_places, .inl (cI, 7, .inl y10)), (q_breath, .inl (cI, 7, .inl r_breath_2)), (q_rows, .inl (cI, 21, .inl r_rows_2)), (h1, .inr (5, [.ref q1_people, .ref q1_places, .ref q1_breath, .ref q1_rows, .ref q1_seen, .ref q1_ends, va_rf f1_field, .int f1_size, .int f1_turn, .int f1_yards, .int f1_time, .int f1_gap, .int f1_far, .int f1_flat])), (q1_people, .inl (cL, 7, .inr (.inr (.inr (.inr r1_people))))), (q1_places, .inl (cI, 7, .inl r1_places)), (q1_breath, .inl (cI, 7, .inl r1_breath)), (q1_rows, .inl (cI, 21, .inl r1_rows))] := by rw [ey10]; exact hD
      refine lv_aload_n hx hb (dX5_become 21 rfl) rfl (lv_at hl 0 rfl) ?_
      refine va_get (D := D) (ci := 5) (v := .ref q_breath) (C := RX5) (T := TX5) (N := 14) hx hb hts inlX5 hown hK hP 0 rfl rfl 2 (by decide) (hts (.fieldLink RX5 21 "OverBacks$Line" "breath" "[I") (inR2 _ (List.mem_of_getElem? (i := 22) rfl))) (fun _ h9 => h9) rfl (dX5_become 22 rfl) ?_
      refine lv_iload_n hx hb (dX5_become 23 rfl) rfl (lv_at hl 2 rfl) ?_
      refine lv_aload_n hx hb (dX5_become 24 rfl) rfl (lv_at hl 1 rfl) ?_
      refine va_get (D := D) (ci := 5) (v := .ref q1_breath) (C := RX5) (T := TX5) (N := 14) hx hb hts inlX5 hown hK hP 5 rfl rfl 2 (by decide) (hts (.fieldLink RX5 21 "OverBacks$Line" "breath" "[I") (inR2 _ (List.mem_of_getElem? (i := 22) rfl))) (fun _ h9 => h9) rfl (dX5_become 25 rfl) ?_
      refine lv_iload_n hx hb (dX5_become 26 rfl) rfl (lv_at hl 2 rfl) ?_
      refine va_iald hx hb hK hP 8 0 rfl rfl hm.1 (dX5_become 27 rfl) ?_
      replace hm := hm.2
      refine va_iast hx hb hK hP hD hS 3 0 rfl rfl hm.1 (dX5_become 28 rfl) (fun H locs hP hD hS => ?_)
      replace hm := hm.2
      obtain ⟨y11, ey11⟩ : ∃ q : Nat → Int32, q = upd r_breath_2 v2_2.toNatClampNeg (r1_breath v2_2.toNatClampNeg) := ⟨_, rfl⟩
      replace hm := hm y11 ey11
      have hP : va_P D vwCl [(h, .inr (5, [.ref q_people, .ref q_places, .ref q_breath, .ref q_rows, .ref q_seen, .ref q_ends, va_rf f_field_2, .int f_size_2, .int f_turn_2, .int f_yards_2, .int f_time_2, .int f_gap_2, .int f_far_2, .int f_flat_2])), (q_people, .inl (cL, 7, .inr (.inr (.inr (.inr y9))))), (q_places, .inl (cI, 7, .inl y10)), (q_breath, .inl (cI, 7, .inl y11)), (q_rows, .inl (cI, 21, .inl r_rows_2)), (h1, .inr (5, [.ref q1_people, .ref q1_places, .ref q1_breath, .ref q1_rows, .ref q1_seen, .ref q1_ends, va_rf f1_field, .int f1_size, .int f1_turn, .int f1_yards, .int f1_time, .int f1_gap, .int f1_far, .int f1_flat])), (q1_people, .inl (cL, 7, .inr (.inr (.inr (.inr r1_people))))), (q1_places, .inl (cI, 7, .inl r1_places)), (q1_breath, .inl (cI, 7, .inl r1_breath)), (q1_rows, .inl (cI, 21, .inl r1_rows))] H := by rw [ey11]; exact hP
      have hD : va_D A [(h, .inr (5, [.ref q_people, .ref q_places, .ref q_breath, .ref q_rows, .ref q_seen, .ref q_ends, va_rf f_field_2, .int f_size_2, .int f_turn_2, .int f_yards_2, .int f_time_2, .int f_gap_2, .int f_far_2, .int f_flat_2])), (q_people, .inl (cL, 7, .inr (.inr (.inr (.inr y9))))), (q_places, .inl (cI, 7, .inl y10)), (q_breath, .inl (cI, 7, .inl y11)), (q_rows, .inl (cI, 21, .inl r_rows_2)), (h1, .inr (5, [.ref q1_people, .ref q1_places, .ref q1_breath, .ref q1_rows, .ref q1_seen, .ref q1_ends, va_rf f1_field, .int f1_size, .int f1_turn, .int f1_yards, .int f1_time, .int f1_gap, .int f1_far, .int f1_flat])), (q1_people, .inl (cL, 7, .inr (.inr (.inr (.inr r1_people))))), (q1_places, .inl (cI, 7, .inl r1_places)), (q1_breath, .inl (cI, 7, .inl r1_breath)), (q1_rows, .inl (cI, 21, .inl r1_rows))] := by rw [ey11]; exact hD
      obtain ⟨x12, ex12⟩ : ∃ y : Int32, y = v2_2 + 1 := ⟨_, rfl⟩
      replace hm := hm x12 ex12
      refine lv_iinc (v := x12) (lv' := [(2, .int x12), (0, .ref h), (1, .ref h1)]) hx hb (dX5_become 29 rfl) hl (k := 2) rfl (by rw [ex12]; rfl) (by decide) rfl (fun ls hl => ?_)
      refine lv_goto (tgt := 2) hx hb (dX5_become 30 rfl) (by decide) ?_
      exact ih2 y9 y10 y11 x12 H locs ls hP hD hS (lv_sub hl [1, 2, 0] rfl) hm
  obtain ⟨H, hH⟩ : ∃ H, H = s.heap := ⟨_, rfl⟩
  obtain ⟨locs, hlo⟩ : ∃ q : List Loc, q = [] := ⟨_, rfl⟩
  suffices hgo : W p l e rmX5_become s m args below meth c H locs 0 0 Z (F0 m 0 ls []) by rw [hH, hlo] at hgo; exact hgo
  have hP : va_P D vwCl [(h, .inr (5, [.ref q_people, .ref q_places, .ref q_breath, .ref q_rows, .ref q_seen, .ref q_ends, va_rf f_field, .int f_size, .int f_turn, .int f_yards, .int f_time, .int f_gap, .int f_far, .int f_flat])), (q_people, .inl (cL, 7, .inr (.inr (.inr (.inr r_people))))), (q_places, .inl (cI, 7, .inl r_places)), (q_breath, .inl (cI, 7, .inl r_breath)), (q_rows, .inl (cI, 21, .inl r_rows)), (h1, .inr (5, [.ref q1_people, .ref q1_places, .ref q1_breath, .ref q1_rows, .ref q1_seen, .ref q1_ends, va_rf f1_field, .int f1_size, .int f1_turn, .int f1_yards, .int f1_time, .int f1_gap, .int f1_far, .int f1_flat])), (q1_people, .inl (cL, 7, .inr (.inr (.inr (.inr r1_people))))), (q1_places, .inl (cI, 7, .inl r1_places)), (q1_breath, .inl (cI, 7, .inl r1_breath)), (q1_rows, .inl (cI, 21, .inl r1_rows))] H := by rw [hH]; exact hP
  have hD : va_D A [(h, .inr (5, [.ref q_people, .ref q_places, .ref q_breath, .ref q_rows, .ref q_seen, .ref q_ends, va_rf f_field, .int f_size, .int f_turn, .int f_yards, .int f_time, .int f_gap, .int f_far, .int f_flat])), (q_people, .inl (cL, 7, .inr (.inr (.inr (.inr r_people))))), (q_places, .inl (cI, 7, .inl r_places)), (q_breath, .inl (cI, 7, .inl r_breath)), (q_rows, .inl (cI, 21, .inl r_rows)), (h1, .inr (5, [.ref q1_people, .ref q1_places, .ref q1_breath, .ref q1_rows, .ref q1_seen, .ref q1_ends, va_rf f1_field, .int f1_size, .int f1_turn, .int f1_yards, .int f1_time, .int f1_gap, .int f1_far, .int f1_flat])), (q1_people, .inl (cL, 7, .inr (.inr (.inr (.inr r1_people))))), (q1_places, .inl (cI, 7, .inl r1_places)), (q1_breath, .inl (cI, 7, .inl r1_breath)), (q1_rows, .inl (cI, 21, .inl r1_rows))] := hD
  have hS : va_S A s.heap H locs := by rw [hH, hlo]; exact hS
  refine lv_iconst (v := (0 : Int32)) hx hb (dX5_become 0 rfl) (by decide) ?_
  refine lv_topi (fun x1 ex1 => ?_)
  replace hm := hm x1 ex1
  refine lv_istore_n (lv' := [(2, .int x1), (0, .ref h), (1, .ref h1)]) hx hb (dX5_become 1 rfl) rfl hl (by decide) rfl (fun ls hl => ?_)
  obtain ⟨n13, hm⟩ := hm
  exact lab2 f_field f_size f_turn f_yards f_time f_gap f_far f_flat r_rows n13 r_people r_places r_breath x1 H locs ls hP hD hS (lv_sub hl [1, 2, 0] rfl) hm
abbrev rmX5_lieOn : Room := { frames := 0, cells := 0, slots := 0, locals := 0 }
set_option maxHeartbeats 4000000 in
set_option maxRecDepth 100000 in
theorem k_X5_lieOn (l : Launch) (D : va_G) (cI cZ cL : ClassId) (im : obIM) (sz : Nat) (h : Nat) (h1 : Nat) (q_people : Nat) (q_places : Nat) (q_breath : Nat) (q_rows : Nat) (q_seen : Nat) (q_ends : Nat) (f_field : Option Nat) (f_size : Int32) (f_turn : Int32) (f_yards : Int32) (f_time : Int32) (f_gap : Int32) (f_far : Int32) (f_flat : Int32) (htape : Nat) (q1_steps : Nat) (q1_words : Nat) (q1_numbers : Nat) (q1_starts : Nat) (q1_ends : Nat) (f1_place : Int32) (f1_stepCount : Int32) (f1_clauses : Int32) (f1_gap : Int32) (f1_far : Int32) (Q : Option Nat → Int32 → Int32 → Prop) (hm : m_X5_lieOn f_field f_gap f_far f1_gap f1_far h1 Q) : Met l yX5_lieOn (Cond.code yX5_lieOn cX5_lieOn 2 none :: wsL_law) rmX5_lieOn (obPre D (tyG cI cZ cL) im [(h, .inr (5, [.ref q_people, .ref q_places, .ref q_breath, .ref q_rows, .ref q_seen, .ref q_ends, va_rf f_field, .int f_size, .int f_turn, .int f_yards, .int f_time, .int f_gap, .int f_far, .int f_flat])), (h1, .inr (1, [.ref htape, .ref q1_steps, .ref q1_words, .ref q1_numbers, .ref q1_starts, .ref q1_ends, .int f1_place, .int f1_stepCount, .int f1_clauses, .int f1_gap, .int f1_far]))] sz [.ref h, .ref h1]) (va_Qv (fun (u : Option Nat × Int32 × Int32) => Q u.1 u.2.1 u.2.2) (obB D (va_A [(h, .inr (5, [.ref q_people, .ref q_places, .ref q_breath, .ref q_rows, .ref q_seen, .ref q_ends, va_rf f_field, .int f_size, .int f_turn, .int f_yards, .int f_time, .int f_gap, .int f_far, .int f_flat])), (h1, .inr (1, [.ref htape, .ref q1_steps, .ref q1_words, .ref q1_numbers, .ref q1_starts, .ref q1_ends, .int f1_place, .int f1_stepCount, .int f1_clauses, .int f1_gap, .int f1_far]))] sz) (fun u : Option Nat × Int32 × Int32 => [(h, .inr (5, [.ref q_people, .ref q_places, .ref q_breath, .ref q_rows, .ref q_seen, .ref q_ends, va_rf u.1, .int f_size, .int f_turn, .int f_yards, .int f_time, .int u.2.1, .int u.2.2, .int f_flat])), (h1, .inr (1, [.ref htape, .ref q1_steps, .ref q1_words, .ref q1_numbers, .ref q1_starts, .ref q1_ends, .int f1_place, .int f1_stepCount, .int f1_clauses, .int f1_gap, .int f1_far]))])) (va_A [(h, .inr (5, [.ref q_people, .ref q_places, .ref q_breath, .ref q_rows, .ref q_seen, .ref q_ends, va_rf f_field, .int f_size, .int f_turn, .int f_yards, .int f_time, .int f_gap, .int f_far, .int f_flat])), (h1, .inr (1, [.ref htape, .ref q1_steps, .ref q1_words, .ref q1_numbers, .ref q1_starts, .ref q1_ends, .int f1_place, .int f1_stepCount, .int f1_clauses, .int f1_gap, .int f1_far]))] sz)) 0 0 (va_A [(h, .inr (5, [.ref q_people, .ref q_places, .ref q_breath, .ref q_rows, .ref q_seen, .ref q_ends, va_rf f_field, .int f_size, .int f_turn, .int f_yards, .int f_time, .int f_gap, .int f_far, .int f_flat])), (h1, .inr (1, [.ref htape, .ref q1_steps, .ref q1_words, .ref q1_numbers, .ref q1_starts, .ref q1_ends, .int f1_place, .int f1_stepCount, .int f1_clauses, .int f1_gap, .int f1_far]))] sz) := by
  refine ob_met_v (cc := cX5_lieOn) (maxL := 2) (by decide) (Nat.le_of_ble_eq_true rfl) (fun p e s m args below meth c A Z hx hb hml hown hts hnm hN hK hA hI hP hD hS hZ ls hl => ?_)
  have hl : lv_has ls 2 [(0, .ref h), (1, .ref h1)] := hl
  unfold m_X5_lieOn at hm
  obtain ⟨H, hH⟩ : ∃ H, H = s.heap := ⟨_, rfl⟩
  obtain ⟨locs, hlo⟩ : ∃ q : List Loc, q = [] := ⟨_, rfl⟩
  suffices hgo : W p l e rmX5_lieOn s m args below meth c H locs 0 0 Z (F0 m 0 ls []) by rw [hH, hlo] at hgo; exact hgo
  have hP : va_P D vwCl [(h, .inr (5, [.ref q_people, .ref q_places, .ref q_breath, .ref q_rows, .ref q_seen, .ref q_ends, va_rf f_field, .int f_size, .int f_turn, .int f_yards, .int f_time, .int f_gap, .int f_far, .int f_flat])), (h1, .inr (1, [.ref htape, .ref q1_steps, .ref q1_words, .ref q1_numbers, .ref q1_starts, .ref q1_ends, .int f1_place, .int f1_stepCount, .int f1_clauses, .int f1_gap, .int f1_far]))] H := by rw [hH]; exact hP
  have hD : va_D A [(h, .inr (5, [.ref q_people, .ref q_places, .ref q_breath, .ref q_rows, .ref q_seen, .ref q_ends, va_rf f_field, .int f_size, .int f_turn, .int f_yards, .int f_time, .int f_gap, .int f_far, .int f_flat])), (h1, .inr (1, [.ref htape, .ref q1_steps, .ref q1_words, .ref q1_numbers, .ref q1_starts, .ref q1_ends, .int f1_place, .int f1_stepCount, .int f1_clauses, .int f1_gap, .int f1_far]))] := hD
  have hS : va_S A s.heap H locs := by rw [hH, hlo]; exact hS
  refine lv_aload_n hx hb (dX5_lieOn 0 rfl) rfl (lv_at hl 0 rfl) ?_
  refine lv_aload_n hx hb (dX5_lieOn 1 rfl) rfl (lv_at hl 1 rfl) ?_
  refine va_put (D := D) (ci := 5) (v := .ref h1) (ty := .object "OverBacks$Field") (C := RX5) (T := TX5) (N := 14) hx hb hts inlX5 tyX5 tyX5_ok nmX5 hown hK hP hD hS 0 rfl rfl 6 (by decide) (hts (.fieldLink RX5 45 "OverBacks$Line" "field" "LOverBacks$Field;") (inR10 _ (List.mem_of_getElem? (i := 14) rfl))) (fun _ h9 => h9) rfl (by decide +kernel) rfl rfl (Nat.le_of_ble_eq_true rfl) (dX5_lieOn 2 rfl) (fun H locs hP hD hS => ?_)
  have hP : va_P D vwCl [(h, .inr (5, [.ref q_people, .ref q_places, .ref q_breath, .ref q_rows, .ref q_seen, .ref q_ends, va_rf (some h1), .int f_size, .int f_turn, .int f_yards, .int f_time, .int f_gap, .int f_far, .int f_flat])), (h1, .inr (1, [.ref htape, .ref q1_steps, .ref q1_words, .ref q1_numbers, .ref q1_starts, .ref q1_ends, .int f1_place, .int f1_stepCount, .int f1_clauses, .int f1_gap, .int f1_far]))] H := hP
  have hD : va_D A [(h, .inr (5, [.ref q_people, .ref q_places, .ref q_breath, .ref q_rows, .ref q_seen, .ref q_ends, va_rf (some h1), .int f_size, .int f_turn, .int f_yards, .int f_time, .int f_gap, .int f_far, .int f_flat])), (h1, .inr (1, [.ref htape, .ref q1_steps, .ref q1_words, .ref q1_numbers, .ref q1_starts, .ref q1_ends, .int f1_place, .int f1_stepCount, .int f1_clauses, .int f1_gap, .int f1_far]))] := hD
  refine lv_aload_n hx hb (dX5_lieOn 3 rfl) rfl (lv_at hl 0 rfl) ?_
  refine lv_aload_n hx hb (dX5_lieOn 4 rfl) rfl (lv_at hl 1 rfl) ?_
  refine va_getN (D := D) (ci := 1) (v := .int f1_gap) (C := RX1) (T := TX1) (N := 11) hx hb hts inlX1 hown hK hP 1 rfl rfl 9 (by decide) (va_Nw.use rfl (hN.1 _ (List.mem_of_getElem? (i := 19) rfl))) (fun _ h9 => h9) rfl (dX5_lieOn 5 rfl) ?_
  refine va_put (D := D) (ci := 5) (v := .int f1_gap) (ty := .int) (C := RX5) (T := TX5) (N := 14) hx hb hts inlX5 tyX5 tyX5_ok nmX5 hown hK hP hD hS 0 rfl rfl 11 (by decide) (hts (.fieldLink RX5 35 "OverBacks$Line" "gap" "I") (inR3 _ (List.mem_of_getElem? (i := 2) rfl))) (fun _ h9 => h9) rfl (by decide +kernel) rfl rfl (Nat.le_of_ble_eq_true rfl) (dX5_lieOn 6 rfl) (fun H locs hP hD hS => ?_)
  have hP : va_P D vwCl [(h, .inr (5, [.ref q_people, .ref q_places, .ref q_breath, .ref q_rows, .ref q_seen, .ref q_ends, va_rf (some h1), .int f_size, .int f_turn, .int f_yards, .int f_time, .int f1_gap, .int f_far, .int f_flat])), (h1, .inr (1, [.ref htape, .ref q1_steps, .ref q1_words, .ref q1_numbers, .ref q1_starts, .ref q1_ends, .int f1_place, .int f1_stepCount, .int f1_clauses, .int f1_gap, .int f1_far]))] H := hP
  have hD : va_D A [(h, .inr (5, [.ref q_people, .ref q_places, .ref q_breath, .ref q_rows, .ref q_seen, .ref q_ends, va_rf (some h1), .int f_size, .int f_turn, .int f_yards, .int f_time, .int f1_gap, .int f_far, .int f_flat])), (h1, .inr (1, [.ref htape, .ref q1_steps, .ref q1_words, .ref q1_numbers, .ref q1_starts, .ref q1_ends, .int f1_place, .int f1_stepCount, .int f1_clauses, .int f1_gap, .int f1_far]))] := hD
  refine lv_aload_n hx hb (dX5_lieOn 7 rfl) rfl (lv_at hl 0 rfl) ?_
  refine lv_aload_n hx hb (dX5_lieOn 8 rfl) rfl (lv_at hl 1 rfl) ?_
  refine va_getN (D := D) (ci := 1) (v := .int f1_far) (C := RX1) (T := TX1) (N := 11) hx hb hts inlX1 hown hK hP 1 rfl rfl 10 (by decide) (va_Nw.use rfl (hN.1 _ (List.mem_of_getElem? (i := 20) rfl))) (fun _ h9 => h9) rfl (dX5_lieOn 9 rfl) ?_
  refine va_put (D := D) (ci := 5) (v := .int f1_far) (ty := .int) (C := RX5) (T := TX5) (N := 14) hx hb hts inlX5 tyX5 tyX5_ok nmX5 hown hK hP hD hS 0 rfl rfl 12 (by decide) (hts (.fieldLink RX5 39 "OverBacks$Line" "far" "I") (inR3 _ (List.mem_of_getElem? (i := 3) rfl))) (fun _ h9 => h9) rfl (by decide +kernel) rfl rfl (Nat.le_of_ble_eq_true rfl) (dX5_lieOn 10 rfl) (fun H locs hP hD hS => ?_)
  have hP : va_P D vwCl [(h, .inr (5, [.ref q_people, .ref q_places, .ref q_breath, .ref q_rows, .ref q_seen, .ref q_ends, va_rf (some h1), .int f_size, .int f_turn, .int f_yards, .int f_time, .int f1_gap, .int f1_far, .int f_flat])), (h1, .inr (1, [.ref htape, .ref q1_steps, .ref q1_words, .ref q1_numbers, .ref q1_starts, .ref q1_ends, .int f1_place, .int f1_stepCount, .int f1_clauses, .int f1_gap, .int f1_far]))] H := hP
  have hD : va_D A [(h, .inr (5, [.ref q_people, .ref q_places, .ref q_breath, .ref q_rows, .ref q_seen, .ref q_ends, va_rf (some h1), .int f_size, .int f_turn, .int f_yards, .int f_time, .int f1_gap, .int f1_far, .int f_flat])), (h1, .inr (1, [.ref htape, .ref q1_steps, .ref q1_words, .ref q1_numbers, .ref q1_starts, .ref q1_ends, .int f1_place, .int f1_stepCount, .int f1_clauses, .int f1_gap, .int f1_far]))] := hD
  exact hZ ((some h1), f1_gap, f1_far) H locs ls 21 hm hP hD hS (dX5_lieOn 11 rfl)
abbrev rmX5_find : Room := { frames := 0, cells := 0, slots := 0, locals := 0 }
set_option maxHeartbeats 4000000 in
set_option maxRecDepth 100000 in
theorem k_X5_find (l : Launch) (D : va_G) (cI cZ cL : ClassId) (im : obIM) (sz : Nat) (h : Nat) (q_people : Nat) (q_places : Nat) (q_breath : Nat) (q_rows : Nat) (q_seen : Nat) (q_ends : Nat) (f_field : Option Nat) (f_size : Int32) (f_turn : Int32) (f_yards : Int32) (f_time : Int32) (f_gap : Int32) (f_far : Int32) (f_flat : Int32) (r_people : Nat → Option Nat) (a1 : Int32) (Q : Option Nat → Prop) (hm : m_X5_find r_people a1 Q) : Met l yX5_find (Cond.code yX5_find cX5_find 2 (some (.object "OverBacks$Leaper")) :: wsL_law) rmX5_find (obPre D (tyG cI cZ cL) im [(h, .inr (5, [.ref q_people, .ref q_places, .ref q_breath, .ref q_rows, .ref q_seen, .ref q_ends, va_rf f_field, .int f_size, .int f_turn, .int f_yards, .int f_time, .int f_gap, .int f_far, .int f_flat])), (q_people, .inl (cL, 7, .inr (.inr (.inr (.inr r_people)))))] sz [.ref h, .int a1]) (va_Qq (fun (r : Option Nat) (u : Unit) => Q r) (obB D (va_A [(h, .inr (5, [.ref q_people, .ref q_places, .ref q_breath, .ref q_rows, .ref q_seen, .ref q_ends, va_rf f_field, .int f_size, .int f_turn, .int f_yards, .int f_time, .int f_gap, .int f_far, .int f_flat])), (q_people, .inl (cL, 7, .inr (.inr (.inr (.inr r_people)))))] sz) (fun _ : Unit => [(h, .inr (5, [.ref q_people, .ref q_places, .ref q_breath, .ref q_rows, .ref q_seen, .ref q_ends, va_rf f_field, .int f_size, .int f_turn, .int f_yards, .int f_time, .int f_gap, .int f_far, .int f_flat])), (q_people, .inl (cL, 7, .inr (.inr (.inr (.inr r_people)))))])) (va_A [(h, .inr (5, [.ref q_people, .ref q_places, .ref q_breath, .ref q_rows, .ref q_seen, .ref q_ends, va_rf f_field, .int f_size, .int f_turn, .int f_yards, .int f_time, .int f_gap, .int f_far, .int f_flat])), (q_people, .inl (cL, 7, .inr (.inr (.inr (.inr r_people)))))] sz)) 0 0 (va_A [(h, .inr (5, [.ref q_people, .ref q_places, .ref q_breath, .ref q_rows, .ref q_seen, .ref q_ends, va_rf f_field, .int f_size, .int f_turn, .int f_yards, .int f_time, .int f_gap, .int f_far, .int f_flat])), (q_people, .inl (cL, 7, .inr (.inr (.inr (.inr r_people)))))] sz) := by
  refine ob_met_q (cc := cX5_find) (maxL := 2) (by decide) (Nat.le_of_ble_eq_true rfl) (fun p e s m args below meth c A Z hx hb hml hown hts hnm hN hK hA hI hP hD hS hZ ls hl => ?_)
  have hl : lv_has ls 2 [(0, .ref h), (1, .int a1)] := hl
  unfold m_X5_find at hm
  obtain ⟨H, hH⟩ : ∃ H, H = s.heap := ⟨_, rfl⟩
  obtain ⟨locs, hlo⟩ : ∃ q : List Loc, q = [] := ⟨_, rfl⟩
  suffices hgo : W p l e rmX5_find s m args below meth c H locs 0 0 Z (F0 m 0 ls []) by rw [hH, hlo] at hgo; exact hgo
  have hP : va_P D vwCl [(h, .inr (5, [.ref q_people, .ref q_places, .ref q_breath, .ref q_rows, .ref q_seen, .ref q_ends, va_rf f_field, .int f_size, .int f_turn, .int f_yards, .int f_time, .int f_gap, .int f_far, .int f_flat])), (q_people, .inl (cL, 7, .inr (.inr (.inr (.inr r_people)))))] H := by rw [hH]; exact hP
  have hD : va_D A [(h, .inr (5, [.ref q_people, .ref q_places, .ref q_breath, .ref q_rows, .ref q_seen, .ref q_ends, va_rf f_field, .int f_size, .int f_turn, .int f_yards, .int f_time, .int f_gap, .int f_far, .int f_flat])), (q_people, .inl (cL, 7, .inr (.inr (.inr (.inr r_people)))))] := hD
  have hS : va_S A s.heap H locs := by rw [hH, hlo]; exact hS
  refine lv_iload_n hx hb (dX5_find 0 rfl) rfl (lv_at hl 1 rfl) ?_
  refine lv_if_lt (tgt := 19) hx hb (dX5_find 1 rfl) (by decide) (fun c1 => ?_) (fun c1 => ?_)
  · replace hm := hm.1 c1
    refine lv_null hx hb (dX5_find 10 rfl) ?_
    exact hZ none () H locs ls 20 hm hP hD hS (dX5_find 11 rfl)
  replace hm := hm.2 c1
  refine lv_iload_n hx hb (dX5_find 2 rfl) rfl (lv_at hl 1 rfl) ?_
  refine lv_bipush (v := (7 : Int32)) hx hb (dX5_find 3 rfl) (by decide) ?_
  refine lv_icmp_ge (tgt := 19) hx hb (dX5_find 4 rfl) (by decide) (fun c2 => ?_) (fun c2 => ?_)
  · replace hm := hm.1 c2
    refine lv_null hx hb (dX5_find 10 rfl) ?_
    exact hZ none () H locs ls 20 hm hP hD hS (dX5_find 11 rfl)
  replace hm := hm.2 c2
  refine lv_aload_n hx hb (dX5_find 5 rfl) rfl (lv_at hl 0 rfl) ?_
  refine va_get (D := D) (ci := 5) (v := .ref q_people) (C := RX5) (T := TX5) (N := 14) hx hb hts inlX5 hown hK hP 0 rfl rfl 0 (by decide) (hts (.fieldLink RX5 11 "OverBacks$Line" "people" "[LOverBacks$Leaper;") (inR2 _ (List.mem_of_getElem? (i := 20) rfl))) (fun _ h9 => h9) rfl (dX5_find 6 rfl) ?_
  refine lv_iload_n hx hb (dX5_find 7 rfl) rfl (lv_at hl 1 rfl) ?_
  refine va_aldq hx hb hK hP 1 2 rfl rfl hm.1 (dX5_find 8 rfl) ?_
  replace hm := hm.2
  refine lv_goto (tgt := 20) hx hb (dX5_find 9 rfl) (by decide) ?_
  exact hZ (r_people a1.toNatClampNeg) () H locs ls 20 hm hP hD hS (dX5_find 11 rfl)
abbrev rmX5_join : Room := { frames := 0, cells := 0, slots := 0, locals := 0 }
set_option maxHeartbeats 4000000 in
set_option maxRecDepth 100000 in
theorem k_X5_join (l : Launch) (D : va_G) (cI cZ cL : ClassId) (im : obIM) (lk : Nat → Option (Nat × Int32 × Int32 × Int32)) (hlk : obLK im lk) (sz : Nat) (h : Nat) (h1 : Nat) (q_people : Nat) (q_places : Nat) (q_breath : Nat) (q_rows : Nat) (q_seen : Nat) (q_ends : Nat) (f_field : Option Nat) (f_size : Int32) (f_turn : Int32) (f_yards : Int32) (f_time : Int32) (f_gap : Int32) (f_far : Int32) (f_flat : Int32) (r_people : Nat → Option Nat) (r_places : Nat → Int32) (r_breath : Nat → Int32) (r_rows : Nat → Int32) (Q : Int32 → Int32 → (Nat → Option Nat) → (Nat → Int32) → (Nat → Int32) → (Nat → Int32) → Prop) (hm : m_X5_join lk f_size r_people r_places r_breath r_rows h1 Q) : Met l yX5_join (Cond.code yX5_join cX5_join 4 (some .int) :: wsL_law) rmX5_join (obPre D (tyG cI cZ cL) im [(h, .inr (5, [.ref q_people, .ref q_places, .ref q_breath, .ref q_rows, .ref q_seen, .ref q_ends, va_rf f_field, .int f_size, .int f_turn, .int f_yards, .int f_time, .int f_gap, .int f_far, .int f_flat])), (q_people, .inl (cL, 7, .inr (.inr (.inr (.inr r_people))))), (q_places, .inl (cI, 7, .inl r_places)), (q_breath, .inl (cI, 7, .inl r_breath)), (q_rows, .inl (cI, 21, .inl r_rows))] sz [.ref h, .ref h1]) (va_Qi (fun (r : Int32) (u : Int32 × (Nat → Option Nat) × (Nat → Int32) × (Nat → Int32) × (Nat → Int32)) => Q r u.1 u.2.1 u.2.2.1 u.2.2.2.1 u.2.2.2.2) (obB D (va_A [(h, .inr (5, [.ref q_people, .ref q_places, .ref q_breath, .ref q_rows, .ref q_seen, .ref q_ends, va_rf f_field, .int f_size, .int f_turn, .int f_yards, .int f_time, .int f_gap, .int f_far, .int f_flat])), (q_people, .inl (cL, 7, .inr (.inr (.inr (.inr r_people))))), (q_places, .inl (cI, 7, .inl r_places)), (q_breath, .inl (cI, 7, .inl r_breath)), (q_rows, .inl (cI, 21, .inl r_rows))] sz) (fun u : Int32 × (Nat → Option Nat) × (Nat → Int32) × (Nat → Int32) × (Nat → Int32) => [(h, .inr (5, [.ref q_people, .ref q_places, .ref q_breath, .ref q_rows, .ref q_seen, .ref q_ends, va_rf f_field, .int u.1, .int f_turn, .int f_yards, .int f_time, .int f_gap, .int f_far, .int f_flat])), (q_people, .inl (cL, 7, .inr (.inr (.inr (.inr u.2.1))))), (q_places, .inl (cI, 7, .inl u.2.2.1)), (q_breath, .inl (cI, 7, .inl u.2.2.2.1)), (q_rows, .inl (cI, 21, .inl u.2.2.2.2))])) (va_A [(h, .inr (5, [.ref q_people, .ref q_places, .ref q_breath, .ref q_rows, .ref q_seen, .ref q_ends, va_rf f_field, .int f_size, .int f_turn, .int f_yards, .int f_time, .int f_gap, .int f_far, .int f_flat])), (q_people, .inl (cL, 7, .inr (.inr (.inr (.inr r_people))))), (q_places, .inl (cI, 7, .inl r_places)), (q_breath, .inl (cI, 7, .inl r_breath)), (q_rows, .inl (cI, 21, .inl r_rows))] sz)) 0 0 (va_A [(h, .inr (5, [.ref q_people, .ref q_places, .ref q_breath, .ref q_rows, .ref q_seen, .ref q_ends, va_rf f_field, .int f_size, .int f_turn, .int f_yards, .int f_time, .int f_gap, .int f_far, .int f_flat])), (q_people, .inl (cL, 7, .inr (.inr (.inr (.inr r_people))))), (q_places, .inl (cI, 7, .inl r_places)), (q_breath, .inl (cI, 7, .inl r_breath)), (q_rows, .inl (cI, 21, .inl r_rows))] sz) := by
  refine ob_met_i (cc := cX5_join) (maxL := 4) (by decide) (Nat.le_of_ble_eq_true rfl) (fun p e s m args below meth c A Z hx hb hml hown hts hnm hN hK hA hI hP hD hS hZ ls hl => ?_)
  have hl : lv_has ls 4 [(0, .ref h), (1, .ref h1)] := hl
  unfold m_X5_join at hm
  have lab38 : ∀ (f_size_38 : Int32) (r_people_38 : Nat → Option Nat) (r_places_38 : Nat → Int32) (r_breath_38 : Nat → Int32) (v2_38 : Int32) (n38 : Nat) (r_rows_38 : Nat → Int32) (v3_38 : Int32) , ∀ (H : Heap) (locs : List Loc) (ls : Array Slot), va_P D vwCl [(h, .inr (5, [.ref q_people, .ref q_places, .ref q_breath, .ref q_rows, .ref q_seen, .ref q_ends, va_rf f_field, .int f_size_38, .int f_turn, .int f_yards, .int f_time, .int f_gap, .int f_far, .int f_flat])), (q_people, .inl (cL, 7, .inr (.inr (.inr (.inr r_people_38))))), (q_places, .inl (cI, 7, .inl r_places_38)), (q_breath, .inl (cI, 7, .inl r_breath_38)), (q_rows, .inl (cI, 21, .inl r_rows_38))] H → va_D A [(h, .inr (5, [.ref q_people, .ref q_places, .ref q_breath, .ref q_rows, .ref q_seen, .ref q_ends, va_rf f_field, .int f_size_38, .int f_turn, .int f_yards, .int f_time, .int f_gap, .int f_far, .int f_flat])), (q_people, .inl (cL, 7, .inr (.inr (.inr (.inr r_people_38))))), (q_places, .inl (cI, 7, .inl r_places_38)), (q_breath, .inl (cI, 7, .inl r_breath_38)), (q_rows, .inl (cI, 21, .inl r_rows_38))] → va_S A s.heap H locs → lv_has ls 4 [(0, .ref h), (2, .int v2_38), (3, .int v3_38)] → m_X5_join_L38 lk f_size_38 r_people_38 r_places_38 r_breath_38 v2_38 Q n38 r_rows_38 v3_38 → W p l e rmX5_join s m args below meth c H locs 0 0 Z (F0 m 38 ls []) := by
    clear hm
    intro f_size_38 r_people_38 r_places_38 r_breath_38 v2_38
    intro n38
    induction n38 with
    | zero =>
      intro r_rows_38 v3_38 H locs ls hP hD hS hl hm
      exact hm.elim
    | succ n38 ih38 =>
      intro r_rows_38 v3_38 H locs ls hP hD hS hl hm
      unfold m_X5_join_L38 at hm
      obtain ⟨K38, hK38⟩ : ∃ K : (Nat → Int32) → Int32 → Prop, K = m_X5_join_L38 lk f_size_38 r_people_38 r_places_38 r_breath_38 v2_38 Q n38 := ⟨_, rfl⟩
      rw [← hK38] at hm ih38
      refine lv_iload_n hx hb (dX5_join 25 rfl) rfl (lv_at hl 2 rfl) ?_
      refine lv_iconst (v := (3 : Int32)) hx hb (dX5_join 26 rfl) (by decide) ?_
      refine lv_icmp_ge (tgt := 60) hx hb (dX5_join 27 rfl) (by decide) (fun c7 => ?_) (fun c7 => ?_)
      · replace hm := hm.1 c7
        refine lv_aload_n hx hb (dX5_join 39 rfl) rfl (lv_at hl 0 rfl) ?_
        refine lv_dup hx hb (dX5_join 40 rfl) rfl ?_
        refine va_get (D := D) (ci := 5) (v := .int f_size_38) (C := RX5) (T := TX5) (N := 14) hx hb hts inlX5 hown hK hP 0 rfl rfl 7 (by decide) (hts (.fieldLink RX5 49 "OverBacks$Line" "size" "I") (inR15 _ (List.mem_of_getElem? (i := 23) rfl))) (fun _ h9 => h9) rfl (dX5_join 41 rfl) ?_
        refine lv_iconst (v := (1 : Int32)) hx hb (dX5_join 42 rfl) (by decide) ?_
        refine lv_iadd hx hb (dX5_join 43 rfl) ?_
        refine va_put (D := D) (ci := 5) (v := .int (f_size_38 + (1 : Int32))) (ty := .int) (C := RX5) (T := TX5) (N := 14) hx hb hts inlX5 tyX5 tyX5_ok nmX5 hown hK hP hD hS 0 rfl rfl 7 (by decide) (hts (.fieldLink RX5 49 "OverBacks$Line" "size" "I") (inR15 _ (List.mem_of_getElem? (i := 23) rfl))) (fun _ h9 => h9) rfl (by decide +kernel) rfl rfl (Nat.le_of_ble_eq_true rfl) (dX5_join 44 rfl) (fun H locs hP hD hS => ?_)
        have hP : va_P D vwCl [(h, .inr (5, [.ref q_people, .ref q_places, .ref q_breath, .ref q_rows, .ref q_seen, .ref q_ends, va_rf f_field, .int (f_size_38 + (1 : Int32)), .int f_turn, .int f_yards, .int f_time, .int f_gap, .int f_far, .int f_flat])), (q_people, .inl (cL, 7, .inr (.inr (.inr (.inr r_people_38))))), (q_places, .inl (cI, 7, .inl r_places_38)), (q_breath, .inl (cI, 7, .inl r_breath_38)), (q_rows, .inl (cI, 21, .inl r_rows_38))] H := hP
        have hD : va_D A [(h, .inr (5, [.ref q_people, .ref q_places, .ref q_breath, .ref q_rows, .ref q_seen, .ref q_ends, va_rf f_field, .int (f_size_38 + (1 : Int32)), .int f_turn, .int f_yards, .int f_time, .int f_gap, .int f_far, .int f_flat])), (q_people, .inl (cL, 7, .inr (.inr (.inr (.inr r_people_38))))), (q_places, .inl (cI, 7, .inl r_places_38)), (q_breath, .inl (cI, 7, .inl r_breath_38)), (q_rows, .inl (cI, 21, .inl r_rows_38))] := hD
        refine lv_iload_n hx hb (dX5_join 45 rfl) rfl (lv_at hl 1 rfl) ?_
        exact hZ v2_38 (f_size_38 + (1 : Int32), r_people_38, r_places_38, r_breath_38, r_rows_38) H locs ls 71 hm hP hD hS (dX5_join 46 rfl) rfl
      replace hm := hm.2 c7
      refine lv_aload_n hx hb (dX5_join 28 rfl) rfl (lv_at hl 0 rfl) ?_
      refine va_get (D := D) (ci := 5) (v := .ref q_rows) (C := RX5) (T := TX5) (N := 14) hx hb hts inlX5 hown hK hP 0 rfl rfl 3 (by decide) (hts (.fieldLink RX5 24 "OverBacks$Line" "rows" "[I") (inR2 _ (List.mem_of_getElem? (i := 23) rfl))) (fun _ h9 => h9) rfl (dX5_join 29 rfl) ?_
      refine lv_iload_n hx hb (dX5_join 30 rfl) rfl (lv_at hl 1 rfl) ?_
      refine lv_iconst (v := (3 : Int32)) hx hb (dX5_join 31 rfl) (by decide) ?_
      refine lv_imul hx hb (dX5_join 32 rfl) ?_
      refine lv_iload_n hx hb (dX5_join 33 rfl) rfl (lv_at hl 2 rfl) ?_
      refine lv_iadd hx hb (dX5_join 34 rfl) ?_
      refine lv_iconst (v := (0 : Int32)) hx hb (dX5_join 35 rfl) (by decide) ?_
      refine va_iast hx hb hK hP hD hS 4 0 rfl rfl hm.1 (dX5_join 36 rfl) (fun H locs hP hD hS => ?_)
      replace hm := hm.2
      obtain ⟨y8, ey8⟩ : ∃ q : Nat → Int32, q = upd r_rows_38 ((v2_38 * (3 : Int32)) + v3_38).toNatClampNeg (0 : Int32) := ⟨_, rfl⟩
      replace hm := hm y8 ey8
      have hP : va_P D vwCl [(h, .inr (5, [.ref q_people, .ref q_places, .ref q_breath, .ref q_rows, .ref q_seen, .ref q_ends, va_rf f_field, .int f_size_38, .int f_turn, .int f_yards, .int f_time, .int f_gap, .int f_far, .int f_flat])), (q_people, .inl (cL, 7, .inr (.inr (.inr (.inr r_people_38))))), (q_places, .inl (cI, 7, .inl r_places_38)), (q_breath, .inl (cI, 7, .inl r_breath_38)), (q_rows, .inl (cI, 21, .inl y8))] H := by rw [ey8]; exact hP
      have hD : va_D A [(h, .inr (5, [.ref q_people, .ref q_places, .ref q_breath, .ref q_rows, .ref q_seen, .ref q_ends, va_rf f_field, .int f_size_38, .int f_turn, .int f_yards, .int f_time, .int f_gap, .int f_far, .int f_flat])), (q_people, .inl (cL, 7, .inr (.inr (.inr (.inr r_people_38))))), (q_places, .inl (cI, 7, .inl r_places_38)), (q_breath, .inl (cI, 7, .inl r_breath_38)), (q_rows, .inl (cI, 21, .inl y8))] := by rw [ey8]; exact hD
      obtain ⟨x9, ex9⟩ : ∃ y : Int32, y = v3_38 + 1 := ⟨_, rfl⟩
      replace hm := hm x9 ex9
      refine lv_iinc (v := x9) (lv' := [(3, .int x9), (0, .ref h), (2, .int v2_38)]) hx hb (dX5_join 37 rfl) hl (k := 2) rfl (by rw [ex9]; rfl) (by decide) rfl (fun ls hl => ?_)
      refine lv_goto (tgt := 38) hx hb (dX5_join 38 rfl) (by decide) ?_
      exact ih38 y8 x9 H locs ls hP hD hS (lv_sub hl [1, 2, 0] rfl) hm
  obtain ⟨H, hH⟩ : ∃ H, H = s.heap := ⟨_, rfl⟩
  obtain ⟨locs, hlo⟩ : ∃ q : List Loc, q = [] := ⟨_, rfl⟩
  suffices hgo : W p l e rmX5_join s m args below meth c H locs 0 0 Z (F0 m 0 ls []) by rw [hH, hlo] at hgo; exact hgo
  have hP : va_P D vwCl [(h, .inr (5, [.ref q_people, .ref q_places, .ref q_breath, .ref q_rows, .ref q_seen, .ref q_ends, va_rf f_field, .int f_size, .int f_turn, .int f_yards, .int f_time, .int f_gap, .int f_far, .int f_flat])), (q_people, .inl (cL, 7, .inr (.inr (.inr (.inr r_people))))), (q_places, .inl (cI, 7, .inl r_places)), (q_breath, .inl (cI, 7, .inl r_breath)), (q_rows, .inl (cI, 21, .inl r_rows))] H := by rw [hH]; exact hP
  have hD : va_D A [(h, .inr (5, [.ref q_people, .ref q_places, .ref q_breath, .ref q_rows, .ref q_seen, .ref q_ends, va_rf f_field, .int f_size, .int f_turn, .int f_yards, .int f_time, .int f_gap, .int f_far, .int f_flat])), (q_people, .inl (cL, 7, .inr (.inr (.inr (.inr r_people))))), (q_places, .inl (cI, 7, .inl r_places)), (q_breath, .inl (cI, 7, .inl r_breath)), (q_rows, .inl (cI, 21, .inl r_rows))] := hD
  have hS : va_S A s.heap H locs := by rw [hH, hlo]; exact hS
  refine lv_aload_n hx hb (dX5_join 0 rfl) rfl (lv_at hl 0 rfl) ?_
  refine va_get (D := D) (ci := 5) (v := .int f_size) (C := RX5) (T := TX5) (N := 14) hx hb hts inlX5 hown hK hP 0 rfl rfl 7 (by decide) (hts (.fieldLink RX5 49 "OverBacks$Line" "size" "I") (inR15 _ (List.mem_of_getElem? (i := 23) rfl))) (fun _ h9 => h9) rfl (dX5_join 1 rfl) ?_
  refine lv_istore_n (lv' := [(2, .int f_size), (0, .ref h), (1, .ref h1)]) hx hb (dX5_join 2 rfl) rfl hl (by decide) rfl (fun ls hl => ?_)
  refine lv_iload_n hx hb (dX5_join 3 rfl) rfl (lv_at hl 0 rfl) ?_
  refine lv_bipush (v := (7 : Int32)) hx hb (dX5_join 4 rfl) (by decide) ?_
  refine lv_icmp_lt (tgt := 14) hx hb (dX5_join 5 rfl) (by decide) (fun c1 => ?_) (fun c1 => ?_)
  · replace hm := hm.1 c1
    refine lv_aload_n hx hb (dX5_join 8 rfl) rfl (lv_at hl 1 rfl) ?_
    refine va_get (D := D) (ci := 5) (v := .ref q_people) (C := RX5) (T := TX5) (N := 14) hx hb hts inlX5 hown hK hP 0 rfl rfl 0 (by decide) (hts (.fieldLink RX5 11 "OverBacks$Line" "people" "[LOverBacks$Leaper;") (inR2 _ (List.mem_of_getElem? (i := 20) rfl))) (fun _ h9 => h9) rfl (dX5_join 9 rfl) ?_
    refine lv_iload_n hx hb (dX5_join 10 rfl) rfl (lv_at hl 0 rfl) ?_
    refine lv_aload_n hx hb (dX5_join 11 rfl) rfl (lv_at hl 2 rfl) ?_
    refine ob_astO (r := (some h1)) hx hb hN hK hP hD hS (hI.now hS) hlk hm.1 (q0 := 1) (t0 := 2) rfl rfl hm.2.1 (dX5_join 12 rfl) (fun H locs hP hD hS => ?_)
    replace hm := hm.2.2
    obtain ⟨y3, ey3⟩ : ∃ q : Nat → Option Nat, q = va_up r_people f_size.toNatClampNeg (some h1) := ⟨_, rfl⟩
    replace hm := hm y3 ey3
    have hP : va_P D vwCl [(h, .inr (5, [.ref q_people, .ref q_places, .ref q_breath, .ref q_rows, .ref q_seen, .ref q_ends, va_rf f_field, .int f_size, .int f_turn, .int f_yards, .int f_time, .int f_gap, .int f_far, .int f_flat])), (q_people, .inl (cL, 7, .inr (.inr (.inr (.inr y3))))), (q_places, .inl (cI, 7, .inl r_places)), (q_breath, .inl (cI, 7, .inl r_breath)), (q_rows, .inl (cI, 21, .inl r_rows))] H := by rw [ey3]; exact hP
    have hD : va_D A [(h, .inr (5, [.ref q_people, .ref q_places, .ref q_breath, .ref q_rows, .ref q_seen, .ref q_ends, va_rf f_field, .int f_size, .int f_turn, .int f_yards, .int f_time, .int f_gap, .int f_far, .int f_flat])), (q_people, .inl (cL, 7, .inr (.inr (.inr (.inr y3))))), (q_places, .inl (cI, 7, .inl r_places)), (q_breath, .inl (cI, 7, .inl r_breath)), (q_rows, .inl (cI, 21, .inl r_rows))] := by rw [ey3]; exact hD
    refine lv_aload_n hx hb (dX5_join 13 rfl) rfl (lv_at hl 1 rfl) ?_
    refine va_get (D := D) (ci := 5) (v := .ref q_places) (C := RX5) (T := TX5) (N := 14) hx hb hts inlX5 hown hK hP 0 rfl rfl 1 (by decide) (hts (.fieldLink RX5 17 "OverBacks$Line" "places" "[I") (inR2 _ (List.mem_of_getElem? (i := 21) rfl))) (fun _ h9 => h9) rfl (dX5_join 14 rfl) ?_
    refine lv_iload_n hx hb (dX5_join 15 rfl) rfl (lv_at hl 0 rfl) ?_
    refine lv_iload_n hx hb (dX5_join 16 rfl) rfl (lv_at hl 0 rfl) ?_
    refine va_iast hx hb hK hP hD hS 2 0 rfl rfl hm.1 (dX5_join 17 rfl) (fun H locs hP hD hS => ?_)
    replace hm := hm.2
    obtain ⟨y4, ey4⟩ : ∃ q : Nat → Int32, q = upd r_places f_size.toNatClampNeg f_size := ⟨_, rfl⟩
    replace hm := hm y4 ey4
    have hP : va_P D vwCl [(h, .inr (5, [.ref q_people, .ref q_places, .ref q_breath, .ref q_rows, .ref q_seen, .ref q_ends, va_rf f_field, .int f_size, .int f_turn, .int f_yards, .int f_time, .int f_gap, .int f_far, .int f_flat])), (q_people, .inl (cL, 7, .inr (.inr (.inr (.inr y3))))), (q_places, .inl (cI, 7, .inl y4)), (q_breath, .inl (cI, 7, .inl r_breath)), (q_rows, .inl (cI, 21, .inl r_rows))] H := by rw [ey4]; exact hP
    have hD : va_D A [(h, .inr (5, [.ref q_people, .ref q_places, .ref q_breath, .ref q_rows, .ref q_seen, .ref q_ends, va_rf f_field, .int f_size, .int f_turn, .int f_yards, .int f_time, .int f_gap, .int f_far, .int f_flat])), (q_people, .inl (cL, 7, .inr (.inr (.inr (.inr y3))))), (q_places, .inl (cI, 7, .inl y4)), (q_breath, .inl (cI, 7, .inl r_breath)), (q_rows, .inl (cI, 21, .inl r_rows))] := by rw [ey4]; exact hD
    refine lv_aload_n hx hb (dX5_join 18 rfl) rfl (lv_at hl 1 rfl) ?_
    refine va_get (D := D) (ci := 5) (v := .ref q_breath) (C := RX5) (T := TX5) (N := 14) hx hb hts inlX5 hown hK hP 0 rfl rfl 2 (by decide) (hts (.fieldLink RX5 21 "OverBacks$Line" "breath" "[I") (inR2 _ (List.mem_of_getElem? (i := 22) rfl))) (fun _ h9 => h9) rfl (dX5_join 19 rfl) ?_
    refine lv_iload_n hx hb (dX5_join 20 rfl) rfl (lv_at hl 0 rfl) ?_
    refine lv_bipush (v := (9 : Int32)) hx hb (dX5_join 21 rfl) (by decide) ?_
    refine va_iast hx hb hK hP hD hS 3 0 rfl rfl hm.1 (dX5_join 22 rfl) (fun H locs hP hD hS => ?_)
    replace hm := hm.2
    obtain ⟨y5, ey5⟩ : ∃ q : Nat → Int32, q = upd r_breath f_size.toNatClampNeg (9 : Int32) := ⟨_, rfl⟩
    replace hm := hm y5 ey5
    have hP : va_P D vwCl [(h, .inr (5, [.ref q_people, .ref q_places, .ref q_breath, .ref q_rows, .ref q_seen, .ref q_ends, va_rf f_field, .int f_size, .int f_turn, .int f_yards, .int f_time, .int f_gap, .int f_far, .int f_flat])), (q_people, .inl (cL, 7, .inr (.inr (.inr (.inr y3))))), (q_places, .inl (cI, 7, .inl y4)), (q_breath, .inl (cI, 7, .inl y5)), (q_rows, .inl (cI, 21, .inl r_rows))] H := by rw [ey5]; exact hP
    have hD : va_D A [(h, .inr (5, [.ref q_people, .ref q_places, .ref q_breath, .ref q_rows, .ref q_seen, .ref q_ends, va_rf f_field, .int f_size, .int f_turn, .int f_yards, .int f_time, .int f_gap, .int f_far, .int f_flat])), (q_people, .inl (cL, 7, .inr (.inr (.inr (.inr y3))))), (q_places, .inl (cI, 7, .inl y4)), (q_breath, .inl (cI, 7, .inl y5)), (q_rows, .inl (cI, 21, .inl r_rows))] := by rw [ey5]; exact hD
    refine lv_iconst (v := (0 : Int32)) hx hb (dX5_join 23 rfl) (by decide) ?_
    refine lv_topi (fun x6 ex6 => ?_)
    replace hm := hm x6 ex6
    refine lv_istore_n (lv' := [(3, .int x6), (2, .int f_size), (0, .ref h), (1, .ref h1)]) hx hb (dX5_join 24 rfl) rfl hl (by decide) rfl (fun ls hl => ?_)
    obtain ⟨n10, hm⟩ := hm
    exact lab38 f_size y3 y4 y5 f_size n10 r_rows x6 H locs ls hP hD hS (lv_sub hl [2, 1, 0] rfl) hm
  replace hm := hm.2 c1
  refine lv_bipush (v := (-4 : Int32)) hx hb (dX5_join 6 rfl) (by decide) ?_
  exact hZ (-4 : Int32) (f_size, r_people, r_places, r_breath, r_rows) H locs ls 13 hm hP hD hS (dX5_join 7 rfl) rfl
abbrev rmX5_standAs : Room := { frames := 0, cells := 0, slots := 0, locals := 0 }
set_option maxHeartbeats 4000000 in
set_option maxRecDepth 100000 in
theorem k_X5_standAs (l : Launch) (D : va_G) (cI cZ cL : ClassId) (im : obIM) (sz : Nat) (h : Nat) (h1 : Nat) (q_people : Nat) (q_places : Nat) (q_breath : Nat) (q_rows : Nat) (q_seen : Nat) (q_ends : Nat) (f_field : Option Nat) (f_size : Int32) (f_turn : Int32) (f_yards : Int32) (f_time : Int32) (f_gap : Int32) (f_far : Int32) (f_flat : Int32) (r_places : Nat → Int32) (n1 : Nat) (r1 : Nat → Int32) (Q : (Nat → Int32) → Prop) (hm : m_X5_standAs n1 f_size r_places r1 Q) : Met l yX5_standAs (Cond.code yX5_standAs cX5_standAs 3 none :: wsL_law) rmX5_standAs (obPre D (tyG cI cZ cL) im [(h, .inr (5, [.ref q_people, .ref q_places, .ref q_breath, .ref q_rows, .ref q_seen, .ref q_ends, va_rf f_field, .int f_size, .int f_turn, .int f_yards, .int f_time, .int f_gap, .int f_far, .int f_flat])), (q_places, .inl (cI, 7, .inl r_places)), (h1, .inl (cI, n1, .inl r1))] sz [.ref h, .ref h1]) (va_Qv (fun (u : (Nat → Int32)) => Q u) (obB D (va_A [(h, .inr (5, [.ref q_people, .ref q_places, .ref q_breath, .ref q_rows, .ref q_seen, .ref q_ends, va_rf f_field, .int f_size, .int f_turn, .int f_yards, .int f_time, .int f_gap, .int f_far, .int f_flat])), (q_places, .inl (cI, 7, .inl r_places)), (h1, .inl (cI, n1, .inl r1))] sz) (fun u : (Nat → Int32) => [(h, .inr (5, [.ref q_people, .ref q_places, .ref q_breath, .ref q_rows, .ref q_seen, .ref q_ends, va_rf f_field, .int f_size, .int f_turn, .int f_yards, .int f_time, .int f_gap, .int f_far, .int f_flat])), (q_places, .inl (cI, 7, .inl u)), (h1, .inl (cI, n1, .inl r1))])) (va_A [(h, .inr (5, [.ref q_people, .ref q_places, .ref q_breath, .ref q_rows, .ref q_seen, .ref q_ends, va_rf f_field, .int f_size, .int f_turn, .int f_yards, .int f_time, .int f_gap, .int f_far, .int f_flat])), (q_places, .inl (cI, 7, .inl r_places)), (h1, .inl (cI, n1, .inl r1))] sz)) 0 0 (va_A [(h, .inr (5, [.ref q_people, .ref q_places, .ref q_breath, .ref q_rows, .ref q_seen, .ref q_ends, va_rf f_field, .int f_size, .int f_turn, .int f_yards, .int f_time, .int f_gap, .int f_far, .int f_flat])), (q_places, .inl (cI, 7, .inl r_places)), (h1, .inl (cI, n1, .inl r1))] sz) := by
  refine ob_met_v (cc := cX5_standAs) (maxL := 3) (by decide) (Nat.le_of_ble_eq_true rfl) (fun p e s m args below meth c A Z hx hb hml hown hts hnm hN hK hA hI hP hD hS hZ ls hl => ?_)
  have hl : lv_has ls 3 [(0, .ref h), (1, .ref h1)] := hl
  unfold m_X5_standAs at hm
  have lab2 : ∀ (n2 : Nat) (r_places_2 : Nat → Int32) (v2_2 : Int32) , ∀ (H : Heap) (locs : List Loc) (ls : Array Slot), va_P D vwCl [(h, .inr (5, [.ref q_people, .ref q_places, .ref q_breath, .ref q_rows, .ref q_seen, .ref q_ends, va_rf f_field, .int f_size, .int f_turn, .int f_yards, .int f_time, .int f_gap, .int f_far, .int f_flat])), (q_places, .inl (cI, 7, .inl r_places_2)), (h1, .inl (cI, n1, .inl r1))] H → va_D A [(h, .inr (5, [.ref q_people, .ref q_places, .ref q_breath, .ref q_rows, .ref q_seen, .ref q_ends, va_rf f_field, .int f_size, .int f_turn, .int f_yards, .int f_time, .int f_gap, .int f_far, .int f_flat])), (q_places, .inl (cI, 7, .inl r_places_2)), (h1, .inl (cI, n1, .inl r1))] → va_S A s.heap H locs → lv_has ls 3 [(0, .ref h), (1, .ref h1), (2, .int v2_2)] → m_X5_standAs_L2 n1 f_size r1 Q n2 r_places_2 v2_2 → W p l e rmX5_standAs s m args below meth c H locs 0 0 Z (F0 m 2 ls []) := by
    clear hm
    intro n2
    induction n2 with
    | zero =>
      intro r_places_2 v2_2 H locs ls hP hD hS hl hm
      exact hm.elim
    | succ n2 ih2 =>
      intro r_places_2 v2_2 H locs ls hP hD hS hl hm
      unfold m_X5_standAs_L2 at hm
      obtain ⟨K2, hK2⟩ : ∃ K : (Nat → Int32) → Int32 → Prop, K = m_X5_standAs_L2 n1 f_size r1 Q n2 := ⟨_, rfl⟩
      rw [← hK2] at hm ih2
      refine lv_iload_n hx hb (dX5_standAs 2 rfl) rfl (lv_at hl 2 rfl) ?_
      refine lv_aload_n hx hb (dX5_standAs 3 rfl) rfl (lv_at hl 0 rfl) ?_
      refine va_get (D := D) (ci := 5) (v := .int f_size) (C := RX5) (T := TX5) (N := 14) hx hb hts inlX5 hown hK hP 0 rfl rfl 7 (by decide) (hts (.fieldLink RX5 49 "OverBacks$Line" "size" "I") (inR15 _ (List.mem_of_getElem? (i := 23) rfl))) (fun _ h9 => h9) rfl (dX5_standAs 4 rfl) ?_
      refine lv_icmp_ge (tgt := 31) hx hb (dX5_standAs 5 rfl) (by decide) (fun c2 => ?_) (fun c2 => ?_)
      · replace hm := hm.1 c2
        exact hZ r_places_2 H locs ls 31 hm hP hD hS (dX5_standAs 19 rfl)
      replace hm := hm.2 c2
      refine lv_iload_n hx hb (dX5_standAs 6 rfl) rfl (lv_at hl 2 rfl) ?_
      refine lv_aload_n hx hb (dX5_standAs 7 rfl) rfl (lv_at hl 1 rfl) ?_
      refine va_alen (v := nI n1) hx hb hK hP 2 0 rfl rfl rfl (dX5_standAs 8 rfl) ?_
      refine lv_icmp_ge (tgt := 31) hx hb (dX5_standAs 9 rfl) (by decide) (fun c3 => ?_) (fun c3 => ?_)
      · replace hm := hm.1 c3
        exact hZ r_places_2 H locs ls 31 hm hP hD hS (dX5_standAs 19 rfl)
      replace hm := hm.2 c3
      refine lv_aload_n hx hb (dX5_standAs 10 rfl) rfl (lv_at hl 0 rfl) ?_
      refine va_get (D := D) (ci := 5) (v := .ref q_places) (C := RX5) (T := TX5) (N := 14) hx hb hts inlX5 hown hK hP 0 rfl rfl 1 (by decide) (hts (.fieldLink RX5 17 "OverBacks$Line" "places" "[I") (inR2 _ (List.mem_of_getElem? (i := 21) rfl))) (fun _ h9 => h9) rfl (dX5_standAs 11 rfl) ?_
      refine lv_iload_n hx hb (dX5_standAs 12 rfl) rfl (lv_at hl 2 rfl) ?_
      refine lv_aload_n hx hb (dX5_standAs 13 rfl) rfl (lv_at hl 1 rfl) ?_
      refine lv_iload_n hx hb (dX5_standAs 14 rfl) rfl (lv_at hl 2 rfl) ?_
      refine va_iald hx hb hK hP 2 0 rfl rfl hm.1 (dX5_standAs 15 rfl) ?_
      replace hm := hm.2
      refine va_iast hx hb hK hP hD hS 1 0 rfl rfl hm.1 (dX5_standAs 16 rfl) (fun H locs hP hD hS => ?_)
      replace hm := hm.2
      obtain ⟨y4, ey4⟩ : ∃ q : Nat → Int32, q = upd r_places_2 v2_2.toNatClampNeg (r1 v2_2.toNatClampNeg) := ⟨_, rfl⟩
      replace hm := hm y4 ey4
      have hP : va_P D vwCl [(h, .inr (5, [.ref q_people, .ref q_places, .ref q_breath, .ref q_rows, .ref q_seen, .ref q_ends, va_rf f_field, .int f_size, .int f_turn, .int f_yards, .int f_time, .int f_gap, .int f_far, .int f_flat])), (q_places, .inl (cI, 7, .inl y4)), (h1, .inl (cI, n1, .inl r1))] H := by rw [ey4]; exact hP
      have hD : va_D A [(h, .inr (5, [.ref q_people, .ref q_places, .ref q_breath, .ref q_rows, .ref q_seen, .ref q_ends, va_rf f_field, .int f_size, .int f_turn, .int f_yards, .int f_time, .int f_gap, .int f_far, .int f_flat])), (q_places, .inl (cI, 7, .inl y4)), (h1, .inl (cI, n1, .inl r1))] := by rw [ey4]; exact hD
      obtain ⟨x5, ex5⟩ : ∃ y : Int32, y = v2_2 + 1 := ⟨_, rfl⟩
      replace hm := hm x5 ex5
      refine lv_iinc (v := x5) (lv' := [(2, .int x5), (0, .ref h), (1, .ref h1)]) hx hb (dX5_standAs 17 rfl) hl (k := 2) rfl (by rw [ex5]; rfl) (by decide) rfl (fun ls hl => ?_)
      refine lv_goto (tgt := 2) hx hb (dX5_standAs 18 rfl) (by decide) ?_
      exact ih2 y4 x5 H locs ls hP hD hS (lv_sub hl [1, 2, 0] rfl) hm
  obtain ⟨H, hH⟩ : ∃ H, H = s.heap := ⟨_, rfl⟩
  obtain ⟨locs, hlo⟩ : ∃ q : List Loc, q = [] := ⟨_, rfl⟩
  suffices hgo : W p l e rmX5_standAs s m args below meth c H locs 0 0 Z (F0 m 0 ls []) by rw [hH, hlo] at hgo; exact hgo
  have hP : va_P D vwCl [(h, .inr (5, [.ref q_people, .ref q_places, .ref q_breath, .ref q_rows, .ref q_seen, .ref q_ends, va_rf f_field, .int f_size, .int f_turn, .int f_yards, .int f_time, .int f_gap, .int f_far, .int f_flat])), (q_places, .inl (cI, 7, .inl r_places)), (h1, .inl (cI, n1, .inl r1))] H := by rw [hH]; exact hP
  have hD : va_D A [(h, .inr (5, [.ref q_people, .ref q_places, .ref q_breath, .ref q_rows, .ref q_seen, .ref q_ends, va_rf f_field, .int f_size, .int f_turn, .int f_yards, .int f_time, .int f_gap, .int f_far, .int f_flat])), (q_places, .inl (cI, 7, .inl r_places)), (h1, .inl (cI, n1, .inl r1))] := hD
  have hS : va_S A s.heap H locs := by rw [hH, hlo]; exact hS
  refine lv_iconst (v := (0 : Int32)) hx hb (dX5_standAs 0 rfl) (by decide) ?_
  refine lv_topi (fun x1 ex1 => ?_)
  replace hm := hm x1 ex1
  refine lv_istore_n (lv' := [(2, .int x1), (0, .ref h), (1, .ref h1)]) hx hb (dX5_standAs 1 rfl) rfl hl (by decide) rfl (fun ls hl => ?_)
  obtain ⟨n6, hm⟩ := hm
  exact lab2 n6 r_places x1 H locs ls hP hD hS (lv_sub hl [1, 2, 0] rfl) hm
