

abbrev rmX1_sum : Room := { frames := 2, cells := 0, slots := 0, locals := 49 }
set_option maxHeartbeats 4000000 in
set_option maxRecDepth 100000 in
theorem k_X1_sum (l : Launch) (D : va_G) (cI cZ cL : ClassId) (im : obIM) (fk : Nat → Option ((Nat → Int32) × (Nat → Int32) × (Nat → Int32) × (Nat → Int32) × (Nat → Int32) × Int32)) (hfk : obFK cI im fk) (sz : Nat) (h : Nat) (h2 : Nat) (n2 : Nat) (r2 : Nat → Int32) (a1 : Int32) (Q : Int32 → Prop) (hm : m_X1_sum fk n2 r2 h a1 Q) : Met l yX1_sum (Cond.code yX1_sum cX1_sum 5 (some .int) :: wsL_law) rmX1_sum (obPre D (tyG cI cZ cL) im [(h2, .inl (cI, n2, .inl r2))] sz [.ref h, .int a1, .ref h2]) (va_Qi (fun (r : Int32) (u : Unit) => Q r) (obB D (va_A [(h2, .inl (cI, n2, .inl r2))] sz) (fun _ : Unit => [(h2, .inl (cI, n2, .inl r2))])) (va_A [(h2, .inl (cI, n2, .inl r2))] sz)) 0 0 (va_A [(h2, .inl (cI, n2, .inl r2))] sz) := by
  refine ob_met_i (cc := cX1_sum) (maxL := 5) (by decide) (Nat.le_of_ble_eq_true rfl) (fun p e s m args below meth c A Z hx hb hml hown hts hnm hN hK hA hI hP hD hS hZ ls hl => ?_)
  have hl : lv_has ls 5 [(0, .ref h), (1, .int a1), (2, .ref h2)] := hl
  unfold m_X1_sum at hm
  obtain ⟨fst, fwo, fnu, fsa, fen, fcl, efk, hm⟩ := hm
  obtain ⟨g0, g1, g2, g3, g4, g5, gpl, gsc, gga, gfa, gk0, gk1, gk2, gk3, gk4, gk5, hg0, hg1, hg2, hg3, hg4, hg5⟩ := hfk _ _ _ _ _ _ _ efk
  have lab5 : ∀ (n5 : Nat) (v3_5 : Int32) (v4_5 : Int32) , ∀ (H : Heap) (locs : List Loc) (ls : Array Slot), va_P D vwCl [(h2, .inl (cI, n2, .inl r2))] H → va_D A [(h2, .inl (cI, n2, .inl r2))] → va_S A s.heap H locs → lv_has ls 5 [(0, .ref h), (1, .int a1), (2, .ref h2), (3, .int v3_5), (4, .int v4_5)] → m_X1_sum_L5 n2 fk r2 fst fwo fnu fsa fen fcl h a1 Q n5 v3_5 v4_5 → W p l e rmX1_sum s m args below meth c H locs 0 0 Z (F0 m 5 ls []) := by
    clear hm
    intro n5
    induction n5 with
    | zero =>
      intro v3_5 v4_5 H locs ls hP hD hS hl hm
      exact hm.elim
    | succ n5 ih5 =>
      intro v3_5 v4_5 H locs ls hP hD hS hl hm
      unfold m_X1_sum_L5 at hm
      obtain ⟨K5, hK5⟩ : ∃ K : Int32 → Int32 → Prop, K = m_X1_sum_L5 n2 fk r2 fst fwo fnu fsa fen fcl h a1 Q n5 := ⟨_, rfl⟩
      rw [← hK5] at hm ih5
      have lab57 : ∀ (v3_57 : Int32) (v4_57 : Int32) , ∀ (H : Heap) (locs : List Loc) (ls : Array Slot), va_P D vwCl [(h2, .inl (cI, n2, .inl r2))] H → va_D A [(h2, .inl (cI, n2, .inl r2))] → va_S A s.heap H locs → lv_has ls 5 [(0, .ref h), (1, .int a1), (2, .ref h2), (3, .int v3_57), (4, .int v4_57)] → m_X1_sum_L57 n2 fk r2 fst fwo fnu fsa fen fcl h a1 v3_57 v4_57 K5 Q → W p l e rmX1_sum s m args below meth c H locs 0 0 Z (F0 m 57 ls []) := by
        clear hm
        intro v3_57 v4_57 H locs ls hP hD hS hl hm
        unfold m_X1_sum_L57 at hm
        obtain ⟨x5, ex5⟩ : ∃ y : Int32, y = v4_57 + 1 := ⟨_, rfl⟩
        replace hm := hm x5 ex5
        refine lv_iinc (v := x5) (lv' := [(4, .int x5), (0, .ref h), (1, .int a1), (2, .ref h2), (3, .int v3_57)]) hx hb (dX1_sum 33 rfl) hl (k := 4) rfl (by rw [ex5]; rfl) (by decide) rfl (fun ls hl => ?_)
        refine lv_goto (tgt := 5) hx hb (dX1_sum 34 rfl) (by decide) ?_
        exact ih5 v3_57 x5 H locs ls hP hD hS (lv_sub hl [1, 2, 3, 4, 0] rfl) hm
      refine lv_iload hx hb (dX1_sum 4 rfl) (lv_at hl 4 rfl) ?_
      refine lv_aload_n hx hb (dX1_sum 5 rfl) rfl (lv_at hl 0 rfl) ?_
      refine va_get (D := D) (ci := 1) (v := .int fcl) (C := RX1) (T := TX1) (N := 11) hx hb hts inlX1 hown hK (hI.now hS) gk0 hg0 rfl 8 (by decide) (hts (.fieldLink RX1 67 "OverBacks$Field" "clauses" "I") (inR6 _ (List.mem_of_getElem? (i := 7) rfl))) (fun _ h9 => h9) rfl (dX1_sum 6 rfl) ?_
      refine lv_icmp_ge (tgt := 63) hx hb (dX1_sum 7 rfl) (by decide) (fun c3 => ?_) (fun c3 => ?_)
      · replace hm := hm.1 c3
        refine lv_iload_n hx hb (dX1_sum 35 rfl) rfl (lv_at hl 3 rfl) ?_
        exact hZ v3_5 () H locs ls 64 hm hP hD hS (dX1_sum 36 rfl) rfl
      replace hm := hm.2 c3
      refine lv_aload_n hx hb (dX1_sum 8 rfl) rfl (lv_at hl 0 rfl) ?_
      refine va_get (D := D) (ci := 1) (v := .ref g2) (C := RX1) (T := TX1) (N := 11) hx hb hts inlX1 hown hK (hI.now hS) gk0 hg0 rfl 2 (by decide) (hts (.fieldLink RX1 19 "OverBacks$Field" "words" "[I") (inR5 _ (List.mem_of_getElem? (i := 15) rfl))) (fun _ h9 => h9) rfl (dX1_sum 9 rfl) ?_
      refine lv_iload hx hb (dX1_sum 10 rfl) (lv_at hl 4 rfl) ?_
      refine va_iald hx hb hK (hI.now hS) gk2 0 hg2 rfl hm.1 (dX1_sum 11 rfl) ?_
      replace hm := hm.2
      refine lv_iload_n hx hb (dX1_sum 12 rfl) rfl (lv_at hl 1 rfl) ?_
      refine lv_icmp_ne (tgt := 57) hx hb (dX1_sum 13 rfl) (by decide) (fun c4 => ?_) (fun c4 => ?_)
      · replace hm := hm.2 c4
        exact lab57 v3_5 v4_5 H locs ls hP hD hS (lv_sub hl [0, 1, 2, 3, 4] rfl) hm
      replace hm := hm.1 c4
      refine lv_aload_n hx hb (dX1_sum 14 rfl) rfl (lv_at hl 0 rfl) ?_
      refine lv_aload_n hx hb (dX1_sum 15 rfl) rfl (lv_at hl 0 rfl) ?_
      refine va_get (D := D) (ci := 1) (v := .ref g4) (C := RX1) (T := TX1) (N := 11) hx hb hts inlX1 hown hK (hI.now hS) gk0 hg0 rfl 4 (by decide) (hts (.fieldLink RX1 25 "OverBacks$Field" "starts" "[I") (inR5 _ (List.mem_of_getElem? (i := 17) rfl))) (fun _ h9 => h9) rfl (dX1_sum 16 rfl) ?_
      refine lv_iload hx hb (dX1_sum 17 rfl) (lv_at hl 4 rfl) ?_
      refine va_iald hx hb hK (hI.now hS) gk4 0 hg4 rfl hm.1 (dX1_sum 18 rfl) ?_
      replace hm := hm.2
      refine lv_aload_n hx hb (dX1_sum 19 rfl) rfl (lv_at hl 0 rfl) ?_
      refine va_get (D := D) (ci := 1) (v := .ref g5) (C := RX1) (T := TX1) (N := 11) hx hb hts inlX1 hown hK (hI.now hS) gk0 hg0 rfl 5 (by decide) (hts (.fieldLink RX1 28 "OverBacks$Field" "ends" "[I") (inR5 _ (List.mem_of_getElem? (i := 18) rfl))) (fun _ h9 => h9) rfl (dX1_sum 20 rfl) ?_
      refine lv_iload hx hb (dX1_sum 21 rfl) (lv_at hl 4 rfl) ?_
      refine va_iald hx hb hK (hI.now hS) gk5 0 hg5 rfl hm.1 (dX1_sum 22 rfl) ?_
      replace hm := hm.2
      refine lv_aload_n hx hb (dX1_sum 23 rfl) rfl (lv_at hl 2 rfl) ?_
      have hcut := ob_cut (wc := [(h2, .inl (cI, n2, .inl r2))]) hP hD hS hA [0] rfl (by decide)
      refine ob_i (wr := []) (ob_V (As := [.int (fsa v4_5.toNatClampNeg), .int (fen v4_5.toNatClampNeg), .ref h2]) (rest := []) ⟨hx, hb, hml, hown, hts⟩ hK hcut (hI.cut hS hcut.2.2) hN (va_recv hK (hI.now hS) (ci := 1) (q0 := gk0) rfl hg0) (k_X1_holds l D cI cZ cL im fk hfk _ _ _ _ _ _ _ _ hm) (cwV 3 hts (gU_V (inR23 _ (List.mem_of_getElem? (i := 13) rfl)) (inR23 _ (List.mem_of_getElem? (i := 14) rfl)) (inR23 _ (List.mem_of_getElem? (i := 15) rfl)) (inR5 _ (List.mem_of_getElem? (i := 8) rfl)) (inR23 _ (List.mem_of_getElem? (i := 16) rfl))) rfl rfl rfl (by decide +kernel) ⟨Nat.le_of_ble_eq_true rfl, Nat.le_of_ble_eq_true rfl⟩) rfl hl.1 rfl (Nat.le_of_ble_eq_true rfl) (dX1_sum 24 rfl) ⟨Nat.zero_le _, Nat.zero_le _⟩) hP hD hS hcut [0] [] rfl rfl (by decide) (by decide) (fun r6 u7 H locs hm hP hD hS => ?_)
      have hP := hP.sub (ws' := [(h2, .inl (cI, n2, .inl r2))]) [0] rfl
      have hD := hD.sub (ws' := [(h2, .inl (cI, n2, .inl r2))]) [0] (by decide) rfl
      refine lv_if_eq (tgt := 57) hx hb (dX1_sum 25 rfl) (by decide) (fun c8 => ?_) (fun c8 => ?_)
      · replace hm := hm.1 c8
        exact lab57 v3_5 v4_5 H locs ls hP hD hS (lv_sub hl [0, 1, 2, 3, 4] rfl) hm
      replace hm := hm.2 c8
      refine lv_iload_n hx hb (dX1_sum 26 rfl) rfl (lv_at hl 3 rfl) ?_
      refine lv_aload_n hx hb (dX1_sum 27 rfl) rfl (lv_at hl 0 rfl) ?_
      refine va_get (D := D) (ci := 1) (v := .ref g3) (C := RX1) (T := TX1) (N := 11) hx hb hts inlX1 hown hK (hI.now hS) gk0 hg0 rfl 3 (by decide) (hts (.fieldLink RX1 22 "OverBacks$Field" "numbers" "[I") (inR5 _ (List.mem_of_getElem? (i := 16) rfl))) (fun _ h9 => h9) rfl (dX1_sum 28 rfl) ?_
      refine lv_iload hx hb (dX1_sum 29 rfl) (lv_at hl 4 rfl) ?_
      refine va_iald hx hb hK (hI.now hS) gk3 0 hg3 rfl hm.1 (dX1_sum 30 rfl) ?_
      replace hm := hm.2
      refine lv_iadd hx hb (dX1_sum 31 rfl) ?_
      refine lv_topi (fun x9 ex9 => ?_)
      replace hm := hm x9 ex9
      refine lv_istore_n (lv' := [(3, .int x9), (0, .ref h), (1, .int a1), (2, .ref h2), (4, .int v4_5)]) hx hb (dX1_sum 32 rfl) rfl hl (by decide) rfl (fun ls hl => ?_)
      exact lab57 x9 v4_5 H locs ls hP hD hS (lv_sub hl [1, 2, 3, 0, 4] rfl) hm
  obtain ⟨H, hH⟩ : ∃ H, H = s.heap := ⟨_, rfl⟩
  obtain ⟨locs, hlo⟩ : ∃ q : List Loc, q = [] := ⟨_, rfl⟩
  suffices hgo : W p l e rmX1_sum s m args below meth c H locs 0 0 Z (F0 m 0 ls []) by rw [hH, hlo] at hgo; exact hgo
  have hP : va_P D vwCl [(h2, .inl (cI, n2, .inl r2))] H := by rw [hH]; exact hP
  have hD : va_D A [(h2, .inl (cI, n2, .inl r2))] := hD
  have hS : va_S A s.heap H locs := by rw [hH, hlo]; exact hS
  refine lv_iconst (v := (0 : Int32)) hx hb (dX1_sum 0 rfl) (by decide) ?_
  refine lv_topi (fun x1 ex1 => ?_)
  replace hm := hm x1 ex1
  refine lv_istore_n (lv' := [(3, .int x1), (0, .ref h), (1, .int a1), (2, .ref h2)]) hx hb (dX1_sum 1 rfl) rfl hl (by decide) rfl (fun ls hl => ?_)
  refine lv_iconst (v := (0 : Int32)) hx hb (dX1_sum 2 rfl) (by decide) ?_
  refine lv_topi (fun x2 ex2 => ?_)
  replace hm := hm x2 ex2
  refine lv_istore (lv' := [(4, .int x2), (3, .int x1), (0, .ref h), (1, .int a1), (2, .ref h2)]) hx hb (dX1_sum 3 rfl) hl (by decide) rfl (fun ls hl => ?_)
  obtain ⟨n10, hm⟩ := hm
  exact lab5 n10 x1 x2 H locs ls hP hD hS (lv_sub hl [2, 3, 4, 1, 0] rfl) hm
abbrev rmX2_isUnder : Room := { frames := 2, cells := 0, slots := 0, locals := 42 }
set_option maxHeartbeats 4000000 in
set_option maxRecDepth 100000 in
theorem k_X2_isUnder (l : Launch) (D : va_G) (cI cZ cL : ClassId) (im : obIM) (lk : Nat → Option (Nat × Int32 × Int32 × Int32)) (hlk : obLK im lk) (sz : Nat) (h : Nat) (a1 : Int32) (Q : Int32 → Prop) (hm : m_X2_isUnder lk h a1 Q) : Met l yX2_isUnder (Cond.code yX2_isUnder cX2_isUnder 2 (some .boolean) :: wsL_law) rmX2_isUnder (obPre D (tyG cI cZ cL) im [] sz [.ref h, .int a1]) (va_Qi (fun (r : Int32) (u : Unit) => Q r) (obB D (va_A [] sz) (fun _ : Unit => [])) (va_A [] sz)) 0 0 (va_A [] sz) := by
  refine ob_met_i (cc := cX2_isUnder) (maxL := 2) (by decide) (Nat.le_of_ble_eq_true rfl) (fun p e s m args below meth c A Z hx hb hml hown hts hnm hN hK hA hI hP hD hS hZ ls hl => ?_)
  have hl : lv_has ls 2 [(0, .ref h), (1, .int a1)] := hl
  unfold m_X2_isUnder at hm
  obtain ⟨H, hH⟩ : ∃ H, H = s.heap := ⟨_, rfl⟩
  obtain ⟨locs, hlo⟩ : ∃ q : List Loc, q = [] := ⟨_, rfl⟩
  suffices hgo : W p l e rmX2_isUnder s m args below meth c H locs 0 0 Z (F0 m 0 ls []) by rw [hH, hlo] at hgo; exact hgo
  have hP : va_P D vwCl [] H := by rw [hH]; exact hP
  have hD : va_D A [] := hD
  have hS : va_S A s.heap H locs := by rw [hH, hlo]; exact hS
  refine lv_iload_n hx hb (dX2_isUnder 0 rfl) rfl (lv_at hl 1 rfl) ?_
  refine lv_iconst (v := (5 : Int32)) hx hb (dX2_isUnder 1 rfl) (by decide) ?_
  refine lv_icmp_eq (tgt := 13) hx hb (dX2_isUnder 2 rfl) (by decide) (fun c1 => ?_) (fun c1 => ?_)
  · replace hm := hm.1 c1
    refine lv_iconst (v := (1 : Int32)) hx hb (dX2_isUnder 7 rfl) (by decide) ?_
    refine lv_goto (tgt := 18) hx hb (dX2_isUnder 8 rfl) (by decide) ?_
    exact hZ (1 : Int32) () H locs ls 18 hm hP hD hS (dX2_isUnder 10 rfl) rfl
  replace hm := hm.2 c1
  refine lv_aload_n hx hb (dX2_isUnder 3 rfl) rfl (lv_at hl 0 rfl) ?_
  refine lv_iload_n hx hb (dX2_isUnder 4 rfl) rfl (lv_at hl 1 rfl) ?_
  obtain ⟨d4, n4, v4, t4, e4, hm⟩ := hm
  obtain ⟨hc4, k4, hk4⟩ := hlk _ _ _ _ _ e4
  obtain ⟨w4, hw4⟩ := obK_cl hc4
  have hcut := ob_cut (wc := []) hP hD hS hA [] rfl (by decide)
  refine ob_i (wr := []) (ob_SU (n := 1) (x := (⟨"OverBacks$High", "isUnder", "(I)Z"⟩ : MethodName)) (owner := "OverBacks$High") (C := w4.1) (As := [.int a1]) (rest := []) (hK.1 d4 w4 hw4).2 ⟨hx, hb, hml, hown, hts⟩ hK hcut (hI.cut hS hcut.2.2) hN (va_recv hK (hI.now hS) hw4 hk4) (k_X3_isUnder l D cI cZ cL im lk hlk _ _ _ _ hm) (inR41 _ (List.mem_of_getElem? (i := 17) rfl)) (inR41 _ (List.mem_of_getElem? (i := 18) rfl)) (inR41 _ (List.mem_of_getElem? (i := 19) rfl)) (inR41 _ (List.mem_of_getElem? (i := 20) rfl)) (inR13 _ (List.mem_of_getElem? (i := 20) rfl)) (inR41 _ (List.mem_of_getElem? (i := 21) rfl)) (Or.inl rfl) (by decide +kernel) rfl rfl ⟨Nat.le_of_ble_eq_true rfl, Nat.le_of_ble_eq_true rfl⟩ rfl hl.1 rfl (Nat.le_of_ble_eq_true rfl) (dX2_isUnder 5 rfl) ⟨Nat.zero_le _, Nat.zero_le _⟩) hP hD hS hcut [] [] rfl rfl (by decide) (by decide) (fun r2 u3 H locs hm hP hD hS => ?_)
  have hP := hP.sub (ws' := []) [] rfl
  have hD := hD.sub (ws' := []) [] (by decide) rfl
  refine lv_if_eq (tgt := 17) hx hb (dX2_isUnder 6 rfl) (by decide) (fun c5 => ?_) (fun c5 => ?_)
  · replace hm := hm.1 c5
    refine lv_iconst (v := (0 : Int32)) hx hb (dX2_isUnder 9 rfl) (by decide) ?_
    exact hZ (0 : Int32) () H locs ls 18 hm hP hD hS (dX2_isUnder 10 rfl) rfl
  replace hm := hm.2 c5
  refine lv_iconst (v := (1 : Int32)) hx hb (dX2_isUnder 7 rfl) (by decide) ?_
  refine lv_goto (tgt := 18) hx hb (dX2_isUnder 8 rfl) (by decide) ?_
  exact hZ (1 : Int32) () H locs ls 18 hm hP hD hS (dX2_isUnder 10 rfl) rfl
abbrev rmX2_runs : Room := { frames := 2, cells := 0, slots := 0, locals := 43 }
set_option maxHeartbeats 4000000 in
set_option maxRecDepth 100000 in
theorem k_X2_runs (l : Launch) (D : va_G) (cI cZ cL : ClassId) (im : obIM) (lk : Nat → Option (Nat × Int32 × Int32 × Int32)) (hlk : obLK im lk) (sz : Nat) (h : Nat) (h2 : Nat) (q2_items : Nat) (f2_size : Int32) (f2_came : Int32) (n2_items : Nat) (r2_items : Nat → Int32) (a1 : Int32) (Q : Int32 → Int32 → Int32 → (Nat → Int32) → Prop) (hm : m_X2_runs lk n2_items f2_size f2_came r2_items h a1 Q) : Met l yX2_runs (Cond.code yX2_runs cX2_runs 3 (some .int) :: wsL_law) rmX2_runs (obPre D (tyG cI cZ cL) im [(h2, .inr (7, [.ref q2_items, .int f2_size, .int f2_came])), (q2_items, .inl (cI, n2_items, .inl r2_items))] sz [.ref h, .int a1, .ref h2]) (va_Qi (fun (r : Int32) (u : Int32 × Int32 × (Nat → Int32)) => Q r u.1 u.2.1 u.2.2) (obB D (va_A [(h2, .inr (7, [.ref q2_items, .int f2_size, .int f2_came])), (q2_items, .inl (cI, n2_items, .inl r2_items))] sz) (fun u : Int32 × Int32 × (Nat → Int32) => [(h2, .inr (7, [.ref q2_items, .int u.1, .int u.2.1])), (q2_items, .inl (cI, n2_items, .inl u.2.2))])) (va_A [(h2, .inr (7, [.ref q2_items, .int f2_size, .int f2_came])), (q2_items, .inl (cI, n2_items, .inl r2_items))] sz)) 0 0 (va_A [(h2, .inr (7, [.ref q2_items, .int f2_size, .int f2_came])), (q2_items, .inl (cI, n2_items, .inl r2_items))] sz) := by
  refine ob_met_i (cc := cX2_runs) (maxL := 3) (by decide) (Nat.le_of_ble_eq_true rfl) (fun p e s m args below meth c A Z hx hb hml hown hts hnm hN hK hA hI hP hD hS hZ ls hl => ?_)
  have hl : lv_has ls 3 [(0, .ref h), (1, .int a1), (2, .ref h2)] := hl
  unfold m_X2_runs at hm
  obtain ⟨H, hH⟩ : ∃ H, H = s.heap := ⟨_, rfl⟩
  obtain ⟨locs, hlo⟩ : ∃ q : List Loc, q = [] := ⟨_, rfl⟩
  suffices hgo : W p l e rmX2_runs s m args below meth c H locs 0 0 Z (F0 m 0 ls []) by rw [hH, hlo] at hgo; exact hgo
  have hP : va_P D vwCl [(h2, .inr (7, [.ref q2_items, .int f2_size, .int f2_came])), (q2_items, .inl (cI, n2_items, .inl r2_items))] H := by rw [hH]; exact hP
  have hD : va_D A [(h2, .inr (7, [.ref q2_items, .int f2_size, .int f2_came])), (q2_items, .inl (cI, n2_items, .inl r2_items))] := hD
  have hS : va_S A s.heap H locs := by rw [hH, hlo]; exact hS
  refine lv_aload_n hx hb (dX2_runs 0 rfl) rfl (lv_at hl 2 rfl) ?_
  refine lv_bipush (v := (51 : Int32)) hx hb (dX2_runs 1 rfl) (by decide) ?_
  have hcut := ob_cut (wc := [(h2, .inr (7, [.ref q2_items, .int f2_size, .int f2_came])), (q2_items, .inl (cI, n2_items, .inl r2_items))]) hP hD hS hA [0, 1] rfl (by decide)
  refine ob_i (wr := []) (ob_V (As := [.int (51 : Int32)]) (rest := []) ⟨hx, hb, hml, hown, hts⟩ hK hcut (hI.cut hS hcut.2.2) hN (va_recv hK hP (ci := 7) (q0 := 0) rfl rfl) (k_X7_add l D cI cZ cL im _ _ _ _ _ _ _ _ _ hm) (cwV 1 hts (gU_V (inR36 _ (List.mem_of_getElem? (i := 11) rfl)) (inR4 _ (List.mem_of_getElem? (i := 14) rfl)) (inR4 _ (List.mem_of_getElem? (i := 15) rfl)) (inR1 _ (List.mem_of_getElem? (i := 23) rfl)) (inR4 _ (List.mem_of_getElem? (i := 16) rfl))) rfl rfl rfl (by decide +kernel) ⟨Nat.le_of_ble_eq_true rfl, Nat.le_of_ble_eq_true rfl⟩) rfl hl.1 rfl (Nat.le_of_ble_eq_true rfl) (dX2_runs 2 rfl) ⟨Nat.zero_le _, Nat.zero_le _⟩) hP hD hS hcut [0, 1] [] rfl rfl (by decide) (by decide) (fun r1 u2 H locs hm hP hD hS => ?_)
  have hP := hP.sub (ws' := [(h2, .inr (7, [.ref q2_items, .int u2.1, .int u2.2.1])), (q2_items, .inl (cI, n2_items, .inl u2.2.2))]) [0, 1] rfl
  have hD := hD.sub (ws' := [(h2, .inr (7, [.ref q2_items, .int u2.1, .int u2.2.1])), (q2_items, .inl (cI, n2_items, .inl u2.2.2))]) [0, 1] (by decide) rfl
  refine lv_pop hx hb (dX2_runs 3 rfl) rfl ?_
  refine lv_aload_n hx hb (dX2_runs 4 rfl) rfl (lv_at hl 0 rfl) ?_
  refine lv_iload_n hx hb (dX2_runs 5 rfl) rfl (lv_at hl 1 rfl) ?_
  refine lv_aload_n hx hb (dX2_runs 6 rfl) rfl (lv_at hl 2 rfl) ?_
  obtain ⟨d11, n11, v11, t11, e11, hm⟩ := hm
  obtain ⟨hc11, k11, hk11⟩ := hlk _ _ _ _ _ e11
  obtain ⟨w11, hw11⟩ := obK_cl hc11
  have hcut := ob_cut (wc := [(h2, .inr (7, [.ref q2_items, .int u2.1, .int u2.2.1])), (q2_items, .inl (cI, n2_items, .inl u2.2.2))]) hP hD hS hA [0, 1] rfl (by decide)
  refine ob_i (wr := []) (ob_SU (n := 2) (x := (⟨"OverBacks$High", "runs", "(ILOverBacks$Numbers;)I"⟩ : MethodName)) (owner := "OverBacks$Leaper") (C := w11.1) (As := [.int a1, .ref h2]) (rest := []) (hK.1 d11 w11 hw11).2 ⟨hx, hb, hml, hown, hts⟩ hK hcut (hI.cut hS hcut.2.2) hN (va_recv hK (hI.now hS) hw11 hk11) (k_X4_runs l D cI cZ cL im lk hlk _ _ _ _ _ _ _ _ _ _ hm) (inR0 _ (List.mem_of_getElem? (i := 3) rfl)) (inR0 _ (List.mem_of_getElem? (i := 4) rfl)) (inR41 _ (List.mem_of_getElem? (i := 19) rfl)) (inR36 _ (List.mem_of_getElem? (i := 2) rfl)) (inR14 _ (List.mem_of_getElem? (i := 11) rfl)) (inR36 _ (List.mem_of_getElem? (i := 3) rfl)) (Or.inr (inR37 _ (List.mem_of_getElem? (i := 12) rfl))) (by decide +kernel) rfl rfl ⟨Nat.le_of_ble_eq_true rfl, Nat.le_of_ble_eq_true rfl⟩ rfl hl.1 rfl (Nat.le_of_ble_eq_true rfl) (dX2_runs 7 rfl) ⟨Nat.zero_le _, Nat.zero_le _⟩) hP hD hS hcut [0, 1] [] rfl rfl (by decide) (by decide) (fun r6 u7 H locs hm hP hD hS => ?_)
  have hP := hP.sub (ws' := [(h2, .inr (7, [.ref q2_items, .int u7.1, .int u7.2.1])), (q2_items, .inl (cI, n2_items, .inl u7.2.2))]) [0, 1] rfl
  have hD := hD.sub (ws' := [(h2, .inr (7, [.ref q2_items, .int u7.1, .int u7.2.1])), (q2_items, .inl (cI, n2_items, .inl u7.2.2))]) [0, 1] (by decide) rfl
  refine lv_aload_n hx hb (dX2_runs 8 rfl) rfl (lv_at hl 0 rfl) ?_
  obtain ⟨d12, n12, v12, t12, e12, hm⟩ := hm
  obtain ⟨hc12, k12, hk12⟩ := hlk _ _ _ _ _ e12
  refine ob_getL hx hb hts hown hK (hI.now hS) hc12 hk12 (j := 0) (by decide) rfl (hts (.fieldLink RX2 28 "OverBacks$Heavy" "number" "I") (inR36 _ (List.mem_of_getElem? (i := 9) rfl))) (u_same (hts (.sameField "OverBacks$Heavy" "OverBacks$Leaper" "number" "I") (inR36 _ (List.mem_of_getElem? (i := 10) rfl)))) (dX2_runs 9 rfl) ?_
  refine lv_ixor hx hb (dX2_runs 10 rfl) ?_
  exact hZ (r6 ^^^ n12) (u7.1, u7.2.1, u7.2.2) H locs ls 18 hm hP hD hS (dX2_runs 11 rfl) rfl
abbrev rmX5_leapTime : Room := { frames := 3, cells := 0, slots := 0, locals := 73 }
set_option maxHeartbeats 4000000 in
set_option maxRecDepth 100000 in
theorem k_X5_leapTime (l : Launch) (D : va_G) (cI cZ cL : ClassId) (im : obIM) (lk : Nat → Option (Nat × Int32 × Int32 × Int32)) (fk : Nat → Option ((Nat → Int32) × (Nat → Int32) × (Nat → Int32) × (Nat → Int32) × (Nat → Int32) × Int32)) (hlk : obLK im lk) (hfk : obFK cI im fk) (sz : Nat) (h : Nat) (q_people : Nat) (q_places : Nat) (q_breath : Nat) (q_rows : Nat) (q_seen : Nat) (q_ends : Nat) (f_field : Option Nat) (f_size : Int32) (f_turn : Int32) (f_yards : Int32) (f_time : Int32) (f_gap : Int32) (f_far : Int32) (f_flat : Int32) (r_people : Nat → Option Nat) (r_breath : Nat → Int32) (r_rows : Nat → Int32) (r_seen : Nat → Int32) (a1 : Int32) (a2 : Int32) (Q : Int32 → (Nat → Int32) → Prop) (hm : m_X5_leapTime lk fk f_field f_turn f_gap f_flat r_people r_breath r_rows r_seen a1 a2 Q) : Met l yX5_leapTime (Cond.code yX5_leapTime cX5_leapTime 6 (some .int) :: wsL_law) rmX5_leapTime (obPre D (tyG cI cZ cL) im [(h, .inr (5, [.ref q_people, .ref q_places, .ref q_breath, .ref q_rows, .ref q_seen, .ref q_ends, va_rf f_field, .int f_size, .int f_turn, .int f_yards, .int f_time, .int f_gap, .int f_far, .int f_flat])), (q_people, .inl (cL, 7, .inr (.inr (.inr (.inr r_people))))), (q_breath, .inl (cI, 7, .inl r_breath)), (q_rows, .inl (cI, 21, .inl r_rows)), (q_seen, .inl (cI, 5, .inl r_seen))] sz [.ref h, .int a1, .int a2]) (va_Qi (fun (r : Int32) (u : (Nat → Int32)) => Q r u) (obB D (va_A [(h, .inr (5, [.ref q_people, .ref q_places, .ref q_breath, .ref q_rows, .ref q_seen, .ref q_ends, va_rf f_field, .int f_size, .int f_turn, .int f_yards, .int f_time, .int f_gap, .int f_far, .int f_flat])), (q_people, .inl (cL, 7, .inr (.inr (.inr (.inr r_people))))), (q_breath, .inl (cI, 7, .inl r_breath)), (q_rows, .inl (cI, 21, .inl r_rows)), (q_seen, .inl (cI, 5, .inl r_seen))] sz) (fun u : (Nat → Int32) => [(h, .inr (5, [.ref q_people, .ref q_places, .ref q_breath, .ref q_rows, .ref q_seen, .ref q_ends, va_rf f_field, .int f_size, .int f_turn, .int f_yards, .int f_time, .int f_gap, .int f_far, .int f_flat])), (q_people, .inl (cL, 7, .inr (.inr (.inr (.inr r_people))))), (q_breath, .inl (cI, 7, .inl r_breath)), (q_rows, .inl (cI, 21, .inl r_rows)), (q_seen, .inl (cI, 5, .inl u))])) (va_A [(h, .inr (5, [.ref q_people, .ref q_places, .ref q_breath, .ref q_rows, .ref q_seen, .ref q_ends, va_rf f_field, .int f_size, .int f_turn, .int f_yards, .int f_time, .int f_gap, .int f_far, .int f_flat])), (q_people, .inl (cL, 7, .inr (.inr (.inr (.inr r_people))))), (q_breath, .inl (cI, 7, .inl r_breath)), (q_rows, .inl (cI, 21, .inl r_rows)), (q_seen, .inl (cI, 5, .inl r_seen))] sz)) 0 0 (va_A [(h, .inr (5, [.ref q_people, .ref q_places, .ref q_breath, .ref q_rows, .ref q_seen, .ref q_ends, va_rf f_field, .int f_size, .int f_turn, .int f_yards, .int f_time, .int f_gap, .int f_far, .int f_flat])), (q_people, .inl (cL, 7, .inr (.inr (.inr (.inr r_people))))), (q_breath, .inl (cI, 7, .inl r_breath)), (q_rows, .inl (cI, 21, .inl r_rows)), (q_seen, .inl (cI, 5, .inl r_seen))] sz) := by
  refine ob_met_i (cc := cX5_leapTime) (maxL := 6) (by decide) (Nat.le_of_ble_eq_true rfl) (fun p e s m args below meth c A Z hx hb hml hown hts hnm hN hK hA hI hP hD hS hZ ls hl => ?_)
  have hl : lv_has ls 6 [(0, .ref h), (1, .int a1), (2, .int a2)] := hl
  unfold m_X5_leapTime at hm
  have lab47 : ∀ (r_seen_47 : Nat → Int32) (v3_47 : Nat) (v4_47 : Int32) (v5_47 : Int32) , ∀ (H : Heap) (locs : List Loc) (ls : Array Slot), va_P D vwCl [(h, .inr (5, [.ref q_people, .ref q_places, .ref q_breath, .ref q_rows, .ref q_seen, .ref q_ends, va_rf f_field, .int f_size, .int f_turn, .int f_yards, .int f_time, .int f_gap, .int f_far, .int f_flat])), (q_people, .inl (cL, 7, .inr (.inr (.inr (.inr r_people))))), (q_breath, .inl (cI, 7, .inl r_breath)), (q_rows, .inl (cI, 21, .inl r_rows)), (q_seen, .inl (cI, 5, .inl r_seen_47))] H → va_D A [(h, .inr (5, [.ref q_people, .ref q_places, .ref q_breath, .ref q_rows, .ref q_seen, .ref q_ends, va_rf f_field, .int f_size, .int f_turn, .int f_yards, .int f_time, .int f_gap, .int f_far, .int f_flat])), (q_people, .inl (cL, 7, .inr (.inr (.inr (.inr r_people))))), (q_breath, .inl (cI, 7, .inl r_breath)), (q_rows, .inl (cI, 21, .inl r_rows)), (q_seen, .inl (cI, 5, .inl r_seen_47))] → va_S A s.heap H locs → lv_has ls 6 [(0, .ref h), (2, .int a2), (3, .ref v3_47), (4, .int v4_47), (5, .int v5_47)] → m_X5_leapTime_L47 lk fk f_field r_breath a2 r_seen_47 v3_47 v4_47 v5_47 Q → W p l e rmX5_leapTime s m args below meth c H locs 0 0 Z (F0 m 47 ls []) := by
    clear hm
    intro r_seen_47 v3_47 v4_47 v5_47 H locs ls hP hD hS hl hm
    unfold m_X5_leapTime_L47 at hm
    refine lv_aload_n hx hb (dX5_leapTime 27 rfl) rfl (lv_at hl 0 rfl) ?_
    refine va_get (D := D) (ci := 5) (v := va_rf f_field) (C := RX5) (T := TX5) (N := 14) hx hb hts inlX5 hown hK hP 0 rfl rfl 6 (by decide) (hts (.fieldLink RX5 45 "OverBacks$Line" "field" "LOverBacks$Field;") (inR10 _ (List.mem_of_getElem? (i := 14) rfl))) (fun _ h9 => h9) rfl (dX5_leapTime 28 rfl) ?_
    refine ob_ifnonnull (tgt := 57) hx hb (dX5_leapTime 29 rfl) (by decide) (fun h12 => ?_) (fun b11 h12 => ?_)
    · have hz9 := hm.1 h12; subst h12; have hm := hz9; clear hz9
      refine lv_iload hx hb (dX5_leapTime 30 rfl) (lv_at hl 4 rfl) ?_
      exact hZ v5_47 r_seen_47 H locs ls 56 hm hP hD hS (dX5_leapTime 31 rfl) rfl
    have hz9 := hm.2 b11 h12; subst h12; have hm := hz9; clear hz9
    refine lv_aload_n hx hb (dX5_leapTime 32 rfl) rfl (lv_at hl 0 rfl) ?_
    refine lv_aload_n hx hb (dX5_leapTime 33 rfl) rfl (lv_at hl 2 rfl) ?_
    refine lv_iload_n hx hb (dX5_leapTime 34 rfl) rfl (lv_at hl 1 rfl) ?_
    refine lv_iload hx hb (dX5_leapTime 35 rfl) (lv_at hl 3 rfl) ?_
    have hcut := ob_cut (wc := [(h, .inr (5, [.ref q_people, .ref q_places, .ref q_breath, .ref q_rows, .ref q_seen, .ref q_ends, va_rf (some b11), .int f_size, .int f_turn, .int f_yards, .int f_time, .int f_gap, .int f_far, .int f_flat])), (q_breath, .inl (cI, 7, .inl r_breath)), (q_seen, .inl (cI, 5, .inl r_seen_47))]) hP hD hS hA [0, 2, 4] rfl (by decide)
    refine ob_v (wr := [(q_people, .inl (cL, 7, .inr (.inr (.inr (.inr r_people))))), (q_rows, .inl (cI, 21, .inl r_rows))]) (ob_V (As := [.ref v3_47, .int a2, .int v4_47]) (rest := []) ⟨hx, hb, hml, hown, hts⟩ hK hcut (hI.cut hS hcut.2.2) hN (va_recv hK hP (ci := 5) (q0 := 0) rfl rfl) (k_X5_see l D cI cZ cL im lk hlk _ _ _ _ _ _ _ _ _ _ _ _ _ _ _ _ _ _ _ _ _ _ hm) (cwV 3 hts (gU_V (inR23 _ (List.mem_of_getElem? (i := 2) rfl)) (inR23 _ (List.mem_of_getElem? (i := 3) rfl)) (inR23 _ (List.mem_of_getElem? (i := 4) rfl)) (inR1 _ (List.mem_of_getElem? (i := 19) rfl)) (inR23 _ (List.mem_of_getElem? (i := 5) rfl))) rfl rfl rfl (by decide +kernel) ⟨Nat.le_of_ble_eq_true rfl, Nat.le_of_ble_eq_true rfl⟩) rfl hl.1 rfl (Nat.le_of_ble_eq_true rfl) (dX5_leapTime 36 rfl) ⟨Nat.zero_le _, Nat.zero_le _⟩) hP hD hS hcut [0, 2, 4] [1, 3] rfl rfl (by decide) (by decide) (fun u14 H locs hm hP hD hS => ?_)
    have hP := hP.sub (ws' := [(h, .inr (5, [.ref q_people, .ref q_places, .ref q_breath, .ref q_rows, .ref q_seen, .ref q_ends, va_rf (some b11), .int f_size, .int f_turn, .int f_yards, .int f_time, .int f_gap, .int f_far, .int f_flat])), (q_people, .inl (cL, 7, .inr (.inr (.inr (.inr r_people))))), (q_breath, .inl (cI, 7, .inl r_breath)), (q_rows, .inl (cI, 21, .inl r_rows)), (q_seen, .inl (cI, 5, .inl u14))]) [2, 0, 3, 1, 4] rfl
    have hD := hD.sub (ws' := [(h, .inr (5, [.ref q_people, .ref q_places, .ref q_breath, .ref q_rows, .ref q_seen, .ref q_ends, va_rf (some b11), .int f_size, .int f_turn, .int f_yards, .int f_time, .int f_gap, .int f_far, .int f_flat])), (q_people, .inl (cL, 7, .inr (.inr (.inr (.inr r_people))))), (q_breath, .inl (cI, 7, .inl r_breath)), (q_rows, .inl (cI, 21, .inl r_rows)), (q_seen, .inl (cI, 5, .inl u14))]) [2, 0, 3, 1, 4] (by decide) rfl
    refine lv_iload hx hb (dX5_leapTime 37 rfl) (lv_at hl 4 rfl) ?_
    refine lv_aload_n hx hb (dX5_leapTime 38 rfl) rfl (lv_at hl 0 rfl) ?_
    refine va_get (D := D) (ci := 5) (v := .ref b11) (C := RX5) (T := TX5) (N := 14) hx hb hts inlX5 hown hK hP 0 rfl rfl 6 (by decide) (hts (.fieldLink RX5 45 "OverBacks$Line" "field" "LOverBacks$Field;") (inR10 _ (List.mem_of_getElem? (i := 14) rfl))) (fun _ h9 => h9) rfl (dX5_leapTime 39 rfl) ?_
    refine lv_iconst (v := (2 : Int32)) hx hb (dX5_leapTime 40 rfl) (by decide) ?_
    refine lv_aload_n hx hb (dX5_leapTime 41 rfl) rfl (lv_at hl 0 rfl) ?_
    refine va_get (D := D) (ci := 5) (v := .ref q_seen) (C := RX5) (T := TX5) (N := 14) hx hb hts inlX5 hown hK hP 0 rfl rfl 4 (by decide) (hts (.fieldLink RX5 29 "OverBacks$Line" "seen" "[I") (inR3 _ (List.mem_of_getElem? (i := 0) rfl))) (fun _ h9 => h9) rfl (dX5_leapTime 42 rfl) ?_
    obtain ⟨⟨_, _, _, _, _, _, efk⟩, hm⟩ := hm
    obtain ⟨_, _, _, _, _, _, _, _, _, _, gk0, _, _, _, _, _, hg0, _⟩ := hfk _ _ _ _ _ _ _ efk
    have hcut := ob_cut (wc := [(q_seen, .inl (cI, 5, .inl u14))]) hP hD hS hA [4] rfl (by decide)
    refine ob_i (wr := [(h, .inr (5, [.ref q_people, .ref q_places, .ref q_breath, .ref q_rows, .ref q_seen, .ref q_ends, va_rf (some b11), .int f_size, .int f_turn, .int f_yards, .int f_time, .int f_gap, .int f_far, .int f_flat])), (q_people, .inl (cL, 7, .inr (.inr (.inr (.inr r_people))))), (q_breath, .inl (cI, 7, .inl r_breath)), (q_rows, .inl (cI, 21, .inl r_rows))]) (ob_V (As := [.int (2 : Int32), .ref q_seen]) (rest := [.int v5_47]) ⟨hx, hb, hml, hown, hts⟩ hK hcut (hI.cut hS hcut.2.2) hN (va_recv hK (hI.now hS) (ci := 1) (q0 := gk0) rfl hg0) (k_X1_sum l D cI cZ cL im fk hfk _ _ _ _ _ _ _ hm) (cwV 2 hts (gU_V (inR23 _ (List.mem_of_getElem? (i := 9) rfl)) (inR23 _ (List.mem_of_getElem? (i := 10) rfl)) (inR23 _ (List.mem_of_getElem? (i := 11) rfl)) (inR5 _ (List.mem_of_getElem? (i := 8) rfl)) (inR23 _ (List.mem_of_getElem? (i := 12) rfl))) rfl rfl rfl (by decide +kernel) ⟨Nat.le_of_ble_eq_true rfl, Nat.le_of_ble_eq_true rfl⟩) rfl hl.1 rfl (Nat.le_of_ble_eq_true rfl) (dX5_leapTime 43 rfl) ⟨Nat.zero_le _, Nat.zero_le _⟩) hP hD hS hcut [4] [0, 1, 2, 3] rfl rfl (by decide) (by decide) (fun r16 u17 H locs hm hP hD hS => ?_)
    have hP := hP.sub (ws' := [(h, .inr (5, [.ref q_people, .ref q_places, .ref q_breath, .ref q_rows, .ref q_seen, .ref q_ends, va_rf (some b11), .int f_size, .int f_turn, .int f_yards, .int f_time, .int f_gap, .int f_far, .int f_flat])), (q_people, .inl (cL, 7, .inr (.inr (.inr (.inr r_people))))), (q_breath, .inl (cI, 7, .inl r_breath)), (q_rows, .inl (cI, 21, .inl r_rows)), (q_seen, .inl (cI, 5, .inl u14))]) [0, 1, 2, 3, 4] rfl
    have hD := hD.sub (ws' := [(h, .inr (5, [.ref q_people, .ref q_places, .ref q_breath, .ref q_rows, .ref q_seen, .ref q_ends, va_rf (some b11), .int f_size, .int f_turn, .int f_yards, .int f_time, .int f_gap, .int f_far, .int f_flat])), (q_people, .inl (cL, 7, .inr (.inr (.inr (.inr r_people))))), (q_breath, .inl (cI, 7, .inl r_breath)), (q_rows, .inl (cI, 21, .inl r_rows)), (q_seen, .inl (cI, 5, .inl u14))]) [0, 1, 2, 3, 4] (by decide) rfl
    refine lv_iadd hx hb (dX5_leapTime 44 rfl) ?_
    exact hZ (v5_47 + r16) u14 H locs ls 80 hm hP hD hS (dX5_leapTime 45 rfl) rfl
  obtain ⟨H, hH⟩ : ∃ H, H = s.heap := ⟨_, rfl⟩
  obtain ⟨locs, hlo⟩ : ∃ q : List Loc, q = [] := ⟨_, rfl⟩
  suffices hgo : W p l e rmX5_leapTime s m args below meth c H locs 0 0 Z (F0 m 0 ls []) by rw [hH, hlo] at hgo; exact hgo
  have hP : va_P D vwCl [(h, .inr (5, [.ref q_people, .ref q_places, .ref q_breath, .ref q_rows, .ref q_seen, .ref q_ends, va_rf f_field, .int f_size, .int f_turn, .int f_yards, .int f_time, .int f_gap, .int f_far, .int f_flat])), (q_people, .inl (cL, 7, .inr (.inr (.inr (.inr r_people))))), (q_breath, .inl (cI, 7, .inl r_breath)), (q_rows, .inl (cI, 21, .inl r_rows)), (q_seen, .inl (cI, 5, .inl r_seen))] H := by rw [hH]; exact hP
  have hD : va_D A [(h, .inr (5, [.ref q_people, .ref q_places, .ref q_breath, .ref q_rows, .ref q_seen, .ref q_ends, va_rf f_field, .int f_size, .int f_turn, .int f_yards, .int f_time, .int f_gap, .int f_far, .int f_flat])), (q_people, .inl (cL, 7, .inr (.inr (.inr (.inr r_people))))), (q_breath, .inl (cI, 7, .inl r_breath)), (q_rows, .inl (cI, 21, .inl r_rows)), (q_seen, .inl (cI, 5, .inl r_seen))] := hD
  have hS : va_S A s.heap H locs := by rw [hH, hlo]; exact hS
  refine lv_aload_n hx hb (dX5_leapTime 0 rfl) rfl (lv_at hl 0 rfl) ?_
  refine lv_iload_n hx hb (dX5_leapTime 1 rfl) rfl (lv_at hl 1 rfl) ?_
  have hcut := ob_cut (wc := [(h, .inr (5, [.ref q_people, .ref q_places, .ref q_breath, .ref q_rows, .ref q_seen, .ref q_ends, va_rf f_field, .int f_size, .int f_turn, .int f_yards, .int f_time, .int f_gap, .int f_far, .int f_flat])), (q_people, .inl (cL, 7, .inr (.inr (.inr (.inr r_people)))))]) hP hD hS hA [0, 1] rfl (by decide)
  refine ob_q (wr := [(q_breath, .inl (cI, 7, .inl r_breath)), (q_rows, .inl (cI, 21, .inl r_rows)), (q_seen, .inl (cI, 5, .inl r_seen))]) (ob_V (As := [.int a1]) (rest := []) ⟨hx, hb, hml, hown, hts⟩ hK hcut (hI.cut hS hcut.2.2) hN (va_recv hK hP (ci := 5) (q0 := 0) rfl rfl) (k_X5_find l D cI cZ cL im _ _ _ _ _ _ _ _ _ _ _ _ _ _ _ _ _ _ _ hm) (cwV 1 hts (gU_V (inR17 _ (List.mem_of_getElem? (i := 20) rfl)) (inR16 _ (List.mem_of_getElem? (i := 11) rfl)) (inR16 _ (List.mem_of_getElem? (i := 12) rfl)) (inR1 _ (List.mem_of_getElem? (i := 19) rfl)) (inR16 _ (List.mem_of_getElem? (i := 13) rfl))) rfl rfl rfl (by decide +kernel) ⟨Nat.le_of_ble_eq_true rfl, Nat.le_of_ble_eq_true rfl⟩) rfl hl.1 rfl (Nat.le_of_ble_eq_true rfl) (dX5_leapTime 2 rfl) ⟨Nat.zero_le _, Nat.zero_le _⟩) hP hD hS hcut [0, 1] [2, 3, 4] rfl rfl (by decide) (by decide) (fun r1 u2 H locs hm hP hD hS => ?_)
  have hP := hP.sub (ws' := [(h, .inr (5, [.ref q_people, .ref q_places, .ref q_breath, .ref q_rows, .ref q_seen, .ref q_ends, va_rf f_field, .int f_size, .int f_turn, .int f_yards, .int f_time, .int f_gap, .int f_far, .int f_flat])), (q_people, .inl (cL, 7, .inr (.inr (.inr (.inr r_people))))), (q_breath, .inl (cI, 7, .inl r_breath)), (q_rows, .inl (cI, 21, .inl r_rows)), (q_seen, .inl (cI, 5, .inl r_seen))]) [3, 4, 0, 1, 2] rfl
  have hD := hD.sub (ws' := [(h, .inr (5, [.ref q_people, .ref q_places, .ref q_breath, .ref q_rows, .ref q_seen, .ref q_ends, va_rf f_field, .int f_size, .int f_turn, .int f_yards, .int f_time, .int f_gap, .int f_far, .int f_flat])), (q_people, .inl (cL, 7, .inr (.inr (.inr (.inr r_people))))), (q_breath, .inl (cI, 7, .inl r_breath)), (q_rows, .inl (cI, 21, .inl r_rows)), (q_seen, .inl (cI, 5, .inl r_seen))]) [3, 4, 0, 1, 2] (by decide) rfl
  refine ob_astore_n (lv' := [(3, va_rf r1), (0, .ref h), (1, .int a1), (2, .int a2)]) hx hb (dX5_leapTime 3 rfl) rfl hl (by decide) rfl (fun ls hl => ?_)
  refine ob_aload_n hx hb (dX5_leapTime 4 rfl) rfl (lv_at hl 0 rfl) ?_
  refine ob_ifnonnull (tgt := 12) hx hb (dX5_leapTime 5 rfl) (by decide) (fun h4 => ?_) (fun b3 h4 => ?_)
  · have hz9 := hm.1 h4; subst h4; have hm := hz9; clear hz9
    refine lv_iconst (v := (0 : Int32)) hx hb (dX5_leapTime 6 rfl) (by decide) ?_
    exact hZ (0 : Int32) r_seen H locs ls 11 hm hP hD hS (dX5_leapTime 7 rfl) rfl
  have hz9 := hm.2 b3 h4; subst h4; have hm := hz9; clear hz9
  refine lv_aload_n hx hb (dX5_leapTime 8 rfl) rfl (lv_at hl 1 rfl) ?_
  refine lv_iload_n hx hb (dX5_leapTime 9 rfl) rfl (lv_at hl 3 rfl) ?_
  have hcut := ob_cut (wc := [(h, .inr (5, [.ref q_people, .ref q_places, .ref q_breath, .ref q_rows, .ref q_seen, .ref q_ends, va_rf f_field, .int f_size, .int f_turn, .int f_yards, .int f_time, .int f_gap, .int f_far, .int f_flat])), (q_people, .inl (cL, 7, .inr (.inr (.inr (.inr r_people))))), (q_rows, .inl (cI, 21, .inl r_rows))]) hP hD hS hA [0, 1, 3] rfl (by decide)
  refine ob_i (wr := [(q_breath, .inl (cI, 7, .inl r_breath)), (q_seen, .inl (cI, 5, .inl r_seen))]) (ob_V (As := [.int a2]) (rest := []) ⟨hx, hb, hml, hown, hts⟩ hK hcut (hI.cut hS hcut.2.2) hN (va_recv hK hP (ci := 5) (q0 := 0) rfl rfl) (k_X5_backOf l D cI cZ cL im lk hlk _ _ _ _ _ _ _ _ _ _ _ _ _ _ _ _ _ _ _ _ hm) (cwV 1 hts (gU_V (inR22 _ (List.mem_of_getElem? (i := 2) rfl)) (inR17 _ (List.mem_of_getElem? (i := 16) rfl)) (inR17 _ (List.mem_of_getElem? (i := 17) rfl)) (inR1 _ (List.mem_of_getElem? (i := 19) rfl)) (inR17 _ (List.mem_of_getElem? (i := 18) rfl))) rfl rfl rfl (by decide +kernel) ⟨Nat.le_of_ble_eq_true rfl, Nat.le_of_ble_eq_true rfl⟩) rfl hl.1 rfl (Nat.le_of_ble_eq_true rfl) (dX5_leapTime 10 rfl) ⟨Nat.zero_le _, Nat.zero_le _⟩) hP hD hS hcut [0, 1, 3] [2, 4] rfl rfl (by decide) (by decide) (fun r5 u6 H locs hm hP hD hS => ?_)
  have hP := hP.sub (ws' := [(h, .inr (5, [.ref q_people, .ref q_places, .ref q_breath, .ref q_rows, .ref q_seen, .ref q_ends, va_rf f_field, .int f_size, .int f_turn, .int f_yards, .int f_time, .int f_gap, .int f_far, .int f_flat])), (q_people, .inl (cL, 7, .inr (.inr (.inr (.inr r_people))))), (q_breath, .inl (cI, 7, .inl r_breath)), (q_rows, .inl (cI, 21, .inl r_rows)), (q_seen, .inl (cI, 5, .inl r_seen))]) [2, 3, 0, 4, 1] rfl
  have hD := hD.sub (ws' := [(h, .inr (5, [.ref q_people, .ref q_places, .ref q_breath, .ref q_rows, .ref q_seen, .ref q_ends, va_rf f_field, .int f_size, .int f_turn, .int f_yards, .int f_time, .int f_gap, .int f_far, .int f_flat])), (q_people, .inl (cL, 7, .inr (.inr (.inr (.inr r_people))))), (q_breath, .inl (cI, 7, .inl r_breath)), (q_rows, .inl (cI, 21, .inl r_rows)), (q_seen, .inl (cI, 5, .inl r_seen))]) [2, 3, 0, 4, 1] (by decide) rfl
  refine lv_istore (lv' := [(4, .int r5), (3, .ref b3), (0, .ref h), (1, .int a1), (2, .int a2)]) hx hb (dX5_leapTime 11 rfl) hl (by decide) rfl (fun ls hl => ?_)
  refine lv_aload_n hx hb (dX5_leapTime 12 rfl) rfl (lv_at hl 1 rfl) ?_
  refine lv_iload hx hb (dX5_leapTime 13 rfl) (lv_at hl 0 rfl) ?_
  have hcut := ob_cut (wc := []) hP hD hS hA [] rfl (by decide)
  refine ob_i (wr := [(h, .inr (5, [.ref q_people, .ref q_places, .ref q_breath, .ref q_rows, .ref q_seen, .ref q_ends, va_rf f_field, .int f_size, .int f_turn, .int f_yards, .int f_time, .int f_gap, .int f_far, .int f_flat])), (q_people, .inl (cL, 7, .inr (.inr (.inr (.inr r_people))))), (q_breath, .inl (cI, 7, .inl r_breath)), (q_rows, .inl (cI, 21, .inl r_rows)), (q_seen, .inl (cI, 5, .inl r_seen))]) (d_V_pace (own := RX5) (index := 81) (rest := []) D cI cZ cL im lk hlk _ _ _ hm ⟨hx, hb, hml, hown, hts⟩ hK hcut (hI.cut hS hcut.2.2) hN (inR22 _ (List.mem_of_getElem? (i := 19) rfl)) hl.1 rfl (Nat.le_of_ble_eq_true rfl) (dX5_leapTime 14 rfl) ⟨Nat.le_of_ble_eq_true rfl, Nat.le_of_ble_eq_true rfl⟩ ⟨Nat.zero_le _, Nat.zero_le _⟩) hP hD hS hcut [] [0, 1, 2, 3, 4] rfl rfl (by decide) (by decide) (fun r7 u8 H locs hm hP hD hS => ?_)
  have hP := hP.sub (ws' := [(h, .inr (5, [.ref q_people, .ref q_places, .ref q_breath, .ref q_rows, .ref q_seen, .ref q_ends, va_rf f_field, .int f_size, .int f_turn, .int f_yards, .int f_time, .int f_gap, .int f_far, .int f_flat])), (q_people, .inl (cL, 7, .inr (.inr (.inr (.inr r_people))))), (q_breath, .inl (cI, 7, .inl r_breath)), (q_rows, .inl (cI, 21, .inl r_rows)), (q_seen, .inl (cI, 5, .inl r_seen))]) [0, 1, 2, 3, 4] rfl
  have hD := hD.sub (ws' := [(h, .inr (5, [.ref q_people, .ref q_places, .ref q_breath, .ref q_rows, .ref q_seen, .ref q_ends, va_rf f_field, .int f_size, .int f_turn, .int f_yards, .int f_time, .int f_gap, .int f_far, .int f_flat])), (q_people, .inl (cL, 7, .inr (.inr (.inr (.inr r_people))))), (q_breath, .inl (cI, 7, .inl r_breath)), (q_rows, .inl (cI, 21, .inl r_rows)), (q_seen, .inl (cI, 5, .inl r_seen))]) [0, 1, 2, 3, 4] (by decide) rfl
  refine lv_aload_n hx hb (dX5_leapTime 15 rfl) rfl (lv_at hl 2 rfl) ?_
  refine va_get (D := D) (ci := 5) (v := .int f_gap) (C := RX5) (T := TX5) (N := 14) hx hb hts inlX5 hown hK hP 0 rfl rfl 11 (by decide) (hts (.fieldLink RX5 35 "OverBacks$Line" "gap" "I") (inR3 _ (List.mem_of_getElem? (i := 2) rfl))) (fun _ h9 => h9) rfl (dX5_leapTime 16 rfl) ?_
  refine lv_iadd hx hb (dX5_leapTime 17 rfl) ?_
  refine lv_iload hx hb (dX5_leapTime 18 rfl) (lv_at hl 0 rfl) ?_
  refine lv_iadd hx hb (dX5_leapTime 19 rfl) ?_
  refine lv_topi (fun x9 ex9 => ?_)
  replace hm := hm x9 ex9
  refine lv_istore (lv' := [(5, .int x9), (4, .int r5), (3, .ref b3), (0, .ref h), (1, .int a1), (2, .int a2)]) hx hb (dX5_leapTime 20 rfl) hl (by decide) rfl (fun ls hl => ?_)
  refine lv_aload_n hx hb (dX5_leapTime 21 rfl) rfl (lv_at hl 3 rfl) ?_
  refine va_get (D := D) (ci := 5) (v := .ref q_breath) (C := RX5) (T := TX5) (N := 14) hx hb hts inlX5 hown hK hP 0 rfl rfl 2 (by decide) (hts (.fieldLink RX5 21 "OverBacks$Line" "breath" "[I") (inR2 _ (List.mem_of_getElem? (i := 22) rfl))) (fun _ h9 => h9) rfl (dX5_leapTime 22 rfl) ?_
  refine lv_iload_n hx hb (dX5_leapTime 23 rfl) rfl (lv_at hl 4 rfl) ?_
  refine va_iald hx hb hK hP 2 0 rfl rfl hm.1 (dX5_leapTime 24 rfl) ?_
  replace hm := hm.2
  refine lv_if_ne (tgt := 47) hx hb (dX5_leapTime 25 rfl) (by decide) (fun c10 => ?_) (fun c10 => ?_)
  · replace hm := hm.2 c10
    exact lab47 r_seen b3 r5 x9 H locs ls hP hD hS (lv_sub hl [3, 5, 2, 1, 0] rfl) hm
  replace hm := hm.1 c10
  obtain ⟨x18, ex18⟩ : ∃ y : Int32, y = x9 + 10 := ⟨_, rfl⟩
  replace hm := hm x18 ex18
  refine lv_iinc (v := x18) (lv' := [(5, .int x18), (4, .int r5), (3, .ref b3), (0, .ref h), (1, .int a1), (2, .int a2)]) hx hb (dX5_leapTime 26 rfl) hl (k := 0) rfl (by rw [ex18]; rfl) (by decide) rfl (fun ls hl => ?_)
  exact lab47 r_seen b3 r5 x18 H locs ls hP hD hS (lv_sub hl [3, 5, 2, 1, 0] rfl) hm
abbrev rmX5_leapRisk : Room := { frames := 3, cells := 0, slots := 0, locals := 73 }
set_option maxHeartbeats 4000000 in
set_option maxRecDepth 100000 in
theorem k_X5_leapRisk (l : Launch) (D : va_G) (cI cZ cL : ClassId) (im : obIM) (lk : Nat → Option (Nat × Int32 × Int32 × Int32)) (fk : Nat → Option ((Nat → Int32) × (Nat → Int32) × (Nat → Int32) × (Nat → Int32) × (Nat → Int32) × Int32)) (hlk : obLK im lk) (hfk : obFK cI im fk) (sz : Nat) (h : Nat) (q_people : Nat) (q_places : Nat) (q_breath : Nat) (q_rows : Nat) (q_seen : Nat) (q_ends : Nat) (f_field : Option Nat) (f_size : Int32) (f_turn : Int32) (f_yards : Int32) (f_time : Int32) (f_gap : Int32) (f_far : Int32) (f_flat : Int32) (r_people : Nat → Option Nat) (r_breath : Nat → Int32) (r_rows : Nat → Int32) (r_seen : Nat → Int32) (a1 : Int32) (a2 : Int32) (Q : Int32 → (Nat → Int32) → Prop) (hm : m_X5_leapRisk lk fk f_field f_turn f_flat r_people r_breath r_rows r_seen a1 a2 Q) : Met l yX5_leapRisk (Cond.code yX5_leapRisk cX5_leapRisk 4 (some .int) :: wsL_law) rmX5_leapRisk (obPre D (tyG cI cZ cL) im [(h, .inr (5, [.ref q_people, .ref q_places, .ref q_breath, .ref q_rows, .ref q_seen, .ref q_ends, va_rf f_field, .int f_size, .int f_turn, .int f_yards, .int f_time, .int f_gap, .int f_far, .int f_flat])), (q_people, .inl (cL, 7, .inr (.inr (.inr (.inr r_people))))), (q_breath, .inl (cI, 7, .inl r_breath)), (q_rows, .inl (cI, 21, .inl r_rows)), (q_seen, .inl (cI, 5, .inl r_seen))] sz [.ref h, .int a1, .int a2]) (va_Qi (fun (r : Int32) (u : (Nat → Int32)) => Q r u) (obB D (va_A [(h, .inr (5, [.ref q_people, .ref q_places, .ref q_breath, .ref q_rows, .ref q_seen, .ref q_ends, va_rf f_field, .int f_size, .int f_turn, .int f_yards, .int f_time, .int f_gap, .int f_far, .int f_flat])), (q_people, .inl (cL, 7, .inr (.inr (.inr (.inr r_people))))), (q_breath, .inl (cI, 7, .inl r_breath)), (q_rows, .inl (cI, 21, .inl r_rows)), (q_seen, .inl (cI, 5, .inl r_seen))] sz) (fun u : (Nat → Int32) => [(h, .inr (5, [.ref q_people, .ref q_places, .ref q_breath, .ref q_rows, .ref q_seen, .ref q_ends, va_rf f_field, .int f_size, .int f_turn, .int f_yards, .int f_time, .int f_gap, .int f_far, .int f_flat])), (q_people, .inl (cL, 7, .inr (.inr (.inr (.inr r_people))))), (q_breath, .inl (cI, 7, .inl r_breath)), (q_rows, .inl (cI, 21, .inl r_rows)), (q_seen, .inl (cI, 5, .inl u))])) (va_A [(h, .inr (5, [.ref q_people, .ref q_places, .ref q_breath, .ref q_rows, .ref q_seen, .ref q_ends, va_rf f_field, .int f_size, .int f_turn, .int f_yards, .int f_time, .int f_gap, .int f_far, .int f_flat])), (q_people, .inl (cL, 7, .inr (.inr (.inr (.inr r_people))))), (q_breath, .inl (cI, 7, .inl r_breath)), (q_rows, .inl (cI, 21, .inl r_rows)), (q_seen, .inl (cI, 5, .inl r_seen))] sz)) 0 0 (va_A [(h, .inr (5, [.ref q_people, .ref q_places, .ref q_breath, .ref q_rows, .ref q_seen, .ref q_ends, va_rf f_field, .int f_size, .int f_turn, .int f_yards, .int f_time, .int f_gap, .int f_far, .int f_flat])), (q_people, .inl (cL, 7, .inr (.inr (.inr (.inr r_people))))), (q_breath, .inl (cI, 7, .inl r_breath)), (q_rows, .inl (cI, 21, .inl r_rows)), (q_seen, .inl (cI, 5, .inl r_seen))] sz) := by
  refine ob_met_i (cc := cX5_leapRisk) (maxL := 4) (by decide) (Nat.le_of_ble_eq_true rfl) (fun p e s m args below meth c A Z hx hb hml hown hts hnm hN hK hA hI hP hD hS hZ ls hl => ?_)
  have hl : lv_has ls 4 [(0, .ref h), (1, .int a1), (2, .int a2)] := hl
  unfold m_X5_leapRisk at hm
  obtain ⟨H, hH⟩ : ∃ H, H = s.heap := ⟨_, rfl⟩
  obtain ⟨locs, hlo⟩ : ∃ q : List Loc, q = [] := ⟨_, rfl⟩
  suffices hgo : W p l e rmX5_leapRisk s m args below meth c H locs 0 0 Z (F0 m 0 ls []) by rw [hH, hlo] at hgo; exact hgo
  have hP : va_P D vwCl [(h, .inr (5, [.ref q_people, .ref q_places, .ref q_breath, .ref q_rows, .ref q_seen, .ref q_ends, va_rf f_field, .int f_size, .int f_turn, .int f_yards, .int f_time, .int f_gap, .int f_far, .int f_flat])), (q_people, .inl (cL, 7, .inr (.inr (.inr (.inr r_people))))), (q_breath, .inl (cI, 7, .inl r_breath)), (q_rows, .inl (cI, 21, .inl r_rows)), (q_seen, .inl (cI, 5, .inl r_seen))] H := by rw [hH]; exact hP
  have hD : va_D A [(h, .inr (5, [.ref q_people, .ref q_places, .ref q_breath, .ref q_rows, .ref q_seen, .ref q_ends, va_rf f_field, .int f_size, .int f_turn, .int f_yards, .int f_time, .int f_gap, .int f_far, .int f_flat])), (q_people, .inl (cL, 7, .inr (.inr (.inr (.inr r_people))))), (q_breath, .inl (cI, 7, .inl r_breath)), (q_rows, .inl (cI, 21, .inl r_rows)), (q_seen, .inl (cI, 5, .inl r_seen))] := hD
  have hS : va_S A s.heap H locs := by rw [hH, hlo]; exact hS
  refine lv_aload_n hx hb (dX5_leapRisk 0 rfl) rfl (lv_at hl 0 rfl) ?_
  refine lv_iload_n hx hb (dX5_leapRisk 1 rfl) rfl (lv_at hl 1 rfl) ?_
  have hcut := ob_cut (wc := [(h, .inr (5, [.ref q_people, .ref q_places, .ref q_breath, .ref q_rows, .ref q_seen, .ref q_ends, va_rf f_field, .int f_size, .int f_turn, .int f_yards, .int f_time, .int f_gap, .int f_far, .int f_flat])), (q_people, .inl (cL, 7, .inr (.inr (.inr (.inr r_people)))))]) hP hD hS hA [0, 1] rfl (by decide)
  refine ob_q (wr := [(q_breath, .inl (cI, 7, .inl r_breath)), (q_rows, .inl (cI, 21, .inl r_rows)), (q_seen, .inl (cI, 5, .inl r_seen))]) (ob_V (As := [.int a1]) (rest := []) ⟨hx, hb, hml, hown, hts⟩ hK hcut (hI.cut hS hcut.2.2) hN (va_recv hK hP (ci := 5) (q0 := 0) rfl rfl) (k_X5_find l D cI cZ cL im _ _ _ _ _ _ _ _ _ _ _ _ _ _ _ _ _ _ _ hm) (cwV 1 hts (gU_V (inR17 _ (List.mem_of_getElem? (i := 20) rfl)) (inR16 _ (List.mem_of_getElem? (i := 11) rfl)) (inR16 _ (List.mem_of_getElem? (i := 12) rfl)) (inR1 _ (List.mem_of_getElem? (i := 19) rfl)) (inR16 _ (List.mem_of_getElem? (i := 13) rfl))) rfl rfl rfl (by decide +kernel) ⟨Nat.le_of_ble_eq_true rfl, Nat.le_of_ble_eq_true rfl⟩) rfl hl.1 rfl (Nat.le_of_ble_eq_true rfl) (dX5_leapRisk 2 rfl) ⟨Nat.zero_le _, Nat.zero_le _⟩) hP hD hS hcut [0, 1] [2, 3, 4] rfl rfl (by decide) (by decide) (fun r1 u2 H locs hm hP hD hS => ?_)
  have hP := hP.sub (ws' := [(h, .inr (5, [.ref q_people, .ref q_places, .ref q_breath, .ref q_rows, .ref q_seen, .ref q_ends, va_rf f_field, .int f_size, .int f_turn, .int f_yards, .int f_time, .int f_gap, .int f_far, .int f_flat])), (q_people, .inl (cL, 7, .inr (.inr (.inr (.inr r_people))))), (q_breath, .inl (cI, 7, .inl r_breath)), (q_rows, .inl (cI, 21, .inl r_rows)), (q_seen, .inl (cI, 5, .inl r_seen))]) [3, 4, 0, 1, 2] rfl
  have hD := hD.sub (ws' := [(h, .inr (5, [.ref q_people, .ref q_places, .ref q_breath, .ref q_rows, .ref q_seen, .ref q_ends, va_rf f_field, .int f_size, .int f_turn, .int f_yards, .int f_time, .int f_gap, .int f_far, .int f_flat])), (q_people, .inl (cL, 7, .inr (.inr (.inr (.inr r_people))))), (q_breath, .inl (cI, 7, .inl r_breath)), (q_rows, .inl (cI, 21, .inl r_rows)), (q_seen, .inl (cI, 5, .inl r_seen))]) [3, 4, 0, 1, 2] (by decide) rfl
  refine ob_astore_n (lv' := [(3, va_rf r1), (0, .ref h), (1, .int a1), (2, .int a2)]) hx hb (dX5_leapRisk 3 rfl) rfl hl (by decide) rfl (fun ls hl => ?_)
  refine ob_aload_n hx hb (dX5_leapRisk 4 rfl) rfl (lv_at hl 0 rfl) ?_
  refine ob_ifnull (tgt := 17) hx hb (dX5_leapRisk 5 rfl) (by decide) (fun h4 => ?_) (fun b3 h4 => ?_)
  · have hz9 := hm.1 h4; subst h4; have hm := hz9; clear hz9
    refine lv_iconst (v := (0 : Int32)) hx hb (dX5_leapRisk 9 rfl) (by decide) ?_
    exact hZ (0 : Int32) r_seen H locs ls 18 hm hP hD hS (dX5_leapRisk 10 rfl) rfl
  have hz9 := hm.2 b3 h4; subst h4; have hm := hz9; clear hz9
  refine lv_aload_n hx hb (dX5_leapRisk 6 rfl) rfl (lv_at hl 1 rfl) ?_
  refine va_get (D := D) (ci := 5) (v := va_rf f_field) (C := RX5) (T := TX5) (N := 14) hx hb hts inlX5 hown hK hP 0 rfl rfl 6 (by decide) (hts (.fieldLink RX5 45 "OverBacks$Line" "field" "LOverBacks$Field;") (inR10 _ (List.mem_of_getElem? (i := 14) rfl))) (fun _ h9 => h9) rfl (dX5_leapRisk 7 rfl) ?_
  refine ob_ifnonnull (tgt := 19) hx hb (dX5_leapRisk 8 rfl) (by decide) (fun h6 => ?_) (fun b5 h6 => ?_)
  · have hz9 := hm.1 h6; subst h6; have hm := hz9; clear hz9
    refine lv_iconst (v := (0 : Int32)) hx hb (dX5_leapRisk 9 rfl) (by decide) ?_
    exact hZ (0 : Int32) r_seen H locs ls 18 hm hP hD hS (dX5_leapRisk 10 rfl) rfl
  have hz9 := hm.2 b5 h6; subst h6; have hm := hz9; clear hz9
  refine lv_aload_n hx hb (dX5_leapRisk 11 rfl) rfl (lv_at hl 1 rfl) ?_
  refine lv_aload_n hx hb (dX5_leapRisk 12 rfl) rfl (lv_at hl 0 rfl) ?_
  refine lv_iload_n hx hb (dX5_leapRisk 13 rfl) rfl (lv_at hl 3 rfl) ?_
  refine lv_aload_n hx hb (dX5_leapRisk 14 rfl) rfl (lv_at hl 1 rfl) ?_
  refine lv_iload_n hx hb (dX5_leapRisk 15 rfl) rfl (lv_at hl 3 rfl) ?_
  have hcut := ob_cut (wc := [(h, .inr (5, [.ref q_people, .ref q_places, .ref q_breath, .ref q_rows, .ref q_seen, .ref q_ends, va_rf (some b5), .int f_size, .int f_turn, .int f_yards, .int f_time, .int f_gap, .int f_far, .int f_flat])), (q_people, .inl (cL, 7, .inr (.inr (.inr (.inr r_people))))), (q_rows, .inl (cI, 21, .inl r_rows))]) hP hD hS hA [0, 1, 3] rfl (by decide)
  refine ob_i (wr := [(q_breath, .inl (cI, 7, .inl r_breath)), (q_seen, .inl (cI, 5, .inl r_seen))]) (ob_V (As := [.int a2]) (rest := [.int a2, .ref b3, .ref h]) ⟨hx, hb, hml, hown, hts⟩ hK hcut (hI.cut hS hcut.2.2) hN (va_recv hK hP (ci := 5) (q0 := 0) rfl rfl) (k_X5_backOf l D cI cZ cL im lk hlk _ _ _ _ _ _ _ _ _ _ _ _ _ _ _ _ _ _ _ _ hm) (cwV 1 hts (gU_V (inR22 _ (List.mem_of_getElem? (i := 2) rfl)) (inR17 _ (List.mem_of_getElem? (i := 16) rfl)) (inR17 _ (List.mem_of_getElem? (i := 17) rfl)) (inR1 _ (List.mem_of_getElem? (i := 19) rfl)) (inR17 _ (List.mem_of_getElem? (i := 18) rfl))) rfl rfl rfl (by decide +kernel) ⟨Nat.le_of_ble_eq_true rfl, Nat.le_of_ble_eq_true rfl⟩) rfl hl.1 rfl (Nat.le_of_ble_eq_true rfl) (dX5_leapRisk 16 rfl) ⟨Nat.zero_le _, Nat.zero_le _⟩) hP hD hS hcut [0, 1, 3] [2, 4] rfl rfl (by decide) (by decide) (fun r7 u8 H locs hm hP hD hS => ?_)
  have hP := hP.sub (ws' := [(h, .inr (5, [.ref q_people, .ref q_places, .ref q_breath, .ref q_rows, .ref q_seen, .ref q_ends, va_rf (some b5), .int f_size, .int f_turn, .int f_yards, .int f_time, .int f_gap, .int f_far, .int f_flat])), (q_people, .inl (cL, 7, .inr (.inr (.inr (.inr r_people))))), (q_breath, .inl (cI, 7, .inl r_breath)), (q_rows, .inl (cI, 21, .inl r_rows)), (q_seen, .inl (cI, 5, .inl r_seen))]) [2, 3, 0, 4, 1] rfl
  have hD := hD.sub (ws' := [(h, .inr (5, [.ref q_people, .ref q_places, .ref q_breath, .ref q_rows, .ref q_seen, .ref q_ends, va_rf (some b5), .int f_size, .int f_turn, .int f_yards, .int f_time, .int f_gap, .int f_far, .int f_flat])), (q_people, .inl (cL, 7, .inr (.inr (.inr (.inr r_people))))), (q_breath, .inl (cI, 7, .inl r_breath)), (q_rows, .inl (cI, 21, .inl r_rows)), (q_seen, .inl (cI, 5, .inl r_seen))]) [2, 3, 0, 4, 1] (by decide) rfl
  have hcut := ob_cut (wc := [(h, .inr (5, [.ref q_people, .ref q_places, .ref q_breath, .ref q_rows, .ref q_seen, .ref q_ends, va_rf (some b5), .int f_size, .int f_turn, .int f_yards, .int f_time, .int f_gap, .int f_far, .int f_flat])), (q_breath, .inl (cI, 7, .inl r_breath)), (q_seen, .inl (cI, 5, .inl r_seen))]) hP hD hS hA [0, 2, 4] rfl (by decide)
  refine ob_v (wr := [(q_people, .inl (cL, 7, .inr (.inr (.inr (.inr r_people))))), (q_rows, .inl (cI, 21, .inl r_rows))]) (ob_V (As := [.ref b3, .int a2, .int r7]) (rest := []) ⟨hx, hb, hml, hown, hts⟩ hK hcut (hI.cut hS hcut.2.2) hN (va_recv hK hP (ci := 5) (q0 := 0) rfl rfl) (k_X5_see l D cI cZ cL im lk hlk _ _ _ _ _ _ _ _ _ _ _ _ _ _ _ _ _ _ _ _ _ _ hm) (cwV 3 hts (gU_V (inR23 _ (List.mem_of_getElem? (i := 2) rfl)) (inR23 _ (List.mem_of_getElem? (i := 3) rfl)) (inR23 _ (List.mem_of_getElem? (i := 4) rfl)) (inR1 _ (List.mem_of_getElem? (i := 19) rfl)) (inR23 _ (List.mem_of_getElem? (i := 5) rfl))) rfl rfl rfl (by decide +kernel) ⟨Nat.le_of_ble_eq_true rfl, Nat.le_of_ble_eq_true rfl⟩) rfl hl.1 rfl (Nat.le_of_ble_eq_true rfl) (dX5_leapRisk 17 rfl) ⟨Nat.zero_le _, Nat.zero_le _⟩) hP hD hS hcut [0, 2, 4] [1, 3] rfl rfl (by decide) (by decide) (fun u10 H locs hm hP hD hS => ?_)
  have hP := hP.sub (ws' := [(h, .inr (5, [.ref q_people, .ref q_places, .ref q_breath, .ref q_rows, .ref q_seen, .ref q_ends, va_rf (some b5), .int f_size, .int f_turn, .int f_yards, .int f_time, .int f_gap, .int f_far, .int f_flat])), (q_people, .inl (cL, 7, .inr (.inr (.inr (.inr r_people))))), (q_breath, .inl (cI, 7, .inl r_breath)), (q_rows, .inl (cI, 21, .inl r_rows)), (q_seen, .inl (cI, 5, .inl u10))]) [2, 0, 3, 1, 4] rfl
  have hD := hD.sub (ws' := [(h, .inr (5, [.ref q_people, .ref q_places, .ref q_breath, .ref q_rows, .ref q_seen, .ref q_ends, va_rf (some b5), .int f_size, .int f_turn, .int f_yards, .int f_time, .int f_gap, .int f_far, .int f_flat])), (q_people, .inl (cL, 7, .inr (.inr (.inr (.inr r_people))))), (q_breath, .inl (cI, 7, .inl r_breath)), (q_rows, .inl (cI, 21, .inl r_rows)), (q_seen, .inl (cI, 5, .inl u10))]) [2, 0, 3, 1, 4] (by decide) rfl
  refine lv_aload_n hx hb (dX5_leapRisk 18 rfl) rfl (lv_at hl 1 rfl) ?_
  refine va_get (D := D) (ci := 5) (v := .ref b5) (C := RX5) (T := TX5) (N := 14) hx hb hts inlX5 hown hK hP 0 rfl rfl 6 (by decide) (hts (.fieldLink RX5 45 "OverBacks$Line" "field" "LOverBacks$Field;") (inR10 _ (List.mem_of_getElem? (i := 14) rfl))) (fun _ h9 => h9) rfl (dX5_leapRisk 19 rfl) ?_
  refine lv_iconst (v := (3 : Int32)) hx hb (dX5_leapRisk 20 rfl) (by decide) ?_
  refine lv_aload_n hx hb (dX5_leapRisk 21 rfl) rfl (lv_at hl 1 rfl) ?_
  refine va_get (D := D) (ci := 5) (v := .ref q_seen) (C := RX5) (T := TX5) (N := 14) hx hb hts inlX5 hown hK hP 0 rfl rfl 4 (by decide) (hts (.fieldLink RX5 29 "OverBacks$Line" "seen" "[I") (inR3 _ (List.mem_of_getElem? (i := 0) rfl))) (fun _ h9 => h9) rfl (dX5_leapRisk 22 rfl) ?_
  obtain ⟨⟨_, _, _, _, _, _, efk⟩, hm⟩ := hm
  obtain ⟨_, _, _, _, _, _, _, _, _, _, gk0, _, _, _, _, _, hg0, _⟩ := hfk _ _ _ _ _ _ _ efk
  have hcut := ob_cut (wc := [(q_seen, .inl (cI, 5, .inl u10))]) hP hD hS hA [4] rfl (by decide)
  refine ob_i (wr := [(h, .inr (5, [.ref q_people, .ref q_places, .ref q_breath, .ref q_rows, .ref q_seen, .ref q_ends, va_rf (some b5), .int f_size, .int f_turn, .int f_yards, .int f_time, .int f_gap, .int f_far, .int f_flat])), (q_people, .inl (cL, 7, .inr (.inr (.inr (.inr r_people))))), (q_breath, .inl (cI, 7, .inl r_breath)), (q_rows, .inl (cI, 21, .inl r_rows))]) (ob_V (As := [.int (3 : Int32), .ref q_seen]) (rest := []) ⟨hx, hb, hml, hown, hts⟩ hK hcut (hI.cut hS hcut.2.2) hN (va_recv hK (hI.now hS) (ci := 1) (q0 := gk0) rfl hg0) (k_X1_sum l D cI cZ cL im fk hfk _ _ _ _ _ _ _ hm) (cwV 2 hts (gU_V (inR23 _ (List.mem_of_getElem? (i := 9) rfl)) (inR23 _ (List.mem_of_getElem? (i := 10) rfl)) (inR23 _ (List.mem_of_getElem? (i := 11) rfl)) (inR5 _ (List.mem_of_getElem? (i := 8) rfl)) (inR23 _ (List.mem_of_getElem? (i := 12) rfl))) rfl rfl rfl (by decide +kernel) ⟨Nat.le_of_ble_eq_true rfl, Nat.le_of_ble_eq_true rfl⟩) rfl hl.1 rfl (Nat.le_of_ble_eq_true rfl) (dX5_leapRisk 23 rfl) ⟨Nat.zero_le _, Nat.zero_le _⟩) hP hD hS hcut [4] [0, 1, 2, 3] rfl rfl (by decide) (by decide) (fun r12 u13 H locs hm hP hD hS => ?_)
  have hP := hP.sub (ws' := [(h, .inr (5, [.ref q_people, .ref q_places, .ref q_breath, .ref q_rows, .ref q_seen, .ref q_ends, va_rf (some b5), .int f_size, .int f_turn, .int f_yards, .int f_time, .int f_gap, .int f_far, .int f_flat])), (q_people, .inl (cL, 7, .inr (.inr (.inr (.inr r_people))))), (q_breath, .inl (cI, 7, .inl r_breath)), (q_rows, .inl (cI, 21, .inl r_rows)), (q_seen, .inl (cI, 5, .inl u10))]) [0, 1, 2, 3, 4] rfl
  have hD := hD.sub (ws' := [(h, .inr (5, [.ref q_people, .ref q_places, .ref q_breath, .ref q_rows, .ref q_seen, .ref q_ends, va_rf (some b5), .int f_size, .int f_turn, .int f_yards, .int f_time, .int f_gap, .int f_far, .int f_flat])), (q_people, .inl (cL, 7, .inr (.inr (.inr (.inr r_people))))), (q_breath, .inl (cI, 7, .inl r_breath)), (q_rows, .inl (cI, 21, .inl r_rows)), (q_seen, .inl (cI, 5, .inl u10))]) [0, 1, 2, 3, 4] (by decide) rfl
  refine lv_bipush (v := (100 : Int32)) hx hb (dX5_leapRisk 24 rfl) (by decide) ?_
  refine va_mmin (own := RX5) (index := 92) hx hb (hml.trans hl.1.symm) hown (hts (.methodLink RX5 92 Lib.Math.min.name) (inR24 _ (List.mem_of_getElem? (i := 0) rfl))) (hts (.static Lib.Math.min.name) (inR24 _ (List.mem_of_getElem? (i := 1) rfl))) (hts (.initialized "java/lang/Math") (inR3 _ (List.mem_of_getElem? (i := 11) rfl))) (hts (.code Lib.Math.min.name Lib.Math.min.code 2 (some .int)) (inR24 _ (List.mem_of_getElem? (i := 2) rfl))) (Nat.le_of_ble_eq_true rfl) (Nat.le_of_ble_eq_true rfl) (Nat.zero_le _) (Nat.zero_le _) (dX5_leapRisk 25 rfl) ?_
  exact hZ (if (100 : Int32) < r12 then (100 : Int32) else r12) u10 H locs ls 47 hm hP hD hS (dX5_leapRisk 26 rfl) rfl
abbrev rmX5_takeTurn : Room := { frames := 4, cells := 0, slots := 0, locals := 98 }
set_option maxHeartbeats 4000000 in
set_option maxRecDepth 100000 in
theorem k_X5_takeTurn (l : Launch) (D : va_G) (cI cZ cL : ClassId) (im : obIM) (lk : Nat → Option (Nat × Int32 × Int32 × Int32)) (fk : Nat → Option ((Nat → Int32) × (Nat → Int32) × (Nat → Int32) × (Nat → Int32) × (Nat → Int32) × Int32)) (hlk : obLK im lk) (hfk : obFK cI im fk) (sz : Nat) (h : Nat) (q_people : Nat) (q_places : Nat) (q_breath : Nat) (q_rows : Nat) (q_seen : Nat) (q_ends : Nat) (f_field : Option Nat) (f_size : Int32) (f_turn : Int32) (f_yards : Int32) (f_time : Int32) (f_gap : Int32) (f_far : Int32) (f_flat : Int32) (r_people : Nat → Option Nat) (r_places : Nat → Int32) (r_breath : Nat → Int32) (r_rows : Nat → Int32) (r_seen : Nat → Int32) (Q : Int32 → Int32 → Int32 → Int32 → (Nat → Int32) → (Nat → Int32) → (Nat → Int32) → Prop) (hm : m_X5_takeTurn lk fk f_field f_size f_turn f_yards f_time f_gap f_flat r_people r_places r_breath r_rows r_seen Q) : Met l yX5_takeTurn (Cond.code yX5_takeTurn cX5_takeTurn 5 (some .int) :: wsL_law) rmX5_takeTurn (obPre D (tyG cI cZ cL) im [(h, .inr (5, [.ref q_people, .ref q_places, .ref q_breath, .ref q_rows, .ref q_seen, .ref q_ends, va_rf f_field, .int f_size, .int f_turn, .int f_yards, .int f_time, .int f_gap, .int f_far, .int f_flat])), (q_people, .inl (cL, 7, .inr (.inr (.inr (.inr r_people))))), (q_places, .inl (cI, 7, .inl r_places)), (q_breath, .inl (cI, 7, .inl r_breath)), (q_rows, .inl (cI, 21, .inl r_rows)), (q_seen, .inl (cI, 5, .inl r_seen))] sz [.ref h]) (va_Qi (fun (r : Int32) (u : Int32 × Int32 × Int32 × (Nat → Int32) × (Nat → Int32) × (Nat → Int32)) => Q r u.1 u.2.1 u.2.2.1 u.2.2.2.1 u.2.2.2.2.1 u.2.2.2.2.2) (obB D (va_A [(h, .inr (5, [.ref q_people, .ref q_places, .ref q_breath, .ref q_rows, .ref q_seen, .ref q_ends, va_rf f_field, .int f_size, .int f_turn, .int f_yards, .int f_time, .int f_gap, .int f_far, .int f_flat])), (q_people, .inl (cL, 7, .inr (.inr (.inr (.inr r_people))))), (q_places, .inl (cI, 7, .inl r_places)), (q_breath, .inl (cI, 7, .inl r_breath)), (q_rows, .inl (cI, 21, .inl r_rows)), (q_seen, .inl (cI, 5, .inl r_seen))] sz) (fun u : Int32 × Int32 × Int32 × (Nat → Int32) × (Nat → Int32) × (Nat → Int32) => [(h, .inr (5, [.ref q_people, .ref q_places, .ref q_breath, .ref q_rows, .ref q_seen, .ref q_ends, va_rf f_field, .int f_size, .int u.1, .int u.2.1, .int u.2.2.1, .int f_gap, .int f_far, .int f_flat])), (q_people, .inl (cL, 7, .inr (.inr (.inr (.inr r_people))))), (q_places, .inl (cI, 7, .inl u.2.2.2.1)), (q_breath, .inl (cI, 7, .inl u.2.2.2.2.1)), (q_rows, .inl (cI, 21, .inl r_rows)), (q_seen, .inl (cI, 5, .inl u.2.2.2.2.2))])) (va_A [(h, .inr (5, [.ref q_people, .ref q_places, .ref q_breath, .ref q_rows, .ref q_seen, .ref q_ends, va_rf f_field, .int f_size, .int f_turn, .int f_yards, .int f_time, .int f_gap, .int f_far, .int f_flat])), (q_people, .inl (cL, 7, .inr (.inr (.inr (.inr r_people))))), (q_places, .inl (cI, 7, .inl r_places)), (q_breath, .inl (cI, 7, .inl r_breath)), (q_rows, .inl (cI, 21, .inl r_rows)), (q_seen, .inl (cI, 5, .inl r_seen))] sz)) 0 0 (va_A [(h, .inr (5, [.ref q_people, .ref q_places, .ref q_breath, .ref q_rows, .ref q_seen, .ref q_ends, va_rf f_field, .int f_size, .int f_turn, .int f_yards, .int f_time, .int f_gap, .int f_far, .int f_flat])), (q_people, .inl (cL, 7, .inr (.inr (.inr (.inr r_people))))), (q_places, .inl (cI, 7, .inl r_places)), (q_breath, .inl (cI, 7, .inl r_breath)), (q_rows, .inl (cI, 21, .inl r_rows)), (q_seen, .inl (cI, 5, .inl r_seen))] sz) := by
  refine ob_met_i (cc := cX5_takeTurn) (maxL := 5) (by decide) (Nat.le_of_ble_eq_true rfl) (fun p e s m args below meth c A Z hx hb hml hown hts hnm hN hK hA hI hP hD hS hZ ls hl => ?_)
  have hl : lv_has ls 5 [(0, .ref h)] := hl
  unfold m_X5_takeTurn at hm
  have lab66 : ∀ (f_turn_66 : Int32) (f_yards_66 : Int32) (f_time_66 : Int32) (r_seen_66 : Nat → Int32) (v1_66 : Int32) (v2_66 : Int32) (n66 : Nat) (r_places_66 : Nat → Int32) (r_breath_66 : Nat → Int32) (v3_66 : Int32) , ∀ (H : Heap) (locs : List Loc) (ls : Array Slot), va_P D vwCl [(h, .inr (5, [.ref q_people, .ref q_places, .ref q_breath, .ref q_rows, .ref q_seen, .ref q_ends, va_rf f_field, .int f_size, .int f_turn_66, .int f_yards_66, .int f_time_66, .int f_gap, .int f_far, .int f_flat])), (q_people, .inl (cL, 7, .inr (.inr (.inr (.inr r_people))))), (q_places, .inl (cI, 7, .inl r_places_66)), (q_breath, .inl (cI, 7, .inl r_breath_66)), (q_rows, .inl (cI, 21, .inl r_rows)), (q_seen, .inl (cI, 5, .inl r_seen_66))] H → va_D A [(h, .inr (5, [.ref q_people, .ref q_places, .ref q_breath, .ref q_rows, .ref q_seen, .ref q_ends, va_rf f_field, .int f_size, .int f_turn_66, .int f_yards_66, .int f_time_66, .int f_gap, .int f_far, .int f_flat])), (q_people, .inl (cL, 7, .inr (.inr (.inr (.inr r_people))))), (q_places, .inl (cI, 7, .inl r_places_66)), (q_breath, .inl (cI, 7, .inl r_breath_66)), (q_rows, .inl (cI, 21, .inl r_rows)), (q_seen, .inl (cI, 5, .inl r_seen_66))] → va_S A s.heap H locs → lv_has ls 5 [(0, .ref h), (1, .int v1_66), (2, .int v2_66), (3, .int v3_66)] → m_X5_takeTurn_L66 lk fk f_gap f_turn_66 f_yards_66 f_time_66 r_seen_66 v1_66 v2_66 Q n66 r_places_66 r_breath_66 v3_66 → W p l e rmX5_takeTurn s m args below meth c H locs 0 0 Z (F0 m 66 ls []) := by
    clear hm
    intro f_turn_66 f_yards_66 f_time_66 r_seen_66 v1_66 v2_66
    intro n66
    induction n66 with
    | zero =>
      intro r_places_66 r_breath_66 v3_66 H locs ls hP hD hS hl hm
      exact hm.elim
    | succ n66 ih66 =>
      intro r_places_66 r_breath_66 v3_66 H locs ls hP hD hS hl hm
      unfold m_X5_takeTurn_L66 at hm
      obtain ⟨K66, hK66⟩ : ∃ K : (Nat → Int32) → (Nat → Int32) → Int32 → Prop, K = m_X5_takeTurn_L66 lk fk f_gap f_turn_66 f_yards_66 f_time_66 r_seen_66 v1_66 v2_66 Q n66 := ⟨_, rfl⟩
      rw [← hK66] at hm ih66
      have lab111 : ∀ (r_places_111 : Nat → Int32) (r_breath_111 : Nat → Int32) (v3_111 : Int32) , ∀ (H : Heap) (locs : List Loc) (ls : Array Slot), va_P D vwCl [(h, .inr (5, [.ref q_people, .ref q_places, .ref q_breath, .ref q_rows, .ref q_seen, .ref q_ends, va_rf f_field, .int f_size, .int f_turn_66, .int f_yards_66, .int f_time_66, .int f_gap, .int f_far, .int f_flat])), (q_people, .inl (cL, 7, .inr (.inr (.inr (.inr r_people))))), (q_places, .inl (cI, 7, .inl r_places_111)), (q_breath, .inl (cI, 7, .inl r_breath_111)), (q_rows, .inl (cI, 21, .inl r_rows)), (q_seen, .inl (cI, 5, .inl r_seen_66))] H → va_D A [(h, .inr (5, [.ref q_people, .ref q_places, .ref q_breath, .ref q_rows, .ref q_seen, .ref q_ends, va_rf f_field, .int f_size, .int f_turn_66, .int f_yards_66, .int f_time_66, .int f_gap, .int f_far, .int f_flat])), (q_people, .inl (cL, 7, .inr (.inr (.inr (.inr r_people))))), (q_places, .inl (cI, 7, .inl r_places_111)), (q_breath, .inl (cI, 7, .inl r_breath_111)), (q_rows, .inl (cI, 21, .inl r_rows)), (q_seen, .inl (cI, 5, .inl r_seen_66))] → va_S A s.heap H locs → lv_has ls 5 [(0, .ref h), (1, .int v1_66), (2, .int v2_66), (3, .int v3_111)] → m_X5_takeTurn_L111 lk fk f_gap f_turn_66 f_yards_66 f_time_66 r_seen_66 v1_66 v2_66 r_places_111 r_breath_111 v3_111 K66 Q → W p l e rmX5_takeTurn s m args below meth c H locs 0 0 Z (F0 m 111 ls []) := by
        clear hm
        intro r_places_111 r_breath_111 v3_111 H locs ls hP hD hS hl hm
        unfold m_X5_takeTurn_L111 at hm
        obtain ⟨x12, ex12⟩ : ∃ y : Int32, y = v3_111 + (-1 : Int32) := ⟨_, rfl⟩
        replace hm := hm x12 ex12
        refine lv_iinc (v := x12) (lv' := [(3, .int x12), (0, .ref h), (1, .int v1_66), (2, .int v2_66)]) hx hb (dX5_takeTurn 70 rfl) hl (k := 3) rfl (by rw [ex12]; rfl) (by decide) rfl (fun ls hl => ?_)
        refine lv_goto (tgt := 66) hx hb (dX5_takeTurn 71 rfl) (by decide) ?_
        exact ih66 r_places_111 r_breath_111 x12 H locs ls hP hD hS (lv_sub hl [1, 2, 3, 0] rfl) hm
      refine lv_iload_n hx hb (dX5_takeTurn 42 rfl) rfl (lv_at hl 3 rfl) ?_
      refine lv_if_le (tgt := 117) hx hb (dX5_takeTurn 43 rfl) (by decide) (fun c7 => ?_) (fun c7 => ?_)
      · replace hm := hm.1 c7
        refine lv_aload_n hx hb (dX5_takeTurn 72 rfl) rfl (lv_at hl 0 rfl) ?_
        refine va_get (D := D) (ci := 5) (v := .ref q_places) (C := RX5) (T := TX5) (N := 14) hx hb hts inlX5 hown hK hP 0 rfl rfl 1 (by decide) (hts (.fieldLink RX5 17 "OverBacks$Line" "places" "[I") (inR2 _ (List.mem_of_getElem? (i := 21) rfl))) (fun _ h9 => h9) rfl (dX5_takeTurn 73 rfl) ?_
        refine lv_iconst (v := (0 : Int32)) hx hb (dX5_takeTurn 74 rfl) (by decide) ?_
        refine lv_iload_n hx hb (dX5_takeTurn 75 rfl) rfl (lv_at hl 1 rfl) ?_
        refine va_iast hx hb hK hP hD hS 2 0 rfl rfl (ob_in (by decide)) (dX5_takeTurn 76 rfl) (fun H locs hP hD hS => ?_)
        obtain ⟨y8, ey8⟩ : ∃ q : Nat → Int32, q = upd r_places_66 (0 : Int32).toNatClampNeg v1_66 := ⟨_, rfl⟩
        replace hm := hm y8 ey8
        have hP : va_P D vwCl [(h, .inr (5, [.ref q_people, .ref q_places, .ref q_breath, .ref q_rows, .ref q_seen, .ref q_ends, va_rf f_field, .int f_size, .int f_turn_66, .int f_yards_66, .int f_time_66, .int f_gap, .int f_far, .int f_flat])), (q_people, .inl (cL, 7, .inr (.inr (.inr (.inr r_people))))), (q_places, .inl (cI, 7, .inl y8)), (q_breath, .inl (cI, 7, .inl r_breath_66)), (q_rows, .inl (cI, 21, .inl r_rows)), (q_seen, .inl (cI, 5, .inl r_seen_66))] H := by rw [ey8]; exact hP
        have hD : va_D A [(h, .inr (5, [.ref q_people, .ref q_places, .ref q_breath, .ref q_rows, .ref q_seen, .ref q_ends, va_rf f_field, .int f_size, .int f_turn_66, .int f_yards_66, .int f_time_66, .int f_gap, .int f_far, .int f_flat])), (q_people, .inl (cL, 7, .inr (.inr (.inr (.inr r_people))))), (q_places, .inl (cI, 7, .inl y8)), (q_breath, .inl (cI, 7, .inl r_breath_66)), (q_rows, .inl (cI, 21, .inl r_rows)), (q_seen, .inl (cI, 5, .inl r_seen_66))] := by rw [ey8]; exact hD
        refine lv_aload_n hx hb (dX5_takeTurn 77 rfl) rfl (lv_at hl 0 rfl) ?_
        refine lv_dup hx hb (dX5_takeTurn 78 rfl) rfl ?_
        refine va_get (D := D) (ci := 5) (v := .int f_time_66) (C := RX5) (T := TX5) (N := 14) hx hb hts inlX5 hown hK hP 0 rfl rfl 10 (by decide) (hts (.fieldLink RX5 58 "OverBacks$Line" "time" "I") (inR25 _ (List.mem_of_getElem? (i := 5) rfl))) (fun _ h9 => h9) rfl (dX5_takeTurn 79 rfl) ?_
        refine lv_iload_n hx hb (dX5_takeTurn 80 rfl) rfl (lv_at hl 2 rfl) ?_
        refine lv_iadd hx hb (dX5_takeTurn 81 rfl) ?_
        refine va_put (D := D) (ci := 5) (v := .int (f_time_66 + v2_66)) (ty := .int) (C := RX5) (T := TX5) (N := 14) hx hb hts inlX5 tyX5 tyX5_ok nmX5 hown hK hP hD hS 0 rfl rfl 10 (by decide) (hts (.fieldLink RX5 58 "OverBacks$Line" "time" "I") (inR25 _ (List.mem_of_getElem? (i := 5) rfl))) (fun _ h9 => h9) rfl (by decide +kernel) rfl rfl (Nat.le_of_ble_eq_true rfl) (dX5_takeTurn 82 rfl) (fun H locs hP hD hS => ?_)
        have hP : va_P D vwCl [(h, .inr (5, [.ref q_people, .ref q_places, .ref q_breath, .ref q_rows, .ref q_seen, .ref q_ends, va_rf f_field, .int f_size, .int f_turn_66, .int f_yards_66, .int (f_time_66 + v2_66), .int f_gap, .int f_far, .int f_flat])), (q_people, .inl (cL, 7, .inr (.inr (.inr (.inr r_people))))), (q_places, .inl (cI, 7, .inl y8)), (q_breath, .inl (cI, 7, .inl r_breath_66)), (q_rows, .inl (cI, 21, .inl r_rows)), (q_seen, .inl (cI, 5, .inl r_seen_66))] H := hP
        have hD : va_D A [(h, .inr (5, [.ref q_people, .ref q_places, .ref q_breath, .ref q_rows, .ref q_seen, .ref q_ends, va_rf f_field, .int f_size, .int f_turn_66, .int f_yards_66, .int (f_time_66 + v2_66), .int f_gap, .int f_far, .int f_flat])), (q_people, .inl (cL, 7, .inr (.inr (.inr (.inr r_people))))), (q_places, .inl (cI, 7, .inl y8)), (q_breath, .inl (cI, 7, .inl r_breath_66)), (q_rows, .inl (cI, 21, .inl r_rows)), (q_seen, .inl (cI, 5, .inl r_seen_66))] := hD
        refine lv_aload_n hx hb (dX5_takeTurn 83 rfl) rfl (lv_at hl 0 rfl) ?_
        refine lv_dup hx hb (dX5_takeTurn 84 rfl) rfl ?_
        refine va_get (D := D) (ci := 5) (v := .int f_yards_66) (C := RX5) (T := TX5) (N := 14) hx hb hts inlX5 hown hK hP 0 rfl rfl 9 (by decide) (hts (.fieldLink RX5 55 "OverBacks$Line" "yards" "I") (inR25 _ (List.mem_of_getElem? (i := 6) rfl))) (fun _ h9 => h9) rfl (dX5_takeTurn 85 rfl) ?_
        refine lv_aload_n hx hb (dX5_takeTurn 86 rfl) rfl (lv_at hl 0 rfl) ?_
        refine va_get (D := D) (ci := 5) (v := .int f_gap) (C := RX5) (T := TX5) (N := 14) hx hb hts inlX5 hown hK hP 0 rfl rfl 11 (by decide) (hts (.fieldLink RX5 35 "OverBacks$Line" "gap" "I") (inR3 _ (List.mem_of_getElem? (i := 2) rfl))) (fun _ h9 => h9) rfl (dX5_takeTurn 87 rfl) ?_
        refine lv_iadd hx hb (dX5_takeTurn 88 rfl) ?_
        refine va_put (D := D) (ci := 5) (v := .int (f_yards_66 + f_gap)) (ty := .int) (C := RX5) (T := TX5) (N := 14) hx hb hts inlX5 tyX5 tyX5_ok nmX5 hown hK hP hD hS 0 rfl rfl 9 (by decide) (hts (.fieldLink RX5 55 "OverBacks$Line" "yards" "I") (inR25 _ (List.mem_of_getElem? (i := 6) rfl))) (fun _ h9 => h9) rfl (by decide +kernel) rfl rfl (Nat.le_of_ble_eq_true rfl) (dX5_takeTurn 89 rfl) (fun H locs hP hD hS => ?_)
        have hP : va_P D vwCl [(h, .inr (5, [.ref q_people, .ref q_places, .ref q_breath, .ref q_rows, .ref q_seen, .ref q_ends, va_rf f_field, .int f_size, .int f_turn_66, .int (f_yards_66 + f_gap), .int (f_time_66 + v2_66), .int f_gap, .int f_far, .int f_flat])), (q_people, .inl (cL, 7, .inr (.inr (.inr (.inr r_people))))), (q_places, .inl (cI, 7, .inl y8)), (q_breath, .inl (cI, 7, .inl r_breath_66)), (q_rows, .inl (cI, 21, .inl r_rows)), (q_seen, .inl (cI, 5, .inl r_seen_66))] H := hP
        have hD : va_D A [(h, .inr (5, [.ref q_people, .ref q_places, .ref q_breath, .ref q_rows, .ref q_seen, .ref q_ends, va_rf f_field, .int f_size, .int f_turn_66, .int (f_yards_66 + f_gap), .int (f_time_66 + v2_66), .int f_gap, .int f_far, .int f_flat])), (q_people, .inl (cL, 7, .inr (.inr (.inr (.inr r_people))))), (q_places, .inl (cI, 7, .inl y8)), (q_breath, .inl (cI, 7, .inl r_breath_66)), (q_rows, .inl (cI, 21, .inl r_rows)), (q_seen, .inl (cI, 5, .inl r_seen_66))] := hD
        refine lv_aload_n hx hb (dX5_takeTurn 90 rfl) rfl (lv_at hl 0 rfl) ?_
        refine lv_dup hx hb (dX5_takeTurn 91 rfl) rfl ?_
        refine va_get (D := D) (ci := 5) (v := .int f_turn_66) (C := RX5) (T := TX5) (N := 14) hx hb hts inlX5 hown hK hP 0 rfl rfl 8 (by decide) (hts (.fieldLink RX5 52 "OverBacks$Line" "turn" "I") (inR17 _ (List.mem_of_getElem? (i := 19) rfl))) (fun _ h9 => h9) rfl (dX5_takeTurn 92 rfl) ?_
        refine lv_iconst (v := (1 : Int32)) hx hb (dX5_takeTurn 93 rfl) (by decide) ?_
        refine lv_iadd hx hb (dX5_takeTurn 94 rfl) ?_
        refine va_put (D := D) (ci := 5) (v := .int (f_turn_66 + (1 : Int32))) (ty := .int) (C := RX5) (T := TX5) (N := 14) hx hb hts inlX5 tyX5 tyX5_ok nmX5 hown hK hP hD hS 0 rfl rfl 8 (by decide) (hts (.fieldLink RX5 52 "OverBacks$Line" "turn" "I") (inR17 _ (List.mem_of_getElem? (i := 19) rfl))) (fun _ h9 => h9) rfl (by decide +kernel) rfl rfl (Nat.le_of_ble_eq_true rfl) (dX5_takeTurn 95 rfl) (fun H locs hP hD hS => ?_)
        have hP : va_P D vwCl [(h, .inr (5, [.ref q_people, .ref q_places, .ref q_breath, .ref q_rows, .ref q_seen, .ref q_ends, va_rf f_field, .int f_size, .int (f_turn_66 + (1 : Int32)), .int (f_yards_66 + f_gap), .int (f_time_66 + v2_66), .int f_gap, .int f_far, .int f_flat])), (q_people, .inl (cL, 7, .inr (.inr (.inr (.inr r_people))))), (q_places, .inl (cI, 7, .inl y8)), (q_breath, .inl (cI, 7, .inl r_breath_66)), (q_rows, .inl (cI, 21, .inl r_rows)), (q_seen, .inl (cI, 5, .inl r_seen_66))] H := hP
        have hD : va_D A [(h, .inr (5, [.ref q_people, .ref q_places, .ref q_breath, .ref q_rows, .ref q_seen, .ref q_ends, va_rf f_field, .int f_size, .int (f_turn_66 + (1 : Int32)), .int (f_yards_66 + f_gap), .int (f_time_66 + v2_66), .int f_gap, .int f_far, .int f_flat])), (q_people, .inl (cL, 7, .inr (.inr (.inr (.inr r_people))))), (q_places, .inl (cI, 7, .inl y8)), (q_breath, .inl (cI, 7, .inl r_breath_66)), (q_rows, .inl (cI, 21, .inl r_rows)), (q_seen, .inl (cI, 5, .inl r_seen_66))] := hD
        refine lv_iload_n hx hb (dX5_takeTurn 96 rfl) rfl (lv_at hl 2 rfl) ?_
        exact hZ v2_66 (f_turn_66 + (1 : Int32), f_yards_66 + f_gap, f_time_66 + v2_66, y8, r_breath_66, r_seen_66) H locs ls 158 hm hP hD hS (dX5_takeTurn 97 rfl) rfl
      replace hm := hm.2 c7
      refine lv_aload_n hx hb (dX5_takeTurn 44 rfl) rfl (lv_at hl 0 rfl) ?_
      refine va_get (D := D) (ci := 5) (v := .ref q_places) (C := RX5) (T := TX5) (N := 14) hx hb hts inlX5 hown hK hP 0 rfl rfl 1 (by decide) (hts (.fieldLink RX5 17 "OverBacks$Line" "places" "[I") (inR2 _ (List.mem_of_getElem? (i := 21) rfl))) (fun _ h9 => h9) rfl (dX5_takeTurn 45 rfl) ?_
      refine lv_iload_n hx hb (dX5_takeTurn 46 rfl) rfl (lv_at hl 3 rfl) ?_
      refine lv_iconst (v := (1 : Int32)) hx hb (dX5_takeTurn 47 rfl) (by decide) ?_
      refine lv_isub hx hb (dX5_takeTurn 48 rfl) ?_
      refine va_iald hx hb hK hP 2 0 rfl rfl hm.1 (dX5_takeTurn 49 rfl) ?_
      replace hm := hm.2
      refine lv_topi (fun x9 ex9 => ?_)
      replace hm := hm x9 ex9
      refine lv_istore (lv' := [(4, .int x9), (0, .ref h), (1, .int v1_66), (2, .int v2_66), (3, .int v3_66)]) hx hb (dX5_takeTurn 50 rfl) hl (by decide) rfl (fun ls hl => ?_)
      refine lv_aload_n hx hb (dX5_takeTurn 51 rfl) rfl (lv_at hl 1 rfl) ?_
      refine va_get (D := D) (ci := 5) (v := .ref q_places) (C := RX5) (T := TX5) (N := 14) hx hb hts inlX5 hown hK hP 0 rfl rfl 1 (by decide) (hts (.fieldLink RX5 17 "OverBacks$Line" "places" "[I") (inR2 _ (List.mem_of_getElem? (i := 21) rfl))) (fun _ h9 => h9) rfl (dX5_takeTurn 52 rfl) ?_
      refine lv_iload_n hx hb (dX5_takeTurn 53 rfl) rfl (lv_at hl 4 rfl) ?_
      refine lv_iload hx hb (dX5_takeTurn 54 rfl) (lv_at hl 0 rfl) ?_
      refine va_iast hx hb hK hP hD hS 2 0 rfl rfl hm.1 (dX5_takeTurn 55 rfl) (fun H locs hP hD hS => ?_)
      replace hm := hm.2
      obtain ⟨y10, ey10⟩ : ∃ q : Nat → Int32, q = upd r_places_66 v3_66.toNatClampNeg x9 := ⟨_, rfl⟩
      replace hm := hm y10 ey10
      have hP : va_P D vwCl [(h, .inr (5, [.ref q_people, .ref q_places, .ref q_breath, .ref q_rows, .ref q_seen, .ref q_ends, va_rf f_field, .int f_size, .int f_turn_66, .int f_yards_66, .int f_time_66, .int f_gap, .int f_far, .int f_flat])), (q_people, .inl (cL, 7, .inr (.inr (.inr (.inr r_people))))), (q_places, .inl (cI, 7, .inl y10)), (q_breath, .inl (cI, 7, .inl r_breath_66)), (q_rows, .inl (cI, 21, .inl r_rows)), (q_seen, .inl (cI, 5, .inl r_seen_66))] H := by rw [ey10]; exact hP
      have hD : va_D A [(h, .inr (5, [.ref q_people, .ref q_places, .ref q_breath, .ref q_rows, .ref q_seen, .ref q_ends, va_rf f_field, .int f_size, .int f_turn_66, .int f_yards_66, .int f_time_66, .int f_gap, .int f_far, .int f_flat])), (q_people, .inl (cL, 7, .inr (.inr (.inr (.inr r_people))))), (q_places, .inl (cI, 7, .inl y10)), (q_breath, .inl (cI, 7, .inl r_breath_66)), (q_rows, .inl (cI, 21, .inl r_rows)), (q_seen, .inl (cI, 5, .inl r_seen_66))] := by rw [ey10]; exact hD
      refine lv_aload_n hx hb (dX5_takeTurn 56 rfl) rfl (lv_at hl 1 rfl) ?_
      refine va_get (D := D) (ci := 5) (v := .ref q_breath) (C := RX5) (T := TX5) (N := 14) hx hb hts inlX5 hown hK hP 0 rfl rfl 2 (by decide) (hts (.fieldLink RX5 21 "OverBacks$Line" "breath" "[I") (inR2 _ (List.mem_of_getElem? (i := 22) rfl))) (fun _ h9 => h9) rfl (dX5_takeTurn 57 rfl) ?_
      refine lv_iload hx hb (dX5_takeTurn 58 rfl) (lv_at hl 0 rfl) ?_
      refine va_iald hx hb hK hP 3 0 rfl rfl hm.1 (dX5_takeTurn 59 rfl) ?_
      replace hm := hm.2
      refine lv_bipush (v := (9 : Int32)) hx hb (dX5_takeTurn 60 rfl) (by decide) ?_
      refine lv_icmp_ge (tgt := 111) hx hb (dX5_takeTurn 61 rfl) (by decide) (fun c11 => ?_) (fun c11 => ?_)
      · replace hm := hm.1 c11
        exact lab111 y10 r_breath_66 v3_66 H locs ls hP hD hS (lv_sub hl [1, 2, 3, 4] rfl) hm
      replace hm := hm.2 c11
      refine lv_aload_n hx hb (dX5_takeTurn 62 rfl) rfl (lv_at hl 1 rfl) ?_
      refine va_get (D := D) (ci := 5) (v := .ref q_breath) (C := RX5) (T := TX5) (N := 14) hx hb hts inlX5 hown hK hP 0 rfl rfl 2 (by decide) (hts (.fieldLink RX5 21 "OverBacks$Line" "breath" "[I") (inR2 _ (List.mem_of_getElem? (i := 22) rfl))) (fun _ h9 => h9) rfl (dX5_takeTurn 63 rfl) ?_
      refine lv_iload hx hb (dX5_takeTurn 64 rfl) (lv_at hl 0 rfl) ?_
      refine lv_dup2_11 hx hb (dX5_takeTurn 65 rfl) rfl rfl ?_
      refine va_iald hx hb hK hP 3 0 rfl rfl hm.1 (dX5_takeTurn 66 rfl) ?_
      replace hm := hm.2
      refine lv_iconst (v := (1 : Int32)) hx hb (dX5_takeTurn 67 rfl) (by decide) ?_
      refine lv_iadd hx hb (dX5_takeTurn 68 rfl) ?_
      refine va_iast hx hb hK hP hD hS 3 0 rfl rfl hm.1 (dX5_takeTurn 69 rfl) (fun H locs hP hD hS => ?_)
      replace hm := hm.2
      obtain ⟨y13, ey13⟩ : ∃ q : Nat → Int32, q = upd r_breath_66 x9.toNatClampNeg ((r_breath_66 x9.toNatClampNeg) + (1 : Int32)) := ⟨_, rfl⟩
      replace hm := hm y13 ey13
      have hP : va_P D vwCl [(h, .inr (5, [.ref q_people, .ref q_places, .ref q_breath, .ref q_rows, .ref q_seen, .ref q_ends, va_rf f_field, .int f_size, .int f_turn_66, .int f_yards_66, .int f_time_66, .int f_gap, .int f_far, .int f_flat])), (q_people, .inl (cL, 7, .inr (.inr (.inr (.inr r_people))))), (q_places, .inl (cI, 7, .inl y10)), (q_breath, .inl (cI, 7, .inl y13)), (q_rows, .inl (cI, 21, .inl r_rows)), (q_seen, .inl (cI, 5, .inl r_seen_66))] H := by rw [ey13]; exact hP
      have hD : va_D A [(h, .inr (5, [.ref q_people, .ref q_places, .ref q_breath, .ref q_rows, .ref q_seen, .ref q_ends, va_rf f_field, .int f_size, .int f_turn_66, .int f_yards_66, .int f_time_66, .int f_gap, .int f_far, .int f_flat])), (q_people, .inl (cL, 7, .inr (.inr (.inr (.inr r_people))))), (q_places, .inl (cI, 7, .inl y10)), (q_breath, .inl (cI, 7, .inl y13)), (q_rows, .inl (cI, 21, .inl r_rows)), (q_seen, .inl (cI, 5, .inl r_seen_66))] := by rw [ey13]; exact hD
      exact lab111 y10 y13 v3_66 H locs ls hP hD hS (lv_sub hl [1, 2, 3, 4] rfl) hm
  have lab30 : ∀ (f_turn_30 : Int32) (f_yards_30 : Int32) (f_time_30 : Int32) (r_places_30 : Nat → Int32) (v1_30 : Int32) (n30 : Nat) (r_breath_30 : Nat → Int32) (r_seen_30 : Nat → Int32) (v2_30 : Int32) (v3_30 : Int32) , ∀ (H : Heap) (locs : List Loc) (ls : Array Slot), va_P D vwCl [(h, .inr (5, [.ref q_people, .ref q_places, .ref q_breath, .ref q_rows, .ref q_seen, .ref q_ends, va_rf f_field, .int f_size, .int f_turn_30, .int f_yards_30, .int f_time_30, .int f_gap, .int f_far, .int f_flat])), (q_people, .inl (cL, 7, .inr (.inr (.inr (.inr r_people))))), (q_places, .inl (cI, 7, .inl r_places_30)), (q_breath, .inl (cI, 7, .inl r_breath_30)), (q_rows, .inl (cI, 21, .inl r_rows)), (q_seen, .inl (cI, 5, .inl r_seen_30))] H → va_D A [(h, .inr (5, [.ref q_people, .ref q_places, .ref q_breath, .ref q_rows, .ref q_seen, .ref q_ends, va_rf f_field, .int f_size, .int f_turn_30, .int f_yards_30, .int f_time_30, .int f_gap, .int f_far, .int f_flat])), (q_people, .inl (cL, 7, .inr (.inr (.inr (.inr r_people))))), (q_places, .inl (cI, 7, .inl r_places_30)), (q_breath, .inl (cI, 7, .inl r_breath_30)), (q_rows, .inl (cI, 21, .inl r_rows)), (q_seen, .inl (cI, 5, .inl r_seen_30))] → va_S A s.heap H locs → lv_has ls 5 [(0, .ref h), (1, .int v1_30), (2, .int v2_30), (3, .int v3_30)] → m_X5_takeTurn_L30 lk fk f_field f_size f_gap f_flat r_people r_rows f_turn_30 f_yards_30 f_time_30 r_places_30 v1_30 Q n30 r_breath_30 r_seen_30 v2_30 v3_30 → W p l e rmX5_takeTurn s m args below meth c H locs 0 0 Z (F0 m 30 ls []) := by
    clear hm
    intro f_turn_30 f_yards_30 f_time_30 r_places_30 v1_30
    intro n30
    induction n30 with
    | zero =>
      intro r_breath_30 r_seen_30 v2_30 v3_30 H locs ls hP hD hS hl hm
      exact hm.elim
    | succ n30 ih30 =>
      intro r_breath_30 r_seen_30 v2_30 v3_30 H locs ls hP hD hS hl hm
      unfold m_X5_takeTurn_L30 at hm
      obtain ⟨K30, hK30⟩ : ∃ K : (Nat → Int32) → (Nat → Int32) → Int32 → Int32 → Prop, K = m_X5_takeTurn_L30 lk fk f_field f_size f_gap f_flat r_people r_rows f_turn_30 f_yards_30 f_time_30 r_places_30 v1_30 Q n30 := ⟨_, rfl⟩
      rw [← hK30] at hm ih30
      refine lv_iload_n hx hb (dX5_takeTurn 20 rfl) rfl (lv_at hl 3 rfl) ?_
      refine lv_if_lt (tgt := 59) hx hb (dX5_takeTurn 21 rfl) (by decide) (fun c5 => ?_) (fun c5 => ?_)
      · replace hm := hm.1 c5
        refine lv_aload_n hx hb (dX5_takeTurn 37 rfl) rfl (lv_at hl 0 rfl) ?_
        refine va_get (D := D) (ci := 5) (v := .int f_size) (C := RX5) (T := TX5) (N := 14) hx hb hts inlX5 hown hK hP 0 rfl rfl 7 (by decide) (hts (.fieldLink RX5 49 "OverBacks$Line" "size" "I") (inR15 _ (List.mem_of_getElem? (i := 23) rfl))) (fun _ h9 => h9) rfl (dX5_takeTurn 38 rfl) ?_
        refine lv_iconst (v := (1 : Int32)) hx hb (dX5_takeTurn 39 rfl) (by decide) ?_
        refine lv_isub hx hb (dX5_takeTurn 40 rfl) ?_
        refine lv_topi (fun x6 ex6 => ?_)
        replace hm := hm x6 ex6
        refine lv_istore_n (lv' := [(3, .int x6), (0, .ref h), (1, .int v1_30), (2, .int v2_30)]) hx hb (dX5_takeTurn 41 rfl) rfl hl (by decide) rfl (fun ls hl => ?_)
        obtain ⟨n14, hm⟩ := hm
        exact lab66 f_turn_30 f_yards_30 f_time_30 r_seen_30 v1_30 v2_30 n14 r_places_30 r_breath_30 x6 H locs ls hP hD hS (lv_sub hl [1, 2, 3, 0] rfl) hm
      replace hm := hm.2 c5
      refine lv_iload_n hx hb (dX5_takeTurn 22 rfl) rfl (lv_at hl 2 rfl) ?_
      refine lv_aload_n hx hb (dX5_takeTurn 23 rfl) rfl (lv_at hl 0 rfl) ?_
      refine lv_iload_n hx hb (dX5_takeTurn 24 rfl) rfl (lv_at hl 1 rfl) ?_
      refine lv_aload_n hx hb (dX5_takeTurn 25 rfl) rfl (lv_at hl 0 rfl) ?_
      refine va_get (D := D) (ci := 5) (v := .ref q_places) (C := RX5) (T := TX5) (N := 14) hx hb hts inlX5 hown hK hP 0 rfl rfl 1 (by decide) (hts (.fieldLink RX5 17 "OverBacks$Line" "places" "[I") (inR2 _ (List.mem_of_getElem? (i := 21) rfl))) (fun _ h9 => h9) rfl (dX5_takeTurn 26 rfl) ?_
      refine lv_iload_n hx hb (dX5_takeTurn 27 rfl) rfl (lv_at hl 3 rfl) ?_
      refine va_iald hx hb hK hP 2 0 rfl rfl hm.1 (dX5_takeTurn 28 rfl) ?_
      replace hm := hm.2
      have hcut := ob_cut (wc := [(h, .inr (5, [.ref q_people, .ref q_places, .ref q_breath, .ref q_rows, .ref q_seen, .ref q_ends, va_rf f_field, .int f_size, .int f_turn_30, .int f_yards_30, .int f_time_30, .int f_gap, .int f_far, .int f_flat])), (q_people, .inl (cL, 7, .inr (.inr (.inr (.inr r_people))))), (q_breath, .inl (cI, 7, .inl r_breath_30)), (q_rows, .inl (cI, 21, .inl r_rows)), (q_seen, .inl (cI, 5, .inl r_seen_30))]) hP hD hS hA [0, 1, 3, 4, 5] rfl (by decide)
      refine ob_i (wr := [(q_places, .inl (cI, 7, .inl r_places_30))]) (ob_V (As := [.int v1_30, .int (r_places_30 v3_30.toNatClampNeg)]) (rest := [.int v2_30]) ⟨hx, hb, hml, hown, hts⟩ hK hcut (hI.cut hS hcut.2.2) hN (va_recv hK hP (ci := 5) (q0 := 0) rfl rfl) (k_X5_leapTime l D cI cZ cL im lk fk hlk hfk _ _ _ _ _ _ _ _ _ _ _ _ _ _ _ _ _ _ _ _ _ _ _ hm) (cwV 2 hts (gU_V (inR25 _ (List.mem_of_getElem? (i := 7) rfl)) (inR21 _ (List.mem_of_getElem? (i := 23) rfl)) (inR22 _ (List.mem_of_getElem? (i := 0) rfl)) (inR1 _ (List.mem_of_getElem? (i := 19) rfl)) (inR22 _ (List.mem_of_getElem? (i := 1) rfl))) rfl rfl rfl (by decide +kernel) ⟨Nat.le_of_ble_eq_true rfl, Nat.le_of_ble_eq_true rfl⟩) rfl hl.1 rfl (Nat.le_of_ble_eq_true rfl) (dX5_takeTurn 29 rfl) ⟨Nat.zero_le _, Nat.zero_le _⟩) hP hD hS hcut [0, 1, 3, 4, 5] [2] rfl rfl (by decide) (by decide) (fun r15 u16 H locs hm hP hD hS => ?_)
      have hP := hP.sub (ws' := [(h, .inr (5, [.ref q_people, .ref q_places, .ref q_breath, .ref q_rows, .ref q_seen, .ref q_ends, va_rf f_field, .int f_size, .int f_turn_30, .int f_yards_30, .int f_time_30, .int f_gap, .int f_far, .int f_flat])), (q_people, .inl (cL, 7, .inr (.inr (.inr (.inr r_people))))), (q_places, .inl (cI, 7, .inl r_places_30)), (q_breath, .inl (cI, 7, .inl r_breath_30)), (q_rows, .inl (cI, 21, .inl r_rows)), (q_seen, .inl (cI, 5, .inl u16))]) [1, 2, 0, 3, 4, 5] rfl
      have hD := hD.sub (ws' := [(h, .inr (5, [.ref q_people, .ref q_places, .ref q_breath, .ref q_rows, .ref q_seen, .ref q_ends, va_rf f_field, .int f_size, .int f_turn_30, .int f_yards_30, .int f_time_30, .int f_gap, .int f_far, .int f_flat])), (q_people, .inl (cL, 7, .inr (.inr (.inr (.inr r_people))))), (q_places, .inl (cI, 7, .inl r_places_30)), (q_breath, .inl (cI, 7, .inl r_breath_30)), (q_rows, .inl (cI, 21, .inl r_rows)), (q_seen, .inl (cI, 5, .inl u16))]) [1, 2, 0, 3, 4, 5] (by decide) rfl
      refine lv_iadd hx hb (dX5_takeTurn 30 rfl) ?_
      refine lv_topi (fun x18 ex18 => ?_)
      replace hm := hm x18 ex18
      refine lv_istore_n (lv' := [(2, .int x18), (0, .ref h), (1, .int v1_30), (3, .int v3_30)]) hx hb (dX5_takeTurn 31 rfl) rfl hl (by decide) rfl (fun ls hl => ?_)
      refine lv_aload_n hx hb (dX5_takeTurn 32 rfl) rfl (lv_at hl 1 rfl) ?_
      refine lv_iload_n hx hb (dX5_takeTurn 33 rfl) rfl (lv_at hl 2 rfl) ?_
      have hcut := ob_cut (wc := [(h, .inr (5, [.ref q_people, .ref q_places, .ref q_breath, .ref q_rows, .ref q_seen, .ref q_ends, va_rf f_field, .int f_size, .int f_turn_30, .int f_yards_30, .int f_time_30, .int f_gap, .int f_far, .int f_flat])), (q_people, .inl (cL, 7, .inr (.inr (.inr (.inr r_people))))), (q_breath, .inl (cI, 7, .inl r_breath_30))]) hP hD hS hA [0, 1, 3] rfl (by decide)
      refine ob_v (wr := [(q_places, .inl (cI, 7, .inl r_places_30)), (q_rows, .inl (cI, 21, .inl r_rows)), (q_seen, .inl (cI, 5, .inl u16))]) (ob_V (As := [.int v1_30]) (rest := []) ⟨hx, hb, hml, hown, hts⟩ hK hcut (hI.cut hS hcut.2.2) hN (va_recv hK hP (ci := 5) (q0 := 0) rfl rfl) (k_X5_tire l D cI cZ cL im _ _ _ _ _ _ _ _ _ _ _ _ _ _ _ _ _ _ _ _ hm) (cwV 1 hts (gU_V (inR25 _ (List.mem_of_getElem? (i := 8) rfl)) (inR25 _ (List.mem_of_getElem? (i := 9) rfl)) (inR25 _ (List.mem_of_getElem? (i := 10) rfl)) (inR1 _ (List.mem_of_getElem? (i := 19) rfl)) (inR25 _ (List.mem_of_getElem? (i := 11) rfl))) rfl rfl rfl (by decide +kernel) ⟨Nat.le_of_ble_eq_true rfl, Nat.le_of_ble_eq_true rfl⟩) rfl hl.1 rfl (Nat.le_of_ble_eq_true rfl) (dX5_takeTurn 34 rfl) ⟨Nat.zero_le _, Nat.zero_le _⟩) hP hD hS hcut [0, 1, 3] [2, 4, 5] rfl rfl (by decide) (by decide) (fun u20 H locs hm hP hD hS => ?_)
      have hP := hP.sub (ws' := [(h, .inr (5, [.ref q_people, .ref q_places, .ref q_breath, .ref q_rows, .ref q_seen, .ref q_ends, va_rf f_field, .int f_size, .int f_turn_30, .int f_yards_30, .int f_time_30, .int f_gap, .int f_far, .int f_flat])), (q_people, .inl (cL, 7, .inr (.inr (.inr (.inr r_people))))), (q_places, .inl (cI, 7, .inl r_places_30)), (q_breath, .inl (cI, 7, .inl u20)), (q_rows, .inl (cI, 21, .inl r_rows)), (q_seen, .inl (cI, 5, .inl u16))]) [3, 4, 0, 5, 1, 2] rfl
      have hD := hD.sub (ws' := [(h, .inr (5, [.ref q_people, .ref q_places, .ref q_breath, .ref q_rows, .ref q_seen, .ref q_ends, va_rf f_field, .int f_size, .int f_turn_30, .int f_yards_30, .int f_time_30, .int f_gap, .int f_far, .int f_flat])), (q_people, .inl (cL, 7, .inr (.inr (.inr (.inr r_people))))), (q_places, .inl (cI, 7, .inl r_places_30)), (q_breath, .inl (cI, 7, .inl u20)), (q_rows, .inl (cI, 21, .inl r_rows)), (q_seen, .inl (cI, 5, .inl u16))]) [3, 4, 0, 5, 1, 2] (by decide) rfl
      obtain ⟨x22, ex22⟩ : ∃ y : Int32, y = v3_30 + (-1 : Int32) := ⟨_, rfl⟩
      replace hm := hm x22 ex22
      refine lv_iinc (v := x22) (lv' := [(3, .int x22), (2, .int x18), (0, .ref h), (1, .int v1_30)]) hx hb (dX5_takeTurn 35 rfl) hl (k := 3) rfl (by rw [ex22]; rfl) (by decide) rfl (fun ls hl => ?_)
      refine lv_goto (tgt := 30) hx hb (dX5_takeTurn 36 rfl) (by decide) ?_
      exact ih30 u20 u16 x18 x22 H locs ls hP hD hS (lv_sub hl [2, 3, 1, 0] rfl) hm
  obtain ⟨H, hH⟩ : ∃ H, H = s.heap := ⟨_, rfl⟩
  obtain ⟨locs, hlo⟩ : ∃ q : List Loc, q = [] := ⟨_, rfl⟩
  suffices hgo : W p l e rmX5_takeTurn s m args below meth c H locs 0 0 Z (F0 m 0 ls []) by rw [hH, hlo] at hgo; exact hgo
  have hP : va_P D vwCl [(h, .inr (5, [.ref q_people, .ref q_places, .ref q_breath, .ref q_rows, .ref q_seen, .ref q_ends, va_rf f_field, .int f_size, .int f_turn, .int f_yards, .int f_time, .int f_gap, .int f_far, .int f_flat])), (q_people, .inl (cL, 7, .inr (.inr (.inr (.inr r_people))))), (q_places, .inl (cI, 7, .inl r_places)), (q_breath, .inl (cI, 7, .inl r_breath)), (q_rows, .inl (cI, 21, .inl r_rows)), (q_seen, .inl (cI, 5, .inl r_seen))] H := by rw [hH]; exact hP
  have hD : va_D A [(h, .inr (5, [.ref q_people, .ref q_places, .ref q_breath, .ref q_rows, .ref q_seen, .ref q_ends, va_rf f_field, .int f_size, .int f_turn, .int f_yards, .int f_time, .int f_gap, .int f_far, .int f_flat])), (q_people, .inl (cL, 7, .inr (.inr (.inr (.inr r_people))))), (q_places, .inl (cI, 7, .inl r_places)), (q_breath, .inl (cI, 7, .inl r_breath)), (q_rows, .inl (cI, 21, .inl r_rows)), (q_seen, .inl (cI, 5, .inl r_seen))] := hD
  have hS : va_S A s.heap H locs := by rw [hH, hlo]; exact hS
  refine lv_aload_n hx hb (dX5_takeTurn 0 rfl) rfl (lv_at hl 0 rfl) ?_
  refine va_get (D := D) (ci := 5) (v := .int f_size) (C := RX5) (T := TX5) (N := 14) hx hb hts inlX5 hown hK hP 0 rfl rfl 7 (by decide) (hts (.fieldLink RX5 49 "OverBacks$Line" "size" "I") (inR15 _ (List.mem_of_getElem? (i := 23) rfl))) (fun _ h9 => h9) rfl (dX5_takeTurn 1 rfl) ?_
  refine lv_if_ne (tgt := 9) hx hb (dX5_takeTurn 2 rfl) (by decide) (fun c1 => ?_) (fun c1 => ?_)
  · replace hm := hm.2 c1
    refine lv_aload_n hx hb (dX5_takeTurn 5 rfl) rfl (lv_at hl 0 rfl) ?_
    refine va_get (D := D) (ci := 5) (v := .ref q_places) (C := RX5) (T := TX5) (N := 14) hx hb hts inlX5 hown hK hP 0 rfl rfl 1 (by decide) (hts (.fieldLink RX5 17 "OverBacks$Line" "places" "[I") (inR2 _ (List.mem_of_getElem? (i := 21) rfl))) (fun _ h9 => h9) rfl (dX5_takeTurn 6 rfl) ?_
    refine lv_aload_n hx hb (dX5_takeTurn 7 rfl) rfl (lv_at hl 0 rfl) ?_
    refine va_get (D := D) (ci := 5) (v := .int f_size) (C := RX5) (T := TX5) (N := 14) hx hb hts inlX5 hown hK hP 0 rfl rfl 7 (by decide) (hts (.fieldLink RX5 49 "OverBacks$Line" "size" "I") (inR15 _ (List.mem_of_getElem? (i := 23) rfl))) (fun _ h9 => h9) rfl (dX5_takeTurn 8 rfl) ?_
    refine lv_iconst (v := (1 : Int32)) hx hb (dX5_takeTurn 9 rfl) (by decide) ?_
    refine lv_isub hx hb (dX5_takeTurn 10 rfl) ?_
    refine va_iald hx hb hK hP 2 0 rfl rfl hm.1 (dX5_takeTurn 11 rfl) ?_
    replace hm := hm.2
    refine lv_topi (fun x2 ex2 => ?_)
    replace hm := hm x2 ex2
    refine lv_istore_n (lv' := [(1, .int x2), (0, .ref h)]) hx hb (dX5_takeTurn 12 rfl) rfl hl (by decide) rfl (fun ls hl => ?_)
    refine lv_iconst (v := (0 : Int32)) hx hb (dX5_takeTurn 13 rfl) (by decide) ?_
    refine lv_topi (fun x3 ex3 => ?_)
    replace hm := hm x3 ex3
    refine lv_istore_n (lv' := [(2, .int x3), (1, .int x2), (0, .ref h)]) hx hb (dX5_takeTurn 14 rfl) rfl hl (by decide) rfl (fun ls hl => ?_)
    refine lv_aload_n hx hb (dX5_takeTurn 15 rfl) rfl (lv_at hl 2 rfl) ?_
    refine va_get (D := D) (ci := 5) (v := .int f_size) (C := RX5) (T := TX5) (N := 14) hx hb hts inlX5 hown hK hP 0 rfl rfl 7 (by decide) (hts (.fieldLink RX5 49 "OverBacks$Line" "size" "I") (inR15 _ (List.mem_of_getElem? (i := 23) rfl))) (fun _ h9 => h9) rfl (dX5_takeTurn 16 rfl) ?_
    refine lv_iconst (v := (2 : Int32)) hx hb (dX5_takeTurn 17 rfl) (by decide) ?_
    refine lv_isub hx hb (dX5_takeTurn 18 rfl) ?_
    refine lv_topi (fun x4 ex4 => ?_)
    replace hm := hm x4 ex4
    refine lv_istore_n (lv' := [(3, .int x4), (2, .int x3), (1, .int x2), (0, .ref h)]) hx hb (dX5_takeTurn 19 rfl) rfl hl (by decide) rfl (fun ls hl => ?_)
    obtain ⟨n23, hm⟩ := hm
    exact lab30 f_turn f_yards f_time r_places x2 n23 r_breath r_seen x3 x4 H locs ls hP hD hS (lv_sub hl [3, 2, 1, 0] rfl) hm
  replace hm := hm.1 c1
  refine lv_iconst (v := (0 : Int32)) hx hb (dX5_takeTurn 3 rfl) (by decide) ?_
  exact hZ (0 : Int32) (f_turn, f_yards, f_time, r_places, r_breath, r_seen) H locs ls 8 hm hP hD hS (dX5_takeTurn 4 rfl) rfl
abbrev rmX5_takeTurns : Room := { frames := 5, cells := 0, slots := 0, locals := 122 }
set_option maxHeartbeats 4000000 in
set_option maxRecDepth 100000 in
theorem k_X5_takeTurns (l : Launch) (D : va_G) (cI cZ cL : ClassId) (im : obIM) (lk : Nat → Option (Nat × Int32 × Int32 × Int32)) (fk : Nat → Option ((Nat → Int32) × (Nat → Int32) × (Nat → Int32) × (Nat → Int32) × (Nat → Int32) × Int32)) (hlk : obLK im lk) (hfk : obFK cI im fk) (sz : Nat) (h : Nat) (q_people : Nat) (q_places : Nat) (q_breath : Nat) (q_rows : Nat) (q_seen : Nat) (q_ends : Nat) (f_field : Option Nat) (f_size : Int32) (f_turn : Int32) (f_yards : Int32) (f_time : Int32) (f_gap : Int32) (f_far : Int32) (f_flat : Int32) (r_people : Nat → Option Nat) (r_places : Nat → Int32) (r_breath : Nat → Int32) (r_rows : Nat → Int32) (r_seen : Nat → Int32) (a1 : Int32) (Q : Int32 → Int32 → Int32 → (Nat → Int32) → (Nat → Int32) → (Nat → Int32) → Prop) (hm : m_X5_takeTurns lk fk f_field f_size f_turn f_yards f_time f_gap f_flat r_people r_places r_breath r_rows r_seen a1 Q) : Met l yX5_takeTurns (Cond.code yX5_takeTurns cX5_takeTurns 3 none :: wsL_law) rmX5_takeTurns (obPre D (tyG cI cZ cL) im [(h, .inr (5, [.ref q_people, .ref q_places, .ref q_breath, .ref q_rows, .ref q_seen, .ref q_ends, va_rf f_field, .int f_size, .int f_turn, .int f_yards, .int f_time, .int f_gap, .int f_far, .int f_flat])), (q_people, .inl (cL, 7, .inr (.inr (.inr (.inr r_people))))), (q_places, .inl (cI, 7, .inl r_places)), (q_breath, .inl (cI, 7, .inl r_breath)), (q_rows, .inl (cI, 21, .inl r_rows)), (q_seen, .inl (cI, 5, .inl r_seen))] sz [.ref h, .int a1]) (va_Qv (fun (u : Int32 × Int32 × Int32 × (Nat → Int32) × (Nat → Int32) × (Nat → Int32)) => Q u.1 u.2.1 u.2.2.1 u.2.2.2.1 u.2.2.2.2.1 u.2.2.2.2.2) (obB D (va_A [(h, .inr (5, [.ref q_people, .ref q_places, .ref q_breath, .ref q_rows, .ref q_seen, .ref q_ends, va_rf f_field, .int f_size, .int f_turn, .int f_yards, .int f_time, .int f_gap, .int f_far, .int f_flat])), (q_people, .inl (cL, 7, .inr (.inr (.inr (.inr r_people))))), (q_places, .inl (cI, 7, .inl r_places)), (q_breath, .inl (cI, 7, .inl r_breath)), (q_rows, .inl (cI, 21, .inl r_rows)), (q_seen, .inl (cI, 5, .inl r_seen))] sz) (fun u : Int32 × Int32 × Int32 × (Nat → Int32) × (Nat → Int32) × (Nat → Int32) => [(h, .inr (5, [.ref q_people, .ref q_places, .ref q_breath, .ref q_rows, .ref q_seen, .ref q_ends, va_rf f_field, .int f_size, .int u.1, .int u.2.1, .int u.2.2.1, .int f_gap, .int f_far, .int f_flat])), (q_people, .inl (cL, 7, .inr (.inr (.inr (.inr r_people))))), (q_places, .inl (cI, 7, .inl u.2.2.2.1)), (q_breath, .inl (cI, 7, .inl u.2.2.2.2.1)), (q_rows, .inl (cI, 21, .inl r_rows)), (q_seen, .inl (cI, 5, .inl u.2.2.2.2.2))])) (va_A [(h, .inr (5, [.ref q_people, .ref q_places, .ref q_breath, .ref q_rows, .ref q_seen, .ref q_ends, va_rf f_field, .int f_size, .int f_turn, .int f_yards, .int f_time, .int f_gap, .int f_far, .int f_flat])), (q_people, .inl (cL, 7, .inr (.inr (.inr (.inr r_people))))), (q_places, .inl (cI, 7, .inl r_places)), (q_breath, .inl (cI, 7, .inl r_breath)), (q_rows, .inl (cI, 21, .inl r_rows)), (q_seen, .inl (cI, 5, .inl r_seen))] sz)) 0 0 (va_A [(h, .inr (5, [.ref q_people, .ref q_places, .ref q_breath, .ref q_rows, .ref q_seen, .ref q_ends, va_rf f_field, .int f_size, .int f_turn, .int f_yards, .int f_time, .int f_gap, .int f_far, .int f_flat])), (q_people, .inl (cL, 7, .inr (.inr (.inr (.inr r_people))))), (q_places, .inl (cI, 7, .inl r_places)), (q_breath, .inl (cI, 7, .inl r_breath)), (q_rows, .inl (cI, 21, .inl r_rows)), (q_seen, .inl (cI, 5, .inl r_seen))] sz) := by
  refine ob_met_v (cc := cX5_takeTurns) (maxL := 3) (by decide) (Nat.le_of_ble_eq_true rfl) (fun p e s m args below meth c A Z hx hb hml hown hts hnm hN hK hA hI hP hD hS hZ ls hl => ?_)
  have hl : lv_has ls 3 [(0, .ref h), (1, .int a1)] := hl
  unfold m_X5_takeTurns at hm
  have lab2 : ∀ (n2 : Nat) (f_turn_2 : Int32) (f_yards_2 : Int32) (f_time_2 : Int32) (r_places_2 : Nat → Int32) (r_breath_2 : Nat → Int32) (r_seen_2 : Nat → Int32) (v2_2 : Int32) , ∀ (H : Heap) (locs : List Loc) (ls : Array Slot), va_P D vwCl [(h, .inr (5, [.ref q_people, .ref q_places, .ref q_breath, .ref q_rows, .ref q_seen, .ref q_ends, va_rf f_field, .int f_size, .int f_turn_2, .int f_yards_2, .int f_time_2, .int f_gap, .int f_far, .int f_flat])), (q_people, .inl (cL, 7, .inr (.inr (.inr (.inr r_people))))), (q_places, .inl (cI, 7, .inl r_places_2)), (q_breath, .inl (cI, 7, .inl r_breath_2)), (q_rows, .inl (cI, 21, .inl r_rows)), (q_seen, .inl (cI, 5, .inl r_seen_2))] H → va_D A [(h, .inr (5, [.ref q_people, .ref q_places, .ref q_breath, .ref q_rows, .ref q_seen, .ref q_ends, va_rf f_field, .int f_size, .int f_turn_2, .int f_yards_2, .int f_time_2, .int f_gap, .int f_far, .int f_flat])), (q_people, .inl (cL, 7, .inr (.inr (.inr (.inr r_people))))), (q_places, .inl (cI, 7, .inl r_places_2)), (q_breath, .inl (cI, 7, .inl r_breath_2)), (q_rows, .inl (cI, 21, .inl r_rows)), (q_seen, .inl (cI, 5, .inl r_seen_2))] → va_S A s.heap H locs → lv_has ls 3 [(0, .ref h), (1, .int a1), (2, .int v2_2)] → m_X5_takeTurns_L2 lk fk f_field f_size f_gap f_flat r_people r_rows a1 Q n2 f_turn_2 f_yards_2 f_time_2 r_places_2 r_breath_2 r_seen_2 v2_2 → W p l e rmX5_takeTurns s m args below meth c H locs 0 0 Z (F0 m 2 ls []) := by
    clear hm
    intro n2
    induction n2 with
    | zero =>
      intro f_turn_2 f_yards_2 f_time_2 r_places_2 r_breath_2 r_seen_2 v2_2 H locs ls hP hD hS hl hm
      exact hm.elim
    | succ n2 ih2 =>
      intro f_turn_2 f_yards_2 f_time_2 r_places_2 r_breath_2 r_seen_2 v2_2 H locs ls hP hD hS hl hm
      unfold m_X5_takeTurns_L2 at hm
      obtain ⟨K2, hK2⟩ : ∃ K : Int32 → Int32 → Int32 → (Nat → Int32) → (Nat → Int32) → (Nat → Int32) → Int32 → Prop, K = m_X5_takeTurns_L2 lk fk f_field f_size f_gap f_flat r_people r_rows a1 Q n2 := ⟨_, rfl⟩
      rw [← hK2] at hm ih2
      refine lv_iload_n hx hb (dX5_takeTurns 2 rfl) rfl (lv_at hl 2 rfl) ?_
      refine lv_iload_n hx hb (dX5_takeTurns 3 rfl) rfl (lv_at hl 1 rfl) ?_
      refine lv_icmp_ge (tgt := 18) hx hb (dX5_takeTurns 4 rfl) (by decide) (fun c2 => ?_) (fun c2 => ?_)
      · replace hm := hm.1 c2
        exact hZ (f_turn_2, f_yards_2, f_time_2, r_places_2, r_breath_2, r_seen_2) H locs ls 18 hm hP hD hS (dX5_takeTurns 10 rfl)
      replace hm := hm.2 c2
      refine lv_aload_n hx hb (dX5_takeTurns 5 rfl) rfl (lv_at hl 0 rfl) ?_
      have hcut := ob_cut (wc := [(h, .inr (5, [.ref q_people, .ref q_places, .ref q_breath, .ref q_rows, .ref q_seen, .ref q_ends, va_rf f_field, .int f_size, .int f_turn_2, .int f_yards_2, .int f_time_2, .int f_gap, .int f_far, .int f_flat])), (q_people, .inl (cL, 7, .inr (.inr (.inr (.inr r_people))))), (q_places, .inl (cI, 7, .inl r_places_2)), (q_breath, .inl (cI, 7, .inl r_breath_2)), (q_rows, .inl (cI, 21, .inl r_rows)), (q_seen, .inl (cI, 5, .inl r_seen_2))]) hP hD hS hA [0, 1, 2, 3, 4, 5] rfl (by decide)
      refine ob_i (wr := []) (ob_V (As := []) (rest := []) ⟨hx, hb, hml, hown, hts⟩ hK hcut (hI.cut hS hcut.2.2) hN (va_recv hK hP (ci := 5) (q0 := 0) rfl rfl) (k_X5_takeTurn l D cI cZ cL im lk fk hlk hfk _ _ _ _ _ _ _ _ _ _ _ _ _ _ _ _ _ _ _ _ _ _ hm) (cwV 0 hts (gU_V (inR28 _ (List.mem_of_getElem? (i := 7) rfl)) (inR25 _ (List.mem_of_getElem? (i := 2) rfl)) (inR25 _ (List.mem_of_getElem? (i := 3) rfl)) (inR1 _ (List.mem_of_getElem? (i := 19) rfl)) (inR25 _ (List.mem_of_getElem? (i := 4) rfl))) rfl rfl rfl (by decide +kernel) ⟨Nat.le_of_ble_eq_true rfl, Nat.le_of_ble_eq_true rfl⟩) rfl hl.1 rfl (Nat.le_of_ble_eq_true rfl) (dX5_takeTurns 6 rfl) ⟨Nat.zero_le _, Nat.zero_le _⟩) hP hD hS hcut [0, 1, 2, 3, 4, 5] [] rfl rfl (by decide) (by decide) (fun r3 u4 H locs hm hP hD hS => ?_)
      have hP := hP.sub (ws' := [(h, .inr (5, [.ref q_people, .ref q_places, .ref q_breath, .ref q_rows, .ref q_seen, .ref q_ends, va_rf f_field, .int f_size, .int u4.1, .int u4.2.1, .int u4.2.2.1, .int f_gap, .int f_far, .int f_flat])), (q_people, .inl (cL, 7, .inr (.inr (.inr (.inr r_people))))), (q_places, .inl (cI, 7, .inl u4.2.2.2.1)), (q_breath, .inl (cI, 7, .inl u4.2.2.2.2.1)), (q_rows, .inl (cI, 21, .inl r_rows)), (q_seen, .inl (cI, 5, .inl u4.2.2.2.2.2))]) [0, 1, 2, 3, 4, 5] rfl
      have hD := hD.sub (ws' := [(h, .inr (5, [.ref q_people, .ref q_places, .ref q_breath, .ref q_rows, .ref q_seen, .ref q_ends, va_rf f_field, .int f_size, .int u4.1, .int u4.2.1, .int u4.2.2.1, .int f_gap, .int f_far, .int f_flat])), (q_people, .inl (cL, 7, .inr (.inr (.inr (.inr r_people))))), (q_places, .inl (cI, 7, .inl u4.2.2.2.1)), (q_breath, .inl (cI, 7, .inl u4.2.2.2.2.1)), (q_rows, .inl (cI, 21, .inl r_rows)), (q_seen, .inl (cI, 5, .inl u4.2.2.2.2.2))]) [0, 1, 2, 3, 4, 5] (by decide) rfl
      refine lv_pop hx hb (dX5_takeTurns 7 rfl) rfl ?_
      obtain ⟨x11, ex11⟩ : ∃ y : Int32, y = v2_2 + 1 := ⟨_, rfl⟩
      replace hm := hm x11 ex11
      refine lv_iinc (v := x11) (lv' := [(2, .int x11), (0, .ref h), (1, .int a1)]) hx hb (dX5_takeTurns 8 rfl) hl (k := 2) rfl (by rw [ex11]; rfl) (by decide) rfl (fun ls hl => ?_)
      refine lv_goto (tgt := 2) hx hb (dX5_takeTurns 9 rfl) (by decide) ?_
      exact ih2 u4.1 u4.2.1 u4.2.2.1 u4.2.2.2.1 u4.2.2.2.2.1 u4.2.2.2.2.2 x11 H locs ls hP hD hS (lv_sub hl [1, 2, 0] rfl) hm
  obtain ⟨H, hH⟩ : ∃ H, H = s.heap := ⟨_, rfl⟩
  obtain ⟨locs, hlo⟩ : ∃ q : List Loc, q = [] := ⟨_, rfl⟩
  suffices hgo : W p l e rmX5_takeTurns s m args below meth c H locs 0 0 Z (F0 m 0 ls []) by rw [hH, hlo] at hgo; exact hgo
  have hP : va_P D vwCl [(h, .inr (5, [.ref q_people, .ref q_places, .ref q_breath, .ref q_rows, .ref q_seen, .ref q_ends, va_rf f_field, .int f_size, .int f_turn, .int f_yards, .int f_time, .int f_gap, .int f_far, .int f_flat])), (q_people, .inl (cL, 7, .inr (.inr (.inr (.inr r_people))))), (q_places, .inl (cI, 7, .inl r_places)), (q_breath, .inl (cI, 7, .inl r_breath)), (q_rows, .inl (cI, 21, .inl r_rows)), (q_seen, .inl (cI, 5, .inl r_seen))] H := by rw [hH]; exact hP
  have hD : va_D A [(h, .inr (5, [.ref q_people, .ref q_places, .ref q_breath, .ref q_rows, .ref q_seen, .ref q_ends, va_rf f_field, .int f_size, .int f_turn, .int f_yards, .int f_time, .int f_gap, .int f_far, .int f_flat])), (q_people, .inl (cL, 7, .inr (.inr (.inr (.inr r_people))))), (q_places, .inl (cI, 7, .inl r_places)), (q_breath, .inl (cI, 7, .inl r_breath)), (q_rows, .inl (cI, 21, .inl r_rows)), (q_seen, .inl (cI, 5, .inl r_seen))] := hD
  have hS : va_S A s.heap H locs := by rw [hH, hlo]; exact hS
  refine lv_iconst (v := (0 : Int32)) hx hb (dX5_takeTurns 0 rfl) (by decide) ?_
  refine lv_topi (fun x1 ex1 => ?_)
  replace hm := hm x1 ex1
  refine lv_istore_n (lv' := [(2, .int x1), (0, .ref h), (1, .int a1)]) hx hb (dX5_takeTurns 1 rfl) rfl hl (by decide) rfl (fun ls hl => ?_)
  obtain ⟨n12, hm⟩ := hm
  exact lab2 n12 f_turn f_yards f_time r_places r_breath r_seen x1 H locs ls hP hD hS (lv_sub hl [1, 2, 0] rfl) hm
abbrev rmX5_goAcross : Room := { frames := 5, cells := 0, slots := 0, locals := 122 }
set_option maxHeartbeats 4000000 in
set_option maxRecDepth 100000 in
theorem k_X5_goAcross (l : Launch) (D : va_G) (cI cZ cL : ClassId) (im : obIM) (lk : Nat → Option (Nat × Int32 × Int32 × Int32)) (fk : Nat → Option ((Nat → Int32) × (Nat → Int32) × (Nat → Int32) × (Nat → Int32) × (Nat → Int32) × Int32)) (hlk : obLK im lk) (hfk : obFK cI im fk) (sz : Nat) (h : Nat) (q_people : Nat) (q_places : Nat) (q_breath : Nat) (q_rows : Nat) (q_seen : Nat) (q_ends : Nat) (f_field : Option Nat) (f_size : Int32) (f_turn : Int32) (f_yards : Int32) (f_time : Int32) (f_gap : Int32) (f_far : Int32) (f_flat : Int32) (r_people : Nat → Option Nat) (r_places : Nat → Int32) (r_breath : Nat → Int32) (r_rows : Nat → Int32) (r_seen : Nat → Int32) (a1 : Int32) (Q : Int32 → Int32 → Int32 → Int32 → (Nat → Int32) → (Nat → Int32) → (Nat → Int32) → Prop) (hm : m_X5_goAcross lk fk f_field f_size f_turn f_yards f_time f_gap f_far f_flat r_people r_places r_breath r_rows r_seen a1 Q) : Met l yX5_goAcross (Cond.code yX5_goAcross cX5_goAcross 4 (some .int) :: wsL_law) rmX5_goAcross (obPre D (tyG cI cZ cL) im [(h, .inr (5, [.ref q_people, .ref q_places, .ref q_breath, .ref q_rows, .ref q_seen, .ref q_ends, va_rf f_field, .int f_size, .int f_turn, .int f_yards, .int f_time, .int f_gap, .int f_far, .int f_flat])), (q_people, .inl (cL, 7, .inr (.inr (.inr (.inr r_people))))), (q_places, .inl (cI, 7, .inl r_places)), (q_breath, .inl (cI, 7, .inl r_breath)), (q_rows, .inl (cI, 21, .inl r_rows)), (q_seen, .inl (cI, 5, .inl r_seen))] sz [.ref h, .int a1]) (va_Qi (fun (r : Int32) (u : Int32 × Int32 × Int32 × (Nat → Int32) × (Nat → Int32) × (Nat → Int32)) => Q r u.1 u.2.1 u.2.2.1 u.2.2.2.1 u.2.2.2.2.1 u.2.2.2.2.2) (obB D (va_A [(h, .inr (5, [.ref q_people, .ref q_places, .ref q_breath, .ref q_rows, .ref q_seen, .ref q_ends, va_rf f_field, .int f_size, .int f_turn, .int f_yards, .int f_time, .int f_gap, .int f_far, .int f_flat])), (q_people, .inl (cL, 7, .inr (.inr (.inr (.inr r_people))))), (q_places, .inl (cI, 7, .inl r_places)), (q_breath, .inl (cI, 7, .inl r_breath)), (q_rows, .inl (cI, 21, .inl r_rows)), (q_seen, .inl (cI, 5, .inl r_seen))] sz) (fun u : Int32 × Int32 × Int32 × (Nat → Int32) × (Nat → Int32) × (Nat → Int32) => [(h, .inr (5, [.ref q_people, .ref q_places, .ref q_breath, .ref q_rows, .ref q_seen, .ref q_ends, va_rf f_field, .int f_size, .int u.1, .int u.2.1, .int u.2.2.1, .int f_gap, .int f_far, .int f_flat])), (q_people, .inl (cL, 7, .inr (.inr (.inr (.inr r_people))))), (q_places, .inl (cI, 7, .inl u.2.2.2.1)), (q_breath, .inl (cI, 7, .inl u.2.2.2.2.1)), (q_rows, .inl (cI, 21, .inl r_rows)), (q_seen, .inl (cI, 5, .inl u.2.2.2.2.2))])) (va_A [(h, .inr (5, [.ref q_people, .ref q_places, .ref q_breath, .ref q_rows, .ref q_seen, .ref q_ends, va_rf f_field, .int f_size, .int f_turn, .int f_yards, .int f_time, .int f_gap, .int f_far, .int f_flat])), (q_people, .inl (cL, 7, .inr (.inr (.inr (.inr r_people))))), (q_places, .inl (cI, 7, .inl r_places)), (q_breath, .inl (cI, 7, .inl r_breath)), (q_rows, .inl (cI, 21, .inl r_rows)), (q_seen, .inl (cI, 5, .inl r_seen))] sz)) 0 0 (va_A [(h, .inr (5, [.ref q_people, .ref q_places, .ref q_breath, .ref q_rows, .ref q_seen, .ref q_ends, va_rf f_field, .int f_size, .int f_turn, .int f_yards, .int f_time, .int f_gap, .int f_far, .int f_flat])), (q_people, .inl (cL, 7, .inr (.inr (.inr (.inr r_people))))), (q_places, .inl (cI, 7, .inl r_places)), (q_breath, .inl (cI, 7, .inl r_breath)), (q_rows, .inl (cI, 21, .inl r_rows)), (q_seen, .inl (cI, 5, .inl r_seen))] sz) := by
  refine ob_met_i (cc := cX5_goAcross) (maxL := 4) (by decide) (Nat.le_of_ble_eq_true rfl) (fun p e s m args below meth c A Z hx hb hml hown hts hnm hN hK hA hI hP hD hS hZ ls hl => ?_)
  have hl : lv_has ls 4 [(0, .ref h), (1, .int a1)] := hl
  unfold m_X5_goAcross at hm
  have lab16 : ∀ (v2_16 : Int32) (n16 : Nat) (f_turn_16 : Int32) (f_yards_16 : Int32) (f_time_16 : Int32) (r_places_16 : Nat → Int32) (r_breath_16 : Nat → Int32) (r_seen_16 : Nat → Int32) (v3_16 : Int32) , ∀ (H : Heap) (locs : List Loc) (ls : Array Slot), va_P D vwCl [(h, .inr (5, [.ref q_people, .ref q_places, .ref q_breath, .ref q_rows, .ref q_seen, .ref q_ends, va_rf f_field, .int f_size, .int f_turn_16, .int f_yards_16, .int f_time_16, .int f_gap, .int f_far, .int f_flat])), (q_people, .inl (cL, 7, .inr (.inr (.inr (.inr r_people))))), (q_places, .inl (cI, 7, .inl r_places_16)), (q_breath, .inl (cI, 7, .inl r_breath_16)), (q_rows, .inl (cI, 21, .inl r_rows)), (q_seen, .inl (cI, 5, .inl r_seen_16))] H → va_D A [(h, .inr (5, [.ref q_people, .ref q_places, .ref q_breath, .ref q_rows, .ref q_seen, .ref q_ends, va_rf f_field, .int f_size, .int f_turn_16, .int f_yards_16, .int f_time_16, .int f_gap, .int f_far, .int f_flat])), (q_people, .inl (cL, 7, .inr (.inr (.inr (.inr r_people))))), (q_places, .inl (cI, 7, .inl r_places_16)), (q_breath, .inl (cI, 7, .inl r_breath_16)), (q_rows, .inl (cI, 21, .inl r_rows)), (q_seen, .inl (cI, 5, .inl r_seen_16))] → va_S A s.heap H locs → lv_has ls 4 [(0, .ref h), (1, .int a1), (2, .int v2_16), (3, .int v3_16)] → m_X5_goAcross_L16 lk fk f_field f_size f_gap f_flat r_people r_rows a1 v2_16 Q n16 f_turn_16 f_yards_16 f_time_16 r_places_16 r_breath_16 r_seen_16 v3_16 → W p l e rmX5_goAcross s m args below meth c H locs 0 0 Z (F0 m 16 ls []) := by
    clear hm
    intro v2_16
    intro n16
    induction n16 with
    | zero =>
      intro f_turn_16 f_yards_16 f_time_16 r_places_16 r_breath_16 r_seen_16 v3_16 H locs ls hP hD hS hl hm
      exact hm.elim
    | succ n16 ih16 =>
      intro f_turn_16 f_yards_16 f_time_16 r_places_16 r_breath_16 r_seen_16 v3_16 H locs ls hP hD hS hl hm
      unfold m_X5_goAcross_L16 at hm
      obtain ⟨K16, hK16⟩ : ∃ K : Int32 → Int32 → Int32 → (Nat → Int32) → (Nat → Int32) → (Nat → Int32) → Int32 → Prop, K = m_X5_goAcross_L16 lk fk f_field f_size f_gap f_flat r_people r_rows a1 v2_16 Q n16 := ⟨_, rfl⟩
      rw [← hK16] at hm ih16
      refine lv_iload_n hx hb (dX5_goAcross 10 rfl) rfl (lv_at hl 3 rfl) ?_
      refine lv_iload_n hx hb (dX5_goAcross 11 rfl) rfl (lv_at hl 2 rfl) ?_
      refine lv_icmp_ge (tgt := 40) hx hb (dX5_goAcross 12 rfl) (by decide) (fun c5 => ?_) (fun c5 => ?_)
      · replace hm := hm.1 c5
        refine lv_aload_n hx hb (dX5_goAcross 22 rfl) rfl (lv_at hl 0 rfl) ?_
        refine va_get (D := D) (ci := 5) (v := .int f_time_16) (C := RX5) (T := TX5) (N := 14) hx hb hts inlX5 hown hK hP 0 rfl rfl 10 (by decide) (hts (.fieldLink RX5 58 "OverBacks$Line" "time" "I") (inR25 _ (List.mem_of_getElem? (i := 5) rfl))) (fun _ h9 => h9) rfl (dX5_goAcross 23 rfl) ?_
        exact hZ f_time_16 (f_turn_16, f_yards_16, f_time_16, r_places_16, r_breath_16, r_seen_16) H locs ls 44 hm hP hD hS (dX5_goAcross 24 rfl) rfl
      replace hm := hm.2 c5
      refine lv_aload_n hx hb (dX5_goAcross 13 rfl) rfl (lv_at hl 0 rfl) ?_
      refine va_get (D := D) (ci := 5) (v := .int f_time_16) (C := RX5) (T := TX5) (N := 14) hx hb hts inlX5 hown hK hP 0 rfl rfl 10 (by decide) (hts (.fieldLink RX5 58 "OverBacks$Line" "time" "I") (inR25 _ (List.mem_of_getElem? (i := 5) rfl))) (fun _ h9 => h9) rfl (dX5_goAcross 14 rfl) ?_
      refine lv_iload_n hx hb (dX5_goAcross 15 rfl) rfl (lv_at hl 1 rfl) ?_
      refine lv_icmp_ge (tgt := 40) hx hb (dX5_goAcross 16 rfl) (by decide) (fun c6 => ?_) (fun c6 => ?_)
      · replace hm := hm.1 c6
        refine lv_aload_n hx hb (dX5_goAcross 22 rfl) rfl (lv_at hl 0 rfl) ?_
        refine va_get (D := D) (ci := 5) (v := .int f_time_16) (C := RX5) (T := TX5) (N := 14) hx hb hts inlX5 hown hK hP 0 rfl rfl 10 (by decide) (hts (.fieldLink RX5 58 "OverBacks$Line" "time" "I") (inR25 _ (List.mem_of_getElem? (i := 5) rfl))) (fun _ h9 => h9) rfl (dX5_goAcross 23 rfl) ?_
        exact hZ f_time_16 (f_turn_16, f_yards_16, f_time_16, r_places_16, r_breath_16, r_seen_16) H locs ls 44 hm hP hD hS (dX5_goAcross 24 rfl) rfl
      replace hm := hm.2 c6
      refine lv_aload_n hx hb (dX5_goAcross 17 rfl) rfl (lv_at hl 0 rfl) ?_
      have hcut := ob_cut (wc := [(h, .inr (5, [.ref q_people, .ref q_places, .ref q_breath, .ref q_rows, .ref q_seen, .ref q_ends, va_rf f_field, .int f_size, .int f_turn_16, .int f_yards_16, .int f_time_16, .int f_gap, .int f_far, .int f_flat])), (q_people, .inl (cL, 7, .inr (.inr (.inr (.inr r_people))))), (q_places, .inl (cI, 7, .inl r_places_16)), (q_breath, .inl (cI, 7, .inl r_breath_16)), (q_rows, .inl (cI, 21, .inl r_rows)), (q_seen, .inl (cI, 5, .inl r_seen_16))]) hP hD hS hA [0, 1, 2, 3, 4, 5] rfl (by decide)
      refine ob_i (wr := []) (ob_V (As := []) (rest := []) ⟨hx, hb, hml, hown, hts⟩ hK hcut (hI.cut hS hcut.2.2) hN (va_recv hK hP (ci := 5) (q0 := 0) rfl rfl) (k_X5_takeTurn l D cI cZ cL im lk fk hlk hfk _ _ _ _ _ _ _ _ _ _ _ _ _ _ _ _ _ _ _ _ _ _ hm) (cwV 0 hts (gU_V (inR28 _ (List.mem_of_getElem? (i := 7) rfl)) (inR25 _ (List.mem_of_getElem? (i := 2) rfl)) (inR25 _ (List.mem_of_getElem? (i := 3) rfl)) (inR1 _ (List.mem_of_getElem? (i := 19) rfl)) (inR25 _ (List.mem_of_getElem? (i := 4) rfl))) rfl rfl rfl (by decide +kernel) ⟨Nat.le_of_ble_eq_true rfl, Nat.le_of_ble_eq_true rfl⟩) rfl hl.1 rfl (Nat.le_of_ble_eq_true rfl) (dX5_goAcross 18 rfl) ⟨Nat.zero_le _, Nat.zero_le _⟩) hP hD hS hcut [0, 1, 2, 3, 4, 5] [] rfl rfl (by decide) (by decide) (fun r7 u8 H locs hm hP hD hS => ?_)
      have hP := hP.sub (ws' := [(h, .inr (5, [.ref q_people, .ref q_places, .ref q_breath, .ref q_rows, .ref q_seen, .ref q_ends, va_rf f_field, .int f_size, .int u8.1, .int u8.2.1, .int u8.2.2.1, .int f_gap, .int f_far, .int f_flat])), (q_people, .inl (cL, 7, .inr (.inr (.inr (.inr r_people))))), (q_places, .inl (cI, 7, .inl u8.2.2.2.1)), (q_breath, .inl (cI, 7, .inl u8.2.2.2.2.1)), (q_rows, .inl (cI, 21, .inl r_rows)), (q_seen, .inl (cI, 5, .inl u8.2.2.2.2.2))]) [0, 1, 2, 3, 4, 5] rfl
      have hD := hD.sub (ws' := [(h, .inr (5, [.ref q_people, .ref q_places, .ref q_breath, .ref q_rows, .ref q_seen, .ref q_ends, va_rf f_field, .int f_size, .int u8.1, .int u8.2.1, .int u8.2.2.1, .int f_gap, .int f_far, .int f_flat])), (q_people, .inl (cL, 7, .inr (.inr (.inr (.inr r_people))))), (q_places, .inl (cI, 7, .inl u8.2.2.2.1)), (q_breath, .inl (cI, 7, .inl u8.2.2.2.2.1)), (q_rows, .inl (cI, 21, .inl r_rows)), (q_seen, .inl (cI, 5, .inl u8.2.2.2.2.2))]) [0, 1, 2, 3, 4, 5] (by decide) rfl
      refine lv_pop hx hb (dX5_goAcross 19 rfl) rfl ?_
      obtain ⟨x15, ex15⟩ : ∃ y : Int32, y = v3_16 + 1 := ⟨_, rfl⟩
      replace hm := hm x15 ex15
      refine lv_iinc (v := x15) (lv' := [(3, .int x15), (0, .ref h), (1, .int a1), (2, .int v2_16)]) hx hb (dX5_goAcross 20 rfl) hl (k := 3) rfl (by rw [ex15]; rfl) (by decide) rfl (fun ls hl => ?_)
      refine lv_goto (tgt := 16) hx hb (dX5_goAcross 21 rfl) (by decide) ?_
      exact ih16 u8.1 u8.2.1 u8.2.2.1 u8.2.2.2.1 u8.2.2.2.2.1 u8.2.2.2.2.2 x15 H locs ls hP hD hS (lv_sub hl [1, 2, 3, 0] rfl) hm
  obtain ⟨H, hH⟩ : ∃ H, H = s.heap := ⟨_, rfl⟩
  obtain ⟨locs, hlo⟩ : ∃ q : List Loc, q = [] := ⟨_, rfl⟩
  suffices hgo : W p l e rmX5_goAcross s m args below meth c H locs 0 0 Z (F0 m 0 ls []) by rw [hH, hlo] at hgo; exact hgo
  have hP : va_P D vwCl [(h, .inr (5, [.ref q_people, .ref q_places, .ref q_breath, .ref q_rows, .ref q_seen, .ref q_ends, va_rf f_field, .int f_size, .int f_turn, .int f_yards, .int f_time, .int f_gap, .int f_far, .int f_flat])), (q_people, .inl (cL, 7, .inr (.inr (.inr (.inr r_people))))), (q_places, .inl (cI, 7, .inl r_places)), (q_breath, .inl (cI, 7, .inl r_breath)), (q_rows, .inl (cI, 21, .inl r_rows)), (q_seen, .inl (cI, 5, .inl r_seen))] H := by rw [hH]; exact hP
  have hD : va_D A [(h, .inr (5, [.ref q_people, .ref q_places, .ref q_breath, .ref q_rows, .ref q_seen, .ref q_ends, va_rf f_field, .int f_size, .int f_turn, .int f_yards, .int f_time, .int f_gap, .int f_far, .int f_flat])), (q_people, .inl (cL, 7, .inr (.inr (.inr (.inr r_people))))), (q_places, .inl (cI, 7, .inl r_places)), (q_breath, .inl (cI, 7, .inl r_breath)), (q_rows, .inl (cI, 21, .inl r_rows)), (q_seen, .inl (cI, 5, .inl r_seen))] := hD
  have hS : va_S A s.heap H locs := by rw [hH, hlo]; exact hS
  refine lv_aload_n hx hb (dX5_goAcross 0 rfl) rfl (lv_at hl 0 rfl) ?_
  have hcut := ob_cut (wc := [(h, .inr (5, [.ref q_people, .ref q_places, .ref q_breath, .ref q_rows, .ref q_seen, .ref q_ends, va_rf f_field, .int f_size, .int f_turn, .int f_yards, .int f_time, .int f_gap, .int f_far, .int f_flat]))]) hP hD hS hA [0] rfl (by decide)
  refine ob_i (wr := [(q_people, .inl (cL, 7, .inr (.inr (.inr (.inr r_people))))), (q_places, .inl (cI, 7, .inl r_places)), (q_breath, .inl (cI, 7, .inl r_breath)), (q_rows, .inl (cI, 21, .inl r_rows)), (q_seen, .inl (cI, 5, .inl r_seen))]) (ob_V (As := []) (rest := []) ⟨hx, hb, hml, hown, hts⟩ hK hcut (hI.cut hS hcut.2.2) hN (va_recv hK hP (ci := 5) (q0 := 0) rfl rfl) (k_X5_turnsAcross l D cI cZ cL im _ _ _ _ _ _ _ _ _ _ _ _ _ _ _ _ _ hm) (cwV 0 hts (gU_V (inR28 _ (List.mem_of_getElem? (i := 6) rfl)) (inR27 _ (List.mem_of_getElem? (i := 18) rfl)) (inR27 _ (List.mem_of_getElem? (i := 19) rfl)) (inR1 _ (List.mem_of_getElem? (i := 19) rfl)) (inR27 _ (List.mem_of_getElem? (i := 20) rfl))) rfl rfl rfl (by decide +kernel) ⟨Nat.le_of_ble_eq_true rfl, Nat.le_of_ble_eq_true rfl⟩) rfl hl.1 rfl (Nat.le_of_ble_eq_true rfl) (dX5_goAcross 1 rfl) ⟨Nat.zero_le _, Nat.zero_le _⟩) hP hD hS hcut [0] [1, 2, 3, 4, 5] rfl rfl (by decide) (by decide) (fun r1 u2 H locs hm hP hD hS => ?_)
  have hP := hP.sub (ws' := [(h, .inr (5, [.ref q_people, .ref q_places, .ref q_breath, .ref q_rows, .ref q_seen, .ref q_ends, va_rf f_field, .int f_size, .int f_turn, .int f_yards, .int f_time, .int f_gap, .int f_far, .int f_flat])), (q_people, .inl (cL, 7, .inr (.inr (.inr (.inr r_people))))), (q_places, .inl (cI, 7, .inl r_places)), (q_breath, .inl (cI, 7, .inl r_breath)), (q_rows, .inl (cI, 21, .inl r_rows)), (q_seen, .inl (cI, 5, .inl r_seen))]) [5, 0, 1, 2, 3, 4] rfl
  have hD := hD.sub (ws' := [(h, .inr (5, [.ref q_people, .ref q_places, .ref q_breath, .ref q_rows, .ref q_seen, .ref q_ends, va_rf f_field, .int f_size, .int f_turn, .int f_yards, .int f_time, .int f_gap, .int f_far, .int f_flat])), (q_people, .inl (cL, 7, .inr (.inr (.inr (.inr r_people))))), (q_places, .inl (cI, 7, .inl r_places)), (q_breath, .inl (cI, 7, .inl r_breath)), (q_rows, .inl (cI, 21, .inl r_rows)), (q_seen, .inl (cI, 5, .inl r_seen))]) [5, 0, 1, 2, 3, 4] (by decide) rfl
  refine lv_istore_n (lv' := [(2, .int r1), (0, .ref h), (1, .int a1)]) hx hb (dX5_goAcross 2 rfl) rfl hl (by decide) rfl (fun ls hl => ?_)
  refine lv_iload_n hx hb (dX5_goAcross 3 rfl) rfl (lv_at hl 0 rfl) ?_
  refine lv_bipush (v := (-5 : Int32)) hx hb (dX5_goAcross 4 rfl) (by decide) ?_
  refine lv_icmp_ne (tgt := 14) hx hb (dX5_goAcross 5 rfl) (by decide) (fun c3 => ?_) (fun c3 => ?_)
  · replace hm := hm.2 c3
    refine lv_iconst (v := (0 : Int32)) hx hb (dX5_goAcross 8 rfl) (by decide) ?_
    refine lv_topi (fun x4 ex4 => ?_)
    replace hm := hm x4 ex4
    refine lv_istore_n (lv' := [(3, .int x4), (2, .int r1), (0, .ref h), (1, .int a1)]) hx hb (dX5_goAcross 9 rfl) rfl hl (by decide) rfl (fun ls hl => ?_)
    obtain ⟨n16, hm⟩ := hm
    exact lab16 r1 n16 f_turn f_yards f_time r_places r_breath r_seen x4 H locs ls hP hD hS (lv_sub hl [2, 3, 1, 0] rfl) hm
  replace hm := hm.1 c3
  refine lv_bipush (v := (-5 : Int32)) hx hb (dX5_goAcross 6 rfl) (by decide) ?_
  exact hZ (-5 : Int32) (f_turn, f_yards, f_time, r_places, r_breath, r_seen) H locs ls 13 hm hP hD hS (dX5_goAcross 7 rfl) rfl
abbrev rmX5_leapTogether : Room := { frames := 4, cells := 0, slots := 0, locals := 98 }
set_option maxHeartbeats 4000000 in
set_option maxRecDepth 100000 in
theorem k_X5_leapTogether (l : Launch) (D : va_G) (cI cZ cL : ClassId) (im : obIM) (lk : Nat → Option (Nat × Int32 × Int32 × Int32)) (fk : Nat → Option ((Nat → Int32) × (Nat → Int32) × (Nat → Int32) × (Nat → Int32) × (Nat → Int32) × Int32)) (hlk : obLK im lk) (hfk : obFK cI im fk) (sz : Nat) (h : Nat) (q_people : Nat) (q_places : Nat) (q_breath : Nat) (q_rows : Nat) (q_seen : Nat) (q_ends : Nat) (f_field : Option Nat) (f_size : Int32) (f_turn : Int32) (f_yards : Int32) (f_time : Int32) (f_gap : Int32) (f_far : Int32) (f_flat : Int32) (r_people : Nat → Option Nat) (r_places : Nat → Int32) (r_breath : Nat → Int32) (r_rows : Nat → Int32) (r_seen : Nat → Int32) (r_ends : Nat → Int32) (Q : Int32 → (Nat → Int32) → (Nat → Int32) → (Nat → Int32) → Prop) (hm : m_X5_leapTogether lk fk f_field f_size f_turn f_gap f_flat r_people r_places r_breath r_rows r_seen r_ends Q) : Met l yX5_leapTogether (Cond.code yX5_leapTogether cX5_leapTogether 6 (some .int) :: wsL_law) rmX5_leapTogether (obPre D (tyG cI cZ cL) im [(h, .inr (5, [.ref q_people, .ref q_places, .ref q_breath, .ref q_rows, .ref q_seen, .ref q_ends, va_rf f_field, .int f_size, .int f_turn, .int f_yards, .int f_time, .int f_gap, .int f_far, .int f_flat])), (q_people, .inl (cL, 7, .inr (.inr (.inr (.inr r_people))))), (q_places, .inl (cI, 7, .inl r_places)), (q_breath, .inl (cI, 7, .inl r_breath)), (q_rows, .inl (cI, 21, .inl r_rows)), (q_seen, .inl (cI, 5, .inl r_seen)), (q_ends, .inl (cI, 7, .inl r_ends))] sz [.ref h]) (va_Qi (fun (r : Int32) (u : (Nat → Int32) × (Nat → Int32) × (Nat → Int32)) => Q r u.1 u.2.1 u.2.2) (obB D (va_A [(h, .inr (5, [.ref q_people, .ref q_places, .ref q_breath, .ref q_rows, .ref q_seen, .ref q_ends, va_rf f_field, .int f_size, .int f_turn, .int f_yards, .int f_time, .int f_gap, .int f_far, .int f_flat])), (q_people, .inl (cL, 7, .inr (.inr (.inr (.inr r_people))))), (q_places, .inl (cI, 7, .inl r_places)), (q_breath, .inl (cI, 7, .inl r_breath)), (q_rows, .inl (cI, 21, .inl r_rows)), (q_seen, .inl (cI, 5, .inl r_seen)), (q_ends, .inl (cI, 7, .inl r_ends))] sz) (fun u : (Nat → Int32) × (Nat → Int32) × (Nat → Int32) => [(h, .inr (5, [.ref q_people, .ref q_places, .ref q_breath, .ref q_rows, .ref q_seen, .ref q_ends, va_rf f_field, .int f_size, .int f_turn, .int f_yards, .int f_time, .int f_gap, .int f_far, .int f_flat])), (q_people, .inl (cL, 7, .inr (.inr (.inr (.inr r_people))))), (q_places, .inl (cI, 7, .inl r_places)), (q_breath, .inl (cI, 7, .inl u.1)), (q_rows, .inl (cI, 21, .inl r_rows)), (q_seen, .inl (cI, 5, .inl u.2.1)), (q_ends, .inl (cI, 7, .inl u.2.2))])) (va_A [(h, .inr (5, [.ref q_people, .ref q_places, .ref q_breath, .ref q_rows, .ref q_seen, .ref q_ends, va_rf f_field, .int f_size, .int f_turn, .int f_yards, .int f_time, .int f_gap, .int f_far, .int f_flat])), (q_people, .inl (cL, 7, .inr (.inr (.inr (.inr r_people))))), (q_places, .inl (cI, 7, .inl r_places)), (q_breath, .inl (cI, 7, .inl r_breath)), (q_rows, .inl (cI, 21, .inl r_rows)), (q_seen, .inl (cI, 5, .inl r_seen)), (q_ends, .inl (cI, 7, .inl r_ends))] sz)) 0 0 (va_A [(h, .inr (5, [.ref q_people, .ref q_places, .ref q_breath, .ref q_rows, .ref q_seen, .ref q_ends, va_rf f_field, .int f_size, .int f_turn, .int f_yards, .int f_time, .int f_gap, .int f_far, .int f_flat])), (q_people, .inl (cL, 7, .inr (.inr (.inr (.inr r_people))))), (q_places, .inl (cI, 7, .inl r_places)), (q_breath, .inl (cI, 7, .inl r_breath)), (q_rows, .inl (cI, 21, .inl r_rows)), (q_seen, .inl (cI, 5, .inl r_seen)), (q_ends, .inl (cI, 7, .inl r_ends))] sz) := by
  refine ob_met_i (cc := cX5_leapTogether) (maxL := 6) (by decide) (Nat.le_of_ble_eq_true rfl) (fun p e s m args below meth c A Z hx hb hml hown hts hnm hN hK hA hI hP hD hS hZ ls hl => ?_)
  have hl : lv_has ls 6 [(0, .ref h)] := hl
  unfold m_X5_leapTogether at hm
  have lab108 : ∀ (r_ends_108 : Nat → Int32) (v1_108 : Int32) (v2_108 : Int32) (v3_108 : Int32) (n108 : Nat) (r_breath_108 : Nat → Int32) (r_seen_108 : Nat → Int32) (v4_108 : Int32) (v5_108 : Int32) , ∀ (H : Heap) (locs : List Loc) (ls : Array Slot), va_P D vwCl [(h, .inr (5, [.ref q_people, .ref q_places, .ref q_breath, .ref q_rows, .ref q_seen, .ref q_ends, va_rf f_field, .int f_size, .int f_turn, .int f_yards, .int f_time, .int f_gap, .int f_far, .int f_flat])), (q_people, .inl (cL, 7, .inr (.inr (.inr (.inr r_people))))), (q_places, .inl (cI, 7, .inl r_places)), (q_breath, .inl (cI, 7, .inl r_breath_108)), (q_rows, .inl (cI, 21, .inl r_rows)), (q_seen, .inl (cI, 5, .inl r_seen_108)), (q_ends, .inl (cI, 7, .inl r_ends_108))] H → va_D A [(h, .inr (5, [.ref q_people, .ref q_places, .ref q_breath, .ref q_rows, .ref q_seen, .ref q_ends, va_rf f_field, .int f_size, .int f_turn, .int f_yards, .int f_time, .int f_gap, .int f_far, .int f_flat])), (q_people, .inl (cL, 7, .inr (.inr (.inr (.inr r_people))))), (q_places, .inl (cI, 7, .inl r_places)), (q_breath, .inl (cI, 7, .inl r_breath_108)), (q_rows, .inl (cI, 21, .inl r_rows)), (q_seen, .inl (cI, 5, .inl r_seen_108)), (q_ends, .inl (cI, 7, .inl r_ends_108))] → va_S A s.heap H locs → lv_has ls 6 [(0, .ref h), (1, .int v1_108), (2, .int v2_108), (3, .int v3_108), (4, .int v4_108), (5, .int v5_108)] → m_X5_leapTogether_L108 lk fk f_field f_turn f_gap f_flat r_people r_places r_rows r_ends_108 v1_108 v2_108 v3_108 Q n108 r_breath_108 r_seen_108 v4_108 v5_108 → W p l e rmX5_leapTogether s m args below meth c H locs 0 0 Z (F0 m 108 ls []) := by
    clear hm
    intro r_ends_108 v1_108 v2_108 v3_108
    intro n108
    induction n108 with
    | zero =>
      intro r_breath_108 r_seen_108 v4_108 v5_108 H locs ls hP hD hS hl hm
      exact hm.elim
    | succ n108 ih108 =>
      intro r_breath_108 r_seen_108 v4_108 v5_108 H locs ls hP hD hS hl hm
      unfold m_X5_leapTogether_L108 at hm
      obtain ⟨K108, hK108⟩ : ∃ K : (Nat → Int32) → (Nat → Int32) → Int32 → Int32 → Prop, K = m_X5_leapTogether_L108 lk fk f_field f_turn f_gap f_flat r_people r_places r_rows r_ends_108 v1_108 v2_108 v3_108 Q n108 := ⟨_, rfl⟩
      rw [← hK108] at hm ih108
      refine lv_iload hx hb (dX5_leapTogether 66 rfl) (lv_at hl 5 rfl) ?_
      refine lv_if_lt (tgt := 151) hx hb (dX5_leapTogether 67 rfl) (by decide) (fun c9 => ?_) (fun c9 => ?_)
      · replace hm := hm.1 c9
        refine lv_iload hx hb (dX5_leapTogether 88 rfl) (lv_at hl 4 rfl) ?_
        refine lv_iload_n hx hb (dX5_leapTogether 89 rfl) rfl (lv_at hl 3 rfl) ?_
        refine va_mmax (own := RX5) (index := 118) hx hb (hml.trans hl.1.symm) hown (hts (.methodLink RX5 118 Lib.Math.max.name) (inR32 _ (List.mem_of_getElem? (i := 8) rfl))) (hts (.static Lib.Math.max.name) (inR3 _ (List.mem_of_getElem? (i := 10) rfl))) (hts (.initialized "java/lang/Math") (inR3 _ (List.mem_of_getElem? (i := 11) rfl))) (hts (.code Lib.Math.max.name Lib.Math.max.code 2 (some .int)) (inR3 _ (List.mem_of_getElem? (i := 12) rfl))) (Nat.le_of_ble_eq_true rfl) (Nat.le_of_ble_eq_true rfl) (Nat.zero_le _) (Nat.zero_le _) (dX5_leapTogether 90 rfl) ?_
        refine lv_aload_n hx hb (dX5_leapTogether 91 rfl) rfl (lv_at hl 0 rfl) ?_
        refine lv_iload_n hx hb (dX5_leapTogether 92 rfl) rfl (lv_at hl 2 rfl) ?_
        refine lv_iload_n hx hb (dX5_leapTogether 93 rfl) rfl (lv_at hl 1 rfl) ?_
        have hcut := ob_cut (wc := [(h, .inr (5, [.ref q_people, .ref q_places, .ref q_breath, .ref q_rows, .ref q_seen, .ref q_ends, va_rf f_field, .int f_size, .int f_turn, .int f_yards, .int f_time, .int f_gap, .int f_far, .int f_flat])), (q_people, .inl (cL, 7, .inr (.inr (.inr (.inr r_people))))), (q_breath, .inl (cI, 7, .inl r_breath_108)), (q_rows, .inl (cI, 21, .inl r_rows)), (q_seen, .inl (cI, 5, .inl r_seen_108))]) hP hD hS hA [0, 1, 3, 4, 5] rfl (by decide)
        refine ob_i (wr := [(q_places, .inl (cI, 7, .inl r_places)), (q_ends, .inl (cI, 7, .inl r_ends_108))]) (ob_V (As := [.int v2_108, .int v1_108]) (rest := [.int (if v4_108 < v3_108 then v3_108 else v4_108)]) ⟨hx, hb, hml, hown, hts⟩ hK hcut (hI.cut hS hcut.2.2) hN (va_recv hK hP (ci := 5) (q0 := 0) rfl rfl) (k_X5_leapTime l D cI cZ cL im lk fk hlk hfk _ _ _ _ _ _ _ _ _ _ _ _ _ _ _ _ _ _ _ _ _ _ _ hm) (cwV 2 hts (gU_V (inR25 _ (List.mem_of_getElem? (i := 7) rfl)) (inR21 _ (List.mem_of_getElem? (i := 23) rfl)) (inR22 _ (List.mem_of_getElem? (i := 0) rfl)) (inR1 _ (List.mem_of_getElem? (i := 19) rfl)) (inR22 _ (List.mem_of_getElem? (i := 1) rfl))) rfl rfl rfl (by decide +kernel) ⟨Nat.le_of_ble_eq_true rfl, Nat.le_of_ble_eq_true rfl⟩) rfl hl.1 rfl (Nat.le_of_ble_eq_true rfl) (dX5_leapTogether 94 rfl) ⟨Nat.zero_le _, Nat.zero_le _⟩) hP hD hS hcut [0, 1, 3, 4, 5] [2, 6] rfl rfl (by decide) (by decide) (fun r10 u11 H locs hm hP hD hS => ?_)
        have hP := hP.sub (ws' := [(h, .inr (5, [.ref q_people, .ref q_places, .ref q_breath, .ref q_rows, .ref q_seen, .ref q_ends, va_rf f_field, .int f_size, .int f_turn, .int f_yards, .int f_time, .int f_gap, .int f_far, .int f_flat])), (q_people, .inl (cL, 7, .inr (.inr (.inr (.inr r_people))))), (q_places, .inl (cI, 7, .inl r_places)), (q_breath, .inl (cI, 7, .inl r_breath_108)), (q_rows, .inl (cI, 21, .inl r_rows)), (q_seen, .inl (cI, 5, .inl u11)), (q_ends, .inl (cI, 7, .inl r_ends_108))]) [2, 3, 0, 4, 5, 6, 1] rfl
        have hD := hD.sub (ws' := [(h, .inr (5, [.ref q_people, .ref q_places, .ref q_breath, .ref q_rows, .ref q_seen, .ref q_ends, va_rf f_field, .int f_size, .int f_turn, .int f_yards, .int f_time, .int f_gap, .int f_far, .int f_flat])), (q_people, .inl (cL, 7, .inr (.inr (.inr (.inr r_people))))), (q_places, .inl (cI, 7, .inl r_places)), (q_breath, .inl (cI, 7, .inl r_breath_108)), (q_rows, .inl (cI, 21, .inl r_rows)), (q_seen, .inl (cI, 5, .inl u11)), (q_ends, .inl (cI, 7, .inl r_ends_108))]) [2, 3, 0, 4, 5, 6, 1] (by decide) rfl
        refine lv_iadd hx hb (dX5_leapTogether 95 rfl) ?_
        exact hZ ((if v4_108 < v3_108 then v3_108 else v4_108) + r10) (r_breath_108, u11, r_ends_108) H locs ls 164 hm hP hD hS (dX5_leapTogether 96 rfl) rfl
      replace hm := hm.2 c9
      refine lv_iload hx hb (dX5_leapTogether 68 rfl) (lv_at hl 4 rfl) ?_
      refine lv_aload_n hx hb (dX5_leapTogether 69 rfl) rfl (lv_at hl 0 rfl) ?_
      refine va_get (D := D) (ci := 5) (v := .ref q_ends) (C := RX5) (T := TX5) (N := 14) hx hb hts inlX5 hown hK hP 0 rfl rfl 5 (by decide) (hts (.fieldLink RX5 32 "OverBacks$Line" "ends" "[I") (inR3 _ (List.mem_of_getElem? (i := 1) rfl))) (fun _ h9 => h9) rfl (dX5_leapTogether 70 rfl) ?_
      refine lv_iload hx hb (dX5_leapTogether 71 rfl) (lv_at hl 5 rfl) ?_
      refine va_iald hx hb hK hP 6 0 rfl rfl hm.1 (dX5_leapTogether 72 rfl) ?_
      replace hm := hm.2
      refine va_mmax (own := RX5) (index := 118) hx hb (hml.trans hl.1.symm) hown (hts (.methodLink RX5 118 Lib.Math.max.name) (inR32 _ (List.mem_of_getElem? (i := 8) rfl))) (hts (.static Lib.Math.max.name) (inR3 _ (List.mem_of_getElem? (i := 10) rfl))) (hts (.initialized "java/lang/Math") (inR3 _ (List.mem_of_getElem? (i := 11) rfl))) (hts (.code Lib.Math.max.name Lib.Math.max.code 2 (some .int)) (inR3 _ (List.mem_of_getElem? (i := 12) rfl))) (Nat.le_of_ble_eq_true rfl) (Nat.le_of_ble_eq_true rfl) (Nat.zero_le _) (Nat.zero_le _) (dX5_leapTogether 73 rfl) ?_
      refine lv_aload_n hx hb (dX5_leapTogether 74 rfl) rfl (lv_at hl 0 rfl) ?_
      refine lv_iload_n hx hb (dX5_leapTogether 75 rfl) rfl (lv_at hl 2 rfl) ?_
      refine lv_aload_n hx hb (dX5_leapTogether 76 rfl) rfl (lv_at hl 0 rfl) ?_
      refine va_get (D := D) (ci := 5) (v := .ref q_places) (C := RX5) (T := TX5) (N := 14) hx hb hts inlX5 hown hK hP 0 rfl rfl 1 (by decide) (hts (.fieldLink RX5 17 "OverBacks$Line" "places" "[I") (inR2 _ (List.mem_of_getElem? (i := 21) rfl))) (fun _ h9 => h9) rfl (dX5_leapTogether 77 rfl) ?_
      refine lv_iload hx hb (dX5_leapTogether 78 rfl) (lv_at hl 5 rfl) ?_
      refine va_iald hx hb hK hP 2 0 rfl rfl hm.1 (dX5_leapTogether 79 rfl) ?_
      replace hm := hm.2
      have hcut := ob_cut (wc := [(h, .inr (5, [.ref q_people, .ref q_places, .ref q_breath, .ref q_rows, .ref q_seen, .ref q_ends, va_rf f_field, .int f_size, .int f_turn, .int f_yards, .int f_time, .int f_gap, .int f_far, .int f_flat])), (q_people, .inl (cL, 7, .inr (.inr (.inr (.inr r_people))))), (q_breath, .inl (cI, 7, .inl r_breath_108)), (q_rows, .inl (cI, 21, .inl r_rows)), (q_seen, .inl (cI, 5, .inl r_seen_108))]) hP hD hS hA [0, 1, 3, 4, 5] rfl (by decide)
      refine ob_i (wr := [(q_places, .inl (cI, 7, .inl r_places)), (q_ends, .inl (cI, 7, .inl r_ends_108))]) (ob_V (As := [.int v2_108, .int (r_places v5_108.toNatClampNeg)]) (rest := [.int (if v4_108 < (r_ends_108 v5_108.toNatClampNeg) then (r_ends_108 v5_108.toNatClampNeg) else v4_108)]) ⟨hx, hb, hml, hown, hts⟩ hK hcut (hI.cut hS hcut.2.2) hN (va_recv hK hP (ci := 5) (q0 := 0) rfl rfl) (k_X5_leapTime l D cI cZ cL im lk fk hlk hfk _ _ _ _ _ _ _ _ _ _ _ _ _ _ _ _ _ _ _ _ _ _ _ hm) (cwV 2 hts (gU_V (inR25 _ (List.mem_of_getElem? (i := 7) rfl)) (inR21 _ (List.mem_of_getElem? (i := 23) rfl)) (inR22 _ (List.mem_of_getElem? (i := 0) rfl)) (inR1 _ (List.mem_of_getElem? (i := 19) rfl)) (inR22 _ (List.mem_of_getElem? (i := 1) rfl))) rfl rfl rfl (by decide +kernel) ⟨Nat.le_of_ble_eq_true rfl, Nat.le_of_ble_eq_true rfl⟩) rfl hl.1 rfl (Nat.le_of_ble_eq_true rfl) (dX5_leapTogether 80 rfl) ⟨Nat.zero_le _, Nat.zero_le _⟩) hP hD hS hcut [0, 1, 3, 4, 5] [2, 6] rfl rfl (by decide) (by decide) (fun r13 u14 H locs hm hP hD hS => ?_)
      have hP := hP.sub (ws' := [(h, .inr (5, [.ref q_people, .ref q_places, .ref q_breath, .ref q_rows, .ref q_seen, .ref q_ends, va_rf f_field, .int f_size, .int f_turn, .int f_yards, .int f_time, .int f_gap, .int f_far, .int f_flat])), (q_people, .inl (cL, 7, .inr (.inr (.inr (.inr r_people))))), (q_places, .inl (cI, 7, .inl r_places)), (q_breath, .inl (cI, 7, .inl r_breath_108)), (q_rows, .inl (cI, 21, .inl r_rows)), (q_seen, .inl (cI, 5, .inl u14)), (q_ends, .inl (cI, 7, .inl r_ends_108))]) [2, 3, 0, 4, 5, 6, 1] rfl
      have hD := hD.sub (ws' := [(h, .inr (5, [.ref q_people, .ref q_places, .ref q_breath, .ref q_rows, .ref q_seen, .ref q_ends, va_rf f_field, .int f_size, .int f_turn, .int f_yards, .int f_time, .int f_gap, .int f_far, .int f_flat])), (q_people, .inl (cL, 7, .inr (.inr (.inr (.inr r_people))))), (q_places, .inl (cI, 7, .inl r_places)), (q_breath, .inl (cI, 7, .inl r_breath_108)), (q_rows, .inl (cI, 21, .inl r_rows)), (q_seen, .inl (cI, 5, .inl u14)), (q_ends, .inl (cI, 7, .inl r_ends_108))]) [2, 3, 0, 4, 5, 6, 1] (by decide) rfl
      refine lv_iadd hx hb (dX5_leapTogether 81 rfl) ?_
      refine lv_topi (fun x16 ex16 => ?_)
      replace hm := hm x16 ex16
      refine lv_istore (lv' := [(4, .int x16), (0, .ref h), (1, .int v1_108), (2, .int v2_108), (3, .int v3_108), (5, .int v5_108)]) hx hb (dX5_leapTogether 82 rfl) hl (by decide) rfl (fun ls hl => ?_)
      refine lv_aload_n hx hb (dX5_leapTogether 83 rfl) rfl (lv_at hl 1 rfl) ?_
      refine lv_iload_n hx hb (dX5_leapTogether 84 rfl) rfl (lv_at hl 3 rfl) ?_
      have hcut := ob_cut (wc := [(h, .inr (5, [.ref q_people, .ref q_places, .ref q_breath, .ref q_rows, .ref q_seen, .ref q_ends, va_rf f_field, .int f_size, .int f_turn, .int f_yards, .int f_time, .int f_gap, .int f_far, .int f_flat])), (q_people, .inl (cL, 7, .inr (.inr (.inr (.inr r_people))))), (q_breath, .inl (cI, 7, .inl r_breath_108))]) hP hD hS hA [0, 1, 3] rfl (by decide)
      refine ob_v (wr := [(q_places, .inl (cI, 7, .inl r_places)), (q_rows, .inl (cI, 21, .inl r_rows)), (q_seen, .inl (cI, 5, .inl u14)), (q_ends, .inl (cI, 7, .inl r_ends_108))]) (ob_V (As := [.int v2_108]) (rest := []) ⟨hx, hb, hml, hown, hts⟩ hK hcut (hI.cut hS hcut.2.2) hN (va_recv hK hP (ci := 5) (q0 := 0) rfl rfl) (k_X5_tire l D cI cZ cL im _ _ _ _ _ _ _ _ _ _ _ _ _ _ _ _ _ _ _ _ hm) (cwV 1 hts (gU_V (inR25 _ (List.mem_of_getElem? (i := 8) rfl)) (inR25 _ (List.mem_of_getElem? (i := 9) rfl)) (inR25 _ (List.mem_of_getElem? (i := 10) rfl)) (inR1 _ (List.mem_of_getElem? (i := 19) rfl)) (inR25 _ (List.mem_of_getElem? (i := 11) rfl))) rfl rfl rfl (by decide +kernel) ⟨Nat.le_of_ble_eq_true rfl, Nat.le_of_ble_eq_true rfl⟩) rfl hl.1 rfl (Nat.le_of_ble_eq_true rfl) (dX5_leapTogether 85 rfl) ⟨Nat.zero_le _, Nat.zero_le _⟩) hP hD hS hcut [0, 1, 3] [2, 4, 5, 6] rfl rfl (by decide) (by decide) (fun u18 H locs hm hP hD hS => ?_)
      have hP := hP.sub (ws' := [(h, .inr (5, [.ref q_people, .ref q_places, .ref q_breath, .ref q_rows, .ref q_seen, .ref q_ends, va_rf f_field, .int f_size, .int f_turn, .int f_yards, .int f_time, .int f_gap, .int f_far, .int f_flat])), (q_people, .inl (cL, 7, .inr (.inr (.inr (.inr r_people))))), (q_places, .inl (cI, 7, .inl r_places)), (q_breath, .inl (cI, 7, .inl u18)), (q_rows, .inl (cI, 21, .inl r_rows)), (q_seen, .inl (cI, 5, .inl u14)), (q_ends, .inl (cI, 7, .inl r_ends_108))]) [4, 5, 0, 6, 1, 2, 3] rfl
      have hD := hD.sub (ws' := [(h, .inr (5, [.ref q_people, .ref q_places, .ref q_breath, .ref q_rows, .ref q_seen, .ref q_ends, va_rf f_field, .int f_size, .int f_turn, .int f_yards, .int f_time, .int f_gap, .int f_far, .int f_flat])), (q_people, .inl (cL, 7, .inr (.inr (.inr (.inr r_people))))), (q_places, .inl (cI, 7, .inl r_places)), (q_breath, .inl (cI, 7, .inl u18)), (q_rows, .inl (cI, 21, .inl r_rows)), (q_seen, .inl (cI, 5, .inl u14)), (q_ends, .inl (cI, 7, .inl r_ends_108))]) [4, 5, 0, 6, 1, 2, 3] (by decide) rfl
      obtain ⟨x20, ex20⟩ : ∃ y : Int32, y = v5_108 + (-1 : Int32) := ⟨_, rfl⟩
      replace hm := hm x20 ex20
      refine lv_iinc (v := x20) (lv' := [(5, .int x20), (4, .int x16), (0, .ref h), (1, .int v1_108), (2, .int v2_108), (3, .int v3_108)]) hx hb (dX5_leapTogether 86 rfl) hl (k := 5) rfl (by rw [ex20]; rfl) (by decide) rfl (fun ls hl => ?_)
      refine lv_goto (tgt := 108) hx hb (dX5_leapTogether 87 rfl) (by decide) ?_
      exact ih108 u18 u14 x16 x20 H locs ls hP hD hS (lv_sub hl [2, 3, 4, 5, 1, 0] rfl) hm
  have lab44 : ∀ (v1_44 : Int32) (v2_44 : Int32) (n44 : Nat) (r_breath_44 : Nat → Int32) (r_seen_44 : Nat → Int32) (r_ends_44 : Nat → Int32) (v3_44 : Int32) (v4_44 : Int32) , ∀ (H : Heap) (locs : List Loc) (ls : Array Slot), va_P D vwCl [(h, .inr (5, [.ref q_people, .ref q_places, .ref q_breath, .ref q_rows, .ref q_seen, .ref q_ends, va_rf f_field, .int f_size, .int f_turn, .int f_yards, .int f_time, .int f_gap, .int f_far, .int f_flat])), (q_people, .inl (cL, 7, .inr (.inr (.inr (.inr r_people))))), (q_places, .inl (cI, 7, .inl r_places)), (q_breath, .inl (cI, 7, .inl r_breath_44)), (q_rows, .inl (cI, 21, .inl r_rows)), (q_seen, .inl (cI, 5, .inl r_seen_44)), (q_ends, .inl (cI, 7, .inl r_ends_44))] H → va_D A [(h, .inr (5, [.ref q_people, .ref q_places, .ref q_breath, .ref q_rows, .ref q_seen, .ref q_ends, va_rf f_field, .int f_size, .int f_turn, .int f_yards, .int f_time, .int f_gap, .int f_far, .int f_flat])), (q_people, .inl (cL, 7, .inr (.inr (.inr (.inr r_people))))), (q_places, .inl (cI, 7, .inl r_places)), (q_breath, .inl (cI, 7, .inl r_breath_44)), (q_rows, .inl (cI, 21, .inl r_rows)), (q_seen, .inl (cI, 5, .inl r_seen_44)), (q_ends, .inl (cI, 7, .inl r_ends_44))] → va_S A s.heap H locs → lv_has ls 6 [(0, .ref h), (1, .int v1_44), (2, .int v2_44), (3, .int v3_44), (4, .int v4_44)] → m_X5_leapTogether_L44 lk fk f_field f_size f_turn f_gap f_flat r_people r_places r_rows v1_44 v2_44 Q n44 r_breath_44 r_seen_44 r_ends_44 v3_44 v4_44 → W p l e rmX5_leapTogether s m args below meth c H locs 0 0 Z (F0 m 44 ls []) := by
    clear hm
    intro v1_44 v2_44
    intro n44
    induction n44 with
    | zero =>
      intro r_breath_44 r_seen_44 r_ends_44 v3_44 v4_44 H locs ls hP hD hS hl hm
      exact hm.elim
    | succ n44 ih44 =>
      intro r_breath_44 r_seen_44 r_ends_44 v3_44 v4_44 H locs ls hP hD hS hl hm
      unfold m_X5_leapTogether_L44 at hm
      obtain ⟨K44, hK44⟩ : ∃ K : (Nat → Int32) → (Nat → Int32) → (Nat → Int32) → Int32 → Int32 → Prop, K = m_X5_leapTogether_L44 lk fk f_field f_size f_turn f_gap f_flat r_people r_places r_rows v1_44 v2_44 Q n44 := ⟨_, rfl⟩
      rw [← hK44] at hm ih44
      refine lv_iload hx hb (dX5_leapTogether 29 rfl) (lv_at hl 4 rfl) ?_
      refine lv_if_lt (tgt := 83) hx hb (dX5_leapTogether 30 rfl) (by decide) (fun c6 => ?_) (fun c6 => ?_)
      · replace hm := hm.1 c6
        refine lv_aload_n hx hb (dX5_leapTogether 51 rfl) rfl (lv_at hl 0 rfl) ?_
        refine va_get (D := D) (ci := 5) (v := .ref q_ends) (C := RX5) (T := TX5) (N := 14) hx hb hts inlX5 hown hK hP 0 rfl rfl 5 (by decide) (hts (.fieldLink RX5 32 "OverBacks$Line" "ends" "[I") (inR3 _ (List.mem_of_getElem? (i := 1) rfl))) (fun _ h9 => h9) rfl (dX5_leapTogether 52 rfl) ?_
        refine lv_aload_n hx hb (dX5_leapTogether 53 rfl) rfl (lv_at hl 0 rfl) ?_
        refine va_get (D := D) (ci := 5) (v := .int f_size) (C := RX5) (T := TX5) (N := 14) hx hb hts inlX5 hown hK hP 0 rfl rfl 7 (by decide) (hts (.fieldLink RX5 49 "OverBacks$Line" "size" "I") (inR15 _ (List.mem_of_getElem? (i := 23) rfl))) (fun _ h9 => h9) rfl (dX5_leapTogether 54 rfl) ?_
        refine lv_iconst (v := (3 : Int32)) hx hb (dX5_leapTogether 55 rfl) (by decide) ?_
        refine lv_isub hx hb (dX5_leapTogether 56 rfl) ?_
        refine lv_iconst (v := (0 : Int32)) hx hb (dX5_leapTogether 57 rfl) (by decide) ?_
        refine va_mmax (own := RX5) (index := 118) hx hb (hml.trans hl.1.symm) hown (hts (.methodLink RX5 118 Lib.Math.max.name) (inR32 _ (List.mem_of_getElem? (i := 8) rfl))) (hts (.static Lib.Math.max.name) (inR3 _ (List.mem_of_getElem? (i := 10) rfl))) (hts (.initialized "java/lang/Math") (inR3 _ (List.mem_of_getElem? (i := 11) rfl))) (hts (.code Lib.Math.max.name Lib.Math.max.code 2 (some .int)) (inR3 _ (List.mem_of_getElem? (i := 12) rfl))) (Nat.le_of_ble_eq_true rfl) (Nat.le_of_ble_eq_true rfl) (Nat.zero_le _) (Nat.zero_le _) (dX5_leapTogether 58 rfl) ?_
        refine va_iald hx hb hK hP 6 0 rfl rfl hm.1 (dX5_leapTogether 59 rfl) ?_
        replace hm := hm.2
        refine lv_topi (fun x7 ex7 => ?_)
        replace hm := hm x7 ex7
        refine lv_istore (lv' := [(4, .int x7), (0, .ref h), (1, .int v1_44), (2, .int v2_44), (3, .int v3_44)]) hx hb (dX5_leapTogether 60 rfl) hl (by decide) rfl (fun ls hl => ?_)
        refine lv_aload_n hx hb (dX5_leapTogether 61 rfl) rfl (lv_at hl 1 rfl) ?_
        refine va_get (D := D) (ci := 5) (v := .int f_size) (C := RX5) (T := TX5) (N := 14) hx hb hts inlX5 hown hK hP 0 rfl rfl 7 (by decide) (hts (.fieldLink RX5 49 "OverBacks$Line" "size" "I") (inR15 _ (List.mem_of_getElem? (i := 23) rfl))) (fun _ h9 => h9) rfl (dX5_leapTogether 62 rfl) ?_
        refine lv_iconst (v := (3 : Int32)) hx hb (dX5_leapTogether 63 rfl) (by decide) ?_
        refine lv_isub hx hb (dX5_leapTogether 64 rfl) ?_
        refine lv_topi (fun x8 ex8 => ?_)
        replace hm := hm x8 ex8
        refine lv_istore (lv' := [(5, .int x8), (4, .int x7), (0, .ref h), (1, .int v1_44), (2, .int v2_44), (3, .int v3_44)]) hx hb (dX5_leapTogether 65 rfl) hl (by decide) rfl (fun ls hl => ?_)
        obtain ⟨n21, hm⟩ := hm
        exact lab108 r_ends_44 v1_44 v2_44 v3_44 n21 r_breath_44 r_seen_44 x7 x8 H locs ls hP hD hS (lv_sub hl [2, 3, 4, 5, 1, 0] rfl) hm
      replace hm := hm.2 c6
      refine lv_iload_n hx hb (dX5_leapTogether 31 rfl) rfl (lv_at hl 3 rfl) ?_
      refine lv_aload_n hx hb (dX5_leapTogether 32 rfl) rfl (lv_at hl 0 rfl) ?_
      refine lv_iload_n hx hb (dX5_leapTogether 33 rfl) rfl (lv_at hl 1 rfl) ?_
      refine lv_aload_n hx hb (dX5_leapTogether 34 rfl) rfl (lv_at hl 0 rfl) ?_
      refine va_get (D := D) (ci := 5) (v := .ref q_places) (C := RX5) (T := TX5) (N := 14) hx hb hts inlX5 hown hK hP 0 rfl rfl 1 (by decide) (hts (.fieldLink RX5 17 "OverBacks$Line" "places" "[I") (inR2 _ (List.mem_of_getElem? (i := 21) rfl))) (fun _ h9 => h9) rfl (dX5_leapTogether 35 rfl) ?_
      refine lv_iload hx hb (dX5_leapTogether 36 rfl) (lv_at hl 4 rfl) ?_
      refine va_iald hx hb hK hP 2 0 rfl rfl hm.1 (dX5_leapTogether 37 rfl) ?_
      replace hm := hm.2
      have hcut := ob_cut (wc := [(h, .inr (5, [.ref q_people, .ref q_places, .ref q_breath, .ref q_rows, .ref q_seen, .ref q_ends, va_rf f_field, .int f_size, .int f_turn, .int f_yards, .int f_time, .int f_gap, .int f_far, .int f_flat])), (q_people, .inl (cL, 7, .inr (.inr (.inr (.inr r_people))))), (q_breath, .inl (cI, 7, .inl r_breath_44)), (q_rows, .inl (cI, 21, .inl r_rows)), (q_seen, .inl (cI, 5, .inl r_seen_44))]) hP hD hS hA [0, 1, 3, 4, 5] rfl (by decide)
      refine ob_i (wr := [(q_places, .inl (cI, 7, .inl r_places)), (q_ends, .inl (cI, 7, .inl r_ends_44))]) (ob_V (As := [.int v1_44, .int (r_places v4_44.toNatClampNeg)]) (rest := [.int v3_44]) ⟨hx, hb, hml, hown, hts⟩ hK hcut (hI.cut hS hcut.2.2) hN (va_recv hK hP (ci := 5) (q0 := 0) rfl rfl) (k_X5_leapTime l D cI cZ cL im lk fk hlk hfk _ _ _ _ _ _ _ _ _ _ _ _ _ _ _ _ _ _ _ _ _ _ _ hm) (cwV 2 hts (gU_V (inR25 _ (List.mem_of_getElem? (i := 7) rfl)) (inR21 _ (List.mem_of_getElem? (i := 23) rfl)) (inR22 _ (List.mem_of_getElem? (i := 0) rfl)) (inR1 _ (List.mem_of_getElem? (i := 19) rfl)) (inR22 _ (List.mem_of_getElem? (i := 1) rfl))) rfl rfl rfl (by decide +kernel) ⟨Nat.le_of_ble_eq_true rfl, Nat.le_of_ble_eq_true rfl⟩) rfl hl.1 rfl (Nat.le_of_ble_eq_true rfl) (dX5_leapTogether 38 rfl) ⟨Nat.zero_le _, Nat.zero_le _⟩) hP hD hS hcut [0, 1, 3, 4, 5] [2, 6] rfl rfl (by decide) (by decide) (fun r22 u23 H locs hm hP hD hS => ?_)
      have hP := hP.sub (ws' := [(h, .inr (5, [.ref q_people, .ref q_places, .ref q_breath, .ref q_rows, .ref q_seen, .ref q_ends, va_rf f_field, .int f_size, .int f_turn, .int f_yards, .int f_time, .int f_gap, .int f_far, .int f_flat])), (q_people, .inl (cL, 7, .inr (.inr (.inr (.inr r_people))))), (q_places, .inl (cI, 7, .inl r_places)), (q_breath, .inl (cI, 7, .inl r_breath_44)), (q_rows, .inl (cI, 21, .inl r_rows)), (q_seen, .inl (cI, 5, .inl u23)), (q_ends, .inl (cI, 7, .inl r_ends_44))]) [2, 3, 0, 4, 5, 6, 1] rfl
      have hD := hD.sub (ws' := [(h, .inr (5, [.ref q_people, .ref q_places, .ref q_breath, .ref q_rows, .ref q_seen, .ref q_ends, va_rf f_field, .int f_size, .int f_turn, .int f_yards, .int f_time, .int f_gap, .int f_far, .int f_flat])), (q_people, .inl (cL, 7, .inr (.inr (.inr (.inr r_people))))), (q_places, .inl (cI, 7, .inl r_places)), (q_breath, .inl (cI, 7, .inl r_breath_44)), (q_rows, .inl (cI, 21, .inl r_rows)), (q_seen, .inl (cI, 5, .inl u23)), (q_ends, .inl (cI, 7, .inl r_ends_44))]) [2, 3, 0, 4, 5, 6, 1] (by decide) rfl
      refine lv_iadd hx hb (dX5_leapTogether 39 rfl) ?_
      refine lv_topi (fun x25 ex25 => ?_)
      replace hm := hm x25 ex25
      refine lv_istore_n (lv' := [(3, .int x25), (0, .ref h), (1, .int v1_44), (2, .int v2_44), (4, .int v4_44)]) hx hb (dX5_leapTogether 40 rfl) rfl hl (by decide) rfl (fun ls hl => ?_)
      refine lv_aload_n hx hb (dX5_leapTogether 41 rfl) rfl (lv_at hl 1 rfl) ?_
      refine lv_iload_n hx hb (dX5_leapTogether 42 rfl) rfl (lv_at hl 2 rfl) ?_
      have hcut := ob_cut (wc := [(h, .inr (5, [.ref q_people, .ref q_places, .ref q_breath, .ref q_rows, .ref q_seen, .ref q_ends, va_rf f_field, .int f_size, .int f_turn, .int f_yards, .int f_time, .int f_gap, .int f_far, .int f_flat])), (q_people, .inl (cL, 7, .inr (.inr (.inr (.inr r_people))))), (q_breath, .inl (cI, 7, .inl r_breath_44))]) hP hD hS hA [0, 1, 3] rfl (by decide)
      refine ob_v (wr := [(q_places, .inl (cI, 7, .inl r_places)), (q_rows, .inl (cI, 21, .inl r_rows)), (q_seen, .inl (cI, 5, .inl u23)), (q_ends, .inl (cI, 7, .inl r_ends_44))]) (ob_V (As := [.int v1_44]) (rest := []) ⟨hx, hb, hml, hown, hts⟩ hK hcut (hI.cut hS hcut.2.2) hN (va_recv hK hP (ci := 5) (q0 := 0) rfl rfl) (k_X5_tire l D cI cZ cL im _ _ _ _ _ _ _ _ _ _ _ _ _ _ _ _ _ _ _ _ hm) (cwV 1 hts (gU_V (inR25 _ (List.mem_of_getElem? (i := 8) rfl)) (inR25 _ (List.mem_of_getElem? (i := 9) rfl)) (inR25 _ (List.mem_of_getElem? (i := 10) rfl)) (inR1 _ (List.mem_of_getElem? (i := 19) rfl)) (inR25 _ (List.mem_of_getElem? (i := 11) rfl))) rfl rfl rfl (by decide +kernel) ⟨Nat.le_of_ble_eq_true rfl, Nat.le_of_ble_eq_true rfl⟩) rfl hl.1 rfl (Nat.le_of_ble_eq_true rfl) (dX5_leapTogether 43 rfl) ⟨Nat.zero_le _, Nat.zero_le _⟩) hP hD hS hcut [0, 1, 3] [2, 4, 5, 6] rfl rfl (by decide) (by decide) (fun u27 H locs hm hP hD hS => ?_)
      have hP := hP.sub (ws' := [(h, .inr (5, [.ref q_people, .ref q_places, .ref q_breath, .ref q_rows, .ref q_seen, .ref q_ends, va_rf f_field, .int f_size, .int f_turn, .int f_yards, .int f_time, .int f_gap, .int f_far, .int f_flat])), (q_people, .inl (cL, 7, .inr (.inr (.inr (.inr r_people))))), (q_places, .inl (cI, 7, .inl r_places)), (q_breath, .inl (cI, 7, .inl u27)), (q_rows, .inl (cI, 21, .inl r_rows)), (q_seen, .inl (cI, 5, .inl u23)), (q_ends, .inl (cI, 7, .inl r_ends_44))]) [4, 5, 0, 6, 1, 2, 3] rfl
      have hD := hD.sub (ws' := [(h, .inr (5, [.ref q_people, .ref q_places, .ref q_breath, .ref q_rows, .ref q_seen, .ref q_ends, va_rf f_field, .int f_size, .int f_turn, .int f_yards, .int f_time, .int f_gap, .int f_far, .int f_flat])), (q_people, .inl (cL, 7, .inr (.inr (.inr (.inr r_people))))), (q_places, .inl (cI, 7, .inl r_places)), (q_breath, .inl (cI, 7, .inl u27)), (q_rows, .inl (cI, 21, .inl r_rows)), (q_seen, .inl (cI, 5, .inl u23)), (q_ends, .inl (cI, 7, .inl r_ends_44))]) [4, 5, 0, 6, 1, 2, 3] (by decide) rfl
      refine lv_aload_n hx hb (dX5_leapTogether 44 rfl) rfl (lv_at hl 1 rfl) ?_
      refine va_get (D := D) (ci := 5) (v := .ref q_ends) (C := RX5) (T := TX5) (N := 14) hx hb hts inlX5 hown hK hP 0 rfl rfl 5 (by decide) (hts (.fieldLink RX5 32 "OverBacks$Line" "ends" "[I") (inR3 _ (List.mem_of_getElem? (i := 1) rfl))) (fun _ h9 => h9) rfl (dX5_leapTogether 45 rfl) ?_
      refine lv_iload hx hb (dX5_leapTogether 46 rfl) (lv_at hl 4 rfl) ?_
      refine lv_iload_n hx hb (dX5_leapTogether 47 rfl) rfl (lv_at hl 0 rfl) ?_
      refine va_iast hx hb hK hP hD hS 6 0 rfl rfl hm.1 (dX5_leapTogether 48 rfl) (fun H locs hP hD hS => ?_)
      replace hm := hm.2
      obtain ⟨y29, ey29⟩ : ∃ q : Nat → Int32, q = upd r_ends_44 v4_44.toNatClampNeg x25 := ⟨_, rfl⟩
      replace hm := hm y29 ey29
      have hP : va_P D vwCl [(h, .inr (5, [.ref q_people, .ref q_places, .ref q_breath, .ref q_rows, .ref q_seen, .ref q_ends, va_rf f_field, .int f_size, .int f_turn, .int f_yards, .int f_time, .int f_gap, .int f_far, .int f_flat])), (q_people, .inl (cL, 7, .inr (.inr (.inr (.inr r_people))))), (q_places, .inl (cI, 7, .inl r_places)), (q_breath, .inl (cI, 7, .inl u27)), (q_rows, .inl (cI, 21, .inl r_rows)), (q_seen, .inl (cI, 5, .inl u23)), (q_ends, .inl (cI, 7, .inl y29))] H := by rw [ey29]; exact hP
      have hD : va_D A [(h, .inr (5, [.ref q_people, .ref q_places, .ref q_breath, .ref q_rows, .ref q_seen, .ref q_ends, va_rf f_field, .int f_size, .int f_turn, .int f_yards, .int f_time, .int f_gap, .int f_far, .int f_flat])), (q_people, .inl (cL, 7, .inr (.inr (.inr (.inr r_people))))), (q_places, .inl (cI, 7, .inl r_places)), (q_breath, .inl (cI, 7, .inl u27)), (q_rows, .inl (cI, 21, .inl r_rows)), (q_seen, .inl (cI, 5, .inl u23)), (q_ends, .inl (cI, 7, .inl y29))] := by rw [ey29]; exact hD
      obtain ⟨x30, ex30⟩ : ∃ y : Int32, y = v4_44 + (-1 : Int32) := ⟨_, rfl⟩
      replace hm := hm x30 ex30
      refine lv_iinc (v := x30) (lv' := [(4, .int x30), (3, .int x25), (0, .ref h), (1, .int v1_44), (2, .int v2_44)]) hx hb (dX5_leapTogether 49 rfl) hl (k := 4) rfl (by rw [ex30]; rfl) (by decide) rfl (fun ls hl => ?_)
      refine lv_goto (tgt := 44) hx hb (dX5_leapTogether 50 rfl) (by decide) ?_
      exact ih44 u27 u23 y29 x25 x30 H locs ls hP hD hS (lv_sub hl [2, 3, 4, 1, 0] rfl) hm
  obtain ⟨H, hH⟩ : ∃ H, H = s.heap := ⟨_, rfl⟩
  obtain ⟨locs, hlo⟩ : ∃ q : List Loc, q = [] := ⟨_, rfl⟩
  suffices hgo : W p l e rmX5_leapTogether s m args below meth c H locs 0 0 Z (F0 m 0 ls []) by rw [hH, hlo] at hgo; exact hgo
  have hP : va_P D vwCl [(h, .inr (5, [.ref q_people, .ref q_places, .ref q_breath, .ref q_rows, .ref q_seen, .ref q_ends, va_rf f_field, .int f_size, .int f_turn, .int f_yards, .int f_time, .int f_gap, .int f_far, .int f_flat])), (q_people, .inl (cL, 7, .inr (.inr (.inr (.inr r_people))))), (q_places, .inl (cI, 7, .inl r_places)), (q_breath, .inl (cI, 7, .inl r_breath)), (q_rows, .inl (cI, 21, .inl r_rows)), (q_seen, .inl (cI, 5, .inl r_seen)), (q_ends, .inl (cI, 7, .inl r_ends))] H := by rw [hH]; exact hP
  have hD : va_D A [(h, .inr (5, [.ref q_people, .ref q_places, .ref q_breath, .ref q_rows, .ref q_seen, .ref q_ends, va_rf f_field, .int f_size, .int f_turn, .int f_yards, .int f_time, .int f_gap, .int f_far, .int f_flat])), (q_people, .inl (cL, 7, .inr (.inr (.inr (.inr r_people))))), (q_places, .inl (cI, 7, .inl r_places)), (q_breath, .inl (cI, 7, .inl r_breath)), (q_rows, .inl (cI, 21, .inl r_rows)), (q_seen, .inl (cI, 5, .inl r_seen)), (q_ends, .inl (cI, 7, .inl r_ends))] := hD
  have hS : va_S A s.heap H locs := by rw [hH, hlo]; exact hS
  refine lv_aload_n hx hb (dX5_leapTogether 0 rfl) rfl (lv_at hl 0 rfl) ?_
  refine va_get (D := D) (ci := 5) (v := .int f_size) (C := RX5) (T := TX5) (N := 14) hx hb hts inlX5 hown hK hP 0 rfl rfl 7 (by decide) (hts (.fieldLink RX5 49 "OverBacks$Line" "size" "I") (inR15 _ (List.mem_of_getElem? (i := 23) rfl))) (fun _ h9 => h9) rfl (dX5_leapTogether 1 rfl) ?_
  refine lv_iconst (v := (2 : Int32)) hx hb (dX5_leapTogether 2 rfl) (by decide) ?_
  refine lv_icmp_ge (tgt := 10) hx hb (dX5_leapTogether 3 rfl) (by decide) (fun c1 => ?_) (fun c1 => ?_)
  · replace hm := hm.1 c1
    refine lv_aload_n hx hb (dX5_leapTogether 6 rfl) rfl (lv_at hl 0 rfl) ?_
    refine va_get (D := D) (ci := 5) (v := .ref q_places) (C := RX5) (T := TX5) (N := 14) hx hb hts inlX5 hown hK hP 0 rfl rfl 1 (by decide) (hts (.fieldLink RX5 17 "OverBacks$Line" "places" "[I") (inR2 _ (List.mem_of_getElem? (i := 21) rfl))) (fun _ h9 => h9) rfl (dX5_leapTogether 7 rfl) ?_
    refine lv_aload_n hx hb (dX5_leapTogether 8 rfl) rfl (lv_at hl 0 rfl) ?_
    refine va_get (D := D) (ci := 5) (v := .int f_size) (C := RX5) (T := TX5) (N := 14) hx hb hts inlX5 hown hK hP 0 rfl rfl 7 (by decide) (hts (.fieldLink RX5 49 "OverBacks$Line" "size" "I") (inR15 _ (List.mem_of_getElem? (i := 23) rfl))) (fun _ h9 => h9) rfl (dX5_leapTogether 9 rfl) ?_
    refine lv_iconst (v := (1 : Int32)) hx hb (dX5_leapTogether 10 rfl) (by decide) ?_
    refine lv_isub hx hb (dX5_leapTogether 11 rfl) ?_
    refine va_iald hx hb hK hP 2 0 rfl rfl hm.1 (dX5_leapTogether 12 rfl) ?_
    replace hm := hm.2
    refine lv_topi (fun x2 ex2 => ?_)
    replace hm := hm x2 ex2
    refine lv_istore_n (lv' := [(1, .int x2), (0, .ref h)]) hx hb (dX5_leapTogether 13 rfl) rfl hl (by decide) rfl (fun ls hl => ?_)
    refine lv_aload_n hx hb (dX5_leapTogether 14 rfl) rfl (lv_at hl 1 rfl) ?_
    refine va_get (D := D) (ci := 5) (v := .ref q_places) (C := RX5) (T := TX5) (N := 14) hx hb hts inlX5 hown hK hP 0 rfl rfl 1 (by decide) (hts (.fieldLink RX5 17 "OverBacks$Line" "places" "[I") (inR2 _ (List.mem_of_getElem? (i := 21) rfl))) (fun _ h9 => h9) rfl (dX5_leapTogether 15 rfl) ?_
    refine lv_aload_n hx hb (dX5_leapTogether 16 rfl) rfl (lv_at hl 1 rfl) ?_
    refine va_get (D := D) (ci := 5) (v := .int f_size) (C := RX5) (T := TX5) (N := 14) hx hb hts inlX5 hown hK hP 0 rfl rfl 7 (by decide) (hts (.fieldLink RX5 49 "OverBacks$Line" "size" "I") (inR15 _ (List.mem_of_getElem? (i := 23) rfl))) (fun _ h9 => h9) rfl (dX5_leapTogether 17 rfl) ?_
    refine lv_iconst (v := (2 : Int32)) hx hb (dX5_leapTogether 18 rfl) (by decide) ?_
    refine lv_isub hx hb (dX5_leapTogether 19 rfl) ?_
    refine va_iald hx hb hK hP 2 0 rfl rfl hm.1 (dX5_leapTogether 20 rfl) ?_
    replace hm := hm.2
    refine lv_topi (fun x3 ex3 => ?_)
    replace hm := hm x3 ex3
    refine lv_istore_n (lv' := [(2, .int x3), (1, .int x2), (0, .ref h)]) hx hb (dX5_leapTogether 21 rfl) rfl hl (by decide) rfl (fun ls hl => ?_)
    refine lv_iconst (v := (0 : Int32)) hx hb (dX5_leapTogether 22 rfl) (by decide) ?_
    refine lv_topi (fun x4 ex4 => ?_)
    replace hm := hm x4 ex4
    refine lv_istore_n (lv' := [(3, .int x4), (2, .int x3), (1, .int x2), (0, .ref h)]) hx hb (dX5_leapTogether 23 rfl) rfl hl (by decide) rfl (fun ls hl => ?_)
    refine lv_aload_n hx hb (dX5_leapTogether 24 rfl) rfl (lv_at hl 3 rfl) ?_
    refine va_get (D := D) (ci := 5) (v := .int f_size) (C := RX5) (T := TX5) (N := 14) hx hb hts inlX5 hown hK hP 0 rfl rfl 7 (by decide) (hts (.fieldLink RX5 49 "OverBacks$Line" "size" "I") (inR15 _ (List.mem_of_getElem? (i := 23) rfl))) (fun _ h9 => h9) rfl (dX5_leapTogether 25 rfl) ?_
    refine lv_iconst (v := (2 : Int32)) hx hb (dX5_leapTogether 26 rfl) (by decide) ?_
    refine lv_isub hx hb (dX5_leapTogether 27 rfl) ?_
    refine lv_topi (fun x5 ex5 => ?_)
    replace hm := hm x5 ex5
    refine lv_istore (lv' := [(4, .int x5), (3, .int x4), (2, .int x3), (1, .int x2), (0, .ref h)]) hx hb (dX5_leapTogether 28 rfl) hl (by decide) rfl (fun ls hl => ?_)
    obtain ⟨n31, hm⟩ := hm
    exact lab44 x2 x3 n31 r_breath r_seen r_ends x4 x5 H locs ls hP hD hS (lv_sub hl [4, 3, 2, 1, 0] rfl) hm
  replace hm := hm.2 c1
  refine lv_iconst (v := (0 : Int32)) hx hb (dX5_leapTogether 4 rfl) (by decide) ?_
  exact hZ (0 : Int32) (r_breath, r_seen, r_ends) H locs ls 9 hm hP hD hS (dX5_leapTogether 5 rfl) rfl
