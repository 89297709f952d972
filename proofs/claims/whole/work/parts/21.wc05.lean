abbrev rmX11_toNextOrder : Room := { frames := 1, cells := 0, slots := 0, locals := 23 }
set_option maxHeartbeats 4000000 in
set_option maxRecDepth 100000 in
theorem k_X11_toNextOrder (l : Launch) (D : va_G) (cI cZ cL : ClassId) (im : obIM) (sz : Nat) (h1 : Nat) (n1 : Nat) (r1 : Nat → Int32) (a2 : Int32) (Q : Int32 → (Nat → Int32) → Prop) (hm : m_X11_toNextOrder n1 r1 a2 Q) : Met l yX11_toNextOrder (Cond.code yX11_toNextOrder cX11_toNextOrder 6 (some .boolean) :: wsL_law) rmX11_toNextOrder (obPre D (tyG cI cZ cL) im [(h1, .inl (cI, n1, .inl r1))] sz [.ref h1, .int a2]) (va_Qi (fun (r : Int32) (u : (Nat → Int32)) => Q r u) (obB D (va_A [(h1, .inl (cI, n1, .inl r1))] sz) (fun u : (Nat → Int32) => [(h1, .inl (cI, n1, .inl u))])) (va_A [(h1, .inl (cI, n1, .inl r1))] sz)) 0 0 (va_A [(h1, .inl (cI, n1, .inl r1))] sz) := by
  refine ob_met_i (cc := cX11_toNextOrder) (maxL := 6) (by decide) (Nat.le_of_ble_eq_true rfl) (fun p e s m args below meth c A Z hx hb hml hown hts hnm hN hK hA hI hP hD hS hZ ls hl => ?_)
  have hl : lv_has ls 6 [(0, .ref h1), (1, .int a2)] := hl
  unfold m_X11_toNextOrder at hm
  have lab73 : ∀ (n73 : Nat) (r1_73 : Nat → Int32) (v4_73 : Int32) (v5_73 : Int32) , ∀ (H : Heap) (locs : List Loc) (ls : Array Slot), va_P D vwCl [(h1, .inl (cI, n1, .inl r1_73))] H → va_D A [(h1, .inl (cI, n1, .inl r1_73))] → va_S A s.heap H locs → lv_has ls 6 [(0, .ref h1), (4, .int v4_73), (5, .int v5_73)] → m_X11_toNextOrder_L73 n1 Q n73 r1_73 v4_73 v5_73 → W p l e rmX11_toNextOrder s m args below meth c H locs 0 0 Z (F0 m 73 ls []) := by
    clear hm
    intro n73
    induction n73 with
    | zero =>
      intro r1_73 v4_73 v5_73 H locs ls hP hD hS hl hm
      exact hm.elim
    | succ n73 ih73 =>
      intro r1_73 v4_73 v5_73 H locs ls hP hD hS hl hm
      unfold m_X11_toNextOrder_L73 at hm
      obtain ⟨K73, hK73⟩ : ∃ K : (Nat → Int32) → Int32 → Int32 → Prop, K = m_X11_toNextOrder_L73 n1 Q n73 := ⟨_, rfl⟩
      rw [← hK73] at hm ih73
      refine lv_iload hx hb (dX11_toNextOrder 51 rfl) (lv_at hl 1 rfl) ?_
      refine lv_iload hx hb (dX11_toNextOrder 52 rfl) (lv_at hl 2 rfl) ?_
      refine lv_icmp_ge (tgt := 97) hx hb (dX11_toNextOrder 53 rfl) (by decide) (fun c11 => ?_) (fun c11 => ?_)
      · replace hm := hm.1 c11
        refine lv_iconst (v := (1 : Int32)) hx hb (dX11_toNextOrder 61 rfl) (by decide) ?_
        exact hZ (1 : Int32) r1_73 H locs ls 98 hm hP hD hS (dX11_toNextOrder 62 rfl) rfl
      replace hm := hm.2 c11
      refine lv_aload_n hx hb (dX11_toNextOrder 54 rfl) rfl (lv_at hl 0 rfl) ?_
      refine lv_iload hx hb (dX11_toNextOrder 55 rfl) (lv_at hl 1 rfl) ?_
      refine lv_iload hx hb (dX11_toNextOrder 56 rfl) (lv_at hl 2 rfl) ?_
      have hcut := ob_cut (wc := [(h1, .inl (cI, n1, .inl r1_73))]) hP hD hS hA [0] rfl (by decide)
      refine ob_v (wr := []) (ob_S (As := [.ref h1, .int v4_73, .int v5_73]) (rest := []) ⟨hx, hb, hml, hown, hts⟩ hK hcut (hI.cut hS hcut.2.2) hN (k_X11_exchangeAt l D cI cZ cL im _ _ _ _ _ _ _ hm) (cwS2 3 hts (hts (.methodLink RX11 275 yX11_exchangeAt) (inR30 _ (List.mem_of_getElem? (i := 6) rfl))) (hts (.static yX11_exchangeAt) (inR20 _ (List.mem_of_getElem? (i := 9) rfl))) (hts (.initialized RX11) (inR1 _ (List.mem_of_getElem? (i := 2) rfl))) (goodU_c (inR20 _ (List.mem_of_getElem? (i := 10) rfl))) rfl rfl rfl (by decide +kernel) ⟨Nat.le_of_ble_eq_true rfl, Nat.le_of_ble_eq_true rfl⟩) rfl hl.1 rfl (Nat.le_of_ble_eq_true rfl) (dX11_toNextOrder 57 rfl) ⟨Nat.zero_le _, Nat.zero_le _⟩) hP hD hS hcut [0] [] rfl rfl (by decide) (by decide) (fun u13 H locs hm hP hD hS => ?_)
      have hP := hP.sub (ws' := [(h1, .inl (cI, n1, .inl u13))]) [0] rfl
      have hD := hD.sub (ws' := [(h1, .inl (cI, n1, .inl u13))]) [0] (by decide) rfl
      obtain ⟨x15, ex15⟩ : ∃ y : Int32, y = v4_73 + 1 := ⟨_, rfl⟩
      replace hm := hm x15 ex15
      refine lv_iinc (v := x15) (lv' := [(4, .int x15), (0, .ref h1), (5, .int v5_73)]) hx hb (dX11_toNextOrder 58 rfl) hl (k := 1) rfl (by rw [ex15]; rfl) (by decide) rfl (fun ls hl => ?_)
      obtain ⟨x16, ex16⟩ : ∃ y : Int32, y = v5_73 + (-1 : Int32) := ⟨_, rfl⟩
      replace hm := hm x16 ex16
      refine lv_iinc (v := x16) (lv' := [(5, .int x16), (4, .int x15), (0, .ref h1)]) hx hb (dX11_toNextOrder 59 rfl) hl (k := 2) rfl (by rw [ex16]; rfl) (by decide) rfl (fun ls hl => ?_)
      refine lv_goto (tgt := 73) hx hb (dX11_toNextOrder 60 rfl) (by decide) ?_
      exact ih73 u13 x15 x16 H locs ls hP hD hS (lv_sub hl [2, 1, 0] rfl) hm
  have lab57 : ∀ (r1_57 : Nat → Int32) (v2_57 : Int32) (v3_57 : Int32) , ∀ (H : Heap) (locs : List Loc) (ls : Array Slot), va_P D vwCl [(h1, .inl (cI, n1, .inl r1_57))] H → va_D A [(h1, .inl (cI, n1, .inl r1_57))] → va_S A s.heap H locs → lv_has ls 6 [(0, .ref h1), (1, .int a2), (2, .int v2_57), (3, .int v3_57)] → m_X11_toNextOrder_L57 n1 a2 r1_57 v2_57 v3_57 Q → W p l e rmX11_toNextOrder s m args below meth c H locs 0 0 Z (F0 m 57 ls []) := by
    clear hm
    intro r1_57 v2_57 v3_57 H locs ls hP hD hS hl hm
    unfold m_X11_toNextOrder_L57 at hm
    refine lv_aload_n hx hb (dX11_toNextOrder 39 rfl) rfl (lv_at hl 0 rfl) ?_
    refine lv_iload_n hx hb (dX11_toNextOrder 40 rfl) rfl (lv_at hl 2 rfl) ?_
    refine lv_iload_n hx hb (dX11_toNextOrder 41 rfl) rfl (lv_at hl 3 rfl) ?_
    have hcut := ob_cut (wc := [(h1, .inl (cI, n1, .inl r1_57))]) hP hD hS hA [0] rfl (by decide)
    refine ob_v (wr := []) (ob_S (As := [.ref h1, .int v2_57, .int v3_57]) (rest := []) ⟨hx, hb, hml, hown, hts⟩ hK hcut (hI.cut hS hcut.2.2) hN (k_X11_exchangeAt l D cI cZ cL im _ _ _ _ _ _ _ hm) (cwS2 3 hts (hts (.methodLink RX11 275 yX11_exchangeAt) (inR30 _ (List.mem_of_getElem? (i := 6) rfl))) (hts (.static yX11_exchangeAt) (inR20 _ (List.mem_of_getElem? (i := 9) rfl))) (hts (.initialized RX11) (inR1 _ (List.mem_of_getElem? (i := 2) rfl))) (goodU_c (inR20 _ (List.mem_of_getElem? (i := 10) rfl))) rfl rfl rfl (by decide +kernel) ⟨Nat.le_of_ble_eq_true rfl, Nat.le_of_ble_eq_true rfl⟩) rfl hl.1 rfl (Nat.le_of_ble_eq_true rfl) (dX11_toNextOrder 42 rfl) ⟨Nat.zero_le _, Nat.zero_le _⟩) hP hD hS hcut [0] [] rfl rfl (by decide) (by decide) (fun u7 H locs hm hP hD hS => ?_)
    have hP := hP.sub (ws' := [(h1, .inl (cI, n1, .inl u7))]) [0] rfl
    have hD := hD.sub (ws' := [(h1, .inl (cI, n1, .inl u7))]) [0] (by decide) rfl
    refine lv_iload_n hx hb (dX11_toNextOrder 43 rfl) rfl (lv_at hl 2 rfl) ?_
    refine lv_iconst (v := (1 : Int32)) hx hb (dX11_toNextOrder 44 rfl) (by decide) ?_
    refine lv_iadd hx hb (dX11_toNextOrder 45 rfl) ?_
    refine lv_topi (fun x9 ex9 => ?_)
    replace hm := hm x9 ex9
    refine lv_istore (lv' := [(4, .int x9), (0, .ref h1), (1, .int a2), (2, .int v2_57), (3, .int v3_57)]) hx hb (dX11_toNextOrder 46 rfl) hl (by decide) rfl (fun ls hl => ?_)
    refine lv_iload_n hx hb (dX11_toNextOrder 47 rfl) rfl (lv_at hl 2 rfl) ?_
    refine lv_iconst (v := (1 : Int32)) hx hb (dX11_toNextOrder 48 rfl) (by decide) ?_
    refine lv_isub hx hb (dX11_toNextOrder 49 rfl) ?_
    refine lv_topi (fun x10 ex10 => ?_)
    replace hm := hm x10 ex10
    refine lv_istore (lv' := [(5, .int x10), (4, .int x9), (0, .ref h1), (1, .int a2), (2, .int v2_57), (3, .int v3_57)]) hx hb (dX11_toNextOrder 50 rfl) hl (by decide) rfl (fun ls hl => ?_)
    obtain ⟨n17, hm⟩ := hm
    exact lab73 n17 u7 x9 x10 H locs ls hP hD hS (lv_sub hl [2, 1, 0] rfl) hm
  have lab35 : ∀ (r1_35 : Nat → Int32) (v2_35 : Int32) (n35 : Nat) (v3_35 : Int32) , ∀ (H : Heap) (locs : List Loc) (ls : Array Slot), va_P D vwCl [(h1, .inl (cI, n1, .inl r1_35))] H → va_D A [(h1, .inl (cI, n1, .inl r1_35))] → va_S A s.heap H locs → lv_has ls 6 [(0, .ref h1), (1, .int a2), (2, .int v2_35), (3, .int v3_35)] → m_X11_toNextOrder_L35 n1 a2 r1_35 v2_35 Q n35 v3_35 → W p l e rmX11_toNextOrder s m args below meth c H locs 0 0 Z (F0 m 35 ls []) := by
    clear hm
    intro r1_35 v2_35
    intro n35
    induction n35 with
    | zero =>
      intro v3_35 H locs ls hP hD hS hl hm
      exact hm.elim
    | succ n35 ih35 =>
      intro v3_35 H locs ls hP hD hS hl hm
      unfold m_X11_toNextOrder_L35 at hm
      obtain ⟨K35, hK35⟩ : ∃ K : Int32 → Prop, K = m_X11_toNextOrder_L35 n1 a2 r1_35 v2_35 Q n35 := ⟨_, rfl⟩
      rw [← hK35] at hm ih35
      refine lv_iload_n hx hb (dX11_toNextOrder 25 rfl) rfl (lv_at hl 3 rfl) ?_
      refine lv_iload_n hx hb (dX11_toNextOrder 26 rfl) rfl (lv_at hl 2 rfl) ?_
      refine lv_iconst (v := (1 : Int32)) hx hb (dX11_toNextOrder 27 rfl) (by decide) ?_
      refine lv_iadd hx hb (dX11_toNextOrder 28 rfl) ?_
      refine lv_icmp_le (tgt := 57) hx hb (dX11_toNextOrder 29 rfl) (by decide) (fun c5 => ?_) (fun c5 => ?_)
      · replace hm := hm.1 c5
        exact lab57 r1_35 v2_35 v3_35 H locs ls hP hD hS (lv_sub hl [0, 1, 2, 3] rfl) hm
      replace hm := hm.2 c5
      refine lv_aload_n hx hb (dX11_toNextOrder 30 rfl) rfl (lv_at hl 0 rfl) ?_
      refine lv_iload_n hx hb (dX11_toNextOrder 31 rfl) rfl (lv_at hl 3 rfl) ?_
      refine va_iald hx hb hK hP 0 0 rfl rfl hm.1 (dX11_toNextOrder 32 rfl) ?_
      replace hm := hm.2
      refine lv_aload_n hx hb (dX11_toNextOrder 33 rfl) rfl (lv_at hl 0 rfl) ?_
      refine lv_iload_n hx hb (dX11_toNextOrder 34 rfl) rfl (lv_at hl 2 rfl) ?_
      refine va_iald hx hb hK hP 0 0 rfl rfl hm.1 (dX11_toNextOrder 35 rfl) ?_
      replace hm := hm.2
      refine lv_icmp_ge (tgt := 57) hx hb (dX11_toNextOrder 36 rfl) (by decide) (fun c18 => ?_) (fun c18 => ?_)
      · replace hm := hm.1 c18
        exact lab57 r1_35 v2_35 v3_35 H locs ls hP hD hS (lv_sub hl [0, 1, 2, 3] rfl) hm
      replace hm := hm.2 c18
      obtain ⟨x19, ex19⟩ : ∃ y : Int32, y = v3_35 + (-1 : Int32) := ⟨_, rfl⟩
      replace hm := hm x19 ex19
      refine lv_iinc (v := x19) (lv' := [(3, .int x19), (0, .ref h1), (1, .int a2), (2, .int v2_35)]) hx hb (dX11_toNextOrder 37 rfl) hl (k := 3) rfl (by rw [ex19]; rfl) (by decide) rfl (fun ls hl => ?_)
      refine lv_goto (tgt := 35) hx hb (dX11_toNextOrder 38 rfl) (by decide) ?_
      exact ih35 x19 H locs ls hP hD hS (lv_sub hl [1, 2, 3, 0] rfl) hm
  have lab25 : ∀ (r1_25 : Nat → Int32) (v2_25 : Int32) , ∀ (H : Heap) (locs : List Loc) (ls : Array Slot), va_P D vwCl [(h1, .inl (cI, n1, .inl r1_25))] H → va_D A [(h1, .inl (cI, n1, .inl r1_25))] → va_S A s.heap H locs → lv_has ls 6 [(0, .ref h1), (1, .int a2), (2, .int v2_25)] → m_X11_toNextOrder_L25 n1 a2 r1_25 v2_25 Q → W p l e rmX11_toNextOrder s m args below meth c H locs 0 0 Z (F0 m 25 ls []) := by
    clear hm
    intro r1_25 v2_25 H locs ls hP hD hS hl hm
    unfold m_X11_toNextOrder_L25 at hm
    refine lv_iload_n hx hb (dX11_toNextOrder 17 rfl) rfl (lv_at hl 2 rfl) ?_
    refine lv_if_ge (tgt := 31) hx hb (dX11_toNextOrder 18 rfl) (by decide) (fun c3 => ?_) (fun c3 => ?_)
    · replace hm := hm.1 c3
      refine lv_iload_n hx hb (dX11_toNextOrder 21 rfl) rfl (lv_at hl 1 rfl) ?_
      refine lv_iconst (v := (1 : Int32)) hx hb (dX11_toNextOrder 22 rfl) (by decide) ?_
      refine lv_isub hx hb (dX11_toNextOrder 23 rfl) ?_
      refine lv_topi (fun x4 ex4 => ?_)
      replace hm := hm x4 ex4
      refine lv_istore_n (lv' := [(3, .int x4), (0, .ref h1), (1, .int a2), (2, .int v2_25)]) hx hb (dX11_toNextOrder 24 rfl) rfl hl (by decide) rfl (fun ls hl => ?_)
      obtain ⟨n20, hm⟩ := hm
      exact lab35 r1_25 v2_25 n20 x4 H locs ls hP hD hS (lv_sub hl [1, 2, 3, 0] rfl) hm
    replace hm := hm.2 c3
    refine lv_iconst (v := (0 : Int32)) hx hb (dX11_toNextOrder 19 rfl) (by decide) ?_
    exact hZ (0 : Int32) r1_25 H locs ls 30 hm hP hD hS (dX11_toNextOrder 20 rfl) rfl
  have lab4 : ∀ (r1_4 : Nat → Int32) (n4 : Nat) (v2_4 : Int32) , ∀ (H : Heap) (locs : List Loc) (ls : Array Slot), va_P D vwCl [(h1, .inl (cI, n1, .inl r1_4))] H → va_D A [(h1, .inl (cI, n1, .inl r1_4))] → va_S A s.heap H locs → lv_has ls 6 [(0, .ref h1), (1, .int a2), (2, .int v2_4)] → m_X11_toNextOrder_L4 n1 a2 r1_4 Q n4 v2_4 → W p l e rmX11_toNextOrder s m args below meth c H locs 0 0 Z (F0 m 4 ls []) := by
    clear hm
    intro r1_4
    intro n4
    induction n4 with
    | zero =>
      intro v2_4 H locs ls hP hD hS hl hm
      exact hm.elim
    | succ n4 ih4 =>
      intro v2_4 H locs ls hP hD hS hl hm
      unfold m_X11_toNextOrder_L4 at hm
      obtain ⟨K4, hK4⟩ : ∃ K : Int32 → Prop, K = m_X11_toNextOrder_L4 n1 a2 r1_4 Q n4 := ⟨_, rfl⟩
      rw [← hK4] at hm ih4
      refine lv_iload_n hx hb (dX11_toNextOrder 4 rfl) rfl (lv_at hl 2 rfl) ?_
      refine lv_if_lt (tgt := 25) hx hb (dX11_toNextOrder 5 rfl) (by decide) (fun c2 => ?_) (fun c2 => ?_)
      · replace hm := hm.1 c2
        exact lab25 r1_4 v2_4 H locs ls hP hD hS (lv_sub hl [0, 1, 2] rfl) hm
      replace hm := hm.2 c2
      refine lv_aload_n hx hb (dX11_toNextOrder 6 rfl) rfl (lv_at hl 0 rfl) ?_
      refine lv_iload_n hx hb (dX11_toNextOrder 7 rfl) rfl (lv_at hl 2 rfl) ?_
      refine va_iald hx hb hK hP 0 0 rfl rfl hm.1 (dX11_toNextOrder 8 rfl) ?_
      replace hm := hm.2
      refine lv_aload_n hx hb (dX11_toNextOrder 9 rfl) rfl (lv_at hl 0 rfl) ?_
      refine lv_iload_n hx hb (dX11_toNextOrder 10 rfl) rfl (lv_at hl 2 rfl) ?_
      refine lv_iconst (v := (1 : Int32)) hx hb (dX11_toNextOrder 11 rfl) (by decide) ?_
      refine lv_iadd hx hb (dX11_toNextOrder 12 rfl) ?_
      refine va_iald hx hb hK hP 0 0 rfl rfl hm.1 (dX11_toNextOrder 13 rfl) ?_
      replace hm := hm.2
      refine lv_icmp_le (tgt := 25) hx hb (dX11_toNextOrder 14 rfl) (by decide) (fun c21 => ?_) (fun c21 => ?_)
      · replace hm := hm.1 c21
        exact lab25 r1_4 v2_4 H locs ls hP hD hS (lv_sub hl [0, 1, 2] rfl) hm
      replace hm := hm.2 c21
      obtain ⟨x22, ex22⟩ : ∃ y : Int32, y = v2_4 + (-1 : Int32) := ⟨_, rfl⟩
      replace hm := hm x22 ex22
      refine lv_iinc (v := x22) (lv' := [(2, .int x22), (0, .ref h1), (1, .int a2)]) hx hb (dX11_toNextOrder 15 rfl) hl (k := 2) rfl (by rw [ex22]; rfl) (by decide) rfl (fun ls hl => ?_)
      refine lv_goto (tgt := 4) hx hb (dX11_toNextOrder 16 rfl) (by decide) ?_
      exact ih4 x22 H locs ls hP hD hS (lv_sub hl [1, 2, 0] rfl) hm
  obtain ⟨H, hH⟩ : ∃ H, H = s.heap := ⟨_, rfl⟩
  obtain ⟨locs, hlo⟩ : ∃ q : List Loc, q = [] := ⟨_, rfl⟩
  suffices hgo : W p l e rmX11_toNextOrder s m args below meth c H locs 0 0 Z (F0 m 0 ls []) by rw [hH, hlo] at hgo; exact hgo
  have hP : va_P D vwCl [(h1, .inl (cI, n1, .inl r1))] H := by rw [hH]; exact hP
  have hD : va_D A [(h1, .inl (cI, n1, .inl r1))] := hD
  have hS : va_S A s.heap H locs := by rw [hH, hlo]; exact hS
  refine lv_iload_n hx hb (dX11_toNextOrder 0 rfl) rfl (lv_at hl 1 rfl) ?_
  refine lv_iconst (v := (2 : Int32)) hx hb (dX11_toNextOrder 1 rfl) (by decide) ?_
  refine lv_isub hx hb (dX11_toNextOrder 2 rfl) ?_
  refine lv_topi (fun x1 ex1 => ?_)
  replace hm := hm x1 ex1
  refine lv_istore_n (lv' := [(2, .int x1), (0, .ref h1), (1, .int a2)]) hx hb (dX11_toNextOrder 3 rfl) rfl hl (by decide) rfl (fun ls hl => ?_)
  obtain ⟨n23, hm⟩ := hm
  exact lab4 r1 n23 x1 H locs ls hP hD hS (lv_sub hl [1, 2, 0] rfl) hm
abbrev rmX1_readWord : Room := { frames := 7, cells := 0, slots := 0, locals := 172 }
set_option maxHeartbeats 4000000 in
set_option maxRecDepth 100000 in
theorem k_X1_readWord (l : Launch) (D : va_G) (cI cZ cL : ClassId) (im : obIM) (sz : Nat) (h : Nat) (htape : Nat) (q_steps : Nat) (q_words : Nat) (q_numbers : Nat) (q_starts : Nat) (q_ends : Nat) (f_place : Int32) (f_stepCount : Int32) (f_clauses : Int32) (f_gap : Int32) (f_far : Int32) (qtape_items : Nat) (ftape_size : Int32) (ftape_came : Int32) (rtape_items : Nat → Int32) (Q : Int32 → Int32 → Prop) (hm : m_X1_readWord f_place ftape_size rtape_items Q) : Met l yX1_readWord (Cond.code yX1_readWord cX1_readWord 1 (some .int) :: wsL_law) rmX1_readWord (obPre D (tyG cI cZ cL) im [(h, .inr (1, [.ref htape, .ref q_steps, .ref q_words, .ref q_numbers, .ref q_starts, .ref q_ends, .int f_place, .int f_stepCount, .int f_clauses, .int f_gap, .int f_far])), (htape, .inr (7, [.ref qtape_items, .int ftape_size, .int ftape_came])), (qtape_items, .inl (cI, 100, .inl rtape_items))] sz [.ref h]) (va_Qi (fun (r : Int32) (u : Int32) => Q r u) (obB D (va_A [(h, .inr (1, [.ref htape, .ref q_steps, .ref q_words, .ref q_numbers, .ref q_starts, .ref q_ends, .int f_place, .int f_stepCount, .int f_clauses, .int f_gap, .int f_far])), (htape, .inr (7, [.ref qtape_items, .int ftape_size, .int ftape_came])), (qtape_items, .inl (cI, 100, .inl rtape_items))] sz) (fun u : Int32 => [(h, .inr (1, [.ref htape, .ref q_steps, .ref q_words, .ref q_numbers, .ref q_starts, .ref q_ends, .int u, .int f_stepCount, .int f_clauses, .int f_gap, .int f_far])), (htape, .inr (7, [.ref qtape_items, .int ftape_size, .int ftape_came])), (qtape_items, .inl (cI, 100, .inl rtape_items))])) (va_A [(h, .inr (1, [.ref htape, .ref q_steps, .ref q_words, .ref q_numbers, .ref q_starts, .ref q_ends, .int f_place, .int f_stepCount, .int f_clauses, .int f_gap, .int f_far])), (htape, .inr (7, [.ref qtape_items, .int ftape_size, .int ftape_came])), (qtape_items, .inl (cI, 100, .inl rtape_items))] sz)) 0 0 (va_A [(h, .inr (1, [.ref htape, .ref q_steps, .ref q_words, .ref q_numbers, .ref q_starts, .ref q_ends, .int f_place, .int f_stepCount, .int f_clauses, .int f_gap, .int f_far])), (htape, .inr (7, [.ref qtape_items, .int ftape_size, .int ftape_came])), (qtape_items, .inl (cI, 100, .inl rtape_items))] sz) := by
  refine ob_met_i (cc := cX1_readWord) (maxL := 1) (by decide) (Nat.le_of_ble_eq_true rfl) (fun p e s m args below meth c A Z hx hb hml hown hts hnm hN hK hA hI hP hD hS hZ ls hl => ?_)
  have hl : lv_has ls 1 [(0, .ref h)] := hl
  unfold m_X1_readWord at hm
  obtain ⟨H, hH⟩ : ∃ H, H = s.heap := ⟨_, rfl⟩
  obtain ⟨locs, hlo⟩ : ∃ q : List Loc, q = [] := ⟨_, rfl⟩
  suffices hgo : W p l e rmX1_readWord s m args below meth c H locs 0 0 Z (F0 m 0 ls []) by rw [hH, hlo] at hgo; exact hgo
  have hP : va_P D vwCl [(h, .inr (1, [.ref htape, .ref q_steps, .ref q_words, .ref q_numbers, .ref q_starts, .ref q_ends, .int f_place, .int f_stepCount, .int f_clauses, .int f_gap, .int f_far])), (htape, .inr (7, [.ref qtape_items, .int ftape_size, .int ftape_came])), (qtape_items, .inl (cI, 100, .inl rtape_items))] H := by rw [hH]; exact hP
  have hD : va_D A [(h, .inr (1, [.ref htape, .ref q_steps, .ref q_words, .ref q_numbers, .ref q_starts, .ref q_ends, .int f_place, .int f_stepCount, .int f_clauses, .int f_gap, .int f_far])), (htape, .inr (7, [.ref qtape_items, .int ftape_size, .int ftape_came])), (qtape_items, .inl (cI, 100, .inl rtape_items))] := hD
  have hS : va_S A s.heap H locs := by rw [hH, hlo]; exact hS
  refine lv_aload_n hx hb (dX1_readWord 0 rfl) rfl (lv_at hl 0 rfl) ?_
  refine va_get (D := D) (ci := 1) (v := .ref htape) (C := RX1) (T := TX1) (N := 11) hx hb hts inlX1 hown hK hP 0 rfl rfl 0 (by decide) (hts (.fieldLink RX1 9 "OverBacks$Field" "tape" "LOverBacks$Numbers;") (inR5 _ (List.mem_of_getElem? (i := 13) rfl))) (fun _ h9 => h9) rfl (dX1_readWord 1 rfl) ?_
  refine lv_aload_n hx hb (dX1_readWord 2 rfl) rfl (lv_at hl 0 rfl) ?_
  refine va_get (D := D) (ci := 1) (v := .int f_place) (C := RX1) (T := TX1) (N := 11) hx hb hts inlX1 hown hK hP 0 rfl rfl 6 (by decide) (hts (.fieldLink RX1 42 "OverBacks$Field" "place" "I") (inR6 _ (List.mem_of_getElem? (i := 1) rfl))) (fun _ h9 => h9) rfl (dX1_readWord 3 rfl) ?_
  have hcut := ob_cut (wc := [(htape, .inr (7, [.ref qtape_items, .int ftape_size, .int ftape_came])), (qtape_items, .inl (cI, 100, .inl rtape_items))]) hP hD hS hA [1, 2] rfl (by decide)
  refine ob_i (wr := [(h, .inr (1, [.ref htape, .ref q_steps, .ref q_words, .ref q_numbers, .ref q_starts, .ref q_ends, .int f_place, .int f_stepCount, .int f_clauses, .int f_gap, .int f_far]))]) (ob_V (As := [.int f_place]) (rest := []) ⟨hx, hb, hml, hown, hts⟩ hK hcut (hI.cut hS hcut.2.2) hN (va_recv hK hP (ci := 7) (q0 := 1) rfl rfl) (k_X7_at l D cI cZ cL im _ _ _ _ _ _ _ _ _ hm) (cwV 1 hts (gU_V (inR6 _ (List.mem_of_getElem? (i := 12) rfl)) (inR6 _ (List.mem_of_getElem? (i := 13) rfl)) (inR6 _ (List.mem_of_getElem? (i := 14) rfl)) (inR1 _ (List.mem_of_getElem? (i := 23) rfl)) (inR6 _ (List.mem_of_getElem? (i := 15) rfl))) rfl rfl rfl (by decide +kernel) ⟨Nat.le_of_ble_eq_true rfl, Nat.le_of_ble_eq_true rfl⟩) rfl hl.1 rfl (Nat.le_of_ble_eq_true rfl) (dX1_readWord 4 rfl) ⟨Nat.zero_le _, Nat.zero_le _⟩) hP hD hS hcut [1, 2] [0] rfl rfl (by decide) (by decide) (fun r1 u2 H locs hm hP hD hS => ?_)
  have hP := hP.sub (ws' := [(h, .inr (1, [.ref htape, .ref q_steps, .ref q_words, .ref q_numbers, .ref q_starts, .ref q_ends, .int f_place, .int f_stepCount, .int f_clauses, .int f_gap, .int f_far])), (htape, .inr (7, [.ref qtape_items, .int ftape_size, .int ftape_came])), (qtape_items, .inl (cI, 100, .inl rtape_items))]) [0, 1, 2] rfl
  have hD := hD.sub (ws' := [(h, .inr (1, [.ref htape, .ref q_steps, .ref q_words, .ref q_numbers, .ref q_starts, .ref q_ends, .int f_place, .int f_stepCount, .int f_clauses, .int f_gap, .int f_far])), (htape, .inr (7, [.ref qtape_items, .int ftape_size, .int ftape_came])), (qtape_items, .inl (cI, 100, .inl rtape_items))]) [0, 1, 2] (by decide) rfl
  by_cases c7 : r1 = (103 : Int32)
  · refine lv_lookup (off := 41) (tgt := 52) hx hb (dX1_readWord 5 rfl) (by decide) (by rw [c7]; rfl) (by decide) ?_
    replace hm := hm.1 c7
    refine lv_aload_n hx hb (dX1_readWord 6 rfl) rfl (lv_at hl 0 rfl) ?_
    refine va_ldcS (own := RX1) (index := 74) (q := im.2.1 0) hx hb hown (hI.2.2.2.1 0 _ rfl) (dX1_readWord 7 rfl) ?_
    have hcut := ob_cut (wc := [(h, .inr (1, [.ref htape, .ref q_steps, .ref q_words, .ref q_numbers, .ref q_starts, .ref q_ends, .int f_place, .int f_stepCount, .int f_clauses, .int f_gap, .int f_far])), (htape, .inr (7, [.ref qtape_items, .int ftape_size, .int ftape_came])), (qtape_items, .inl (cI, 100, .inl rtape_items))]) hP hD hS hA [0, 1, 2] rfl (by decide)
    refine ob_i (wr := []) (ob_V (As := [.ref (im.2.1 0)]) (rest := []) ⟨hx, hb, hml, hown, hts⟩ hK hcut (hI.cut hS hcut.2.2) hN (va_recv hK hP (ci := 1) (q0 := 0) rfl rfl) (k_X1_takeAll l D cI cZ cL im _ _ _ _ _ _ _ _ _ _ _ _ _ _ _ _ _ _ _ hm) (cwV 1 hts (gU_V (inR6 _ (List.mem_of_getElem? (i := 16) rfl)) (inR6 _ (List.mem_of_getElem? (i := 17) rfl)) (inR6 _ (List.mem_of_getElem? (i := 18) rfl)) (inR5 _ (List.mem_of_getElem? (i := 8) rfl)) (inR6 _ (List.mem_of_getElem? (i := 19) rfl))) rfl rfl rfl (by decide +kernel) ⟨Nat.le_of_ble_eq_true rfl, Nat.le_of_ble_eq_true rfl⟩) rfl hl.1 rfl (Nat.le_of_ble_eq_true rfl) (dX1_readWord 8 rfl) ⟨Nat.zero_le _, Nat.zero_le _⟩) hP hD hS hcut [0, 1, 2] [] rfl rfl (by decide) (by decide) (fun r3 u4 H locs hm hP hD hS => ?_)
    have hP := hP.sub (ws' := [(h, .inr (1, [.ref htape, .ref q_steps, .ref q_words, .ref q_numbers, .ref q_starts, .ref q_ends, .int u4, .int f_stepCount, .int f_clauses, .int f_gap, .int f_far])), (htape, .inr (7, [.ref qtape_items, .int ftape_size, .int ftape_came])), (qtape_items, .inl (cI, 100, .inl rtape_items))]) [0, 1, 2] rfl
    have hD := hD.sub (ws' := [(h, .inr (1, [.ref htape, .ref q_steps, .ref q_words, .ref q_numbers, .ref q_starts, .ref q_ends, .int u4, .int f_stepCount, .int f_clauses, .int f_gap, .int f_far])), (htape, .inr (7, [.ref qtape_items, .int ftape_size, .int ftape_came])), (qtape_items, .inl (cI, 100, .inl rtape_items))]) [0, 1, 2] (by decide) rfl
    refine lv_if_eq (tgt := 65) hx hb (dX1_readWord 9 rfl) (by decide) (fun c6 => ?_) (fun c6 => ?_)
    · replace hm := hm.1 c6
      refine lv_iconst (v := (-1 : Int32)) hx hb (dX1_readWord 12 rfl) (by decide) ?_
      exact hZ (-1 : Int32) u4 H locs ls 66 hm hP hD hS (dX1_readWord 13 rfl) rfl
    replace hm := hm.2 c6
    refine lv_iconst (v := (0 : Int32)) hx hb (dX1_readWord 10 rfl) (by decide) ?_
    refine lv_goto (tgt := 66) hx hb (dX1_readWord 11 rfl) (by decide) ?_
    exact hZ (0 : Int32) u4 H locs ls 66 hm hP hD hS (dX1_readWord 13 rfl) rfl
  replace hm := hm.2
  by_cases c12 : r1 = (114 : Int32)
  · refine lv_lookup (off := 86) (tgt := 97) hx hb (dX1_readWord 5 rfl) (by decide) (by rw [c12]; rfl) (by decide) ?_
    replace hm := hm.1 c12
    refine lv_aload_n hx hb (dX1_readWord 30 rfl) rfl (lv_at hl 0 rfl) ?_
    refine va_ldcS (own := RX1) (index := 83) (q := im.2.1 3) hx hb hown (hI.2.2.2.1 3 _ rfl) (dX1_readWord 31 rfl) ?_
    have hcut := ob_cut (wc := [(h, .inr (1, [.ref htape, .ref q_steps, .ref q_words, .ref q_numbers, .ref q_starts, .ref q_ends, .int f_place, .int f_stepCount, .int f_clauses, .int f_gap, .int f_far])), (htape, .inr (7, [.ref qtape_items, .int ftape_size, .int ftape_came])), (qtape_items, .inl (cI, 100, .inl rtape_items))]) hP hD hS hA [0, 1, 2] rfl (by decide)
    refine ob_i (wr := []) (ob_V (As := [.ref (im.2.1 3)]) (rest := []) ⟨hx, hb, hml, hown, hts⟩ hK hcut (hI.cut hS hcut.2.2) hN (va_recv hK hP (ci := 1) (q0 := 0) rfl rfl) (k_X1_takeAll l D cI cZ cL im _ _ _ _ _ _ _ _ _ _ _ _ _ _ _ _ _ _ _ hm) (cwV 1 hts (gU_V (inR6 _ (List.mem_of_getElem? (i := 16) rfl)) (inR6 _ (List.mem_of_getElem? (i := 17) rfl)) (inR6 _ (List.mem_of_getElem? (i := 18) rfl)) (inR5 _ (List.mem_of_getElem? (i := 8) rfl)) (inR6 _ (List.mem_of_getElem? (i := 19) rfl))) rfl rfl rfl (by decide +kernel) ⟨Nat.le_of_ble_eq_true rfl, Nat.le_of_ble_eq_true rfl⟩) rfl hl.1 rfl (Nat.le_of_ble_eq_true rfl) (dX1_readWord 32 rfl) ⟨Nat.zero_le _, Nat.zero_le _⟩) hP hD hS hcut [0, 1, 2] [] rfl rfl (by decide) (by decide) (fun r8 u9 H locs hm hP hD hS => ?_)
    have hP := hP.sub (ws' := [(h, .inr (1, [.ref htape, .ref q_steps, .ref q_words, .ref q_numbers, .ref q_starts, .ref q_ends, .int u9, .int f_stepCount, .int f_clauses, .int f_gap, .int f_far])), (htape, .inr (7, [.ref qtape_items, .int ftape_size, .int ftape_came])), (qtape_items, .inl (cI, 100, .inl rtape_items))]) [0, 1, 2] rfl
    have hD := hD.sub (ws' := [(h, .inr (1, [.ref htape, .ref q_steps, .ref q_words, .ref q_numbers, .ref q_starts, .ref q_ends, .int u9, .int f_stepCount, .int f_clauses, .int f_gap, .int f_far])), (htape, .inr (7, [.ref qtape_items, .int ftape_size, .int ftape_came])), (qtape_items, .inl (cI, 100, .inl rtape_items))]) [0, 1, 2] (by decide) rfl
    refine lv_if_eq (tgt := 110) hx hb (dX1_readWord 33 rfl) (by decide) (fun c11 => ?_) (fun c11 => ?_)
    · replace hm := hm.1 c11
      refine lv_iconst (v := (-1 : Int32)) hx hb (dX1_readWord 36 rfl) (by decide) ?_
      exact hZ (-1 : Int32) u9 H locs ls 111 hm hP hD hS (dX1_readWord 37 rfl) rfl
    replace hm := hm.2 c11
    refine lv_iconst (v := (3 : Int32)) hx hb (dX1_readWord 34 rfl) (by decide) ?_
    refine lv_goto (tgt := 111) hx hb (dX1_readWord 35 rfl) (by decide) ?_
    exact hZ (3 : Int32) u9 H locs ls 111 hm hP hD hS (dX1_readWord 37 rfl) rfl
  replace hm := hm.2
  by_cases c17 : r1 = (115 : Int32)
  · refine lv_lookup (off := 71) (tgt := 82) hx hb (dX1_readWord 5 rfl) (by decide) (by rw [c17]; rfl) (by decide) ?_
    replace hm := hm.1 c17
    refine lv_aload_n hx hb (dX1_readWord 22 rfl) rfl (lv_at hl 0 rfl) ?_
    refine va_ldcS (own := RX1) (index := 81) (q := im.2.1 2) hx hb hown (hI.2.2.2.1 2 _ rfl) (dX1_readWord 23 rfl) ?_
    have hcut := ob_cut (wc := [(h, .inr (1, [.ref htape, .ref q_steps, .ref q_words, .ref q_numbers, .ref q_starts, .ref q_ends, .int f_place, .int f_stepCount, .int f_clauses, .int f_gap, .int f_far])), (htape, .inr (7, [.ref qtape_items, .int ftape_size, .int ftape_came])), (qtape_items, .inl (cI, 100, .inl rtape_items))]) hP hD hS hA [0, 1, 2] rfl (by decide)
    refine ob_i (wr := []) (ob_V (As := [.ref (im.2.1 2)]) (rest := []) ⟨hx, hb, hml, hown, hts⟩ hK hcut (hI.cut hS hcut.2.2) hN (va_recv hK hP (ci := 1) (q0 := 0) rfl rfl) (k_X1_takeAll l D cI cZ cL im _ _ _ _ _ _ _ _ _ _ _ _ _ _ _ _ _ _ _ hm) (cwV 1 hts (gU_V (inR6 _ (List.mem_of_getElem? (i := 16) rfl)) (inR6 _ (List.mem_of_getElem? (i := 17) rfl)) (inR6 _ (List.mem_of_getElem? (i := 18) rfl)) (inR5 _ (List.mem_of_getElem? (i := 8) rfl)) (inR6 _ (List.mem_of_getElem? (i := 19) rfl))) rfl rfl rfl (by decide +kernel) ⟨Nat.le_of_ble_eq_true rfl, Nat.le_of_ble_eq_true rfl⟩) rfl hl.1 rfl (Nat.le_of_ble_eq_true rfl) (dX1_readWord 24 rfl) ⟨Nat.zero_le _, Nat.zero_le _⟩) hP hD hS hcut [0, 1, 2] [] rfl rfl (by decide) (by decide) (fun r13 u14 H locs hm hP hD hS => ?_)
    have hP := hP.sub (ws' := [(h, .inr (1, [.ref htape, .ref q_steps, .ref q_words, .ref q_numbers, .ref q_starts, .ref q_ends, .int u14, .int f_stepCount, .int f_clauses, .int f_gap, .int f_far])), (htape, .inr (7, [.ref qtape_items, .int ftape_size, .int ftape_came])), (qtape_items, .inl (cI, 100, .inl rtape_items))]) [0, 1, 2] rfl
    have hD := hD.sub (ws' := [(h, .inr (1, [.ref htape, .ref q_steps, .ref q_words, .ref q_numbers, .ref q_starts, .ref q_ends, .int u14, .int f_stepCount, .int f_clauses, .int f_gap, .int f_far])), (htape, .inr (7, [.ref qtape_items, .int ftape_size, .int ftape_came])), (qtape_items, .inl (cI, 100, .inl rtape_items))]) [0, 1, 2] (by decide) rfl
    refine lv_if_eq (tgt := 95) hx hb (dX1_readWord 25 rfl) (by decide) (fun c16 => ?_) (fun c16 => ?_)
    · replace hm := hm.1 c16
      refine lv_iconst (v := (-1 : Int32)) hx hb (dX1_readWord 28 rfl) (by decide) ?_
      exact hZ (-1 : Int32) u14 H locs ls 96 hm hP hD hS (dX1_readWord 29 rfl) rfl
    replace hm := hm.2 c16
    refine lv_iconst (v := (2 : Int32)) hx hb (dX1_readWord 26 rfl) (by decide) ?_
    refine lv_goto (tgt := 96) hx hb (dX1_readWord 27 rfl) (by decide) ?_
    exact hZ (2 : Int32) u14 H locs ls 96 hm hP hD hS (dX1_readWord 29 rfl) rfl
  replace hm := hm.2
  by_cases c22 : r1 = (121 : Int32)
  · refine lv_lookup (off := 56) (tgt := 67) hx hb (dX1_readWord 5 rfl) (by decide) (by rw [c22]; rfl) (by decide) ?_
    replace hm := hm.1 c22
    refine lv_aload_n hx hb (dX1_readWord 14 rfl) rfl (lv_at hl 0 rfl) ?_
    refine va_ldcS (own := RX1) (index := 79) (q := im.2.1 1) hx hb hown (hI.2.2.2.1 1 _ rfl) (dX1_readWord 15 rfl) ?_
    have hcut := ob_cut (wc := [(h, .inr (1, [.ref htape, .ref q_steps, .ref q_words, .ref q_numbers, .ref q_starts, .ref q_ends, .int f_place, .int f_stepCount, .int f_clauses, .int f_gap, .int f_far])), (htape, .inr (7, [.ref qtape_items, .int ftape_size, .int ftape_came])), (qtape_items, .inl (cI, 100, .inl rtape_items))]) hP hD hS hA [0, 1, 2] rfl (by decide)
    refine ob_i (wr := []) (ob_V (As := [.ref (im.2.1 1)]) (rest := []) ⟨hx, hb, hml, hown, hts⟩ hK hcut (hI.cut hS hcut.2.2) hN (va_recv hK hP (ci := 1) (q0 := 0) rfl rfl) (k_X1_takeAll l D cI cZ cL im _ _ _ _ _ _ _ _ _ _ _ _ _ _ _ _ _ _ _ hm) (cwV 1 hts (gU_V (inR6 _ (List.mem_of_getElem? (i := 16) rfl)) (inR6 _ (List.mem_of_getElem? (i := 17) rfl)) (inR6 _ (List.mem_of_getElem? (i := 18) rfl)) (inR5 _ (List.mem_of_getElem? (i := 8) rfl)) (inR6 _ (List.mem_of_getElem? (i := 19) rfl))) rfl rfl rfl (by decide +kernel) ⟨Nat.le_of_ble_eq_true rfl, Nat.le_of_ble_eq_true rfl⟩) rfl hl.1 rfl (Nat.le_of_ble_eq_true rfl) (dX1_readWord 16 rfl) ⟨Nat.zero_le _, Nat.zero_le _⟩) hP hD hS hcut [0, 1, 2] [] rfl rfl (by decide) (by decide) (fun r18 u19 H locs hm hP hD hS => ?_)
    have hP := hP.sub (ws' := [(h, .inr (1, [.ref htape, .ref q_steps, .ref q_words, .ref q_numbers, .ref q_starts, .ref q_ends, .int u19, .int f_stepCount, .int f_clauses, .int f_gap, .int f_far])), (htape, .inr (7, [.ref qtape_items, .int ftape_size, .int ftape_came])), (qtape_items, .inl (cI, 100, .inl rtape_items))]) [0, 1, 2] rfl
    have hD := hD.sub (ws' := [(h, .inr (1, [.ref htape, .ref q_steps, .ref q_words, .ref q_numbers, .ref q_starts, .ref q_ends, .int u19, .int f_stepCount, .int f_clauses, .int f_gap, .int f_far])), (htape, .inr (7, [.ref qtape_items, .int ftape_size, .int ftape_came])), (qtape_items, .inl (cI, 100, .inl rtape_items))]) [0, 1, 2] (by decide) rfl
    refine lv_if_eq (tgt := 80) hx hb (dX1_readWord 17 rfl) (by decide) (fun c21 => ?_) (fun c21 => ?_)
    · replace hm := hm.1 c21
      refine lv_iconst (v := (-1 : Int32)) hx hb (dX1_readWord 20 rfl) (by decide) ?_
      exact hZ (-1 : Int32) u19 H locs ls 81 hm hP hD hS (dX1_readWord 21 rfl) rfl
    replace hm := hm.2 c21
    refine lv_iconst (v := (1 : Int32)) hx hb (dX1_readWord 18 rfl) (by decide) ?_
    refine lv_goto (tgt := 81) hx hb (dX1_readWord 19 rfl) (by decide) ?_
    exact hZ (1 : Int32) u19 H locs ls 81 hm hP hD hS (dX1_readWord 21 rfl) rfl
  replace hm := hm.2
  refine lv_lookup (off := 101) (tgt := 112) hx hb (dX1_readWord 5 rfl) (by decide) (by simp [Op.lookupswitch.offset, ob_nes (n := 103) c7 (by decide), ob_nes (n := 114) c12 (by decide), ob_nes (n := 115) c17 (by decide), ob_nes (n := 121) c22 (by decide)]) (by decide) ?_
  replace hm := hm c7 c12 c17 c22
  refine lv_iconst (v := (-1 : Int32)) hx hb (dX1_readWord 38 rfl) (by decide) ?_
  exact hZ (-1 : Int32) f_place H locs ls 113 hm hP hD hS (dX1_readWord 39 rfl) rfl
abbrev rmR_A (d : Nat) : Room := { frames := d + 20, cells := 0, slots := 0, locals := 60 * d + 400 }
def CR_X1_readEither (l : Launch) (D : va_G) (cI cZ cL : ClassId) (im : obIM) (F : Int32 → Int32 → (Nat → Int32) → Int32 → (Nat → Int32) → Int32 → (Int32 → Int32 → Int32 → (Nat → Int32) → Prop) → Prop) (d : Nat) : Prop := ∀ (sz : Nat) (h : Nat) (htape : Nat) (q_steps : Nat) (q_words : Nat) (q_numbers : Nat) (q_starts : Nat) (q_ends : Nat) (f_place : Int32) (f_stepCount : Int32) (f_clauses : Int32) (f_gap : Int32) (f_far : Int32) (r_steps : Nat → Int32) (qtape_items : Nat) (ftape_size : Int32) (ftape_came : Int32) (rtape_items : Nat → Int32) (a1 : Int32) (Q : Int32 → Int32 → Int32 → (Nat → Int32) → Prop), F f_place f_stepCount r_steps ftape_size rtape_items a1 Q → Met l yX1_readEither (Cond.code yX1_readEither cX1_readEither 5 (some .boolean) :: wsL_law) (rmR_A d) (obPre D (tyG cI cZ cL) im [(h, .inr (1, [.ref htape, .ref q_steps, .ref q_words, .ref q_numbers, .ref q_starts, .ref q_ends, .int f_place, .int f_stepCount, .int f_clauses, .int f_gap, .int f_far])), (q_steps, .inl (cI, 100, .inl r_steps)), (htape, .inr (7, [.ref qtape_items, .int ftape_size, .int ftape_came])), (qtape_items, .inl (cI, 100, .inl rtape_items))] sz [.ref h, .int a1]) (va_Qi (fun (r : Int32) (u : Int32 × Int32 × (Nat → Int32)) => Q r u.1 u.2.1 u.2.2) (obB D (va_A [(h, .inr (1, [.ref htape, .ref q_steps, .ref q_words, .ref q_numbers, .ref q_starts, .ref q_ends, .int f_place, .int f_stepCount, .int f_clauses, .int f_gap, .int f_far])), (q_steps, .inl (cI, 100, .inl r_steps)), (htape, .inr (7, [.ref qtape_items, .int ftape_size, .int ftape_came])), (qtape_items, .inl (cI, 100, .inl rtape_items))] sz) (fun u : Int32 × Int32 × (Nat → Int32) => [(h, .inr (1, [.ref htape, .ref q_steps, .ref q_words, .ref q_numbers, .ref q_starts, .ref q_ends, .int u.1, .int u.2.1, .int f_clauses, .int f_gap, .int f_far])), (q_steps, .inl (cI, 100, .inl u.2.2)), (htape, .inr (7, [.ref qtape_items, .int ftape_size, .int ftape_came])), (qtape_items, .inl (cI, 100, .inl rtape_items))])) (va_A [(h, .inr (1, [.ref htape, .ref q_steps, .ref q_words, .ref q_numbers, .ref q_starts, .ref q_ends, .int f_place, .int f_stepCount, .int f_clauses, .int f_gap, .int f_far])), (q_steps, .inl (cI, 100, .inl r_steps)), (htape, .inr (7, [.ref qtape_items, .int ftape_size, .int ftape_came])), (qtape_items, .inl (cI, 100, .inl rtape_items))] sz)) 0 0 (va_A [(h, .inr (1, [.ref htape, .ref q_steps, .ref q_words, .ref q_numbers, .ref q_starts, .ref q_ends, .int f_place, .int f_stepCount, .int f_clauses, .int f_gap, .int f_far])), (q_steps, .inl (cI, 100, .inl r_steps)), (htape, .inr (7, [.ref qtape_items, .int ftape_size, .int ftape_came])), (qtape_items, .inl (cI, 100, .inl rtape_items))] sz)
def CR_X1_readFactor (l : Launch) (D : va_G) (cI cZ cL : ClassId) (im : obIM) (F : Int32 → Int32 → (Nat → Int32) → Int32 → (Nat → Int32) → Int32 → (Int32 → Int32 → Int32 → (Nat → Int32) → Prop) → Prop) (d : Nat) : Prop := ∀ (sz : Nat) (h : Nat) (htape : Nat) (q_steps : Nat) (q_words : Nat) (q_numbers : Nat) (q_starts : Nat) (q_ends : Nat) (f_place : Int32) (f_stepCount : Int32) (f_clauses : Int32) (f_gap : Int32) (f_far : Int32) (r_steps : Nat → Int32) (qtape_items : Nat) (ftape_size : Int32) (ftape_came : Int32) (rtape_items : Nat → Int32) (a1 : Int32) (Q : Int32 → Int32 → Int32 → (Nat → Int32) → Prop), F f_place f_stepCount r_steps ftape_size rtape_items a1 Q → Met l yX1_readFactor (Cond.code yX1_readFactor cX1_readFactor 3 (some .boolean) :: wsL_law) (rmR_A d) (obPre D (tyG cI cZ cL) im [(h, .inr (1, [.ref htape, .ref q_steps, .ref q_words, .ref q_numbers, .ref q_starts, .ref q_ends, .int f_place, .int f_stepCount, .int f_clauses, .int f_gap, .int f_far])), (q_steps, .inl (cI, 100, .inl r_steps)), (htape, .inr (7, [.ref qtape_items, .int ftape_size, .int ftape_came])), (qtape_items, .inl (cI, 100, .inl rtape_items))] sz [.ref h, .int a1]) (va_Qi (fun (r : Int32) (u : Int32 × Int32 × (Nat → Int32)) => Q r u.1 u.2.1 u.2.2) (obB D (va_A [(h, .inr (1, [.ref htape, .ref q_steps, .ref q_words, .ref q_numbers, .ref q_starts, .ref q_ends, .int f_place, .int f_stepCount, .int f_clauses, .int f_gap, .int f_far])), (q_steps, .inl (cI, 100, .inl r_steps)), (htape, .inr (7, [.ref qtape_items, .int ftape_size, .int ftape_came])), (qtape_items, .inl (cI, 100, .inl rtape_items))] sz) (fun u : Int32 × Int32 × (Nat → Int32) => [(h, .inr (1, [.ref htape, .ref q_steps, .ref q_words, .ref q_numbers, .ref q_starts, .ref q_ends, .int u.1, .int u.2.1, .int f_clauses, .int f_gap, .int f_far])), (q_steps, .inl (cI, 100, .inl u.2.2)), (htape, .inr (7, [.ref qtape_items, .int ftape_size, .int ftape_came])), (qtape_items, .inl (cI, 100, .inl rtape_items))])) (va_A [(h, .inr (1, [.ref htape, .ref q_steps, .ref q_words, .ref q_numbers, .ref q_starts, .ref q_ends, .int f_place, .int f_stepCount, .int f_clauses, .int f_gap, .int f_far])), (q_steps, .inl (cI, 100, .inl r_steps)), (htape, .inr (7, [.ref qtape_items, .int ftape_size, .int ftape_came])), (qtape_items, .inl (cI, 100, .inl rtape_items))] sz)) 0 0 (va_A [(h, .inr (1, [.ref htape, .ref q_steps, .ref q_words, .ref q_numbers, .ref q_starts, .ref q_ends, .int f_place, .int f_stepCount, .int f_clauses, .int f_gap, .int f_far])), (q_steps, .inl (cI, 100, .inl r_steps)), (htape, .inr (7, [.ref qtape_items, .int ftape_size, .int ftape_came])), (qtape_items, .inl (cI, 100, .inl rtape_items))] sz)
set_option maxHeartbeats 4000000 in
set_option maxRecDepth 100000 in
theorem st_X1_readEither (l : Launch) (D : va_G) (cI cZ cL : ClassId) (im : obIM) (F_X1_readEither : Int32 → Int32 → (Nat → Int32) → Int32 → (Nat → Int32) → Int32 → (Int32 → Int32 → Int32 → (Nat → Int32) → Prop) → Prop) (F_X1_readFactor : Int32 → Int32 → (Nat → Int32) → Int32 → (Nat → Int32) → Int32 → (Int32 → Int32 → Int32 → (Nat → Int32) → Prop) → Prop) (d : Nat) (hF_X1_readEither : CR_X1_readEither l D cI cZ cL im F_X1_readEither d) (hF_X1_readFactor : CR_X1_readFactor l D cI cZ cL im F_X1_readFactor d) : CR_X1_readEither l D cI cZ cL im (mB_X1_readEither F_X1_readEither F_X1_readFactor) (d + 1) := by
  intro sz h htape q_steps q_words q_numbers q_starts q_ends f_place f_stepCount f_clauses f_gap f_far r_steps qtape_items ftape_size ftape_came rtape_items a1 Q hm
  refine ob_met_i (cc := cX1_readEither) (maxL := 5) (by decide) (Nat.le_of_ble_eq_true rfl) (fun p e s m args below meth c A Z hx hb hml hown hts hnm hN hK hA hI hP hD hS hZ ls hl => ?_)
  have hl : lv_has ls 5 [(0, .ref h), (1, .int a1)] := hl
  unfold mB_X1_readEither at hm
  have lab7 : ∀ (n7 : Nat) (f_place_7 : Int32) (f_stepCount_7 : Int32) (r_steps_7 : Nat → Int32) (v2_7 : Int32) (v3_7 : Int32) (v4_7 : Int32) , ∀ (H : Heap) (locs : List Loc) (ls : Array Slot), va_P D vwCl [(h, .inr (1, [.ref htape, .ref q_steps, .ref q_words, .ref q_numbers, .ref q_starts, .ref q_ends, .int f_place_7, .int f_stepCount_7, .int f_clauses, .int f_gap, .int f_far])), (q_steps, .inl (cI, 100, .inl r_steps_7)), (htape, .inr (7, [.ref qtape_items, .int ftape_size, .int ftape_came])), (qtape_items, .inl (cI, 100, .inl rtape_items))] H → va_D A [(h, .inr (1, [.ref htape, .ref q_steps, .ref q_words, .ref q_numbers, .ref q_starts, .ref q_ends, .int f_place_7, .int f_stepCount_7, .int f_clauses, .int f_gap, .int f_far])), (q_steps, .inl (cI, 100, .inl r_steps_7)), (htape, .inr (7, [.ref qtape_items, .int ftape_size, .int ftape_came])), (qtape_items, .inl (cI, 100, .inl rtape_items))] → va_S A s.heap H locs → lv_has ls 5 [(0, .ref h), (1, .int a1), (2, .int v2_7), (3, .int v3_7), (4, .int v4_7)] → m_X1_readEither_L7 F_X1_readEither F_X1_readFactor ftape_size rtape_items a1 Q n7 f_place_7 f_stepCount_7 r_steps_7 v2_7 v3_7 v4_7 → W p l e (rmR_A (d + 1)) s m args below meth c H locs 0 0 Z (F0 m 7 ls []) := by
    clear hm
    intro n7
    induction n7 with
    | zero =>
      intro f_place_7 f_stepCount_7 r_steps_7 v2_7 v3_7 v4_7 H locs ls hP hD hS hl hm
      exact hm.elim
    | succ n7 ih7 =>
      intro f_place_7 f_stepCount_7 r_steps_7 v2_7 v3_7 v4_7 H locs ls hP hD hS hl hm
      unfold m_X1_readEither_L7 at hm
      obtain ⟨K7, hK7⟩ : ∃ K : Int32 → Int32 → (Nat → Int32) → Int32 → Int32 → Int32 → Prop, K = m_X1_readEither_L7 F_X1_readEither F_X1_readFactor ftape_size rtape_items a1 Q n7 := ⟨_, rfl⟩
      rw [← hK7] at hm ih7
      have lab68 : ∀ (f_place_68 : Int32) (f_stepCount_68 : Int32) (r_steps_68 : Nat → Int32) (v2_68 : Int32) (v3_68 : Int32) (v4_68 : Int32) , ∀ (H : Heap) (locs : List Loc) (ls : Array Slot), va_P D vwCl [(h, .inr (1, [.ref htape, .ref q_steps, .ref q_words, .ref q_numbers, .ref q_starts, .ref q_ends, .int f_place_68, .int f_stepCount_68, .int f_clauses, .int f_gap, .int f_far])), (q_steps, .inl (cI, 100, .inl r_steps_68)), (htape, .inr (7, [.ref qtape_items, .int ftape_size, .int ftape_came])), (qtape_items, .inl (cI, 100, .inl rtape_items))] H → va_D A [(h, .inr (1, [.ref htape, .ref q_steps, .ref q_words, .ref q_numbers, .ref q_starts, .ref q_ends, .int f_place_68, .int f_stepCount_68, .int f_clauses, .int f_gap, .int f_far])), (q_steps, .inl (cI, 100, .inl r_steps_68)), (htape, .inr (7, [.ref qtape_items, .int ftape_size, .int ftape_came])), (qtape_items, .inl (cI, 100, .inl rtape_items))] → va_S A s.heap H locs → lv_has ls 5 [(0, .ref h), (1, .int a1), (2, .int v2_68), (3, .int v3_68), (4, .int v4_68)] → m_X1_readEither_L68 F_X1_readEither F_X1_readFactor ftape_size rtape_items a1 f_place_68 f_stepCount_68 r_steps_68 v2_68 v3_68 v4_68 K7 Q → W p l e (rmR_A (d + 1)) s m args below meth c H locs 0 0 Z (F0 m 68 ls []) := by
        clear hm
        intro f_place_68 f_stepCount_68 r_steps_68 v2_68 v3_68 v4_68 H locs ls hP hD hS hl hm
        unfold m_X1_readEither_L68 at hm
        obtain ⟨x16, ex16⟩ : ∃ y : Int32, y = v4_68 + 1 := ⟨_, rfl⟩
        replace hm := hm x16 ex16
        refine lv_iinc (v := x16) (lv' := [(4, .int x16), (0, .ref h), (1, .int a1), (2, .int v2_68), (3, .int v3_68)]) hx hb (dX1_readEither 39 rfl) hl (k := 4) rfl (by rw [ex16]; rfl) (by decide) rfl (fun ls hl => ?_)
        refine lv_goto (tgt := 7) hx hb (dX1_readEither 40 rfl) (by decide) ?_
        exact ih7 f_place_68 f_stepCount_68 r_steps_68 v2_68 v3_68 x16 H locs ls hP hD hS (lv_sub hl [1, 2, 3, 4, 0] rfl) hm
      have lab55 : ∀ (f_place_55 : Int32) (f_stepCount_55 : Int32) (r_steps_55 : Nat → Int32) (v2_55 : Int32) (v4_55 : Int32) , ∀ (H : Heap) (locs : List Loc) (ls : Array Slot), va_P D vwCl [(h, .inr (1, [.ref htape, .ref q_steps, .ref q_words, .ref q_numbers, .ref q_starts, .ref q_ends, .int f_place_55, .int f_stepCount_55, .int f_clauses, .int f_gap, .int f_far])), (q_steps, .inl (cI, 100, .inl r_steps_55)), (htape, .inr (7, [.ref qtape_items, .int ftape_size, .int ftape_came])), (qtape_items, .inl (cI, 100, .inl rtape_items))] H → va_D A [(h, .inr (1, [.ref htape, .ref q_steps, .ref q_words, .ref q_numbers, .ref q_starts, .ref q_ends, .int f_place_55, .int f_stepCount_55, .int f_clauses, .int f_gap, .int f_far])), (q_steps, .inl (cI, 100, .inl r_steps_55)), (htape, .inr (7, [.ref qtape_items, .int ftape_size, .int ftape_came])), (qtape_items, .inl (cI, 100, .inl rtape_items))] → va_S A s.heap H locs → lv_has ls 5 [(0, .ref h), (1, .int a1), (2, .int v2_55), (4, .int v4_55)] → m_X1_readEither_L55 F_X1_readEither F_X1_readFactor ftape_size rtape_items a1 f_place_55 f_stepCount_55 r_steps_55 v2_55 v4_55 K7 Q → W p l e (rmR_A (d + 1)) s m args below meth c H locs 0 0 Z (F0 m 55 ls []) := by
        clear hm
        intro f_place_55 f_stepCount_55 r_steps_55 v2_55 v4_55 H locs ls hP hD hS hl hm
        unfold m_X1_readEither_L55 at hm
        refine lv_aload_n hx hb (dX1_readEither 31 rfl) rfl (lv_at hl 0 rfl) ?_
        refine lv_bipush (v := (124 : Int32)) hx hb (dX1_readEither 32 rfl) (by decide) ?_
        have hcut := ob_cut (wc := [(h, .inr (1, [.ref htape, .ref q_steps, .ref q_words, .ref q_numbers, .ref q_starts, .ref q_ends, .int f_place_55, .int f_stepCount_55, .int f_clauses, .int f_gap, .int f_far])), (htape, .inr (7, [.ref qtape_items, .int ftape_size, .int ftape_came])), (qtape_items, .inl (cI, 100, .inl rtape_items))]) hP hD hS hA [0, 2, 3] rfl (by decide)
        refine ob_i (wr := [(q_steps, .inl (cI, 100, .inl r_steps_55))]) (ob_V (As := [.int (124 : Int32)]) (rest := []) ⟨hx, hb, hml, hown, hts⟩ hK hcut (hI.cut hS hcut.2.2) hN (va_recv hK hP (ci := 1) (q0 := 0) rfl rfl) (k_X1_take l D cI cZ cL im _ _ _ _ _ _ _ _ _ _ _ _ _ _ _ _ _ _ _ hm) (cwV 1 hts (gU_V (inR8 _ (List.mem_of_getElem? (i := 21) rfl)) (inR8 _ (List.mem_of_getElem? (i := 22) rfl)) (inR8 _ (List.mem_of_getElem? (i := 23) rfl)) (inR5 _ (List.mem_of_getElem? (i := 8) rfl)) (inR9 _ (List.mem_of_getElem? (i := 0) rfl))) rfl rfl rfl (by decide +kernel) ⟨(by show 1 + 1 ≤ d + 1 + 20; omega), (by show 8 + (2 + 11) + 21 ≤ 60 * (d + 1) + 400; omega)⟩) rfl hl.1 rfl (Nat.le_of_ble_eq_true rfl) (dX1_readEither 33 rfl) ⟨Nat.zero_le _, Nat.zero_le _⟩) hP hD hS hcut [0, 2, 3] [1] rfl rfl (by decide) (by decide) (fun r18 u19 H locs hm hP hD hS => ?_)
        have hP := hP.sub (ws' := [(h, .inr (1, [.ref htape, .ref q_steps, .ref q_words, .ref q_numbers, .ref q_starts, .ref q_ends, .int u19, .int f_stepCount_55, .int f_clauses, .int f_gap, .int f_far])), (q_steps, .inl (cI, 100, .inl r_steps_55)), (htape, .inr (7, [.ref qtape_items, .int ftape_size, .int ftape_came])), (qtape_items, .inl (cI, 100, .inl rtape_items))]) [1, 0, 2, 3] rfl
        have hD := hD.sub (ws' := [(h, .inr (1, [.ref htape, .ref q_steps, .ref q_words, .ref q_numbers, .ref q_starts, .ref q_ends, .int u19, .int f_stepCount_55, .int f_clauses, .int f_gap, .int f_far])), (q_steps, .inl (cI, 100, .inl r_steps_55)), (htape, .inr (7, [.ref qtape_items, .int ftape_size, .int ftape_came])), (qtape_items, .inl (cI, 100, .inl rtape_items))]) [1, 0, 2, 3] (by decide) rfl
        refine lv_istore_n (lv' := [(3, .int r18), (0, .ref h), (1, .int a1), (2, .int v2_55), (4, .int v4_55)]) hx hb (dX1_readEither 34 rfl) rfl hl (by decide) rfl (fun ls hl => ?_)
        refine lv_iload_n hx hb (dX1_readEither 35 rfl) rfl (lv_at hl 0 rfl) ?_
        refine lv_if_ne (tgt := 68) hx hb (dX1_readEither 36 rfl) (by decide) (fun c21 => ?_) (fun c21 => ?_)
        · replace hm := hm.2 c21
          exact lab68 u19 f_stepCount_55 r_steps_55 v2_55 r18 v4_55 H locs ls hP hD hS (lv_sub hl [1, 2, 3, 0, 4] rfl) hm
        replace hm := hm.1 c21
        refine lv_iconst (v := (1 : Int32)) hx hb (dX1_readEither 37 rfl) (by decide) ?_
        exact hZ (1 : Int32) (u19, f_stepCount_55, r_steps_55) H locs ls 67 hm hP hD hS (dX1_readEither 38 rfl) rfl
      have lab34 : ∀ (f_place_34 : Int32) (f_stepCount_34 : Int32) (r_steps_34 : Nat → Int32) (v3_34 : Int32) (v4_34 : Int32) , ∀ (H : Heap) (locs : List Loc) (ls : Array Slot), va_P D vwCl [(h, .inr (1, [.ref htape, .ref q_steps, .ref q_words, .ref q_numbers, .ref q_starts, .ref q_ends, .int f_place_34, .int f_stepCount_34, .int f_clauses, .int f_gap, .int f_far])), (q_steps, .inl (cI, 100, .inl r_steps_34)), (htape, .inr (7, [.ref qtape_items, .int ftape_size, .int ftape_came])), (qtape_items, .inl (cI, 100, .inl rtape_items))] H → va_D A [(h, .inr (1, [.ref htape, .ref q_steps, .ref q_words, .ref q_numbers, .ref q_starts, .ref q_ends, .int f_place_34, .int f_stepCount_34, .int f_clauses, .int f_gap, .int f_far])), (q_steps, .inl (cI, 100, .inl r_steps_34)), (htape, .inr (7, [.ref qtape_items, .int ftape_size, .int ftape_came])), (qtape_items, .inl (cI, 100, .inl rtape_items))] → va_S A s.heap H locs → lv_has ls 5 [(0, .ref h), (1, .int a1), (3, .int v3_34), (4, .int v4_34)] → m_X1_readEither_L34 F_X1_readEither F_X1_readFactor ftape_size rtape_items a1 f_place_34 f_stepCount_34 r_steps_34 v3_34 v4_34 K7 Q → W p l e (rmR_A (d + 1)) s m args below meth c H locs 0 0 Z (F0 m 34 ls []) := by
        clear hm
        intro f_place_34 f_stepCount_34 r_steps_34 v3_34 v4_34 H locs ls hP hD hS hl hm
        unfold m_X1_readEither_L34 at hm
        refine lv_aload_n hx hb (dX1_readEither 20 rfl) rfl (lv_at hl 0 rfl) ?_
        refine lv_bipush (v := (38 : Int32)) hx hb (dX1_readEither 21 rfl) (by decide) ?_
        have hcut := ob_cut (wc := [(h, .inr (1, [.ref htape, .ref q_steps, .ref q_words, .ref q_numbers, .ref q_starts, .ref q_ends, .int f_place_34, .int f_stepCount_34, .int f_clauses, .int f_gap, .int f_far])), (htape, .inr (7, [.ref qtape_items, .int ftape_size, .int ftape_came])), (qtape_items, .inl (cI, 100, .inl rtape_items))]) hP hD hS hA [0, 2, 3] rfl (by decide)
        refine ob_i (wr := [(q_steps, .inl (cI, 100, .inl r_steps_34))]) (ob_V (As := [.int (38 : Int32)]) (rest := []) ⟨hx, hb, hml, hown, hts⟩ hK hcut (hI.cut hS hcut.2.2) hN (va_recv hK hP (ci := 1) (q0 := 0) rfl rfl) (k_X1_take l D cI cZ cL im _ _ _ _ _ _ _ _ _ _ _ _ _ _ _ _ _ _ _ hm) (cwV 1 hts (gU_V (inR8 _ (List.mem_of_getElem? (i := 21) rfl)) (inR8 _ (List.mem_of_getElem? (i := 22) rfl)) (inR8 _ (List.mem_of_getElem? (i := 23) rfl)) (inR5 _ (List.mem_of_getElem? (i := 8) rfl)) (inR9 _ (List.mem_of_getElem? (i := 0) rfl))) rfl rfl rfl (by decide +kernel) ⟨(by show 1 + 1 ≤ d + 1 + 20; omega), (by show 8 + (2 + 11) + 21 ≤ 60 * (d + 1) + 400; omega)⟩) rfl hl.1 rfl (Nat.le_of_ble_eq_true rfl) (dX1_readEither 22 rfl) ⟨Nat.zero_le _, Nat.zero_le _⟩) hP hD hS hcut [0, 2, 3] [1] rfl rfl (by decide) (by decide) (fun r12 u13 H locs hm hP hD hS => ?_)
        have hP := hP.sub (ws' := [(h, .inr (1, [.ref htape, .ref q_steps, .ref q_words, .ref q_numbers, .ref q_starts, .ref q_ends, .int u13, .int f_stepCount_34, .int f_clauses, .int f_gap, .int f_far])), (q_steps, .inl (cI, 100, .inl r_steps_34)), (htape, .inr (7, [.ref qtape_items, .int ftape_size, .int ftape_came])), (qtape_items, .inl (cI, 100, .inl rtape_items))]) [1, 0, 2, 3] rfl
        have hD := hD.sub (ws' := [(h, .inr (1, [.ref htape, .ref q_steps, .ref q_words, .ref q_numbers, .ref q_starts, .ref q_ends, .int u13, .int f_stepCount_34, .int f_clauses, .int f_gap, .int f_far])), (q_steps, .inl (cI, 100, .inl r_steps_34)), (htape, .inr (7, [.ref qtape_items, .int ftape_size, .int ftape_came])), (qtape_items, .inl (cI, 100, .inl rtape_items))]) [1, 0, 2, 3] (by decide) rfl
        refine lv_istore_n (lv' := [(2, .int r12), (0, .ref h), (1, .int a1), (3, .int v3_34), (4, .int v4_34)]) hx hb (dX1_readEither 23 rfl) rfl hl (by decide) rfl (fun ls hl => ?_)
        refine lv_iload_n hx hb (dX1_readEither 24 rfl) rfl (lv_at hl 0 rfl) ?_
        refine lv_if_ne (tgt := 68) hx hb (dX1_readEither 25 rfl) (by decide) (fun c15 => ?_) (fun c15 => ?_)
        · replace hm := hm.2 c15
          exact lab68 u13 f_stepCount_34 r_steps_34 r12 v3_34 v4_34 H locs ls hP hD hS (lv_sub hl [1, 2, 0, 3, 4] rfl) hm
        replace hm := hm.1 c15
        refine lv_iload_n hx hb (dX1_readEither 26 rfl) rfl (lv_at hl 3 rfl) ?_
        refine lv_if_eq (tgt := 55) hx hb (dX1_readEither 27 rfl) (by decide) (fun c17 => ?_) (fun c17 => ?_)
        · replace hm := hm.1 c17
          exact lab55 u13 f_stepCount_34 r_steps_34 r12 v4_34 H locs ls hP hD hS (lv_sub hl [1, 2, 0, 4] rfl) hm
        replace hm := hm.2 c17
        refine lv_aload_n hx hb (dX1_readEither 28 rfl) rfl (lv_at hl 1 rfl) ?_
        refine lv_bipush (v := (-3 : Int32)) hx hb (dX1_readEither 29 rfl) (by decide) ?_
        have hcut := ob_cut (wc := [(h, .inr (1, [.ref htape, .ref q_steps, .ref q_words, .ref q_numbers, .ref q_starts, .ref q_ends, .int u13, .int f_stepCount_34, .int f_clauses, .int f_gap, .int f_far])), (q_steps, .inl (cI, 100, .inl r_steps_34))]) hP hD hS hA [0, 1] rfl (by decide)
        refine ob_v (wr := [(htape, .inr (7, [.ref qtape_items, .int ftape_size, .int ftape_came])), (qtape_items, .inl (cI, 100, .inl rtape_items))]) (ob_V (As := [.int (-3 : Int32)]) (rest := []) ⟨hx, hb, hml, hown, hts⟩ hK hcut (hI.cut hS hcut.2.2) hN (va_recv hK hP (ci := 1) (q0 := 0) rfl rfl) (k_X1_addStep l D cI cZ cL im _ _ _ _ _ _ _ _ _ _ _ _ _ _ _ _ hm) (cwV 1 hts (gU_V (inR9 _ (List.mem_of_getElem? (i := 15) rfl)) (inR9 _ (List.mem_of_getElem? (i := 16) rfl)) (inR9 _ (List.mem_of_getElem? (i := 17) rfl)) (inR5 _ (List.mem_of_getElem? (i := 8) rfl)) (inR9 _ (List.mem_of_getElem? (i := 18) rfl))) rfl rfl rfl (by decide +kernel) ⟨(by show 0 + 1 ≤ d + 1 + 20; omega), (by show 8 + (2 + 11) + 0 ≤ 60 * (d + 1) + 400; omega)⟩) rfl hl.1 rfl (Nat.le_of_ble_eq_true rfl) (dX1_readEither 30 rfl) ⟨Nat.zero_le _, Nat.zero_le _⟩) hP hD hS hcut [0, 1] [2, 3] rfl rfl (by decide) (by decide) (fun u23 H locs hm hP hD hS => ?_)
        have hP := hP.sub (ws' := [(h, .inr (1, [.ref htape, .ref q_steps, .ref q_words, .ref q_numbers, .ref q_starts, .ref q_ends, .int u13, .int u23.1, .int f_clauses, .int f_gap, .int f_far])), (q_steps, .inl (cI, 100, .inl u23.2)), (htape, .inr (7, [.ref qtape_items, .int ftape_size, .int ftape_came])), (qtape_items, .inl (cI, 100, .inl rtape_items))]) [2, 3, 0, 1] rfl
        have hD := hD.sub (ws' := [(h, .inr (1, [.ref htape, .ref q_steps, .ref q_words, .ref q_numbers, .ref q_starts, .ref q_ends, .int u13, .int u23.1, .int f_clauses, .int f_gap, .int f_far])), (q_steps, .inl (cI, 100, .inl u23.2)), (htape, .inr (7, [.ref qtape_items, .int ftape_size, .int ftape_came])), (qtape_items, .inl (cI, 100, .inl rtape_items))]) [2, 3, 0, 1] (by decide) rfl
        exact lab55 u13 u23.1 u23.2 r12 v4_34 H locs ls hP hD hS (lv_sub hl [1, 2, 0, 4] rfl) hm
      refine lv_iload hx hb (dX1_readEither 6 rfl) (lv_at hl 4 rfl) ?_
      refine lv_bipush (v := (100 : Int32)) hx hb (dX1_readEither 7 rfl) (by decide) ?_
      refine lv_icmp_ge (tgt := 74) hx hb (dX1_readEither 8 rfl) (by decide) (fun c4 => ?_) (fun c4 => ?_)
      · replace hm := hm.1 c4
        refine lv_iconst (v := (0 : Int32)) hx hb (dX1_readEither 41 rfl) (by decide) ?_
        exact hZ (0 : Int32) (f_place_7, f_stepCount_7, r_steps_7) H locs ls 75 hm hP hD hS (dX1_readEither 42 rfl) rfl
      replace hm := hm.2 c4
      refine lv_aload_n hx hb (dX1_readEither 9 rfl) rfl (lv_at hl 0 rfl) ?_
      refine lv_iload_n hx hb (dX1_readEither 10 rfl) rfl (lv_at hl 1 rfl) ?_
      have hcut := ob_cut (wc := [(h, .inr (1, [.ref htape, .ref q_steps, .ref q_words, .ref q_numbers, .ref q_starts, .ref q_ends, .int f_place_7, .int f_stepCount_7, .int f_clauses, .int f_gap, .int f_far])), (q_steps, .inl (cI, 100, .inl r_steps_7)), (htape, .inr (7, [.ref qtape_items, .int ftape_size, .int ftape_came])), (qtape_items, .inl (cI, 100, .inl rtape_items))]) hP hD hS hA [0, 1, 2, 3] rfl (by decide)
      refine ob_i (wr := []) (ob_V (As := [.int a1]) (rest := []) ⟨hx, hb, hml, hown, hts⟩ hK hcut (hI.cut hS hcut.2.2) hN (va_recv hK hP (ci := 1) (q0 := 0) rfl rfl) (hF_X1_readFactor _ _ _ _ _ _ _ _ _ _ _ _ _ _ _ _ _ _ _ _ hm) (cwV 1 hts (gU_V (inR9 _ (List.mem_of_getElem? (i := 12) rfl)) (inR9 _ (List.mem_of_getElem? (i := 13) rfl)) (inR9 _ (List.mem_of_getElem? (i := 14) rfl)) (inR5 _ (List.mem_of_getElem? (i := 8) rfl)) (inR9 _ (List.mem_of_getElem? (i := 19) rfl))) rfl rfl rfl (by decide +kernel) ⟨(by show d + 20 + 1 ≤ d + 1 + 20; omega), (by show 8 + (3 + 11) + (60 * d + 400) ≤ 60 * (d + 1) + 400; omega)⟩) rfl hl.1 rfl (Nat.le_of_ble_eq_true rfl) (dX1_readEither 11 rfl) ⟨Nat.zero_le _, Nat.zero_le _⟩) hP hD hS hcut [0, 1, 2, 3] [] rfl rfl (by decide) (by decide) (fun r5 u6 H locs hm hP hD hS => ?_)
      have hP := hP.sub (ws' := [(h, .inr (1, [.ref htape, .ref q_steps, .ref q_words, .ref q_numbers, .ref q_starts, .ref q_ends, .int u6.1, .int u6.2.1, .int f_clauses, .int f_gap, .int f_far])), (q_steps, .inl (cI, 100, .inl u6.2.2)), (htape, .inr (7, [.ref qtape_items, .int ftape_size, .int ftape_came])), (qtape_items, .inl (cI, 100, .inl rtape_items))]) [0, 1, 2, 3] rfl
      have hD := hD.sub (ws' := [(h, .inr (1, [.ref htape, .ref q_steps, .ref q_words, .ref q_numbers, .ref q_starts, .ref q_ends, .int u6.1, .int u6.2.1, .int f_clauses, .int f_gap, .int f_far])), (q_steps, .inl (cI, 100, .inl u6.2.2)), (htape, .inr (7, [.ref qtape_items, .int ftape_size, .int ftape_came])), (qtape_items, .inl (cI, 100, .inl rtape_items))]) [0, 1, 2, 3] (by decide) rfl
      refine lv_if_ne (tgt := 24) hx hb (dX1_readEither 12 rfl) (by decide) (fun c10 => ?_) (fun c10 => ?_)
      · replace hm := hm.2 c10
        refine lv_iload_n hx hb (dX1_readEither 15 rfl) rfl (lv_at hl 2 rfl) ?_
        refine lv_if_eq (tgt := 34) hx hb (dX1_readEither 16 rfl) (by decide) (fun c11 => ?_) (fun c11 => ?_)
        · replace hm := hm.1 c11
          exact lab34 u6.1 u6.2.1 u6.2.2 v3_7 v4_7 H locs ls hP hD hS (lv_sub hl [0, 1, 3, 4] rfl) hm
        replace hm := hm.2 c11
        refine lv_aload_n hx hb (dX1_readEither 17 rfl) rfl (lv_at hl 0 rfl) ?_
        refine lv_bipush (v := (-2 : Int32)) hx hb (dX1_readEither 18 rfl) (by decide) ?_
        have hcut := ob_cut (wc := [(h, .inr (1, [.ref htape, .ref q_steps, .ref q_words, .ref q_numbers, .ref q_starts, .ref q_ends, .int u6.1, .int u6.2.1, .int f_clauses, .int f_gap, .int f_far])), (q_steps, .inl (cI, 100, .inl u6.2.2))]) hP hD hS hA [0, 1] rfl (by decide)
        refine ob_v (wr := [(htape, .inr (7, [.ref qtape_items, .int ftape_size, .int ftape_came])), (qtape_items, .inl (cI, 100, .inl rtape_items))]) (ob_V (As := [.int (-2 : Int32)]) (rest := []) ⟨hx, hb, hml, hown, hts⟩ hK hcut (hI.cut hS hcut.2.2) hN (va_recv hK hP (ci := 1) (q0 := 0) rfl rfl) (k_X1_addStep l D cI cZ cL im _ _ _ _ _ _ _ _ _ _ _ _ _ _ _ _ hm) (cwV 1 hts (gU_V (inR9 _ (List.mem_of_getElem? (i := 15) rfl)) (inR9 _ (List.mem_of_getElem? (i := 16) rfl)) (inR9 _ (List.mem_of_getElem? (i := 17) rfl)) (inR5 _ (List.mem_of_getElem? (i := 8) rfl)) (inR9 _ (List.mem_of_getElem? (i := 18) rfl))) rfl rfl rfl (by decide +kernel) ⟨(by show 0 + 1 ≤ d + 1 + 20; omega), (by show 8 + (2 + 11) + 0 ≤ 60 * (d + 1) + 400; omega)⟩) rfl hl.1 rfl (Nat.le_of_ble_eq_true rfl) (dX1_readEither 19 rfl) ⟨Nat.zero_le _, Nat.zero_le _⟩) hP hD hS hcut [0, 1] [2, 3] rfl rfl (by decide) (by decide) (fun u27 H locs hm hP hD hS => ?_)
        have hP := hP.sub (ws' := [(h, .inr (1, [.ref htape, .ref q_steps, .ref q_words, .ref q_numbers, .ref q_starts, .ref q_ends, .int u6.1, .int u27.1, .int f_clauses, .int f_gap, .int f_far])), (q_steps, .inl (cI, 100, .inl u27.2)), (htape, .inr (7, [.ref qtape_items, .int ftape_size, .int ftape_came])), (qtape_items, .inl (cI, 100, .inl rtape_items))]) [2, 3, 0, 1] rfl
        have hD := hD.sub (ws' := [(h, .inr (1, [.ref htape, .ref q_steps, .ref q_words, .ref q_numbers, .ref q_starts, .ref q_ends, .int u6.1, .int u27.1, .int f_clauses, .int f_gap, .int f_far])), (q_steps, .inl (cI, 100, .inl u27.2)), (htape, .inr (7, [.ref qtape_items, .int ftape_size, .int ftape_came])), (qtape_items, .inl (cI, 100, .inl rtape_items))]) [2, 3, 0, 1] (by decide) rfl
        exact lab34 u6.1 u27.1 u27.2 v3_7 v4_7 H locs ls hP hD hS (lv_sub hl [0, 1, 3, 4] rfl) hm
      replace hm := hm.1 c10
      refine lv_iconst (v := (0 : Int32)) hx hb (dX1_readEither 13 rfl) (by decide) ?_
      exact hZ (0 : Int32) (u6.1, u6.2.1, u6.2.2) H locs ls 23 hm hP hD hS (dX1_readEither 14 rfl) rfl
  obtain ⟨H, hH⟩ : ∃ H, H = s.heap := ⟨_, rfl⟩
  obtain ⟨locs, hlo⟩ : ∃ q : List Loc, q = [] := ⟨_, rfl⟩
  suffices hgo : W p l e (rmR_A (d + 1)) s m args below meth c H locs 0 0 Z (F0 m 0 ls []) by rw [hH, hlo] at hgo; exact hgo
  have hP : va_P D vwCl [(h, .inr (1, [.ref htape, .ref q_steps, .ref q_words, .ref q_numbers, .ref q_starts, .ref q_ends, .int f_place, .int f_stepCount, .int f_clauses, .int f_gap, .int f_far])), (q_steps, .inl (cI, 100, .inl r_steps)), (htape, .inr (7, [.ref qtape_items, .int ftape_size, .int ftape_came])), (qtape_items, .inl (cI, 100, .inl rtape_items))] H := by rw [hH]; exact hP
  have hD : va_D A [(h, .inr (1, [.ref htape, .ref q_steps, .ref q_words, .ref q_numbers, .ref q_starts, .ref q_ends, .int f_place, .int f_stepCount, .int f_clauses, .int f_gap, .int f_far])), (q_steps, .inl (cI, 100, .inl r_steps)), (htape, .inr (7, [.ref qtape_items, .int ftape_size, .int ftape_came])), (qtape_items, .inl (cI, 100, .inl rtape_items))] := hD
  have hS : va_S A s.heap H locs := by rw [hH, hlo]; exact hS
  refine lv_iconst (v := (0 : Int32)) hx hb (dX1_readEither 0 rfl) (by decide) ?_
  refine lv_topi (fun x1 ex1 => ?_)
  replace hm := hm x1 ex1
  refine lv_istore_n (lv' := [(2, .int x1), (0, .ref h), (1, .int a1)]) hx hb (dX1_readEither 1 rfl) rfl hl (by decide) rfl (fun ls hl => ?_)
  refine lv_iconst (v := (0 : Int32)) hx hb (dX1_readEither 2 rfl) (by decide) ?_
  refine lv_topi (fun x2 ex2 => ?_)
  replace hm := hm x2 ex2
  refine lv_istore_n (lv' := [(3, .int x2), (2, .int x1), (0, .ref h), (1, .int a1)]) hx hb (dX1_readEither 3 rfl) rfl hl (by decide) rfl (fun ls hl => ?_)
  refine lv_iconst (v := (0 : Int32)) hx hb (dX1_readEither 4 rfl) (by decide) ?_
  refine lv_topi (fun x3 ex3 => ?_)
  replace hm := hm x3 ex3
  refine lv_istore (lv' := [(4, .int x3), (3, .int x2), (2, .int x1), (0, .ref h), (1, .int a1)]) hx hb (dX1_readEither 5 rfl) hl (by decide) rfl (fun ls hl => ?_)
  obtain ⟨n30, hm⟩ := hm
  exact lab7 n30 f_place f_stepCount r_steps x1 x2 x3 H locs ls hP hD hS (lv_sub hl [3, 4, 2, 1, 0] rfl) hm
set_option maxHeartbeats 4000000 in
set_option maxRecDepth 100000 in
theorem st_X1_readFactor (l : Launch) (D : va_G) (cI cZ cL : ClassId) (im : obIM) (F_X1_readEither : Int32 → Int32 → (Nat → Int32) → Int32 → (Nat → Int32) → Int32 → (Int32 → Int32 → Int32 → (Nat → Int32) → Prop) → Prop) (F_X1_readFactor : Int32 → Int32 → (Nat → Int32) → Int32 → (Nat → Int32) → Int32 → (Int32 → Int32 → Int32 → (Nat → Int32) → Prop) → Prop) (d : Nat) (hF_X1_readEither : CR_X1_readEither l D cI cZ cL im F_X1_readEither d) (hF_X1_readFactor : CR_X1_readFactor l D cI cZ cL im F_X1_readFactor d) : CR_X1_readFactor l D cI cZ cL im (mB_X1_readFactor F_X1_readEither F_X1_readFactor) (d + 1) := by
  intro sz h htape q_steps q_words q_numbers q_starts q_ends f_place f_stepCount f_clauses f_gap f_far r_steps qtape_items ftape_size ftape_came rtape_items a1 Q hm
  refine ob_met_i (cc := cX1_readFactor) (maxL := 3) (by decide) (Nat.le_of_ble_eq_true rfl) (fun p e s m args below meth c A Z hx hb hml hown hts hnm hN hK hA hI hP hD hS hZ ls hl => ?_)
  have hl : lv_has ls 3 [(0, .ref h), (1, .int a1)] := hl
  unfold mB_X1_readFactor at hm
  have lab29 : ∀ (f_place_29 : Int32) (f_stepCount_29 : Int32) (r_steps_29 : Nat → Int32) (v2_29 : Int32) , ∀ (H : Heap) (locs : List Loc) (ls : Array Slot), va_P D vwCl [(h, .inr (1, [.ref htape, .ref q_steps, .ref q_words, .ref q_numbers, .ref q_starts, .ref q_ends, .int f_place_29, .int f_stepCount_29, .int f_clauses, .int f_gap, .int f_far])), (q_steps, .inl (cI, 100, .inl r_steps_29)), (htape, .inr (7, [.ref qtape_items, .int ftape_size, .int ftape_came])), (qtape_items, .inl (cI, 100, .inl rtape_items))] H → va_D A [(h, .inr (1, [.ref htape, .ref q_steps, .ref q_words, .ref q_numbers, .ref q_starts, .ref q_ends, .int f_place_29, .int f_stepCount_29, .int f_clauses, .int f_gap, .int f_far])), (q_steps, .inl (cI, 100, .inl r_steps_29)), (htape, .inr (7, [.ref qtape_items, .int ftape_size, .int ftape_came])), (qtape_items, .inl (cI, 100, .inl rtape_items))] → va_S A s.heap H locs → lv_has ls 3 [(0, .ref h), (1, .int a1), (2, .int v2_29)] → m_X1_readFactor_L29 F_X1_readEither F_X1_readFactor ftape_size rtape_items a1 f_place_29 f_stepCount_29 r_steps_29 v2_29 Q → W p l e (rmR_A (d + 1)) s m args below meth c H locs 0 0 Z (F0 m 29 ls []) := by
    clear hm
    intro f_place_29 f_stepCount_29 r_steps_29 v2_29 H locs ls hP hD hS hl hm
    unfold m_X1_readFactor_L29 at hm
    refine lv_iload_n hx hb (dX1_readFactor 15 rfl) rfl (lv_at hl 1 rfl) ?_
    refine lv_iconst (v := (5 : Int32)) hx hb (dX1_readFactor 16 rfl) (by decide) ?_
    refine lv_icmp_lt (tgt := 36) hx hb (dX1_readFactor 17 rfl) (by decide) (fun c4 => ?_) (fun c4 => ?_)
    · replace hm := hm.1 c4
      refine lv_aload_n hx hb (dX1_readFactor 20 rfl) rfl (lv_at hl 0 rfl) ?_
      refine lv_dup hx hb (dX1_readFactor 21 rfl) rfl ?_
      refine va_get (D := D) (ci := 1) (v := .int f_place_29) (C := RX1) (T := TX1) (N := 11) hx hb hts inlX1 hown hK hP 0 rfl rfl 6 (by decide) (hts (.fieldLink RX1 42 "OverBacks$Field" "place" "I") (inR6 _ (List.mem_of_getElem? (i := 1) rfl))) (fun _ h9 => h9) rfl (dX1_readFactor 22 rfl) ?_
      refine lv_iconst (v := (1 : Int32)) hx hb (dX1_readFactor 23 rfl) (by decide) ?_
      refine lv_iadd hx hb (dX1_readFactor 24 rfl) ?_
      refine va_put (D := D) (ci := 1) (v := .int (f_place_29 + (1 : Int32))) (ty := .int) (C := RX1) (T := TX1) (N := 11) hx hb hts inlX1 tyX1 tyX1_ok nmX1 hown hK hP hD hS 0 rfl rfl 6 (by decide) (hts (.fieldLink RX1 42 "OverBacks$Field" "place" "I") (inR6 _ (List.mem_of_getElem? (i := 1) rfl))) (fun _ h9 => h9) rfl (by decide +kernel) rfl rfl (Nat.le_of_ble_eq_true rfl) (dX1_readFactor 25 rfl) (fun H locs hP hD hS => ?_)
      have hP : va_P D vwCl [(h, .inr (1, [.ref htape, .ref q_steps, .ref q_words, .ref q_numbers, .ref q_starts, .ref q_ends, .int (f_place_29 + (1 : Int32)), .int f_stepCount_29, .int f_clauses, .int f_gap, .int f_far])), (q_steps, .inl (cI, 100, .inl r_steps_29)), (htape, .inr (7, [.ref qtape_items, .int ftape_size, .int ftape_came])), (qtape_items, .inl (cI, 100, .inl rtape_items))] H := hP
      have hD : va_D A [(h, .inr (1, [.ref htape, .ref q_steps, .ref q_words, .ref q_numbers, .ref q_starts, .ref q_ends, .int (f_place_29 + (1 : Int32)), .int f_stepCount_29, .int f_clauses, .int f_gap, .int f_far])), (q_steps, .inl (cI, 100, .inl r_steps_29)), (htape, .inr (7, [.ref qtape_items, .int ftape_size, .int ftape_came])), (qtape_items, .inl (cI, 100, .inl rtape_items))] := hD
      refine lv_iload_n hx hb (dX1_readFactor 26 rfl) rfl (lv_at hl 2 rfl) ?_
      refine lv_bipush (v := (40 : Int32)) hx hb (dX1_readFactor 27 rfl) (by decide) ?_
      refine lv_icmp_ne (tgt := 77) hx hb (dX1_readFactor 28 rfl) (by decide) (fun c5 => ?_) (fun c5 => ?_)
      · replace hm := hm.2 c5
        refine lv_aload_n hx hb (dX1_readFactor 43 rfl) rfl (lv_at hl 0 rfl) ?_
        refine lv_iload_n hx hb (dX1_readFactor 44 rfl) rfl (lv_at hl 1 rfl) ?_
        refine lv_iconst (v := (1 : Int32)) hx hb (dX1_readFactor 45 rfl) (by decide) ?_
        refine lv_iadd hx hb (dX1_readFactor 46 rfl) ?_
        have hcut := ob_cut (wc := [(h, .inr (1, [.ref htape, .ref q_steps, .ref q_words, .ref q_numbers, .ref q_starts, .ref q_ends, .int (f_place_29 + (1 : Int32)), .int f_stepCount_29, .int f_clauses, .int f_gap, .int f_far])), (q_steps, .inl (cI, 100, .inl r_steps_29)), (htape, .inr (7, [.ref qtape_items, .int ftape_size, .int ftape_came])), (qtape_items, .inl (cI, 100, .inl rtape_items))]) hP hD hS hA [0, 1, 2, 3] rfl (by decide)
        refine ob_i (wr := []) (ob_V (As := [.int (a1 + (1 : Int32))]) (rest := []) ⟨hx, hb, hml, hown, hts⟩ hK hcut (hI.cut hS hcut.2.2) hN (va_recv hK hP (ci := 1) (q0 := 0) rfl rfl) (hF_X1_readFactor _ _ _ _ _ _ _ _ _ _ _ _ _ _ _ _ _ _ _ _ hm) (cwV 1 hts (gU_V (inR9 _ (List.mem_of_getElem? (i := 12) rfl)) (inR9 _ (List.mem_of_getElem? (i := 13) rfl)) (inR9 _ (List.mem_of_getElem? (i := 14) rfl)) (inR5 _ (List.mem_of_getElem? (i := 8) rfl)) (inR9 _ (List.mem_of_getElem? (i := 19) rfl))) rfl rfl rfl (by decide +kernel) ⟨(by show d + 20 + 1 ≤ d + 1 + 20; omega), (by show 8 + (3 + 11) + (60 * d + 400) ≤ 60 * (d + 1) + 400; omega)⟩) rfl hl.1 rfl (Nat.le_of_ble_eq_true rfl) (dX1_readFactor 47 rfl) ⟨Nat.zero_le _, Nat.zero_le _⟩) hP hD hS hcut [0, 1, 2, 3] [] rfl rfl (by decide) (by decide) (fun r6 u7 H locs hm hP hD hS => ?_)
        have hP := hP.sub (ws' := [(h, .inr (1, [.ref htape, .ref q_steps, .ref q_words, .ref q_numbers, .ref q_starts, .ref q_ends, .int u7.1, .int u7.2.1, .int f_clauses, .int f_gap, .int f_far])), (q_steps, .inl (cI, 100, .inl u7.2.2)), (htape, .inr (7, [.ref qtape_items, .int ftape_size, .int ftape_came])), (qtape_items, .inl (cI, 100, .inl rtape_items))]) [0, 1, 2, 3] rfl
        have hD := hD.sub (ws' := [(h, .inr (1, [.ref htape, .ref q_steps, .ref q_words, .ref q_numbers, .ref q_starts, .ref q_ends, .int u7.1, .int u7.2.1, .int f_clauses, .int f_gap, .int f_far])), (q_steps, .inl (cI, 100, .inl u7.2.2)), (htape, .inr (7, [.ref qtape_items, .int ftape_size, .int ftape_came])), (qtape_items, .inl (cI, 100, .inl rtape_items))]) [0, 1, 2, 3] (by decide) rfl
        refine lv_if_ne (tgt := 89) hx hb (dX1_readFactor 48 rfl) (by decide) (fun c11 => ?_) (fun c11 => ?_)
        · replace hm := hm.2 c11
          refine lv_aload_n hx hb (dX1_readFactor 51 rfl) rfl (lv_at hl 0 rfl) ?_
          refine lv_iconst (v := (-1 : Int32)) hx hb (dX1_readFactor 52 rfl) (by decide) ?_
          have hcut := ob_cut (wc := [(h, .inr (1, [.ref htape, .ref q_steps, .ref q_words, .ref q_numbers, .ref q_starts, .ref q_ends, .int u7.1, .int u7.2.1, .int f_clauses, .int f_gap, .int f_far])), (q_steps, .inl (cI, 100, .inl u7.2.2))]) hP hD hS hA [0, 1] rfl (by decide)
          refine ob_v (wr := [(htape, .inr (7, [.ref qtape_items, .int ftape_size, .int ftape_came])), (qtape_items, .inl (cI, 100, .inl rtape_items))]) (ob_V (As := [.int (-1 : Int32)]) (rest := []) ⟨hx, hb, hml, hown, hts⟩ hK hcut (hI.cut hS hcut.2.2) hN (va_recv hK hP (ci := 1) (q0 := 0) rfl rfl) (k_X1_addStep l D cI cZ cL im _ _ _ _ _ _ _ _ _ _ _ _ _ _ _ _ hm) (cwV 1 hts (gU_V (inR9 _ (List.mem_of_getElem? (i := 15) rfl)) (inR9 _ (List.mem_of_getElem? (i := 16) rfl)) (inR9 _ (List.mem_of_getElem? (i := 17) rfl)) (inR5 _ (List.mem_of_getElem? (i := 8) rfl)) (inR9 _ (List.mem_of_getElem? (i := 18) rfl))) rfl rfl rfl (by decide +kernel) ⟨(by show 0 + 1 ≤ d + 1 + 20; omega), (by show 8 + (2 + 11) + 0 ≤ 60 * (d + 1) + 400; omega)⟩) rfl hl.1 rfl (Nat.le_of_ble_eq_true rfl) (dX1_readFactor 53 rfl) ⟨Nat.zero_le _, Nat.zero_le _⟩) hP hD hS hcut [0, 1] [2, 3] rfl rfl (by decide) (by decide) (fun u13 H locs hm hP hD hS => ?_)
          have hP := hP.sub (ws' := [(h, .inr (1, [.ref htape, .ref q_steps, .ref q_words, .ref q_numbers, .ref q_starts, .ref q_ends, .int u7.1, .int u13.1, .int f_clauses, .int f_gap, .int f_far])), (q_steps, .inl (cI, 100, .inl u13.2)), (htape, .inr (7, [.ref qtape_items, .int ftape_size, .int ftape_came])), (qtape_items, .inl (cI, 100, .inl rtape_items))]) [2, 3, 0, 1] rfl
          have hD := hD.sub (ws' := [(h, .inr (1, [.ref htape, .ref q_steps, .ref q_words, .ref q_numbers, .ref q_starts, .ref q_ends, .int u7.1, .int u13.1, .int f_clauses, .int f_gap, .int f_far])), (q_steps, .inl (cI, 100, .inl u13.2)), (htape, .inr (7, [.ref qtape_items, .int ftape_size, .int ftape_came])), (qtape_items, .inl (cI, 100, .inl rtape_items))]) [2, 3, 0, 1] (by decide) rfl
          refine lv_iconst (v := (1 : Int32)) hx hb (dX1_readFactor 54 rfl) (by decide) ?_
          exact hZ (1 : Int32) (u7.1, u13.1, u13.2) H locs ls 95 hm hP hD hS (dX1_readFactor 55 rfl) rfl
        replace hm := hm.1 c11
        refine lv_iconst (v := (0 : Int32)) hx hb (dX1_readFactor 49 rfl) (by decide) ?_
        exact hZ (0 : Int32) (u7.1, u7.2.1, u7.2.2) H locs ls 88 hm hP hD hS (dX1_readFactor 50 rfl) rfl
      replace hm := hm.1 c5
      refine lv_aload_n hx hb (dX1_readFactor 29 rfl) rfl (lv_at hl 0 rfl) ?_
      refine lv_iload_n hx hb (dX1_readFactor 30 rfl) rfl (lv_at hl 1 rfl) ?_
      refine lv_iconst (v := (1 : Int32)) hx hb (dX1_readFactor 31 rfl) (by decide) ?_
      refine lv_iadd hx hb (dX1_readFactor 32 rfl) ?_
      have hcut := ob_cut (wc := [(h, .inr (1, [.ref htape, .ref q_steps, .ref q_words, .ref q_numbers, .ref q_starts, .ref q_ends, .int (f_place_29 + (1 : Int32)), .int f_stepCount_29, .int f_clauses, .int f_gap, .int f_far])), (q_steps, .inl (cI, 100, .inl r_steps_29)), (htape, .inr (7, [.ref qtape_items, .int ftape_size, .int ftape_came])), (qtape_items, .inl (cI, 100, .inl rtape_items))]) hP hD hS hA [0, 1, 2, 3] rfl (by decide)
      refine ob_i (wr := []) (ob_V (As := [.int (a1 + (1 : Int32))]) (rest := []) ⟨hx, hb, hml, hown, hts⟩ hK hcut (hI.cut hS hcut.2.2) hN (va_recv hK hP (ci := 1) (q0 := 0) rfl rfl) (hF_X1_readEither _ _ _ _ _ _ _ _ _ _ _ _ _ _ _ _ _ _ _ _ hm) (cwV 1 hts (gU_V (inR9 _ (List.mem_of_getElem? (i := 8) rfl)) (inR9 _ (List.mem_of_getElem? (i := 9) rfl)) (inR9 _ (List.mem_of_getElem? (i := 10) rfl)) (inR5 _ (List.mem_of_getElem? (i := 8) rfl)) (inR9 _ (List.mem_of_getElem? (i := 11) rfl))) rfl rfl rfl (by decide +kernel) ⟨(by show d + 20 + 1 ≤ d + 1 + 20; omega), (by show 8 + (5 + 11) + (60 * d + 400) ≤ 60 * (d + 1) + 400; omega)⟩) rfl hl.1 rfl (Nat.le_of_ble_eq_true rfl) (dX1_readFactor 33 rfl) ⟨Nat.zero_le _, Nat.zero_le _⟩) hP hD hS hcut [0, 1, 2, 3] [] rfl rfl (by decide) (by decide) (fun r16 u17 H locs hm hP hD hS => ?_)
      have hP := hP.sub (ws' := [(h, .inr (1, [.ref htape, .ref q_steps, .ref q_words, .ref q_numbers, .ref q_starts, .ref q_ends, .int u17.1, .int u17.2.1, .int f_clauses, .int f_gap, .int f_far])), (q_steps, .inl (cI, 100, .inl u17.2.2)), (htape, .inr (7, [.ref qtape_items, .int ftape_size, .int ftape_came])), (qtape_items, .inl (cI, 100, .inl rtape_items))]) [0, 1, 2, 3] rfl
      have hD := hD.sub (ws' := [(h, .inr (1, [.ref htape, .ref q_steps, .ref q_words, .ref q_numbers, .ref q_starts, .ref q_ends, .int u17.1, .int u17.2.1, .int f_clauses, .int f_gap, .int f_far])), (q_steps, .inl (cI, 100, .inl u17.2.2)), (htape, .inr (7, [.ref qtape_items, .int ftape_size, .int ftape_came])), (qtape_items, .inl (cI, 100, .inl rtape_items))]) [0, 1, 2, 3] (by decide) rfl
      refine lv_if_eq (tgt := 75) hx hb (dX1_readFactor 34 rfl) (by decide) (fun c21 => ?_) (fun c21 => ?_)
      · replace hm := hm.1 c21
        refine lv_iconst (v := (0 : Int32)) hx hb (dX1_readFactor 41 rfl) (by decide) ?_
        exact hZ (0 : Int32) (u17.1, u17.2.1, u17.2.2) H locs ls 76 hm hP hD hS (dX1_readFactor 42 rfl) rfl
      replace hm := hm.2 c21
      refine lv_aload_n hx hb (dX1_readFactor 35 rfl) rfl (lv_at hl 0 rfl) ?_
      refine lv_bipush (v := (41 : Int32)) hx hb (dX1_readFactor 36 rfl) (by decide) ?_
      have hcut := ob_cut (wc := [(h, .inr (1, [.ref htape, .ref q_steps, .ref q_words, .ref q_numbers, .ref q_starts, .ref q_ends, .int u17.1, .int u17.2.1, .int f_clauses, .int f_gap, .int f_far])), (htape, .inr (7, [.ref qtape_items, .int ftape_size, .int ftape_came])), (qtape_items, .inl (cI, 100, .inl rtape_items))]) hP hD hS hA [0, 2, 3] rfl (by decide)
      refine ob_i (wr := [(q_steps, .inl (cI, 100, .inl u17.2.2))]) (ob_V (As := [.int (41 : Int32)]) (rest := []) ⟨hx, hb, hml, hown, hts⟩ hK hcut (hI.cut hS hcut.2.2) hN (va_recv hK hP (ci := 1) (q0 := 0) rfl rfl) (k_X1_take l D cI cZ cL im _ _ _ _ _ _ _ _ _ _ _ _ _ _ _ _ _ _ _ hm) (cwV 1 hts (gU_V (inR8 _ (List.mem_of_getElem? (i := 21) rfl)) (inR8 _ (List.mem_of_getElem? (i := 22) rfl)) (inR8 _ (List.mem_of_getElem? (i := 23) rfl)) (inR5 _ (List.mem_of_getElem? (i := 8) rfl)) (inR9 _ (List.mem_of_getElem? (i := 0) rfl))) rfl rfl rfl (by decide +kernel) ⟨(by show 1 + 1 ≤ d + 1 + 20; omega), (by show 8 + (2 + 11) + 21 ≤ 60 * (d + 1) + 400; omega)⟩) rfl hl.1 rfl (Nat.le_of_ble_eq_true rfl) (dX1_readFactor 37 rfl) ⟨Nat.zero_le _, Nat.zero_le _⟩) hP hD hS hcut [0, 2, 3] [1] rfl rfl (by decide) (by decide) (fun r22 u23 H locs hm hP hD hS => ?_)
      have hP := hP.sub (ws' := [(h, .inr (1, [.ref htape, .ref q_steps, .ref q_words, .ref q_numbers, .ref q_starts, .ref q_ends, .int u23, .int u17.2.1, .int f_clauses, .int f_gap, .int f_far])), (q_steps, .inl (cI, 100, .inl u17.2.2)), (htape, .inr (7, [.ref qtape_items, .int ftape_size, .int ftape_came])), (qtape_items, .inl (cI, 100, .inl rtape_items))]) [1, 0, 2, 3] rfl
      have hD := hD.sub (ws' := [(h, .inr (1, [.ref htape, .ref q_steps, .ref q_words, .ref q_numbers, .ref q_starts, .ref q_ends, .int u23, .int u17.2.1, .int f_clauses, .int f_gap, .int f_far])), (q_steps, .inl (cI, 100, .inl u17.2.2)), (htape, .inr (7, [.ref qtape_items, .int ftape_size, .int ftape_came])), (qtape_items, .inl (cI, 100, .inl rtape_items))]) [1, 0, 2, 3] (by decide) rfl
      refine lv_if_eq (tgt := 75) hx hb (dX1_readFactor 38 rfl) (by decide) (fun c25 => ?_) (fun c25 => ?_)
      · replace hm := hm.1 c25
        refine lv_iconst (v := (0 : Int32)) hx hb (dX1_readFactor 41 rfl) (by decide) ?_
        exact hZ (0 : Int32) (u23, u17.2.1, u17.2.2) H locs ls 76 hm hP hD hS (dX1_readFactor 42 rfl) rfl
      replace hm := hm.2 c25
      refine lv_iconst (v := (1 : Int32)) hx hb (dX1_readFactor 39 rfl) (by decide) ?_
      refine lv_goto (tgt := 76) hx hb (dX1_readFactor 40 rfl) (by decide) ?_
      exact hZ (1 : Int32) (u23, u17.2.1, u17.2.2) H locs ls 76 hm hP hD hS (dX1_readFactor 42 rfl) rfl
    replace hm := hm.2 c4
    refine lv_iconst (v := (0 : Int32)) hx hb (dX1_readFactor 18 rfl) (by decide) ?_
    exact hZ (0 : Int32) (f_place_29, f_stepCount_29, r_steps_29) H locs ls 35 hm hP hD hS (dX1_readFactor 19 rfl) rfl
  obtain ⟨H, hH⟩ : ∃ H, H = s.heap := ⟨_, rfl⟩
  obtain ⟨locs, hlo⟩ : ∃ q : List Loc, q = [] := ⟨_, rfl⟩
  suffices hgo : W p l e (rmR_A (d + 1)) s m args below meth c H locs 0 0 Z (F0 m 0 ls []) by rw [hH, hlo] at hgo; exact hgo
  have hP : va_P D vwCl [(h, .inr (1, [.ref htape, .ref q_steps, .ref q_words, .ref q_numbers, .ref q_starts, .ref q_ends, .int f_place, .int f_stepCount, .int f_clauses, .int f_gap, .int f_far])), (q_steps, .inl (cI, 100, .inl r_steps)), (htape, .inr (7, [.ref qtape_items, .int ftape_size, .int ftape_came])), (qtape_items, .inl (cI, 100, .inl rtape_items))] H := by rw [hH]; exact hP
  have hD : va_D A [(h, .inr (1, [.ref htape, .ref q_steps, .ref q_words, .ref q_numbers, .ref q_starts, .ref q_ends, .int f_place, .int f_stepCount, .int f_clauses, .int f_gap, .int f_far])), (q_steps, .inl (cI, 100, .inl r_steps)), (htape, .inr (7, [.ref qtape_items, .int ftape_size, .int ftape_came])), (qtape_items, .inl (cI, 100, .inl rtape_items))] := hD
  have hS : va_S A s.heap H locs := by rw [hH, hlo]; exact hS
  refine lv_aload_n hx hb (dX1_readFactor 0 rfl) rfl (lv_at hl 0 rfl) ?_
  refine va_get (D := D) (ci := 1) (v := .ref htape) (C := RX1) (T := TX1) (N := 11) hx hb hts inlX1 hown hK hP 0 rfl rfl 0 (by decide) (hts (.fieldLink RX1 9 "OverBacks$Field" "tape" "LOverBacks$Numbers;") (inR5 _ (List.mem_of_getElem? (i := 13) rfl))) (fun _ h9 => h9) rfl (dX1_readFactor 1 rfl) ?_
  refine lv_aload_n hx hb (dX1_readFactor 2 rfl) rfl (lv_at hl 0 rfl) ?_
  refine va_get (D := D) (ci := 1) (v := .int f_place) (C := RX1) (T := TX1) (N := 11) hx hb hts inlX1 hown hK hP 0 rfl rfl 6 (by decide) (hts (.fieldLink RX1 42 "OverBacks$Field" "place" "I") (inR6 _ (List.mem_of_getElem? (i := 1) rfl))) (fun _ h9 => h9) rfl (dX1_readFactor 3 rfl) ?_
  have hcut := ob_cut (wc := [(htape, .inr (7, [.ref qtape_items, .int ftape_size, .int ftape_came])), (qtape_items, .inl (cI, 100, .inl rtape_items))]) hP hD hS hA [2, 3] rfl (by decide)
  refine ob_i (wr := [(h, .inr (1, [.ref htape, .ref q_steps, .ref q_words, .ref q_numbers, .ref q_starts, .ref q_ends, .int f_place, .int f_stepCount, .int f_clauses, .int f_gap, .int f_far])), (q_steps, .inl (cI, 100, .inl r_steps))]) (ob_V (As := [.int f_place]) (rest := []) ⟨hx, hb, hml, hown, hts⟩ hK hcut (hI.cut hS hcut.2.2) hN (va_recv hK hP (ci := 7) (q0 := 2) rfl rfl) (k_X7_at l D cI cZ cL im _ _ _ _ _ _ _ _ _ hm) (cwV 1 hts (gU_V (inR6 _ (List.mem_of_getElem? (i := 12) rfl)) (inR6 _ (List.mem_of_getElem? (i := 13) rfl)) (inR6 _ (List.mem_of_getElem? (i := 14) rfl)) (inR1 _ (List.mem_of_getElem? (i := 23) rfl)) (inR6 _ (List.mem_of_getElem? (i := 15) rfl))) rfl rfl rfl (by decide +kernel) ⟨(by show 0 + 1 ≤ d + 1 + 20; omega), (by show 8 + (2 + 11) + 0 ≤ 60 * (d + 1) + 400; omega)⟩) rfl hl.1 rfl (Nat.le_of_ble_eq_true rfl) (dX1_readFactor 4 rfl) ⟨Nat.zero_le _, Nat.zero_le _⟩) hP hD hS hcut [2, 3] [0, 1] rfl rfl (by decide) (by decide) (fun r1 u2 H locs hm hP hD hS => ?_)
  have hP := hP.sub (ws' := [(h, .inr (1, [.ref htape, .ref q_steps, .ref q_words, .ref q_numbers, .ref q_starts, .ref q_ends, .int f_place, .int f_stepCount, .int f_clauses, .int f_gap, .int f_far])), (q_steps, .inl (cI, 100, .inl r_steps)), (htape, .inr (7, [.ref qtape_items, .int ftape_size, .int ftape_came])), (qtape_items, .inl (cI, 100, .inl rtape_items))]) [0, 1, 2, 3] rfl
  have hD := hD.sub (ws' := [(h, .inr (1, [.ref htape, .ref q_steps, .ref q_words, .ref q_numbers, .ref q_starts, .ref q_ends, .int f_place, .int f_stepCount, .int f_clauses, .int f_gap, .int f_far])), (q_steps, .inl (cI, 100, .inl r_steps)), (htape, .inr (7, [.ref qtape_items, .int ftape_size, .int ftape_came])), (qtape_items, .inl (cI, 100, .inl rtape_items))]) [0, 1, 2, 3] (by decide) rfl
  refine lv_istore_n (lv' := [(2, .int r1), (0, .ref h), (1, .int a1)]) hx hb (dX1_readFactor 5 rfl) rfl hl (by decide) rfl (fun ls hl => ?_)
  refine lv_iload_n hx hb (dX1_readFactor 6 rfl) rfl (lv_at hl 0 rfl) ?_
  refine lv_bipush (v := (33 : Int32)) hx hb (dX1_readFactor 7 rfl) (by decide) ?_
  refine lv_icmp_eq (tgt := 29) hx hb (dX1_readFactor 8 rfl) (by decide) (fun c3 => ?_) (fun c3 => ?_)
  · replace hm := hm.1 c3
    exact lab29 f_place f_stepCount r_steps r1 H locs ls hP hD hS (lv_sub hl [1, 2, 0] rfl) hm
  replace hm := hm.2 c3
  refine lv_iload_n hx hb (dX1_readFactor 9 rfl) rfl (lv_at hl 0 rfl) ?_
  refine lv_bipush (v := (40 : Int32)) hx hb (dX1_readFactor 10 rfl) (by decide) ?_
  refine lv_icmp_eq (tgt := 29) hx hb (dX1_readFactor 11 rfl) (by decide) (fun c26 => ?_) (fun c26 => ?_)
  · replace hm := hm.1 c26
    exact lab29 f_place f_stepCount r_steps r1 H locs ls hP hD hS (lv_sub hl [1, 2, 0] rfl) hm
  replace hm := hm.2 c26
  refine lv_aload_n hx hb (dX1_readFactor 12 rfl) rfl (lv_at hl 1 rfl) ?_
  have hcut := ob_cut (wc := [(h, .inr (1, [.ref htape, .ref q_steps, .ref q_words, .ref q_numbers, .ref q_starts, .ref q_ends, .int f_place, .int f_stepCount, .int f_clauses, .int f_gap, .int f_far])), (q_steps, .inl (cI, 100, .inl r_steps)), (htape, .inr (7, [.ref qtape_items, .int ftape_size, .int ftape_came])), (qtape_items, .inl (cI, 100, .inl rtape_items))]) hP hD hS hA [0, 1, 2, 3] rfl (by decide)
  refine ob_i (wr := []) (ob_V (As := []) (rest := []) ⟨hx, hb, hml, hown, hts⟩ hK hcut (hI.cut hS hcut.2.2) hN (va_recv hK hP (ci := 1) (q0 := 0) rfl rfl) (k_X1_readTest l D cI cZ cL im _ _ _ _ _ _ _ _ _ _ _ _ _ _ _ _ _ _ _ hm) (cwV 0 hts (gU_V (inR9 _ (List.mem_of_getElem? (i := 20) rfl)) (inR9 _ (List.mem_of_getElem? (i := 21) rfl)) (inR9 _ (List.mem_of_getElem? (i := 22) rfl)) (inR5 _ (List.mem_of_getElem? (i := 8) rfl)) (inR9 _ (List.mem_of_getElem? (i := 23) rfl))) rfl rfl rfl (by decide +kernel) ⟨(by show 2 + 1 ≤ d + 1 + 20; omega), (by show 8 + (4 + 11) + 43 ≤ 60 * (d + 1) + 400; omega)⟩) rfl hl.1 rfl (Nat.le_of_ble_eq_true rfl) (dX1_readFactor 13 rfl) ⟨Nat.zero_le _, Nat.zero_le _⟩) hP hD hS hcut [0, 1, 2, 3] [] rfl rfl (by decide) (by decide) (fun r27 u28 H locs hm hP hD hS => ?_)
  have hP := hP.sub (ws' := [(h, .inr (1, [.ref htape, .ref q_steps, .ref q_words, .ref q_numbers, .ref q_starts, .ref q_ends, .int u28.1, .int u28.2.1, .int f_clauses, .int f_gap, .int f_far])), (q_steps, .inl (cI, 100, .inl u28.2.2)), (htape, .inr (7, [.ref qtape_items, .int ftape_size, .int ftape_came])), (qtape_items, .inl (cI, 100, .inl rtape_items))]) [0, 1, 2, 3] rfl
  have hD := hD.sub (ws' := [(h, .inr (1, [.ref htape, .ref q_steps, .ref q_words, .ref q_numbers, .ref q_starts, .ref q_ends, .int u28.1, .int u28.2.1, .int f_clauses, .int f_gap, .int f_far])), (q_steps, .inl (cI, 100, .inl u28.2.2)), (htape, .inr (7, [.ref qtape_items, .int ftape_size, .int ftape_came])), (qtape_items, .inl (cI, 100, .inl rtape_items))]) [0, 1, 2, 3] (by decide) rfl
  exact hZ r27 (u28.1, u28.2.1, u28.2.2) H locs ls 28 hm.2 hP hD hS (dX1_readFactor 14 rfl) hm.1
theorem kR_A (l : Launch) (D : va_G) (cI cZ cL : ClassId) (im : obIM) : ∀ d : Nat, CR_X1_readEither l D cI cZ cL im (mR_A d).1 d ∧ CR_X1_readFactor l D cI cZ cL im (mR_A d).2 d := by
  intro d
  induction d with
  | zero => exact ⟨(fun _ _ _ _ _ _ _ _ _ _ _ _ _ _ _ _ _ _ _ _ hm => hm.elim), (fun _ _ _ _ _ _ _ _ _ _ _ _ _ _ _ _ _ _ _ _ hm => hm.elim)⟩
  | succ d ih => exact ⟨st_X1_readEither l D cI cZ cL im _ _ d ih.1 ih.2, st_X1_readFactor l D cI cZ cL im _ _ d ih.1 ih.2⟩
theorem k_X1_readEither (l : Launch) (D : va_G) (cI cZ cL : ClassId) (im : obIM) : CR_X1_readEither l D cI cZ cL im m_X1_readEither 16 := (kR_A l D cI cZ cL im 16).1
theorem k_X1_readFactor (l : Launch) (D : va_G) (cI cZ cL : ClassId) (im : obIM) : CR_X1_readFactor l D cI cZ cL im m_X1_readFactor 16 := (kR_A l D cI cZ cL im 16).2


abbrev rmX1_sum : Room := { frames := 2, cells := 0, slots := 0, locals := 49 }
set_option maxHeartbeats 4000000 in
set_option maxRecDepth 100000 in
theorem k_X1_sum (l : Launch) (D : va_G) (cI cZ cL : ClassId) (im : obIM) (fk : Nat → Option ((Nat → Int32) × (Nat → Int32) × (Nat → Int32) × (Nat → Int32) × (Nat → Int32) × Int32)) (hfk : obFK cI im fk) (sz : Nat) (h : Nat) (h2 : Nat) (n2 : Nat) (r2 : Nat → Int32) (a1 : Int32) (Q : Int32 → Prop) (hm : m_X1_sum fk n2 r2 h a1 Q) : Met l yX1_sum (Cond.code yX1_sum cX1_sum 5 (some .int) :: wsL_law) rmX1_sum (obPre D (tyG cI cZ cL) im [(h2, .inl (cI, n2, .inl r2))] sz [.ref h, .int a1, .ref h2]) (va_Qi (fun (r : Int32) (u : Unit) => Q r) (obB D (va_A [(h2, .inl (cI, n2, .inl r2))] sz) (fun _ : Unit => [(h2, .inl (cI, n2, .inl r2))])) (va_A [(h2, .inl (cI, n2, .inl r2))] sz)) 0 0 (va_A [(h2, .inl (cI, n2, .inl r2))] sz) := by
  refine ob_met_i (cc := cX1_sum) (maxL := 5) (by decide) (Nat.le_of_ble_eq_true rfl) (fun p e s m args below meth c A Z hx hb hml hown hts hnm hN hK hA hI hP hD hS hZ ls hl => ?_)
  have hl : lv_has ls 5 [(0, .ref h), (1, .int a1), (2, .ref h2)] := hl
  unfold m_X1_sum at hm
  obtain ⟨fst, fwo, fnu, fsa, fen, fcl, efk, hm⟩ := hm
  obtain ⟨g0, g1, g2, g3, g4, g5, gpl, gsc, gga, gfa, gk0, gk1, gk2, gk3, gk4, gk5, hg0, hg1, hg2, hg3, hg4, hg5⟩ := hfk _ _ _ _ _ _ _ efk
  have lab5 : ∀ (n5 : Nat) (v3_5 : Int32) (v4_5 : Int32) , ∀ (H : Heap) (locs : List Loc) (ls : Array Slot), va_P D vwCl [(h2, .inl (cI, n2, .inl r2))] H → va_D A [(h2, .inl (cI, n2, .inl r2))] → va_S A s.heap H locs → lv_has ls 5 [(0, .ref h), (1, .int a1), (2, .ref h2), (3, .int v3_5), (4, .int v4_5)] → m_X1_sum_L5 n2 fk r2 fst fwo fnu fsa fen fcl h a1 Q n5 v3_5 v4_5 → W p l e rmX1_sum s m args below meth c H locs 0 0 Z (F0 m 5 ls []) := by
    clear hm
    intro n5
    induction n5 with
    | zero =>
      intro v3_5 v4_5 H locs ls hP hD hS hl hm
      exact hm.elim
    | succ n5 ih5 =>
      intro v3_5 v4_5 H locs ls hP hD hS hl hm
      unfold m_X1_sum_L5 at hm
      obtain ⟨K5, hK5⟩ : ∃ K : Int32 → Int32 → Prop, K = m_X1_sum_L5 n2 fk r2 fst fwo fnu fsa fen fcl h a1 Q n5 := ⟨_, rfl⟩
      rw [← hK5] at hm ih5
      have lab57 : ∀ (v3_57 : Int32) (v4_57 : Int32) , ∀ (H : Heap) (locs : List Loc) (ls : Array Slot), va_P D vwCl [(h2, .inl (cI, n2, .inl r2))] H → va_D A [(h2, .inl (cI, n2, .inl r2))] → va_S A s.heap H locs → lv_has ls 5 [(0, .ref h), (1, .int a1), (2, .ref h2), (3, .int v3_57), (4, .int v4_57)] → m_X1_sum_L57 n2 fk r2 fst fwo fnu fsa fen fcl h a1 v3_57 v4_57 K5 Q → W p l e rmX1_sum s m args below meth c H locs 0 0 Z (F0 m 57 ls []) := by
        clear hm
        intro v3_57 v4_57 H locs ls hP hD hS hl hm
        unfold m_X1_sum_L57 at hm
        obtain ⟨x5, ex5⟩ : ∃ y : Int32, y = v4_57 + 1 := ⟨_, rfl⟩
        replace hm := hm x5 ex5
        refine lv_iinc (v := x5) (lv' := [(4, .int x5), (0, .ref h), (1, .int a1), (2, .ref h2), (3, .int v3_57)]) hx hb (dX1_sum 33 rfl) hl (k := 4) rfl (by rw [ex5]; rfl) (by decide) rfl (fun ls hl => ?_)
        refine lv_goto (tgt := 5) hx hb (dX1_sum 34 rfl) (by decide) ?_
        exact ih5 v3_57 x5 H locs ls hP hD hS (lv_sub hl [1, 2, 3, 4, 0] rfl) hm
      refine lv_iload hx hb (dX1_sum 4 rfl) (lv_at hl 4 rfl) ?_
      refine lv_aload_n hx hb (dX1_sum 5 rfl) rfl (lv_at hl 0 rfl) ?_
      refine va_get (D := D) (ci := 1) (v := .int fcl) (C := RX1) (T := TX1) (N := 11) hx hb hts inlX1 hown hK (hI.now hS) gk0 hg0 rfl 8 (by decide) (hts (.fieldLink RX1 67 "OverBacks$Field" "clauses" "I") (inR6 _ (List.mem_of_getElem? (i := 7) rfl))) (fun _ h9 => h9) rfl (dX1_sum 6 rfl) ?_
      refine lv_icmp_ge (tgt := 63) hx hb (dX1_sum 7 rfl) (by decide) (fun c3 => ?_) (fun c3 => ?_)
      · replace hm := hm.1 c3
        refine lv_iload_n hx hb (dX1_sum 35 rfl) rfl (lv_at hl 3 rfl) ?_
        exact hZ v3_5 () H locs ls 64 hm hP hD hS (dX1_sum 36 rfl) rfl
      replace hm := hm.2 c3
      refine lv_aload_n hx hb (dX1_sum 8 rfl) rfl (lv_at hl 0 rfl) ?_
      refine va_get (D := D) (ci := 1) (v := .ref g2) (C := RX1) (T := TX1) (N := 11) hx hb hts inlX1 hown hK (hI.now hS) gk0 hg0 rfl 2 (by decide) (hts (.fieldLink RX1 19 "OverBacks$Field" "words" "[I") (inR5 _ (List.mem_of_getElem? (i := 15) rfl))) (fun _ h9 => h9) rfl (dX1_sum 9 rfl) ?_
      refine lv_iload hx hb (dX1_sum 10 rfl) (lv_at hl 4 rfl) ?_
      refine va_iald hx hb hK (hI.now hS) gk2 0 hg2 rfl hm.1 (dX1_sum 11 rfl) ?_
      replace hm := hm.2
      refine lv_iload_n hx hb (dX1_sum 12 rfl) rfl (lv_at hl 1 rfl) ?_
      refine lv_icmp_ne (tgt := 57) hx hb (dX1_sum 13 rfl) (by decide) (fun c4 => ?_) (fun c4 => ?_)
      · replace hm := hm.2 c4
        exact lab57 v3_5 v4_5 H locs ls hP hD hS (lv_sub hl [0, 1, 2, 3, 4] rfl) hm
      replace hm := hm.1 c4
      refine lv_aload_n hx hb (dX1_sum 14 rfl) rfl (lv_at hl 0 rfl) ?_
      refine lv_aload_n hx hb (dX1_sum 15 rfl) rfl (lv_at hl 0 rfl) ?_
      refine va_get (D := D) (ci := 1) (v := .ref g4) (C := RX1) (T := TX1) (N := 11) hx hb hts inlX1 hown hK (hI.now hS) gk0 hg0 rfl 4 (by decide) (hts (.fieldLink RX1 25 "OverBacks$Field" "starts" "[I") (inR5 _ (List.mem_of_getElem? (i := 17) rfl))) (fun _ h9 => h9) rfl (dX1_sum 16 rfl) ?_
      refine lv_iload hx hb (dX1_sum 17 rfl) (lv_at hl 4 rfl) ?_
      refine va_iald hx hb hK (hI.now hS) gk4 0 hg4 rfl hm.1 (dX1_sum 18 rfl) ?_
      replace hm := hm.2
      refine lv_aload_n hx hb (dX1_sum 19 rfl) rfl (lv_at hl 0 rfl) ?_
      refine va_get (D := D) (ci := 1) (v := .ref g5) (C := RX1) (T := TX1) (N := 11) hx hb hts inlX1 hown hK (hI.now hS) gk0 hg0 rfl 5 (by decide) (hts (.fieldLink RX1 28 "OverBacks$Field" "ends" "[I") (inR5 _ (List.mem_of_getElem? (i := 18) rfl))) (fun _ h9 => h9) rfl (dX1_sum 20 rfl) ?_
      refine lv_iload hx hb (dX1_sum 21 rfl) (lv_at hl 4 rfl) ?_
      refine va_iald hx hb hK (hI.now hS) gk5 0 hg5 rfl hm.1 (dX1_sum 22 rfl) ?_
      replace hm := hm.2
      refine lv_aload_n hx hb (dX1_sum 23 rfl) rfl (lv_at hl 2 rfl) ?_
      have hcut := ob_cut (wc := [(h2, .inl (cI, n2, .inl r2))]) hP hD hS hA [0] rfl (by decide)
      refine ob_i (wr := []) (ob_V (As := [.int (fsa v4_5.toNatClampNeg), .int (fen v4_5.toNatClampNeg), .ref h2]) (rest := []) ⟨hx, hb, hml, hown, hts⟩ hK hcut (hI.cut hS hcut.2.2) hN (va_recv hK (hI.now hS) (ci := 1) (q0 := gk0) rfl hg0) (k_X1_holds l D cI cZ cL im fk hfk _ _ _ _ _ _ _ _ hm) (cwV 3 hts (gU_V (inR23 _ (List.mem_of_getElem? (i := 13) rfl)) (inR23 _ (List.mem_of_getElem? (i := 14) rfl)) (inR23 _ (List.mem_of_getElem? (i := 15) rfl)) (inR5 _ (List.mem_of_getElem? (i := 8) rfl)) (inR23 _ (List.mem_of_getElem? (i := 16) rfl))) rfl rfl rfl (by decide +kernel) ⟨Nat.le_of_ble_eq_true rfl, Nat.le_of_ble_eq_true rfl⟩) rfl hl.1 rfl (Nat.le_of_ble_eq_true rfl) (dX1_sum 24 rfl) ⟨Nat.zero_le _, Nat.zero_le _⟩) hP hD hS hcut [0] [] rfl rfl (by decide) (by decide) (fun r6 u7 H locs hm hP hD hS => ?_)
      have hP := hP.sub (ws' := [(h2, .inl (cI, n2, .inl r2))]) [0] rfl
      have hD := hD.sub (ws' := [(h2, .inl (cI, n2, .inl r2))]) [0] (by decide) rfl
      refine lv_if_eq (tgt := 57) hx hb (dX1_sum 25 rfl) (by decide) (fun c8 => ?_) (fun c8 => ?_)
      · replace hm := hm.1 c8
        exact lab57 v3_5 v4_5 H locs ls hP hD hS (lv_sub hl [0, 1, 2, 3, 4] rfl) hm
      replace hm := hm.2 c8
      refine lv_iload_n hx hb (dX1_sum 26 rfl) rfl (lv_at hl 3 rfl) ?_
      refine lv_aload_n hx hb (dX1_sum 27 rfl) rfl (lv_at hl 0 rfl) ?_
      refine va_get (D := D) (ci := 1) (v := .ref g3) (C := RX1) (T := TX1) (N := 11) hx hb hts inlX1 hown hK (hI.now hS) gk0 hg0 rfl 3 (by decide) (hts (.fieldLink RX1 22 "OverBacks$Field" "numbers" "[I") (inR5 _ (List.mem_of_getElem? (i := 16) rfl))) (fun _ h9 => h9) rfl (dX1_sum 28 rfl) ?_
      refine lv_iload hx hb (dX1_sum 29 rfl) (lv_at hl 4 rfl) ?_
      refine va_iald hx hb hK (hI.now hS) gk3 0 hg3 rfl hm.1 (dX1_sum 30 rfl) ?_
      replace hm := hm.2
      refine lv_iadd hx hb (dX1_sum 31 rfl) ?_
      refine lv_topi (fun x9 ex9 => ?_)
      replace hm := hm x9 ex9
      refine lv_istore_n (lv' := [(3, .int x9), (0, .ref h), (1, .int a1), (2, .ref h2), (4, .int v4_5)]) hx hb (dX1_sum 32 rfl) rfl hl (by decide) rfl (fun ls hl => ?_)
      exact lab57 x9 v4_5 H locs ls hP hD hS (lv_sub hl [1, 2, 3, 0, 4] rfl) hm
  obtain ⟨H, hH⟩ : ∃ H, H = s.heap := ⟨_, rfl⟩
  obtain ⟨locs, hlo⟩ : ∃ q : List Loc, q = [] := ⟨_, rfl⟩
  suffices hgo : W p l e rmX1_sum s m args below meth c H locs 0 0 Z (F0 m 0 ls []) by rw [hH, hlo] at hgo; exact hgo
  have hP : va_P D vwCl [(h2, .inl (cI, n2, .inl r2))] H := by rw [hH]; exact hP
  have hD : va_D A [(h2, .inl (cI, n2, .inl r2))] := hD
  have hS : va_S A s.heap H locs := by rw [hH, hlo]; exact hS
  refine lv_iconst (v := (0 : Int32)) hx hb (dX1_sum 0 rfl) (by decide) ?_
  refine lv_topi (fun x1 ex1 => ?_)
  replace hm := hm x1 ex1
  refine lv_istore_n (lv' := [(3, .int x1), (0, .ref h), (1, .int a1), (2, .ref h2)]) hx hb (dX1_sum 1 rfl) rfl hl (by decide) rfl (fun ls hl => ?_)
  refine lv_iconst (v := (0 : Int32)) hx hb (dX1_sum 2 rfl) (by decide) ?_
  refine lv_topi (fun x2 ex2 => ?_)
  replace hm := hm x2 ex2
  refine lv_istore (lv' := [(4, .int x2), (3, .int x1), (0, .ref h), (1, .int a1), (2, .ref h2)]) hx hb (dX1_sum 3 rfl) hl (by decide) rfl (fun ls hl => ?_)
  obtain ⟨n10, hm⟩ := hm
  exact lab5 n10 x1 x2 H locs ls hP hD hS (lv_sub hl [2, 3, 4, 1, 0] rfl) hm
abbrev rmX2_isUnder : Room := { frames := 2, cells := 0, slots := 0, locals := 42 }
set_option maxHeartbeats 4000000 in
set_option maxRecDepth 100000 in
theorem k_X2_isUnder (l : Launch) (D : va_G) (cI cZ cL : ClassId) (im : obIM) (lk : Nat → Option (Nat × Int32 × Int32 × Int32)) (hlk : obLK im lk) (sz : Nat) (h : Nat) (a1 : Int32) (Q : Int32 → Prop) (hm : m_X2_isUnder lk h a1 Q) : Met l yX2_isUnder (Cond.code yX2_isUnder cX2_isUnder 2 (some .boolean) :: wsL_law) rmX2_isUnder (obPre D (tyG cI cZ cL) im [] sz [.ref h, .int a1]) (va_Qi (fun (r : Int32) (u : Unit) => Q r) (obB D (va_A [] sz) (fun _ : Unit => [])) (va_A [] sz)) 0 0 (va_A [] sz) := by
  refine ob_met_i (cc := cX2_isUnder) (maxL := 2) (by decide) (Nat.le_of_ble_eq_true rfl) (fun p e s m args below meth c A Z hx hb hml hown hts hnm hN hK hA hI hP hD hS hZ ls hl => ?_)
  have hl : lv_has ls 2 [(0, .ref h), (1, .int a1)] := hl
  unfold m_X2_isUnder at hm
  obtain ⟨H, hH⟩ : ∃ H, H = s.heap := ⟨_, rfl⟩
  obtain ⟨locs, hlo⟩ : ∃ q : List Loc, q = [] := ⟨_, rfl⟩
  suffices hgo : W p l e rmX2_isUnder s m args below meth c H locs 0 0 Z (F0 m 0 ls []) by rw [hH, hlo] at hgo; exact hgo
  have hP : va_P D vwCl [] H := by rw [hH]; exact hP
  have hD : va_D A [] := hD
  have hS : va_S A s.heap H locs := by rw [hH, hlo]; exact hS
  refine lv_iload_n hx hb (dX2_isUnder 0 rfl) rfl (lv_at hl 1 rfl) ?_
  refine lv_iconst (v := (5 : Int32)) hx hb (dX2_isUnder 1 rfl) (by decide) ?_
  refine lv_icmp_eq (tgt := 13) hx hb (dX2_isUnder 2 rfl) (by decide) (fun c1 => ?_) (fun c1 => ?_)
  · replace hm := hm.1 c1
    refine lv_iconst (v := (1 : Int32)) hx hb (dX2_isUnder 7 rfl) (by decide) ?_
    refine lv_goto (tgt := 18) hx hb (dX2_isUnder 8 rfl) (by decide) ?_
    exact hZ (1 : Int32) () H locs ls 18 hm hP hD hS (dX2_isUnder 10 rfl) rfl
  replace hm := hm.2 c1
  refine lv_aload_n hx hb (dX2_isUnder 3 rfl) rfl (lv_at hl 0 rfl) ?_
  refine lv_iload_n hx hb (dX2_isUnder 4 rfl) rfl (lv_at hl 1 rfl) ?_
  obtain ⟨d4, n4, v4, t4, e4, hm⟩ := hm
  obtain ⟨hc4, k4, hk4⟩ := hlk _ _ _ _ _ e4
  obtain ⟨w4, hw4⟩ := obK_cl hc4
  have hcut := ob_cut (wc := []) hP hD hS hA [] rfl (by decide)
  refine ob_i (wr := []) (ob_SU (n := 1) (x := (⟨"OverBacks$High", "isUnder", "(I)Z"⟩ : MethodName)) (owner := "OverBacks$High") (C := w4.1) (As := [.int a1]) (rest := []) (hK.1 d4 w4 hw4).2 ⟨hx, hb, hml, hown, hts⟩ hK hcut (hI.cut hS hcut.2.2) hN (va_recv hK (hI.now hS) hw4 hk4) (k_X3_isUnder l D cI cZ cL im lk hlk _ _ _ _ hm) (inR41 _ (List.mem_of_getElem? (i := 17) rfl)) (inR41 _ (List.mem_of_getElem? (i := 18) rfl)) (inR41 _ (List.mem_of_getElem? (i := 19) rfl)) (inR41 _ (List.mem_of_getElem? (i := 20) rfl)) (inR13 _ (List.mem_of_getElem? (i := 20) rfl)) (inR41 _ (List.mem_of_getElem? (i := 21) rfl)) (Or.inl rfl) (by decide +kernel) rfl rfl ⟨Nat.le_of_ble_eq_true rfl, Nat.le_of_ble_eq_true rfl⟩ rfl hl.1 rfl (Nat.le_of_ble_eq_true rfl) (dX2_isUnder 5 rfl) ⟨Nat.zero_le _, Nat.zero_le _⟩) hP hD hS hcut [] [] rfl rfl (by decide) (by decide) (fun r2 u3 H locs hm hP hD hS => ?_)
  have hP := hP.sub (ws' := []) [] rfl
  have hD := hD.sub (ws' := []) [] (by decide) rfl
  refine lv_if_eq (tgt := 17) hx hb (dX2_isUnder 6 rfl) (by decide) (fun c5 => ?_) (fun c5 => ?_)
  · replace hm := hm.1 c5
    refine lv_iconst (v := (0 : Int32)) hx hb (dX2_isUnder 9 rfl) (by decide) ?_
    exact hZ (0 : Int32) () H locs ls 18 hm hP hD hS (dX2_isUnder 10 rfl) rfl
  replace hm := hm.2 c5
  refine lv_iconst (v := (1 : Int32)) hx hb (dX2_isUnder 7 rfl) (by decide) ?_
  refine lv_goto (tgt := 18) hx hb (dX2_isUnder 8 rfl) (by decide) ?_
  exact hZ (1 : Int32) () H locs ls 18 hm hP hD hS (dX2_isUnder 10 rfl) rfl
abbrev rmX2_runs : Room := { frames := 2, cells := 0, slots := 0, locals := 43 }
set_option maxHeartbeats 4000000 in
set_option maxRecDepth 100000 in
theorem k_X2_runs (l : Launch) (D : va_G) (cI cZ cL : ClassId) (im : obIM) (lk : Nat → Option (Nat × Int32 × Int32 × Int32)) (hlk : obLK im lk) (sz : Nat) (h : Nat) (h2 : Nat) (q2_items : Nat) (f2_size : Int32) (f2_came : Int32) (n2_items : Nat) (r2_items : Nat → Int32) (a1 : Int32) (Q : Int32 → Int32 → Int32 → (Nat → Int32) → Prop) (hm : m_X2_runs lk n2_items f2_size f2_came r2_items h a1 Q) : Met l yX2_runs (Cond.code yX2_runs cX2_runs 3 (some .int) :: wsL_law) rmX2_runs (obPre D (tyG cI cZ cL) im [(h2, .inr (7, [.ref q2_items, .int f2_size, .int f2_came])), (q2_items, .inl (cI, n2_items, .inl r2_items))] sz [.ref h, .int a1, .ref h2]) (va_Qi (fun (r : Int32) (u : Int32 × Int32 × (Nat → Int32)) => Q r u.1 u.2.1 u.2.2) (obB D (va_A [(h2, .inr (7, [.ref q2_items, .int f2_size, .int f2_came])), (q2_items, .inl (cI, n2_items, .inl r2_items))] sz) (fun u : Int32 × Int32 × (Nat → Int32) => [(h2, .inr (7, [.ref q2_items, .int u.1, .int u.2.1])), (q2_items, .inl (cI, n2_items, .inl u.2.2))])) (va_A [(h2, .inr (7, [.ref q2_items, .int f2_size, .int f2_came])), (q2_items, .inl (cI, n2_items, .inl r2_items))] sz)) 0 0 (va_A [(h2, .inr (7, [.ref q2_items, .int f2_size, .int f2_came])), (q2_items, .inl (cI, n2_items, .inl r2_items))] sz) := by
  refine ob_met_i (cc := cX2_runs) (maxL := 3) (by decide) (Nat.le_of_ble_eq_true rfl) (fun p e s m args below meth c A Z hx hb hml hown hts hnm hN hK hA hI hP hD hS hZ ls hl => ?_)
  have hl : lv_has ls 3 [(0, .ref h), (1, .int a1), (2, .ref h2)] := hl
  unfold m_X2_runs at hm
  obtain ⟨H, hH⟩ : ∃ H, H = s.heap := ⟨_, rfl⟩
  obtain ⟨locs, hlo⟩ : ∃ q : List Loc, q = [] := ⟨_, rfl⟩
  suffices hgo : W p l e rmX2_runs s m args below meth c H locs 0 0 Z (F0 m 0 ls []) by rw [hH, hlo] at hgo; exact hgo
  have hP : va_P D vwCl [(h2, .inr (7, [.ref q2_items, .int f2_size, .int f2_came])), (q2_items, .inl (cI, n2_items, .inl r2_items))] H := by rw [hH]; exact hP
  have hD : va_D A [(h2, .inr (7, [.ref q2_items, .int f2_size, .int f2_came])), (q2_items, .inl (cI, n2_items, .inl r2_items))] := hD
  have hS : va_S A s.heap H locs := by rw [hH, hlo]; exact hS
  refine lv_aload_n hx hb (dX2_runs 0 rfl) rfl (lv_at hl 2 rfl) ?_
  refine lv_bipush (v := (51 : Int32)) hx hb (dX2_runs 1 rfl) (by decide) ?_
  have hcut := ob_cut (wc := [(h2, .inr (7, [.ref q2_items, .int f2_size, .int f2_came])), (q2_items, .inl (cI, n2_items, .inl r2_items))]) hP hD hS hA [0, 1] rfl (by decide)
  refine ob_i (wr := []) (ob_V (As := [.int (51 : Int32)]) (rest := []) ⟨hx, hb, hml, hown, hts⟩ hK hcut (hI.cut hS hcut.2.2) hN (va_recv hK hP (ci := 7) (q0 := 0) rfl rfl) (k_X7_add l D cI cZ cL im _ _ _ _ _ _ _ _ _ hm) (cwV 1 hts (gU_V (inR36 _ (List.mem_of_getElem? (i := 11) rfl)) (inR4 _ (List.mem_of_getElem? (i := 14) rfl)) (inR4 _ (List.mem_of_getElem? (i := 15) rfl)) (inR1 _ (List.mem_of_getElem? (i := 23) rfl)) (inR4 _ (List.mem_of_getElem? (i := 16) rfl))) rfl rfl rfl (by decide +kernel) ⟨Nat.le_of_ble_eq_true rfl, Nat.le_of_ble_eq_true rfl⟩) rfl hl.1 rfl (Nat.le_of_ble_eq_true rfl) (dX2_runs 2 rfl) ⟨Nat.zero_le _, Nat.zero_le _⟩) hP hD hS hcut [0, 1] [] rfl rfl (by decide) (by decide) (fun r1 u2 H locs hm hP hD hS => ?_)
  have hP := hP.sub (ws' := [(h2, .inr (7, [.ref q2_items, .int u2.1, .int u2.2.1])), (q2_items, .inl (cI, n2_items, .inl u2.2.2))]) [0, 1] rfl
  have hD := hD.sub (ws' := [(h2, .inr (7, [.ref q2_items, .int u2.1, .int u2.2.1])), (q2_items, .inl (cI, n2_items, .inl u2.2.2))]) [0, 1] (by decide) rfl
  refine lv_pop hx hb (dX2_runs 3 rfl) rfl ?_
  refine lv_aload_n hx hb (dX2_runs 4 rfl) rfl (lv_at hl 0 rfl) ?_
  refine lv_iload_n hx hb (dX2_runs 5 rfl) rfl (lv_at hl 1 rfl) ?_
  refine lv_aload_n hx hb (dX2_runs 6 rfl) rfl (lv_at hl 2 rfl) ?_
  obtain ⟨d11, n11, v11, t11, e11, hm⟩ := hm
  obtain ⟨hc11, k11, hk11⟩ := hlk _ _ _ _ _ e11
  obtain ⟨w11, hw11⟩ := obK_cl hc11
  have hcut := ob_cut (wc := [(h2, .inr (7, [.ref q2_items, .int u2.1, .int u2.2.1])), (q2_items, .inl (cI, n2_items, .inl u2.2.2))]) hP hD hS hA [0, 1] rfl (by decide)
  refine ob_i (wr := []) (ob_SU (n := 2) (x := (⟨"OverBacks$High", "runs", "(ILOverBacks$Numbers;)I"⟩ : MethodName)) (owner := "OverBacks$Leaper") (C := w11.1) (As := [.int a1, .ref h2]) (rest := []) (hK.1 d11 w11 hw11).2 ⟨hx, hb, hml, hown, hts⟩ hK hcut (hI.cut hS hcut.2.2) hN (va_recv hK (hI.now hS) hw11 hk11) (k_X4_runs l D cI cZ cL im lk hlk _ _ _ _ _ _ _ _ _ _ hm) (inR0 _ (List.mem_of_getElem? (i := 3) rfl)) (inR0 _ (List.mem_of_getElem? (i := 4) rfl)) (inR41 _ (List.mem_of_getElem? (i := 19) rfl)) (inR36 _ (List.mem_of_getElem? (i := 2) rfl)) (inR14 _ (List.mem_of_getElem? (i := 11) rfl)) (inR36 _ (List.mem_of_getElem? (i := 3) rfl)) (Or.inr (inR37 _ (List.mem_of_getElem? (i := 12) rfl))) (by decide +kernel) rfl rfl ⟨Nat.le_of_ble_eq_true rfl, Nat.le_of_ble_eq_true rfl⟩ rfl hl.1 rfl (Nat.le_of_ble_eq_true rfl) (dX2_runs 7 rfl) ⟨Nat.zero_le _, Nat.zero_le _⟩) hP hD hS hcut [0, 1] [] rfl rfl (by decide) (by decide) (fun r6 u7 H locs hm hP hD hS => ?_)
  have hP := hP.sub (ws' := [(h2, .inr (7, [.ref q2_items, .int u7.1, .int u7.2.1])), (q2_items, .inl (cI, n2_items, .inl u7.2.2))]) [0, 1] rfl
  have hD := hD.sub (ws' := [(h2, .inr (7, [.ref q2_items, .int u7.1, .int u7.2.1])), (q2_items, .inl (cI, n2_items, .inl u7.2.2))]) [0, 1] (by decide) rfl
  refine lv_aload_n hx hb (dX2_runs 8 rfl) rfl (lv_at hl 0 rfl) ?_
  obtain ⟨d12, n12, v12, t12, e12, hm⟩ := hm
  obtain ⟨hc12, k12, hk12⟩ := hlk _ _ _ _ _ e12
  refine ob_getL hx hb hts hown hK (hI.now hS) hc12 hk12 (j := 0) (by decide) rfl (hts (.fieldLink RX2 28 "OverBacks$Heavy" "number" "I") (inR36 _ (List.mem_of_getElem? (i := 9) rfl))) (u_same (hts (.sameField "OverBacks$Heavy" "OverBacks$Leaper" "number" "I") (inR36 _ (List.mem_of_getElem? (i := 10) rfl)))) (dX2_runs 9 rfl) ?_
  refine lv_ixor hx hb (dX2_runs 10 rfl) ?_
  exact hZ (r6 ^^^ n12) (u7.1, u7.2.1, u7.2.2) H locs ls 18 hm hP hD hS (dX2_runs 11 rfl) rfl
abbrev rmX5_leapTime : Room := { frames := 3, cells := 0, slots := 0, locals := 73 }
set_option maxHeartbeats 4000000 in
set_option maxRecDepth 100000 in
theorem k_X5_leapTime (l : Launch) (D : va_G) (cI cZ cL : ClassId) (im : obIM) (lk : Nat → Option (Nat × Int32 × Int32 × Int32)) (fk : Nat → Option ((Nat → Int32) × (Nat → Int32) × (Nat → Int32) × (Nat → Int32) × (Nat → Int32) × Int32)) (hlk : obLK im lk) (hfk : obFK cI im fk) (sz : Nat) (h : Nat) (q_people : Nat) (q_places : Nat) (q_breath : Nat) (q_rows : Nat) (q_seen : Nat) (q_ends : Nat) (f_field : Option Nat) (f_size : Int32) (f_turn : Int32) (f_yards : Int32) (f_time : Int32) (f_gap : Int32) (f_far : Int32) (f_flat : Int32) (r_people : Nat → Option Nat) (r_breath : Nat → Int32) (r_rows : Nat → Int32) (r_seen : Nat → Int32) (a1 : Int32) (a2 : Int32) (Q : Int32 → (Nat → Int32) → Prop) (hm : m_X5_leapTime lk fk f_field f_turn f_gap f_flat r_people r_breath r_rows r_seen a1 a2 Q) : Met l yX5_leapTime (Cond.code yX5_leapTime cX5_leapTime 6 (some .int) :: wsL_law) rmX5_leapTime (obPre D (tyG cI cZ cL) im [(h, .inr (5, [.ref q_people, .ref q_places, .ref q_breath, .ref q_rows, .ref q_seen, .ref q_ends, va_rf f_field, .int f_size, .int f_turn, .int f_yards, .int f_time, .int f_gap, .int f_far, .int f_flat])), (q_people, .inl (cL, 7, .inr (.inr (.inr (.inr r_people))))), (q_breath, .inl (cI, 7, .inl r_breath)), (q_rows, .inl (cI, 21, .inl r_rows)), (q_seen, .inl (cI, 5, .inl r_seen))] sz [.ref h, .int a1, .int a2]) (va_Qi (fun (r : Int32) (u : (Nat → Int32)) => Q r u) (obB D (va_A [(h, .inr (5, [.ref q_people, .ref q_places, .ref q_breath, .ref q_rows, .ref q_seen, .ref q_ends, va_rf f_field, .int f_size, .int f_turn, .int f_yards, .int f_time, .int f_gap, .int f_far, .int f_flat])), (q_people, .inl (cL, 7, .inr (.inr (.inr (.inr r_people))))), (q_breath, .inl (cI, 7, .inl r_breath)), (q_rows, .inl (cI, 21, .inl r_rows)), (q_seen, .inl (cI, 5, .inl r_seen))] sz) (fun u : (Nat → Int32) => [(h, .inr (5, [.ref q_people, .ref q_places, .ref q_breath, .ref q_rows, .ref q_seen, .ref q_ends, va_rf f_field, .int f_size, .int f_turn, .int f_yards, .int f_time, .int f_gap, .int f_far, .int f_flat])), (q_people, .inl (cL, 7, .inr (.inr (.inr (.inr r_people))))), (q_breath, .inl (cI, 7, .inl r_breath)), (q_rows, .inl (cI, 21, .inl r_rows)), (q_seen, .inl (cI, 5, .inl u))])) (va_A [(h, .inr (5, [.ref q_people, .ref q_places, .ref q_breath, .ref q_rows, .ref q_seen, .ref q_ends, va_rf f_field, .int f_size, .int f_turn, .int f_yards, .int f_time, .int f_gap, .int f_far, .int f_flat])), (q_people, .inl (cL, 7, .inr (.inr (.inr (.inr r_people))))), (q_breath, .inl (cI, 7, .inl r_breath)), (q_rows, .inl (cI, 21, .inl r_rows)), (q_seen, .inl (cI, 5, .inl r_seen))] sz)) 0 0 (va_A [(h, .inr (5, [.ref q_people, .ref q_places, .ref q_breath, .ref q_rows, .ref q_seen, .ref q_ends, va_rf f_field, .int f_size, .int f_turn, .int f_yards, .int f_time, .int f_gap, .int f_far, .int f_flat])), (q_people, .inl (cL, 7, .inr (.inr (.inr (.inr r_people))))), (q_breath, .inl (cI, 7, .inl r_breath)), (q_rows, .inl (cI, 21, .inl r_rows)), (q_seen, .inl (cI, 5, .inl r_seen))] sz) := by
  refine ob_met_i (cc := cX5_leapTime) (maxL := 6) (by decide) (Nat.le_of_ble_eq_true rfl) (fun p e s m args below meth c A Z hx hb hml hown hts hnm hN hK hA hI hP hD hS hZ ls hl => ?_)
  have hl : lv_has ls 6 [(0, .ref h), (1, .int a1), (2, .int a2)] := hl
  unfold m_X5_leapTime at hm
  have lab47 : ∀ (r_seen_47 : Nat → Int32) (v3_47 : Nat) (v4_47 : Int32) (v5_47 : Int32) , ∀ (H : Heap) (locs : List Loc) (ls : Array Slot), va_P D vwCl [(h, .inr (5, [.ref q_people, .ref q_places, .ref q_breath, .ref q_rows, .ref q_seen, .ref q_ends, va_rf f_field, .int f_size, .int f_turn, .int f_yards, .int f_time, .int f_gap, .int f_far, .int f_flat])), (q_people, .inl (cL, 7, .inr (.inr (.inr (.inr r_people))))), (q_breath, .inl (cI, 7, .inl r_breath)), (q_rows, .inl (cI, 21, .inl r_rows)), (q_seen, .inl (cI, 5, .inl r_seen_47))] H → va_D A [(h, .inr (5, [.ref q_people, .ref q_places, .ref q_breath, .ref q_rows, .ref q_seen, .ref q_ends, va_rf f_field, .int f_size, .int f_turn, .int f_yards, .int f_time, .int f_gap, .int f_far, .int f_flat])), (q_people, .inl (cL, 7, .inr (.inr (.inr (.inr r_people))))), (q_breath, .inl (cI, 7, .inl r_breath)), (q_rows, .inl (cI, 21, .inl r_rows)), (q_seen, .inl (cI, 5, .inl r_seen_47))] → va_S A s.heap H locs → lv_has ls 6 [(0, .ref h), (2, .int a2), (3, .ref v3_47), (4, .int v4_47), (5, .int v5_47)] → m_X5_leapTime_L47 lk fk f_field r_breath a2 r_seen_47 v3_47 v4_47 v5_47 Q → W p l e rmX5_leapTime s m args below meth c H locs 0 0 Z (F0 m 47 ls []) := by
    clear hm
    intro r_seen_47 v3_47 v4_47 v5_47 H locs ls hP hD hS hl hm
    unfold m_X5_leapTime_L47 at hm
    refine lv_aload_n hx hb (dX5_leapTime 27 rfl) rfl (lv_at hl 0 rfl) ?_
    refine va_get (D := D) (ci := 5) (v := va_rf f_field) (C := RX5) (T := TX5) (N := 14) hx hb hts inlX5 hown hK hP 0 rfl rfl 6 (by decide) (hts (.fieldLink RX5 45 "OverBacks$Line" "field" "LOverBacks$Field;") (inR10 _ (List.mem_of_getElem? (i := 14) rfl))) (fun _ h9 => h9) rfl (dX5_leapTime 28 rfl) ?_
    refine ob_ifnonnull (tgt := 57) hx hb (dX5_leapTime 29 rfl) (by decide) (fun h12 => ?_) (fun b11 h12 => ?_)
    · replace hm := hm.1 h12; subst h12
      refine lv_iload hx hb (dX5_leapTime 30 rfl) (lv_at hl 4 rfl) ?_
      exact hZ v5_47 r_seen_47 H locs ls 56 hm hP hD hS (dX5_leapTime 31 rfl) rfl
    replace hm := hm.2 b11 h12; subst h12
    refine lv_aload_n hx hb (dX5_leapTime 32 rfl) rfl (lv_at hl 0 rfl) ?_
    refine lv_aload_n hx hb (dX5_leapTime 33 rfl) rfl (lv_at hl 2 rfl) ?_
    refine lv_iload_n hx hb (dX5_leapTime 34 rfl) rfl (lv_at hl 1 rfl) ?_
    refine lv_iload hx hb (dX5_leapTime 35 rfl) (lv_at hl 3 rfl) ?_
    have hcut := ob_cut (wc := [(h, .inr (5, [.ref q_people, .ref q_places, .ref q_breath, .ref q_rows, .ref q_seen, .ref q_ends, .ref b11, .int f_size, .int f_turn, .int f_yards, .int f_time, .int f_gap, .int f_far, .int f_flat])), (q_breath, .inl (cI, 7, .inl r_breath)), (q_seen, .inl (cI, 5, .inl r_seen_47))]) hP hD hS hA [0, 2, 4] rfl (by decide)
    refine ob_v (wr := [(q_people, .inl (cL, 7, .inr (.inr (.inr (.inr r_people))))), (q_rows, .inl (cI, 21, .inl r_rows))]) (ob_V (As := [.ref v3_47, .int a2, .int v4_47]) (rest := []) ⟨hx, hb, hml, hown, hts⟩ hK hcut (hI.cut hS hcut.2.2) hN (va_recv hK hP (ci := 5) (q0 := 0) rfl rfl) (k_X5_see l D cI cZ cL im lk hlk _ _ _ _ _ _ _ _ _ _ _ _ _ _ _ _ _ _ _ _ _ _ hm) (cwV 3 hts (gU_V (inR23 _ (List.mem_of_getElem? (i := 2) rfl)) (inR23 _ (List.mem_of_getElem? (i := 3) rfl)) (inR23 _ (List.mem_of_getElem? (i := 4) rfl)) (inR1 _ (List.mem_of_getElem? (i := 19) rfl)) (inR23 _ (List.mem_of_getElem? (i := 5) rfl))) rfl rfl rfl (by decide +kernel) ⟨Nat.le_of_ble_eq_true rfl, Nat.le_of_ble_eq_true rfl⟩) rfl hl.1 rfl (Nat.le_of_ble_eq_true rfl) (dX5_leapTime 36 rfl) ⟨Nat.zero_le _, Nat.zero_le _⟩) hP hD hS hcut [0, 2, 4] [1, 3] rfl rfl (by decide) (by decide) (fun u14 H locs hm hP hD hS => ?_)
    have hP := hP.sub (ws' := [(h, .inr (5, [.ref q_people, .ref q_places, .ref q_breath, .ref q_rows, .ref q_seen, .ref q_ends, .ref b11, .int f_size, .int f_turn, .int f_yards, .int f_time, .int f_gap, .int f_far, .int f_flat])), (q_people, .inl (cL, 7, .inr (.inr (.inr (.inr r_people))))), (q_breath, .inl (cI, 7, .inl r_breath)), (q_rows, .inl (cI, 21, .inl r_rows)), (q_seen, .inl (cI, 5, .inl u14))]) [2, 0, 3, 1, 4] rfl
    have hD := hD.sub (ws' := [(h, .inr (5, [.ref q_people, .ref q_places, .ref q_breath, .ref q_rows, .ref q_seen, .ref q_ends, .ref b11, .int f_size, .int f_turn, .int f_yards, .int f_time, .int f_gap, .int f_far, .int f_flat])), (q_people, .inl (cL, 7, .inr (.inr (.inr (.inr r_people))))), (q_breath, .inl (cI, 7, .inl r_breath)), (q_rows, .inl (cI, 21, .inl r_rows)), (q_seen, .inl (cI, 5, .inl u14))]) [2, 0, 3, 1, 4] (by decide) rfl
    refine lv_iload hx hb (dX5_leapTime 37 rfl) (lv_at hl 4 rfl) ?_
    refine lv_aload_n hx hb (dX5_leapTime 38 rfl) rfl (lv_at hl 0 rfl) ?_
    refine va_get (D := D) (ci := 5) (v := .ref b11) (C := RX5) (T := TX5) (N := 14) hx hb hts inlX5 hown hK hP 0 rfl rfl 6 (by decide) (hts (.fieldLink RX5 45 "OverBacks$Line" "field" "LOverBacks$Field;") (inR10 _ (List.mem_of_getElem? (i := 14) rfl))) (fun _ h9 => h9) rfl (dX5_leapTime 39 rfl) ?_
    refine lv_iconst (v := (2 : Int32)) hx hb (dX5_leapTime 40 rfl) (by decide) ?_
    refine lv_aload_n hx hb (dX5_leapTime 41 rfl) rfl (lv_at hl 0 rfl) ?_
    refine va_get (D := D) (ci := 5) (v := .ref q_seen) (C := RX5) (T := TX5) (N := 14) hx hb hts inlX5 hown hK hP 0 rfl rfl 4 (by decide) (hts (.fieldLink RX5 29 "OverBacks$Line" "seen" "[I") (inR3 _ (List.mem_of_getElem? (i := 0) rfl))) (fun _ h9 => h9) rfl (dX5_leapTime 42 rfl) ?_
    obtain ⟨⟨_, _, _, _, _, _, efk⟩, hm⟩ := hm
    obtain ⟨_, _, _, _, _, _, _, _, _, _, gk0, _, _, _, _, _, hg0, _⟩ := hfk _ _ _ _ _ _ _ efk
    have hcut := ob_cut (wc := [(q_seen, .inl (cI, 5, .inl u14))]) hP hD hS hA [4] rfl (by decide)
    refine ob_i (wr := [(h, .inr (5, [.ref q_people, .ref q_places, .ref q_breath, .ref q_rows, .ref q_seen, .ref q_ends, .ref b11, .int f_size, .int f_turn, .int f_yards, .int f_time, .int f_gap, .int f_far, .int f_flat])), (q_people, .inl (cL, 7, .inr (.inr (.inr (.inr r_people))))), (q_breath, .inl (cI, 7, .inl r_breath)), (q_rows, .inl (cI, 21, .inl r_rows))]) (ob_V (As := [.int (2 : Int32), .ref q_seen]) (rest := [.int v5_47]) ⟨hx, hb, hml, hown, hts⟩ hK hcut (hI.cut hS hcut.2.2) hN (va_recv hK (hI.now hS) (ci := 1) (q0 := gk0) rfl hg0) (k_X1_sum l D cI cZ cL im fk hfk _ _ _ _ _ _ _ hm) (cwV 2 hts (gU_V (inR23 _ (List.mem_of_getElem? (i := 9) rfl)) (inR23 _ (List.mem_of_getElem? (i := 10) rfl)) (inR23 _ (List.mem_of_getElem? (i := 11) rfl)) (inR5 _ (List.mem_of_getElem? (i := 8) rfl)) (inR23 _ (List.mem_of_getElem? (i := 12) rfl))) rfl rfl rfl (by decide +kernel) ⟨Nat.le_of_ble_eq_true rfl, Nat.le_of_ble_eq_true rfl⟩) rfl hl.1 rfl (Nat.le_of_ble_eq_true rfl) (dX5_leapTime 43 rfl) ⟨Nat.zero_le _, Nat.zero_le _⟩) hP hD hS hcut [4] [0, 1, 2, 3] rfl rfl (by decide) (by decide) (fun r16 u17 H locs hm hP hD hS => ?_)
    have hP := hP.sub (ws' := [(h, .inr (5, [.ref q_people, .ref q_places, .ref q_breath, .ref q_rows, .ref q_seen, .ref q_ends, .ref b11, .int f_size, .int f_turn, .int f_yards, .int f_time, .int f_gap, .int f_far, .int f_flat])), (q_people, .inl (cL, 7, .inr (.inr (.inr (.inr r_people))))), (q_breath, .inl (cI, 7, .inl r_breath)), (q_rows, .inl (cI, 21, .inl r_rows)), (q_seen, .inl (cI, 5, .inl u14))]) [0, 1, 2, 3, 4] rfl
    have hD := hD.sub (ws' := [(h, .inr (5, [.ref q_people, .ref q_places, .ref q_breath, .ref q_rows, .ref q_seen, .ref q_ends, .ref b11, .int f_size, .int f_turn, .int f_yards, .int f_time, .int f_gap, .int f_far, .int f_flat])), (q_people, .inl (cL, 7, .inr (.inr (.inr (.inr r_people))))), (q_breath, .inl (cI, 7, .inl r_breath)), (q_rows, .inl (cI, 21, .inl r_rows)), (q_seen, .inl (cI, 5, .inl u14))]) [0, 1, 2, 3, 4] (by decide) rfl
    refine lv_iadd hx hb (dX5_leapTime 44 rfl) ?_
    exact hZ (v5_47 + r16) u14 H locs ls 80 hm hP hD hS (dX5_leapTime 45 rfl) rfl
  obtain ⟨H, hH⟩ : ∃ H, H = s.heap := ⟨_, rfl⟩
  obtain ⟨locs, hlo⟩ : ∃ q : List Loc, q = [] := ⟨_, rfl⟩
  suffices hgo : W p l e rmX5_leapTime s m args below meth c H locs 0 0 Z (F0 m 0 ls []) by rw [hH, hlo] at hgo; exact hgo
  have hP : va_P D vwCl [(h, .inr (5, [.ref q_people, .ref q_places, .ref q_breath, .ref q_rows, .ref q_seen, .ref q_ends, va_rf f_field, .int f_size, .int f_turn, .int f_yards, .int f_time, .int f_gap, .int f_far, .int f_flat])), (q_people, .inl (cL, 7, .inr (.inr (.inr (.inr r_people))))), (q_breath, .inl (cI, 7, .inl r_breath)), (q_rows, .inl (cI, 21, .inl r_rows)), (q_seen, .inl (cI, 5, .inl r_seen))] H := by rw [hH]; exact hP
  have hD : va_D A [(h, .inr (5, [.ref q_people, .ref q_places, .ref q_breath, .ref q_rows, .ref q_seen, .ref q_ends, va_rf f_field, .int f_size, .int f_turn, .int f_yards, .int f_time, .int f_gap, .int f_far, .int f_flat])), (q_people, .inl (cL, 7, .inr (.inr (.inr (.inr r_people))))), (q_breath, .inl (cI, 7, .inl r_breath)), (q_rows, .inl (cI, 21, .inl r_rows)), (q_seen, .inl (cI, 5, .inl r_seen))] := hD
  have hS : va_S A s.heap H locs := by rw [hH, hlo]; exact hS
  refine lv_aload_n hx hb (dX5_leapTime 0 rfl) rfl (lv_at hl 0 rfl) ?_
  refine lv_iload_n hx hb (dX5_leapTime 1 rfl) rfl (lv_at hl 1 rfl) ?_
  have hcut := ob_cut (wc := [(h, .inr (5, [.ref q_people, .ref q_places, .ref q_breath, .ref q_rows, .ref q_seen, .ref q_ends, va_rf f_field, .int f_size, .int f_turn, .int f_yards, .int f_time, .int f_gap, .int f_far, .int f_flat])), (q_people, .inl (cL, 7, .inr (.inr (.inr (.inr r_people)))))]) hP hD hS hA [0, 1] rfl (by decide)
  refine ob_q (wr := [(q_breath, .inl (cI, 7, .inl r_breath)), (q_rows, .inl (cI, 21, .inl r_rows)), (q_seen, .inl (cI, 5, .inl r_seen))]) (ob_V (As := [.int a1]) (rest := []) ⟨hx, hb, hml, hown, hts⟩ hK hcut (hI.cut hS hcut.2.2) hN (va_recv hK hP (ci := 5) (q0 := 0) rfl rfl) (k_X5_find l D cI cZ cL im _ _ _ _ _ _ _ _ _ _ _ _ _ _ _ _ _ _ _ hm) (cwV 1 hts (gU_V (inR17 _ (List.mem_of_getElem? (i := 20) rfl)) (inR16 _ (List.mem_of_getElem? (i := 11) rfl)) (inR16 _ (List.mem_of_getElem? (i := 12) rfl)) (inR1 _ (List.mem_of_getElem? (i := 19) rfl)) (inR16 _ (List.mem_of_getElem? (i := 13) rfl))) rfl rfl rfl (by decide +kernel) ⟨Nat.le_of_ble_eq_true rfl, Nat.le_of_ble_eq_true rfl⟩) rfl hl.1 rfl (Nat.le_of_ble_eq_true rfl) (dX5_leapTime 2 rfl) ⟨Nat.zero_le _, Nat.zero_le _⟩) hP hD hS hcut [0, 1] [2, 3, 4] rfl rfl (by decide) (by decide) (fun r1 u2 H locs hm hP hD hS => ?_)
  have hP := hP.sub (ws' := [(h, .inr (5, [.ref q_people, .ref q_places, .ref q_breath, .ref q_rows, .ref q_seen, .ref q_ends, va_rf f_field, .int f_size, .int f_turn, .int f_yards, .int f_time, .int f_gap, .int f_far, .int f_flat])), (q_people, .inl (cL, 7, .inr (.inr (.inr (.inr r_people))))), (q_breath, .inl (cI, 7, .inl r_breath)), (q_rows, .inl (cI, 21, .inl r_rows)), (q_seen, .inl (cI, 5, .inl r_seen))]) [3, 4, 0, 1, 2] rfl
  have hD := hD.sub (ws' := [(h, .inr (5, [.ref q_people, .ref q_places, .ref q_breath, .ref q_rows, .ref q_seen, .ref q_ends, va_rf f_field, .int f_size, .int f_turn, .int f_yards, .int f_time, .int f_gap, .int f_far, .int f_flat])), (q_people, .inl (cL, 7, .inr (.inr (.inr (.inr r_people))))), (q_breath, .inl (cI, 7, .inl r_breath)), (q_rows, .inl (cI, 21, .inl r_rows)), (q_seen, .inl (cI, 5, .inl r_seen))]) [3, 4, 0, 1, 2] (by decide) rfl
  refine ob_astore_n (lv' := [(3, va_rf r1), (0, .ref h), (1, .int a1), (2, .int a2)]) hx hb (dX5_leapTime 3 rfl) rfl hl (by decide) rfl (fun ls hl => ?_)
  refine ob_aload_n hx hb (dX5_leapTime 4 rfl) rfl (lv_at hl 0 rfl) ?_
  refine ob_ifnonnull (tgt := 12) hx hb (dX5_leapTime 5 rfl) (by decide) (fun h4 => ?_) (fun b3 h4 => ?_)
  · replace hm := hm.1 h4; subst h4
    refine lv_iconst (v := (0 : Int32)) hx hb (dX5_leapTime 6 rfl) (by decide) ?_
    exact hZ (0 : Int32) r_seen H locs ls 11 hm hP hD hS (dX5_leapTime 7 rfl) rfl
  replace hm := hm.2 b3 h4; subst h4
  refine lv_aload_n hx hb (dX5_leapTime 8 rfl) rfl (lv_at hl 1 rfl) ?_
  refine lv_iload_n hx hb (dX5_leapTime 9 rfl) rfl (lv_at hl 3 rfl) ?_
  have hcut := ob_cut (wc := [(h, .inr (5, [.ref q_people, .ref q_places, .ref q_breath, .ref q_rows, .ref q_seen, .ref q_ends, va_rf f_field, .int f_size, .int f_turn, .int f_yards, .int f_time, .int f_gap, .int f_far, .int f_flat])), (q_people, .inl (cL, 7, .inr (.inr (.inr (.inr r_people))))), (q_rows, .inl (cI, 21, .inl r_rows))]) hP hD hS hA [0, 1, 3] rfl (by decide)
  refine ob_i (wr := [(q_breath, .inl (cI, 7, .inl r_breath)), (q_seen, .inl (cI, 5, .inl r_seen))]) (ob_V (As := [.int a2]) (rest := []) ⟨hx, hb, hml, hown, hts⟩ hK hcut (hI.cut hS hcut.2.2) hN (va_recv hK hP (ci := 5) (q0 := 0) rfl rfl) (k_X5_backOf l D cI cZ cL im lk hlk _ _ _ _ _ _ _ _ _ _ _ _ _ _ _ _ _ _ _ _ hm) (cwV 1 hts (gU_V (inR22 _ (List.mem_of_getElem? (i := 2) rfl)) (inR17 _ (List.mem_of_getElem? (i := 16) rfl)) (inR17 _ (List.mem_of_getElem? (i := 17) rfl)) (inR1 _ (List.mem_of_getElem? (i := 19) rfl)) (inR17 _ (List.mem_of_getElem? (i := 18) rfl))) rfl rfl rfl (by decide +kernel) ⟨Nat.le_of_ble_eq_true rfl, Nat.le_of_ble_eq_true rfl⟩) rfl hl.1 rfl (Nat.le_of_ble_eq_true rfl) (dX5_leapTime 10 rfl) ⟨Nat.zero_le _, Nat.zero_le _⟩) hP hD hS hcut [0, 1, 3] [2, 4] rfl rfl (by decide) (by decide) (fun r5 u6 H locs hm hP hD hS => ?_)
  have hP := hP.sub (ws' := [(h, .inr (5, [.ref q_people, .ref q_places, .ref q_breath, .ref q_rows, .ref q_seen, .ref q_ends, va_rf f_field, .int f_size, .int f_turn, .int f_yards, .int f_time, .int f_gap, .int f_far, .int f_flat])), (q_people, .inl (cL, 7, .inr (.inr (.inr (.inr r_people))))), (q_breath, .inl (cI, 7, .inl r_breath)), (q_rows, .inl (cI, 21, .inl r_rows)), (q_seen, .inl (cI, 5, .inl r_seen))]) [2, 3, 0, 4, 1] rfl
  have hD := hD.sub (ws' := [(h, .inr (5, [.ref q_people, .ref q_places, .ref q_breath, .ref q_rows, .ref q_seen, .ref q_ends, va_rf f_field, .int f_size, .int f_turn, .int f_yards, .int f_time, .int f_gap, .int f_far, .int f_flat])), (q_people, .inl (cL, 7, .inr (.inr (.inr (.inr r_people))))), (q_breath, .inl (cI, 7, .inl r_breath)), (q_rows, .inl (cI, 21, .inl r_rows)), (q_seen, .inl (cI, 5, .inl r_seen))]) [2, 3, 0, 4, 1] (by decide) rfl
  refine lv_istore (lv' := [(4, .int r5), (3, .ref b3), (0, .ref h), (1, .int a1), (2, .int a2)]) hx hb (dX5_leapTime 11 rfl) hl (by decide) rfl (fun ls hl => ?_)
  refine lv_aload_n hx hb (dX5_leapTime 12 rfl) rfl (lv_at hl 1 rfl) ?_
  refine lv_iload hx hb (dX5_leapTime 13 rfl) (lv_at hl 0 rfl) ?_
  have hcut := ob_cut (wc := []) hP hD hS hA [] rfl (by decide)
  refine ob_i (wr := [(h, .inr (5, [.ref q_people, .ref q_places, .ref q_breath, .ref q_rows, .ref q_seen, .ref q_ends, va_rf f_field, .int f_size, .int f_turn, .int f_yards, .int f_time, .int f_gap, .int f_far, .int f_flat])), (q_people, .inl (cL, 7, .inr (.inr (.inr (.inr r_people))))), (q_breath, .inl (cI, 7, .inl r_breath)), (q_rows, .inl (cI, 21, .inl r_rows)), (q_seen, .inl (cI, 5, .inl r_seen))]) (d_V_pace (own := RX5) (index := 81) (rest := []) D cI cZ cL im lk hlk _ _ _ hm ⟨hx, hb, hml, hown, hts⟩ hK hcut (hI.cut hS hcut.2.2) hN (inR22 _ (List.mem_of_getElem? (i := 19) rfl)) hl.1 rfl (Nat.le_of_ble_eq_true rfl) (dX5_leapTime 14 rfl) ⟨Nat.le_of_ble_eq_true rfl, Nat.le_of_ble_eq_true rfl⟩ ⟨Nat.zero_le _, Nat.zero_le _⟩) hP hD hS hcut [] [0, 1, 2, 3, 4] rfl rfl (by decide) (by decide) (fun r7 u8 H locs hm hP hD hS => ?_)
  have hP := hP.sub (ws' := [(h, .inr (5, [.ref q_people, .ref q_places, .ref q_breath, .ref q_rows, .ref q_seen, .ref q_ends, va_rf f_field, .int f_size, .int f_turn, .int f_yards, .int f_time, .int f_gap, .int f_far, .int f_flat])), (q_people, .inl (cL, 7, .inr (.inr (.inr (.inr r_people))))), (q_breath, .inl (cI, 7, .inl r_breath)), (q_rows, .inl (cI, 21, .inl r_rows)), (q_seen, .inl (cI, 5, .inl r_seen))]) [0, 1, 2, 3, 4] rfl
  have hD := hD.sub (ws' := [(h, .inr (5, [.ref q_people, .ref q_places, .ref q_breath, .ref q_rows, .ref q_seen, .ref q_ends, va_rf f_field, .int f_size, .int f_turn, .int f_yards, .int f_time, .int f_gap, .int f_far, .int f_flat])), (q_people, .inl (cL, 7, .inr (.inr (.inr (.inr r_people))))), (q_breath, .inl (cI, 7, .inl r_breath)), (q_rows, .inl (cI, 21, .inl r_rows)), (q_seen, .inl (cI, 5, .inl r_seen))]) [0, 1, 2, 3, 4] (by decide) rfl
  refine lv_aload_n hx hb (dX5_leapTime 15 rfl) rfl (lv_at hl 2 rfl) ?_
  refine va_get (D := D) (ci := 5) (v := .int f_gap) (C := RX5) (T := TX5) (N := 14) hx hb hts inlX5 hown hK hP 0 rfl rfl 11 (by decide) (hts (.fieldLink RX5 35 "OverBacks$Line" "gap" "I") (inR3 _ (List.mem_of_getElem? (i := 2) rfl))) (fun _ h9 => h9) rfl (dX5_leapTime 16 rfl) ?_
  refine lv_iadd hx hb (dX5_leapTime 17 rfl) ?_
  refine lv_iload hx hb (dX5_leapTime 18 rfl) (lv_at hl 0 rfl) ?_
  refine lv_iadd hx hb (dX5_leapTime 19 rfl) ?_
  refine lv_topi (fun x9 ex9 => ?_)
  replace hm := hm x9 ex9
  refine lv_istore (lv' := [(5, .int x9), (4, .int r5), (3, .ref b3), (0, .ref h), (1, .int a1), (2, .int a2)]) hx hb (dX5_leapTime 20 rfl) hl (by decide) rfl (fun ls hl => ?_)
  refine lv_aload_n hx hb (dX5_leapTime 21 rfl) rfl (lv_at hl 3 rfl) ?_
  refine va_get (D := D) (ci := 5) (v := .ref q_breath) (C := RX5) (T := TX5) (N := 14) hx hb hts inlX5 hown hK hP 0 rfl rfl 2 (by decide) (hts (.fieldLink RX5 21 "OverBacks$Line" "breath" "[I") (inR2 _ (List.mem_of_getElem? (i := 22) rfl))) (fun _ h9 => h9) rfl (dX5_leapTime 22 rfl) ?_
  refine lv_iload_n hx hb (dX5_leapTime 23 rfl) rfl (lv_at hl 4 rfl) ?_
  refine va_iald hx hb hK hP 2 0 rfl rfl hm.1 (dX5_leapTime 24 rfl) ?_
  replace hm := hm.2
  refine lv_if_ne (tgt := 47) hx hb (dX5_leapTime 25 rfl) (by decide) (fun c10 => ?_) (fun c10 => ?_)
  · replace hm := hm.2 c10
    exact lab47 r_seen b3 r5 x9 H locs ls hP hD hS (lv_sub hl [3, 5, 2, 1, 0] rfl) hm
  replace hm := hm.1 c10
  obtain ⟨x18, ex18⟩ : ∃ y : Int32, y = x9 + 10 := ⟨_, rfl⟩
  replace hm := hm x18 ex18
  refine lv_iinc (v := x18) (lv' := [(5, .int x18), (4, .int r5), (3, .ref b3), (0, .ref h), (1, .int a1), (2, .int a2)]) hx hb (dX5_leapTime 26 rfl) hl (k := 0) rfl (by rw [ex18]; rfl) (by decide) rfl (fun ls hl => ?_)
  exact lab47 r_seen b3 r5 x18 H locs ls hP hD hS (lv_sub hl [3, 5, 2, 1, 0] rfl) hm
abbrev rmX5_leapRisk : Room := { frames := 3, cells := 0, slots := 0, locals := 73 }
set_option maxHeartbeats 4000000 in
set_option maxRecDepth 100000 in
theorem k_X5_leapRisk (l : Launch) (D : va_G) (cI cZ cL : ClassId) (im : obIM) (lk : Nat → Option (Nat × Int32 × Int32 × Int32)) (fk : Nat → Option ((Nat → Int32) × (Nat → Int32) × (Nat → Int32) × (Nat → Int32) × (Nat → Int32) × Int32)) (hlk : obLK im lk) (hfk : obFK cI im fk) (sz : Nat) (h : Nat) (q_people : Nat) (q_places : Nat) (q_breath : Nat) (q_rows : Nat) (q_seen : Nat) (q_ends : Nat) (f_field : Option Nat) (f_size : Int32) (f_turn : Int32) (f_yards : Int32) (f_time : Int32) (f_gap : Int32) (f_far : Int32) (f_flat : Int32) (r_people : Nat → Option Nat) (r_breath : Nat → Int32) (r_rows : Nat → Int32) (r_seen : Nat → Int32) (a1 : Int32) (a2 : Int32) (Q : Int32 → (Nat → Int32) → Prop) (hm : m_X5_leapRisk lk fk f_field f_turn f_flat r_people r_breath r_rows r_seen a1 a2 Q) : Met l yX5_leapRisk (Cond.code yX5_leapRisk cX5_leapRisk 4 (some .int) :: wsL_law) rmX5_leapRisk (obPre D (tyG cI cZ cL) im [(h, .inr (5, [.ref q_people, .ref q_places, .ref q_breath, .ref q_rows, .ref q_seen, .ref q_ends, va_rf f_field, .int f_size, .int f_turn, .int f_yards, .int f_time, .int f_gap, .int f_far, .int f_flat])), (q_people, .inl (cL, 7, .inr (.inr (.inr (.inr r_people))))), (q_breath, .inl (cI, 7, .inl r_breath)), (q_rows, .inl (cI, 21, .inl r_rows)), (q_seen, .inl (cI, 5, .inl r_seen))] sz [.ref h, .int a1, .int a2]) (va_Qi (fun (r : Int32) (u : (Nat → Int32)) => Q r u) (obB D (va_A [(h, .inr (5, [.ref q_people, .ref q_places, .ref q_breath, .ref q_rows, .ref q_seen, .ref q_ends, va_rf f_field, .int f_size, .int f_turn, .int f_yards, .int f_time, .int f_gap, .int f_far, .int f_flat])), (q_people, .inl (cL, 7, .inr (.inr (.inr (.inr r_people))))), (q_breath, .inl (cI, 7, .inl r_breath)), (q_rows, .inl (cI, 21, .inl r_rows)), (q_seen, .inl (cI, 5, .inl r_seen))] sz) (fun u : (Nat → Int32) => [(h, .inr (5, [.ref q_people, .ref q_places, .ref q_breath, .ref q_rows, .ref q_seen, .ref q_ends, va_rf f_field, .int f_size, .int f_turn, .int f_yards, .int f_time, .int f_gap, .int f_far, .int f_flat])), (q_people, .inl (cL, 7, .inr (.inr (.inr (.inr r_people))))), (q_breath, .inl (cI, 7, .inl r_breath)), (q_rows, .inl (cI, 21, .inl r_rows)), (q_seen, .inl (cI, 5, .inl u))])) (va_A [(h, .inr (5, [.ref q_people, .ref q_places, .ref q_breath, .ref q_rows, .ref q_seen, .ref q_ends, va_rf f_field, .int f_size, .int f_turn, .int f_yards, .int f_time, .int f_gap, .int f_far, .int f_flat])), (q_people, .inl (cL, 7, .inr (.inr (.inr (.inr r_people))))), (q_breath, .inl (cI, 7, .inl r_breath)), (q_rows, .inl (cI, 21, .inl r_rows)), (q_seen, .inl (cI, 5, .inl r_seen))] sz)) 0 0 (va_A [(h, .inr (5, [.ref q_people, .ref q_places, .ref q_breath, .ref q_rows, .ref q_seen, .ref q_ends, va_rf f_field, .int f_size, .int f_turn, .int f_yards, .int f_time, .int f_gap, .int f_far, .int f_flat])), (q_people, .inl (cL, 7, .inr (.inr (.inr (.inr r_people))))), (q_breath, .inl (cI, 7, .inl r_breath)), (q_rows, .inl (cI, 21, .inl r_rows)), (q_seen, .inl (cI, 5, .inl r_seen))] sz) := by
  refine ob_met_i (cc := cX5_leapRisk) (maxL := 4) (by decide) (Nat.le_of_ble_eq_true rfl) (fun p e s m args below meth c A Z hx hb hml hown hts hnm hN hK hA hI hP hD hS hZ ls hl => ?_)
  have hl : lv_has ls 4 [(0, .ref h), (1, .int a1), (2, .int a2)] := hl
  unfold m_X5_leapRisk at hm
  obtain ⟨H, hH⟩ : ∃ H, H = s.heap := ⟨_, rfl⟩
  obtain ⟨locs, hlo⟩ : ∃ q : List Loc, q = [] := ⟨_, rfl⟩
  suffices hgo : W p l e rmX5_leapRisk s m args below meth c H locs 0 0 Z (F0 m 0 ls []) by rw [hH, hlo] at hgo; exact hgo
  have hP : va_P D vwCl [(h, .inr (5, [.ref q_people, .ref q_places, .ref q_breath, .ref q_rows, .ref q_seen, .ref q_ends, va_rf f_field, .int f_size, .int f_turn, .int f_yards, .int f_time, .int f_gap, .int f_far, .int f_flat])), (q_people, .inl (cL, 7, .inr (.inr (.inr (.inr r_people))))), (q_breath, .inl (cI, 7, .inl r_breath)), (q_rows, .inl (cI, 21, .inl r_rows)), (q_seen, .inl (cI, 5, .inl r_seen))] H := by rw [hH]; exact hP
  have hD : va_D A [(h, .inr (5, [.ref q_people, .ref q_places, .ref q_breath, .ref q_rows, .ref q_seen, .ref q_ends, va_rf f_field, .int f_size, .int f_turn, .int f_yards, .int f_time, .int f_gap, .int f_far, .int f_flat])), (q_people, .inl (cL, 7, .inr (.inr (.inr (.inr r_people))))), (q_breath, .inl (cI, 7, .inl r_breath)), (q_rows, .inl (cI, 21, .inl r_rows)), (q_seen, .inl (cI, 5, .inl r_seen))] := hD
  have hS : va_S A s.heap H locs := by rw [hH, hlo]; exact hS
  refine lv_aload_n hx hb (dX5_leapRisk 0 rfl) rfl (lv_at hl 0 rfl) ?_
  refine lv_iload_n hx hb (dX5_leapRisk 1 rfl) rfl (lv_at hl 1 rfl) ?_
  have hcut := ob_cut (wc := [(h, .inr (5, [.ref q_people, .ref q_places, .ref q_breath, .ref q_rows, .ref q_seen, .ref q_ends, va_rf f_field, .int f_size, .int f_turn, .int f_yards, .int f_time, .int f_gap, .int f_far, .int f_flat])), (q_people, .inl (cL, 7, .inr (.inr (.inr (.inr r_people)))))]) hP hD hS hA [0, 1] rfl (by decide)
  refine ob_q (wr := [(q_breath, .inl (cI, 7, .inl r_breath)), (q_rows, .inl (cI, 21, .inl r_rows)), (q_seen, .inl (cI, 5, .inl r_seen))]) (ob_V (As := [.int a1]) (rest := []) ⟨hx, hb, hml, hown, hts⟩ hK hcut (hI.cut hS hcut.2.2) hN (va_recv hK hP (ci := 5) (q0 := 0) rfl rfl) (k_X5_find l D cI cZ cL im _ _ _ _ _ _ _ _ _ _ _ _ _ _ _ _ _ _ _ hm) (cwV 1 hts (gU_V (inR17 _ (List.mem_of_getElem? (i := 20) rfl)) (inR16 _ (List.mem_of_getElem? (i := 11) rfl)) (inR16 _ (List.mem_of_getElem? (i := 12) rfl)) (inR1 _ (List.mem_of_getElem? (i := 19) rfl)) (inR16 _ (List.mem_of_getElem? (i := 13) rfl))) rfl rfl rfl (by decide +kernel) ⟨Nat.le_of_ble_eq_true rfl, Nat.le_of_ble_eq_true rfl⟩) rfl hl.1 rfl (Nat.le_of_ble_eq_true rfl) (dX5_leapRisk 2 rfl) ⟨Nat.zero_le _, Nat.zero_le _⟩) hP hD hS hcut [0, 1] [2, 3, 4] rfl rfl (by decide) (by decide) (fun r1 u2 H locs hm hP hD hS => ?_)
  have hP := hP.sub (ws' := [(h, .inr (5, [.ref q_people, .ref q_places, .ref q_breath, .ref q_rows, .ref q_seen, .ref q_ends, va_rf f_field, .int f_size, .int f_turn, .int f_yards, .int f_time, .int f_gap, .int f_far, .int f_flat])), (q_people, .inl (cL, 7, .inr (.inr (.inr (.inr r_people))))), (q_breath, .inl (cI, 7, .inl r_breath)), (q_rows, .inl (cI, 21, .inl r_rows)), (q_seen, .inl (cI, 5, .inl r_seen))]) [3, 4, 0, 1, 2] rfl
  have hD := hD.sub (ws' := [(h, .inr (5, [.ref q_people, .ref q_places, .ref q_breath, .ref q_rows, .ref q_seen, .ref q_ends, va_rf f_field, .int f_size, .int f_turn, .int f_yards, .int f_time, .int f_gap, .int f_far, .int f_flat])), (q_people, .inl (cL, 7, .inr (.inr (.inr (.inr r_people))))), (q_breath, .inl (cI, 7, .inl r_breath)), (q_rows, .inl (cI, 21, .inl r_rows)), (q_seen, .inl (cI, 5, .inl r_seen))]) [3, 4, 0, 1, 2] (by decide) rfl
  refine ob_astore_n (lv' := [(3, va_rf r1), (0, .ref h), (1, .int a1), (2, .int a2)]) hx hb (dX5_leapRisk 3 rfl) rfl hl (by decide) rfl (fun ls hl => ?_)
  refine ob_aload_n hx hb (dX5_leapRisk 4 rfl) rfl (lv_at hl 0 rfl) ?_
  refine ob_ifnull (tgt := 17) hx hb (dX5_leapRisk 5 rfl) (by decide) (fun h4 => ?_) (fun b3 h4 => ?_)
  · replace hm := hm.1 h4; subst h4
    refine lv_iconst (v := (0 : Int32)) hx hb (dX5_leapRisk 9 rfl) (by decide) ?_
    exact hZ (0 : Int32) r_seen H locs ls 18 hm hP hD hS (dX5_leapRisk 10 rfl) rfl
  replace hm := hm.2 b3 h4; subst h4
  refine lv_aload_n hx hb (dX5_leapRisk 6 rfl) rfl (lv_at hl 1 rfl) ?_
  refine va_get (D := D) (ci := 5) (v := va_rf f_field) (C := RX5) (T := TX5) (N := 14) hx hb hts inlX5 hown hK hP 0 rfl rfl 6 (by decide) (hts (.fieldLink RX5 45 "OverBacks$Line" "field" "LOverBacks$Field;") (inR10 _ (List.mem_of_getElem? (i := 14) rfl))) (fun _ h9 => h9) rfl (dX5_leapRisk 7 rfl) ?_
  refine ob_ifnonnull (tgt := 19) hx hb (dX5_leapRisk 8 rfl) (by decide) (fun h6 => ?_) (fun b5 h6 => ?_)
  · replace hm := hm.1 h6; subst h6
    refine lv_iconst (v := (0 : Int32)) hx hb (dX5_leapRisk 9 rfl) (by decide) ?_
    exact hZ (0 : Int32) r_seen H locs ls 18 hm hP hD hS (dX5_leapRisk 10 rfl) rfl
  replace hm := hm.2 b5 h6; subst h6
  refine lv_aload_n hx hb (dX5_leapRisk 11 rfl) rfl (lv_at hl 1 rfl) ?_
  refine lv_aload_n hx hb (dX5_leapRisk 12 rfl) rfl (lv_at hl 0 rfl) ?_
  refine lv_iload_n hx hb (dX5_leapRisk 13 rfl) rfl (lv_at hl 3 rfl) ?_
  refine lv_aload_n hx hb (dX5_leapRisk 14 rfl) rfl (lv_at hl 1 rfl) ?_
  refine lv_iload_n hx hb (dX5_leapRisk 15 rfl) rfl (lv_at hl 3 rfl) ?_
  have hcut := ob_cut (wc := [(h, .inr (5, [.ref q_people, .ref q_places, .ref q_breath, .ref q_rows, .ref q_seen, .ref q_ends, .ref b5, .int f_size, .int f_turn, .int f_yards, .int f_time, .int f_gap, .int f_far, .int f_flat])), (q_people, .inl (cL, 7, .inr (.inr (.inr (.inr r_people))))), (q_rows, .inl (cI, 21, .inl r_rows))]) hP hD hS hA [0, 1, 3] rfl (by decide)
  refine ob_i (wr := [(q_breath, .inl (cI, 7, .inl r_breath)), (q_seen, .inl (cI, 5, .inl r_seen))]) (ob_V (As := [.int a2]) (rest := [.int a2, .ref b3, .ref h]) ⟨hx, hb, hml, hown, hts⟩ hK hcut (hI.cut hS hcut.2.2) hN (va_recv hK hP (ci := 5) (q0 := 0) rfl rfl) (k_X5_backOf l D cI cZ cL im lk hlk _ _ _ _ _ _ _ _ _ _ _ _ _ _ _ _ _ _ _ _ hm) (cwV 1 hts (gU_V (inR22 _ (List.mem_of_getElem? (i := 2) rfl)) (inR17 _ (List.mem_of_getElem? (i := 16) rfl)) (inR17 _ (List.mem_of_getElem? (i := 17) rfl)) (inR1 _ (List.mem_of_getElem? (i := 19) rfl)) (inR17 _ (List.mem_of_getElem? (i := 18) rfl))) rfl rfl rfl (by decide +kernel) ⟨Nat.le_of_ble_eq_true rfl, Nat.le_of_ble_eq_true rfl⟩) rfl hl.1 rfl (Nat.le_of_ble_eq_true rfl) (dX5_leapRisk 16 rfl) ⟨Nat.zero_le _, Nat.zero_le _⟩) hP hD hS hcut [0, 1, 3] [2, 4] rfl rfl (by decide) (by decide) (fun r7 u8 H locs hm hP hD hS => ?_)
  have hP := hP.sub (ws' := [(h, .inr (5, [.ref q_people, .ref q_places, .ref q_breath, .ref q_rows, .ref q_seen, .ref q_ends, .ref b5, .int f_size, .int f_turn, .int f_yards, .int f_time, .int f_gap, .int f_far, .int f_flat])), (q_people, .inl (cL, 7, .inr (.inr (.inr (.inr r_people))))), (q_breath, .inl (cI, 7, .inl r_breath)), (q_rows, .inl (cI, 21, .inl r_rows)), (q_seen, .inl (cI, 5, .inl r_seen))]) [2, 3, 0, 4, 1] rfl
  have hD := hD.sub (ws' := [(h, .inr (5, [.ref q_people, .ref q_places, .ref q_breath, .ref q_rows, .ref q_seen, .ref q_ends, .ref b5, .int f_size, .int f_turn, .int f_yards, .int f_time, .int f_gap, .int f_far, .int f_flat])), (q_people, .inl (cL, 7, .inr (.inr (.inr (.inr r_people))))), (q_breath, .inl (cI, 7, .inl r_breath)), (q_rows, .inl (cI, 21, .inl r_rows)), (q_seen, .inl (cI, 5, .inl r_seen))]) [2, 3, 0, 4, 1] (by decide) rfl
  have hcut := ob_cut (wc := [(h, .inr (5, [.ref q_people, .ref q_places, .ref q_breath, .ref q_rows, .ref q_seen, .ref q_ends, .ref b5, .int f_size, .int f_turn, .int f_yards, .int f_time, .int f_gap, .int f_far, .int f_flat])), (q_breath, .inl (cI, 7, .inl r_breath)), (q_seen, .inl (cI, 5, .inl r_seen))]) hP hD hS hA [0, 2, 4] rfl (by decide)
  refine ob_v (wr := [(q_people, .inl (cL, 7, .inr (.inr (.inr (.inr r_people))))), (q_rows, .inl (cI, 21, .inl r_rows))]) (ob_V (As := [.ref b3, .int a2, .int r7]) (rest := []) ⟨hx, hb, hml, hown, hts⟩ hK hcut (hI.cut hS hcut.2.2) hN (va_recv hK hP (ci := 5) (q0 := 0) rfl rfl) (k_X5_see l D cI cZ cL im lk hlk _ _ _ _ _ _ _ _ _ _ _ _ _ _ _ _ _ _ _ _ _ _ hm) (cwV 3 hts (gU_V (inR23 _ (List.mem_of_getElem? (i := 2) rfl)) (inR23 _ (List.mem_of_getElem? (i := 3) rfl)) (inR23 _ (List.mem_of_getElem? (i := 4) rfl)) (inR1 _ (List.mem_of_getElem? (i := 19) rfl)) (inR23 _ (List.mem_of_getElem? (i := 5) rfl))) rfl rfl rfl (by decide +kernel) ⟨Nat.le_of_ble_eq_true rfl, Nat.le_of_ble_eq_true rfl⟩) rfl hl.1 rfl (Nat.le_of_ble_eq_true rfl) (dX5_leapRisk 17 rfl) ⟨Nat.zero_le _, Nat.zero_le _⟩) hP hD hS hcut [0, 2, 4] [1, 3] rfl rfl (by decide) (by decide) (fun u10 H locs hm hP hD hS => ?_)
  have hP := hP.sub (ws' := [(h, .inr (5, [.ref q_people, .ref q_places, .ref q_breath, .ref q_rows, .ref q_seen, .ref q_ends, .ref b5, .int f_size, .int f_turn, .int f_yards, .int f_time, .int f_gap, .int f_far, .int f_flat])), (q_people, .inl (cL, 7, .inr (.inr (.inr (.inr r_people))))), (q_breath, .inl (cI, 7, .inl r_breath)), (q_rows, .inl (cI, 21, .inl r_rows)), (q_seen, .inl (cI, 5, .inl u10))]) [2, 0, 3, 1, 4] rfl
  have hD := hD.sub (ws' := [(h, .inr (5, [.ref q_people, .ref q_places, .ref q_breath, .ref q_rows, .ref q_seen, .ref q_ends, .ref b5, .int f_size, .int f_turn, .int f_yards, .int f_time, .int f_gap, .int f_far, .int f_flat])), (q_people, .inl (cL, 7, .inr (.inr (.inr (.inr r_people))))), (q_breath, .inl (cI, 7, .inl r_breath)), (q_rows, .inl (cI, 21, .inl r_rows)), (q_seen, .inl (cI, 5, .inl u10))]) [2, 0, 3, 1, 4] (by decide) rfl
  refine lv_aload_n hx hb (dX5_leapRisk 18 rfl) rfl (lv_at hl 1 rfl) ?_
  refine va_get (D := D) (ci := 5) (v := .ref b5) (C := RX5) (T := TX5) (N := 14) hx hb hts inlX5 hown hK hP 0 rfl rfl 6 (by decide) (hts (.fieldLink RX5 45 "OverBacks$Line" "field" "LOverBacks$Field;") (inR10 _ (List.mem_of_getElem? (i := 14) rfl))) (fun _ h9 => h9) rfl (dX5_leapRisk 19 rfl) ?_
  refine lv_iconst (v := (3 : Int32)) hx hb (dX5_leapRisk 20 rfl) (by decide) ?_
  refine lv_aload_n hx hb (dX5_leapRisk 21 rfl) rfl (lv_at hl 1 rfl) ?_
  refine va_get (D := D) (ci := 5) (v := .ref q_seen) (C := RX5) (T := TX5) (N := 14) hx hb hts inlX5 hown hK hP 0 rfl rfl 4 (by decide) (hts (.fieldLink RX5 29 "OverBacks$Line" "seen" "[I") (inR3 _ (List.mem_of_getElem? (i := 0) rfl))) (fun _ h9 => h9) rfl (dX5_leapRisk 22 rfl) ?_
  obtain ⟨⟨_, _, _, _, _, _, efk⟩, hm⟩ := hm
  obtain ⟨_, _, _, _, _, _, _, _, _, _, gk0, _, _, _, _, _, hg0, _⟩ := hfk _ _ _ _ _ _ _ efk
  have hcut := ob_cut (wc := [(q_seen, .inl (cI, 5, .inl u10))]) hP hD hS hA [4] rfl (by decide)
  refine ob_i (wr := [(h, .inr (5, [.ref q_people, .ref q_places, .ref q_breath, .ref q_rows, .ref q_seen, .ref q_ends, .ref b5, .int f_size, .int f_turn, .int f_yards, .int f_time, .int f_gap, .int f_far, .int f_flat])), (q_people, .inl (cL, 7, .inr (.inr (.inr (.inr r_people))))), (q_breath, .inl (cI, 7, .inl r_breath)), (q_rows, .inl (cI, 21, .inl r_rows))]) (ob_V (As := [.int (3 : Int32), .ref q_seen]) (rest := []) ⟨hx, hb, hml, hown, hts⟩ hK hcut (hI.cut hS hcut.2.2) hN (va_recv hK (hI.now hS) (ci := 1) (q0 := gk0) rfl hg0) (k_X1_sum l D cI cZ cL im fk hfk _ _ _ _ _ _ _ hm) (cwV 2 hts (gU_V (inR23 _ (List.mem_of_getElem? (i := 9) rfl)) (inR23 _ (List.mem_of_getElem? (i := 10) rfl)) (inR23 _ (List.mem_of_getElem? (i := 11) rfl)) (inR5 _ (List.mem_of_getElem? (i := 8) rfl)) (inR23 _ (List.mem_of_getElem? (i := 12) rfl))) rfl rfl rfl (by decide +kernel) ⟨Nat.le_of_ble_eq_true rfl, Nat.le_of_ble_eq_true rfl⟩) rfl hl.1 rfl (Nat.le_of_ble_eq_true rfl) (dX5_leapRisk 23 rfl) ⟨Nat.zero_le _, Nat.zero_le _⟩) hP hD hS hcut [4] [0, 1, 2, 3] rfl rfl (by decide) (by decide) (fun r12 u13 H locs hm hP hD hS => ?_)
  have hP := hP.sub (ws' := [(h, .inr (5, [.ref q_people, .ref q_places, .ref q_breath, .ref q_rows, .ref q_seen, .ref q_ends, .ref b5, .int f_size, .int f_turn, .int f_yards, .int f_time, .int f_gap, .int f_far, .int f_flat])), (q_people, .inl (cL, 7, .inr (.inr (.inr (.inr r_people))))), (q_breath, .inl (cI, 7, .inl r_breath)), (q_rows, .inl (cI, 21, .inl r_rows)), (q_seen, .inl (cI, 5, .inl u10))]) [0, 1, 2, 3, 4] rfl
  have hD := hD.sub (ws' := [(h, .inr (5, [.ref q_people, .ref q_places, .ref q_breath, .ref q_rows, .ref q_seen, .ref q_ends, .ref b5, .int f_size, .int f_turn, .int f_yards, .int f_time, .int f_gap, .int f_far, .int f_flat])), (q_people, .inl (cL, 7, .inr (.inr (.inr (.inr r_people))))), (q_breath, .inl (cI, 7, .inl r_breath)), (q_rows, .inl (cI, 21, .inl r_rows)), (q_seen, .inl (cI, 5, .inl u10))]) [0, 1, 2, 3, 4] (by decide) rfl
  refine lv_bipush (v := (100 : Int32)) hx hb (dX5_leapRisk 24 rfl) (by decide) ?_
  refine va_mmin (own := RX5) (index := 92) hx hb (hml.trans hl.1.symm) hown (hts (.methodLink RX5 92 Lib.Math.min.name) (inR24 _ (List.mem_of_getElem? (i := 0) rfl))) (hts (.static Lib.Math.min.name) (inR24 _ (List.mem_of_getElem? (i := 1) rfl))) (hts (.initialized "java/lang/Math") (inR3 _ (List.mem_of_getElem? (i := 11) rfl))) (hts (.code Lib.Math.min.name Lib.Math.min.code 2 (some .int)) (inR24 _ (List.mem_of_getElem? (i := 2) rfl))) (Nat.le_of_ble_eq_true rfl) (Nat.le_of_ble_eq_true rfl) (Nat.zero_le _) (Nat.zero_le _) (dX5_leapRisk 25 rfl) ?_
  exact hZ (if (100 : Int32) < r12 then (100 : Int32) else r12) u10 H locs ls 47 hm hP hD hS (dX5_leapRisk 26 rfl) rfl
