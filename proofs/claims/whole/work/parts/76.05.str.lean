section OBR
variable {p : Program} {l : Launch} {e : Env} {R : Room} {s : State} {m : MethodId} {args : Array Value} {below : List Frame} {meth : Method} {c : Code} {H H0 : Heap} {locs : List Loc} {cells slots : Nat} {Q : State → Prop} {rest st0 : List Value} {pc : Nat} {ls : Array Slot} {D : va_G} {ws : va_W} {A0 : Nat → Prop} {av : Array Value}
theorem ob_noA {sz q : Nat} (h : va_A [] sz q) : sz ≤ q := by
  rcases h with ⟨k, e, h⟩ | h
  · simp at h
  · exact h
theorem ob_cut0 (hS : va_S A0 H0 H locs) (hA : ∀ q, H0.size ≤ q → A0 q) : va_P D vwCl [] H ∧ va_D (fun _ => True) [] ∧ ∀ q, va_A [] H.size q → A0 q :=
  ⟨fun k q h => by simp at h, ⟨fun i j p q h => by simp at h, fun k q h => by simp at h⟩, fun q h => hA q (Nat.le_trans hS.1 (ob_noA h))⟩
/-- behind a call that is given no cells: all is as it was -/
theorem ob_ro_i {post : Int32 → Unit → Prop} (hr : va_Run p l e R s m args below meth c H locs cells slots 0 0 (F0 m pc ls st0) rest (va_Qi post (obB D (va_A [] H.size) (fun _ : Unit => [])) (va_A [] H.size) av) (va_A [] H.size))
    (hP : va_P D vwCl ws H) (hD : va_D A0 ws) (hS : va_S A0 H0 H locs) (hA : ∀ q, H0.size ≤ q → A0 q)
    (kk : ∀ (r : Int32) (H1 : Heap) (locs1 : List Loc), post r () → va_P D vwCl ws H1 → va_D A0 ws → va_S A0 H0 H1 locs1 → W p l e R s m args below meth c H1 locs1 cells slots Q (F0 m (pc + 3) ls (.int r :: rest))) : W p l e R s m args below meth c H locs cells slots Q (F0 m pc ls st0) := by
  have hF := (ob_cut0 (D := D) hS hA).2.2
  refine va_calli hr hS (fun q _ h => hF q h) hF (fun r u t H1 locs ht hvm hw hB hz1 hk1 hS => ?_)
  exact kk r H1 locs hw (hP.kept fun k q hk => hk1 q.1 (hP k q hk).lt (fun h => absurd (ob_noA h) (Nat.not_le.mpr (hP k q hk).lt))) hD hS
end OBR
/-! texts: length() and charAt(k) of a constant, through the JDK's own methods -/
abbrev rmJcoder : Room := { frames := 0, cells := 0, slots := 0, locals := 0 }
theorem k_Jcoder (l : Launch) (D : va_G) (cI cZ cL : ClassId) (im : obIM) (sz : Nat) {i : Nat} (hi : i < 10) : Met l yJ0_coder_7d493 (Cond.code yJ0_coder_7d493 cJ0_coder_7d493 1 (some .byte) :: wsL_law) rmJcoder (obPre D (tyG cI cZ cL) im [] sz [.ref (im.2.1 i)]) (va_Qi (fun (r : Int32) (_ : Unit) => r = 0) (obB D (va_A [] sz) (fun _ : Unit => [])) (va_A [] sz)) 0 0 (va_A [] sz) := by
  refine ob_met_i (cc := cJ0_coder_7d493) (maxL := 1) (by decide) (Nat.le_of_ble_eq_true rfl) (fun p e s m args below meth c A Z hx hb hml hown hts hnm hN hK hA hI hP hD hS hZ ls hl => ?_)
  have hl : lv_has ls 1 [(0, .ref (im.2.1 i))] := hl
  refine va_gets hx hb hI.2.2.2.2.1 hS hown (hts (.fieldLink RJ0 38 "java/lang/String" "COMPACT_STRINGS" "Z") (inR7 _ (List.mem_of_getElem? (i := 6) rfl))) (fun _ h => h) (dJ0_coder_7d493 0 rfl) ?_
  refine lv_if_eq (tgt := 13) hx hb (dJ0_coder_7d493 1 rfl) (by decide) (fun q => absurd q (by decide)) (fun _ => ?_)
  refine lv_aload_n hx hb (dJ0_coder_7d493 2 rfl) rfl (lv_at hl 0 rfl) ?_
  refine vk_getf hx hb (hI.2.2.1.1 i hi).2.1 hS hown (hts (.fieldLink RJ0 15 "java/lang/String" "coder" "B") (inR7 _ (List.mem_of_getElem? (i := 7) rfl))) (fun _ h => h) (dJ0_coder_7d493 3 rfl) ?_
  refine lv_goto (tgt := 14) hx hb (dJ0_coder_7d493 4 rfl) (by decide) ?_
  exact hZ 0 () _ _ ls 14 rfl hP hD hS (dJ0_coder_7d493 6 rfl) rfl
abbrev rmJlat : Room := { frames := 0, cells := 0, slots := 0, locals := 0 }
theorem k_Jlat (l : Launch) (D : va_G) (cI cZ cL : ClassId) (im : obIM) (sz : Nat) {i : Nat} (hi : i < 10) : Met l yJ0_isLatin1_aae02 (Cond.code yJ0_isLatin1_aae02 cJ0_isLatin1_aae02 1 (some .boolean) :: wsL_law) rmJlat (obPre D (tyG cI cZ cL) im [] sz [.ref (im.2.1 i)]) (va_Qi (fun (r : Int32) (_ : Unit) => r = 1) (obB D (va_A [] sz) (fun _ : Unit => [])) (va_A [] sz)) 0 0 (va_A [] sz) := by
  refine ob_met_i (cc := cJ0_isLatin1_aae02) (maxL := 1) (by decide) (Nat.le_of_ble_eq_true rfl) (fun p e s m args below meth c A Z hx hb hml hown hts hnm hN hK hA hI hP hD hS hZ ls hl => ?_)
  have hl : lv_has ls 1 [(0, .ref (im.2.1 i))] := hl
  refine va_gets hx hb hI.2.2.2.2.1 hS hown (hts (.fieldLink RJ0 38 "java/lang/String" "COMPACT_STRINGS" "Z") (inR7 _ (List.mem_of_getElem? (i := 6) rfl))) (fun _ h => h) (dJ0_isLatin1_aae02 0 rfl) ?_
  refine lv_if_eq (tgt := 17) hx hb (dJ0_isLatin1_aae02 1 rfl) (by decide) (fun q => absurd q (by decide)) (fun _ => ?_)
  refine lv_aload_n hx hb (dJ0_isLatin1_aae02 2 rfl) rfl (lv_at hl 0 rfl) ?_
  refine vk_getf hx hb (hI.2.2.1.1 i hi).2.1 hS hown (hts (.fieldLink RJ0 15 "java/lang/String" "coder" "B") (inR7 _ (List.mem_of_getElem? (i := 7) rfl))) (fun _ h => h) (dJ0_isLatin1_aae02 3 rfl) ?_
  refine lv_if_ne (tgt := 17) hx hb (dJ0_isLatin1_aae02 4 rfl) (by decide) (fun q => absurd rfl q) (fun _ => ?_)
  refine lv_iconst (v := 1) hx hb (dJ0_isLatin1_aae02 5 rfl) (by decide) ?_
  refine lv_goto (tgt := 18) hx hb (dJ0_isLatin1_aae02 6 rfl) (by decide) ?_
  exact hZ 1 () _ _ ls 18 rfl hP hD hS (dJ0_isLatin1_aae02 8 rfl) rfl
abbrev rmJlen : Room := { frames := 1, cells := 0, slots := 0, locals := 30 }
theorem k_Jlen (l : Launch) (D : va_G) (cI cZ cL : ClassId) (im : obIM) (sz : Nat) {i : Nat} (hi : i < 10) : Met l yJ0_length_8abf5 (Cond.code yJ0_length_8abf5 cJ0_length_8abf5 1 (some .int) :: wsL_law) rmJlen (obPre D (tyG cI cZ cL) im [] sz [.ref (im.2.1 i)]) (va_Qi (fun (r : Int32) (_ : Unit) => r = nI (sLen i)) (obB D (va_A [] sz) (fun _ : Unit => [])) (va_A [] sz)) 0 0 (va_A [] sz) := by
  refine ob_met_i (cc := cJ0_length_8abf5) (maxL := 1) (by decide) (Nat.le_of_ble_eq_true rfl) (fun p e s m args below meth c A Z hx hb hml hown hts hnm hN hK hA hI hP hD hS hZ ls hl => ?_)
  have hl : lv_has ls 1 [(0, .ref (im.2.1 i))] := hl
  refine lv_aload_n hx hb (dJ0_length_8abf5 0 rfl) rfl (lv_at hl 0 rfl) ?_
  refine vk_getf hx hb (hI.2.2.1.1 i hi).2.2.1 hS hown (hts (.fieldLink RJ0 9 "java/lang/String" "value" "[B") (inR7 _ (List.mem_of_getElem? (i := 1) rfl))) (fun _ h => h) (dJ0_length_8abf5 1 rfl) ?_
  refine va_tlen hx hb (hI.2.2.1.1 i hi).2.2.2 hS rfl (dJ0_length_8abf5 2 rfl) ?_
  refine lv_aload_n hx hb (dJ0_length_8abf5 3 rfl) rfl (lv_at hl 0 rfl) ?_
  have hcut := ob_cut (wc := []) hP hD hS hA [] rfl (by decide)
  refine ob_i (wr := []) (ob_V (As := []) (rest := [.int (nI (sLen i))]) ⟨hx, hb, hml, hown, hts⟩ hK hcut (hI.cut hS hcut.2.2) hN (vk_recv hI.2.2.1 hi hS) (k_Jcoder l D cI cZ cL im _ hi) (cwV 0 hts (gU_V (inR7 _ (List.mem_of_getElem? (i := 2) rfl)) (inR7 _ (List.mem_of_getElem? (i := 3) rfl)) (inR7 _ (List.mem_of_getElem? (i := 4) rfl)) (inR6 _ (List.mem_of_getElem? (i := 23) rfl)) (inR7 _ (List.mem_of_getElem? (i := 5) rfl))) rfl rfl rfl (by decide +kernel) ⟨Nat.le_of_ble_eq_true rfl, Nat.le_of_ble_eq_true rfl⟩) rfl hl.1 rfl (Nat.le_of_ble_eq_true rfl) (dJ0_length_8abf5 4 rfl) ⟨Nat.zero_le _, Nat.zero_le _⟩) hP hD hS hcut [] [] rfl rfl (by decide) (by decide) (fun r u H locs hm hP hD hS => ?_)
  subst hm
  refine lv_ishr hx hb (dJ0_length_8abf5 5 rfl) ?_
  have e0 : nI (sLen i) >>> ((0 : Int32) &&& 31) = nI (sLen i) := sc_shr0 (by
    have h10 : ∀ j, j < 10 → sLen j < 2 ^ 31 := by decide
    exact h10 i hi)
  exact hZ _ () _ _ ls 10 e0 hP hD hS (dJ0_length_8abf5 6 rfl) rfl
abbrev rmJpre : Room := { frames := 0, cells := 0, slots := 0, locals := 0 }
theorem k_Jpre (l : Launch) (D : va_G) (cI cZ cL : ClassId) (im : obIM) (sz : Nat) {x n : Int32} (r0 : Option Nat) (h0 : ¬ x < 0) (h1 : x < n) : Met l yJ3_checkIndex_8e157 (Cond.code yJ3_checkIndex_8e157 cJ3_checkIndex_8e157 3 (some .int) :: wsL_law) rmJpre (obPre D (tyG cI cZ cL) im [] sz [.int x, .int n, va_rf r0]) (va_Qi (fun (r : Int32) (_ : Unit) => r = x) (obB D (va_A [] sz) (fun _ : Unit => [])) (va_A [] sz)) 0 0 (va_A [] sz) := by
  cases r0 with
  | none =>
    refine ob_met_i (cc := cJ3_checkIndex_8e157) (maxL := 3) (by decide) (Nat.le_of_ble_eq_true rfl) (fun p e s m args below meth c A Z hx hb hml hown hts hnm hN hK hA hI hP hD hS hZ ls hl => ?_)
    have hl : lv_has ls 3 [(0, .int x), (1, .int n), (2, .null)] := hl
    refine lv_iload_n hx hb (dJ3_checkIndex_8e157 0 rfl) rfl (lv_at hl 0 rfl) ?_
    refine lv_if_lt (tgt := 9) hx hb (dJ3_checkIndex_8e157 1 rfl) (by decide) (fun q => absurd q h0) (fun _ => ?_)
    refine lv_iload_n hx hb (dJ3_checkIndex_8e157 2 rfl) rfl (lv_at hl 0 rfl) ?_
    refine lv_iload_n hx hb (dJ3_checkIndex_8e157 3 rfl) rfl (lv_at hl 1 rfl) ?_
    refine lv_icmp_lt (tgt := 16) hx hb (dJ3_checkIndex_8e157 4 rfl) (by decide) (fun _ => ?_) (fun q => absurd h1 q)
    refine lv_iload_n hx hb (dJ3_checkIndex_8e157 10 rfl) rfl (lv_at hl 0 rfl) ?_
    exact hZ x () _ _ ls 17 rfl hP hD hS (dJ3_checkIndex_8e157 11 rfl) rfl
  | some t =>
    refine ob_met_i (cc := cJ3_checkIndex_8e157) (maxL := 3) (by decide) (Nat.le_of_ble_eq_true rfl) (fun p e s m args below meth c A Z hx hb hml hown hts hnm hN hK hA hI hP hD hS hZ ls hl => ?_)
    have hl : lv_has ls 3 [(0, .int x), (1, .int n), (2, .ref t)] := hl
    refine lv_iload_n hx hb (dJ3_checkIndex_8e157 0 rfl) rfl (lv_at hl 0 rfl) ?_
    refine lv_if_lt (tgt := 9) hx hb (dJ3_checkIndex_8e157 1 rfl) (by decide) (fun q => absurd q h0) (fun _ => ?_)
    refine lv_iload_n hx hb (dJ3_checkIndex_8e157 2 rfl) rfl (lv_at hl 0 rfl) ?_
    refine lv_iload_n hx hb (dJ3_checkIndex_8e157 3 rfl) rfl (lv_at hl 1 rfl) ?_
    refine lv_icmp_lt (tgt := 16) hx hb (dJ3_checkIndex_8e157 4 rfl) (by decide) (fun _ => ?_) (fun q => absurd h1 q)
    refine lv_iload_n hx hb (dJ3_checkIndex_8e157 10 rfl) rfl (lv_at hl 0 rfl) ?_
    exact hZ x () _ _ ls 17 rfl hP hD hS (dJ3_checkIndex_8e157 11 rfl) rfl
abbrev rmJchk : Room := { frames := 1, cells := 0, slots := 0, locals := 40 }
theorem k_Jchk (l : Launch) (D : va_G) (cI cZ cL : ClassId) (im : obIM) (sz : Nat) {x n : Int32} (h0 : ¬ x < 0) (h1 : x < n) : Met l yJ0_checkIndex_df160 (Cond.code yJ0_checkIndex_df160 cJ0_checkIndex_df160 2 none :: wsL_law) rmJchk (obPre D (tyG cI cZ cL) im [] sz [.int x, .int n]) (va_Qv (fun (_ : Unit) => True) (obB D (va_A [] sz) (fun _ : Unit => [])) (va_A [] sz)) 0 0 (va_A [] sz) := by
  refine ob_met_v (cc := cJ0_checkIndex_df160) (maxL := 2) (by decide) (Nat.le_of_ble_eq_true rfl) (fun p e s m args below meth c A Z hx hb hml hown hts hnm hN hK hA hI hP hD hS hZ ls hl => ?_)
  have hl : lv_has ls 2 [(0, .int x), (1, .int n)] := hl
  refine lv_iload_n hx hb (dJ0_checkIndex_df160 0 rfl) rfl (lv_at hl 0 rfl) ?_
  refine lv_iload_n hx hb (dJ0_checkIndex_df160 1 rfl) rfl (lv_at hl 1 rfl) ?_
  rcases hI.2.2.2.2.2 with hz | ⟨t, hz⟩
  · refine va_gets hx hb hz hS hown (hts (.fieldLink RJ0 1053 "jdk/internal/util/Preconditions" "SIOOBE_FORMATTER" "Ljava/util/function/BiFunction;") (inR7 _ (List.mem_of_getElem? (i := 23) rfl))) (fun _ h => h) (dJ0_checkIndex_df160 2 rfl) ?_
    have hcut := ob_cut (wc := []) hP hD hS hA [] rfl (by decide)
    refine ob_i (wr := []) (ob_S (As := [.int x, .int n, .null]) (rest := []) ⟨hx, hb, hml, hown, hts⟩ hK hcut (hI.cut hS hcut.2.2) hN (k_Jpre l D cI cZ cL im _ none h0 h1) (cwS2 3 hts (hts (.methodLink RJ0 1059 yJ3_checkIndex_8e157) (inR8 _ (List.mem_of_getElem? (i := 0) rfl))) (hts (.static yJ3_checkIndex_8e157) (inR8 _ (List.mem_of_getElem? (i := 1) rfl))) (hts (.initialized RJ3) (inR8 _ (List.mem_of_getElem? (i := 2) rfl))) (goodU_c (inR8 _ (List.mem_of_getElem? (i := 3) rfl))) rfl rfl rfl (by decide +kernel) ⟨Nat.le_of_ble_eq_true rfl, Nat.le_of_ble_eq_true rfl⟩) rfl hl.1 rfl (Nat.le_of_ble_eq_true rfl) (dJ0_checkIndex_df160 3 rfl) ⟨Nat.zero_le _, Nat.zero_le _⟩) hP hD hS hcut [] [] rfl rfl (by decide) (by decide) (fun r u H locs hm hP hD hS => ?_)
    refine lv_pop hx hb (dJ0_checkIndex_df160 4 rfl) rfl ?_
    exact hZ () _ _ ls 9 trivial hP hD hS (dJ0_checkIndex_df160 5 rfl)
  · refine va_gets hx hb hz hS hown (hts (.fieldLink RJ0 1053 "jdk/internal/util/Preconditions" "SIOOBE_FORMATTER" "Ljava/util/function/BiFunction;") (inR7 _ (List.mem_of_getElem? (i := 23) rfl))) (fun _ h => h) (dJ0_checkIndex_df160 2 rfl) ?_
    have hcut := ob_cut (wc := []) hP hD hS hA [] rfl (by decide)
    refine ob_i (wr := []) (ob_S (As := [.int x, .int n, .ref t]) (rest := []) ⟨hx, hb, hml, hown, hts⟩ hK hcut (hI.cut hS hcut.2.2) hN (k_Jpre l D cI cZ cL im _ (some t) h0 h1) (cwS2 3 hts (hts (.methodLink RJ0 1059 yJ3_checkIndex_8e157) (inR8 _ (List.mem_of_getElem? (i := 0) rfl))) (hts (.static yJ3_checkIndex_8e157) (inR8 _ (List.mem_of_getElem? (i := 1) rfl))) (hts (.initialized RJ3) (inR8 _ (List.mem_of_getElem? (i := 2) rfl))) (goodU_c (inR8 _ (List.mem_of_getElem? (i := 3) rfl))) rfl rfl rfl (by decide +kernel) ⟨Nat.le_of_ble_eq_true rfl, Nat.le_of_ble_eq_true rfl⟩) rfl hl.1 rfl (Nat.le_of_ble_eq_true rfl) (dJ0_checkIndex_df160 3 rfl) ⟨Nat.zero_le _, Nat.zero_le _⟩) hP hD hS hcut [] [] rfl rfl (by decide) (by decide) (fun r u H locs hm hP hD hS => ?_)
    refine lv_pop hx hb (dJ0_checkIndex_df160 4 rfl) rfl ?_
    exact hZ () _ _ ls 9 trivial hP hD hS (dJ0_checkIndex_df160 5 rfl)
abbrev rmJlch : Room := { frames := 2, cells := 0, slots := 0, locals := 70 }
theorem k_Jlch (l : Launch) (D : va_G) (cI cZ cL : ClassId) (im : obIM) (sz : Nat) {i : Nat} {x : Int32} (hi : i < 10) (hx0 : vp_in x (sLen i)) : Met l yJ1_charAt_3b067 (Cond.code yJ1_charAt_3b067 cJ1_charAt_3b067 2 (some .char) :: wsL_law) rmJlch (obPre D (tyG cI cZ cL) im [] sz [.ref (im.2.2 i), .int x]) (va_Qi (fun (r : Int32) (_ : Unit) => r = sCh i x.toNatClampNeg) (obB D (va_A [] sz) (fun _ : Unit => [])) (va_A [] sz)) 0 0 (va_A [] sz) := by
  refine ob_met_i (cc := cJ1_charAt_3b067) (maxL := 2) (by decide) (Nat.le_of_ble_eq_true rfl) (fun p e s m args below meth c A Z hx hb hml hown hts hnm hN hK hA hI hP hD hS hZ ls hl => ?_)
  have hl : lv_has ls 2 [(0, .ref (im.2.2 i)), (1, .int x)] := hl
  have h31 : ∀ j, j < 10 → sLen j < 2 ^ 31 := by decide
  obtain ⟨j, hj, rfl⟩ := vp_in_of hx0 (h31 i hi)
  refine lv_iload_n hx hb (dJ1_charAt_3b067 0 rfl) rfl (lv_at hl 1 rfl) ?_
  refine lv_aload_n hx hb (dJ1_charAt_3b067 1 rfl) rfl (lv_at hl 0 rfl) ?_
  refine va_tlen hx hb (hI.2.2.1.1 i hi).2.2.2 hS rfl (dJ1_charAt_3b067 2 rfl) ?_
  have hcut := ob_cut (wc := []) hP hD hS hA [] rfl (by decide)
  refine ob_v (wr := []) (ob_S (As := [.int (nI j), .int (nI (sLen i))]) (rest := []) ⟨hx, hb, hml, hown, hts⟩ hK hcut (hI.cut hS hcut.2.2) hN (k_Jchk l D cI cZ cL im _ (nI_pos (Nat.lt_trans hj (h31 i hi))) (nI_lt hj (h31 i hi))) (cwS2 2 hts (hts (.methodLink RJ1 9 yJ0_checkIndex_df160) (inR7 _ (List.mem_of_getElem? (i := 20) rfl))) (hts (.static yJ0_checkIndex_df160) (inR7 _ (List.mem_of_getElem? (i := 21) rfl))) (hts (.initialized RJ0) (inR6 _ (List.mem_of_getElem? (i := 23) rfl))) (goodU_c (inR7 _ (List.mem_of_getElem? (i := 22) rfl))) rfl rfl rfl (by decide +kernel) ⟨Nat.le_of_ble_eq_true rfl, Nat.le_of_ble_eq_true rfl⟩) rfl hl.1 rfl (Nat.le_of_ble_eq_true rfl) (dJ1_charAt_3b067 3 rfl) ⟨Nat.zero_le _, Nat.zero_le _⟩) hP hD hS hcut [] [] rfl rfl (by decide) (by decide) (fun u H locs hm hP hD hS => ?_)
  refine lv_aload_n hx hb (dJ1_charAt_3b067 4 rfl) rfl (lv_at hl 0 rfl) ?_
  refine lv_iload_n hx hb (dJ1_charAt_3b067 5 rfl) rfl (lv_at hl 1 rfl) ?_
  refine va_tb hx hb (hI.2.2.1.1 i hi).2.2.2 hS hx0 rfl (dJ1_charAt_3b067 6 rfl) ?_
  refine lv_sipush (v := (255 : Int32)) hx hb (dJ1_charAt_3b067 7 rfl) (by decide) ?_
  refine lv_iand hx hb (dJ1_charAt_3b067 8 rfl) ?_
  refine lv_i2c hx hb (dJ1_charAt_3b067 9 rfl) (sc_c2 _) ?_
  exact hZ _ () _ _ ls 14 rfl hP hD hS (dJ1_charAt_3b067 10 rfl) (sc_nar _)
abbrev rmJch : Room := { frames := 3, cells := 0, slots := 0, locals := 100 }
theorem k_Jch (l : Launch) (D : va_G) (cI cZ cL : ClassId) (im : obIM) (sz : Nat) {i : Nat} {x : Int32} (hi : i < 10) (hx0 : vp_in x (sLen i)) : Met l yJ0_charAt_5068e (Cond.code yJ0_charAt_5068e cJ0_charAt_5068e 2 (some .char) :: wsL_law) rmJch (obPre D (tyG cI cZ cL) im [] sz [.ref (im.2.1 i), .int x]) (va_Qi (fun (r : Int32) (_ : Unit) => r = sCh i x.toNatClampNeg) (obB D (va_A [] sz) (fun _ : Unit => [])) (va_A [] sz)) 0 0 (va_A [] sz) := by
  refine ob_met_i (cc := cJ0_charAt_5068e) (maxL := 2) (by decide) (Nat.le_of_ble_eq_true rfl) (fun p e s m args below meth c A Z hx hb hml hown hts hnm hN hK hA hI hP hD hS hZ ls hl => ?_)
  have hl : lv_has ls 2 [(0, .ref (im.2.1 i)), (1, .int x)] := hl
  refine lv_aload_n hx hb (dJ0_charAt_5068e 0 rfl) rfl (lv_at hl 0 rfl) ?_
  have hcut := ob_cut (wc := []) hP hD hS hA [] rfl (by decide)
  refine ob_i (wr := []) (ob_V (As := []) (rest := []) ⟨hx, hb, hml, hown, hts⟩ hK hcut (hI.cut hS hcut.2.2) hN (vk_recv hI.2.2.1 hi hS) (k_Jlat l D cI cZ cL im _ hi) (cwV 0 hts (gU_V (inR7 _ (List.mem_of_getElem? (i := 12) rfl)) (inR7 _ (List.mem_of_getElem? (i := 13) rfl)) (inR7 _ (List.mem_of_getElem? (i := 14) rfl)) (inR6 _ (List.mem_of_getElem? (i := 23) rfl)) (inR7 _ (List.mem_of_getElem? (i := 15) rfl))) rfl rfl rfl (by decide +kernel) ⟨Nat.le_of_ble_eq_true rfl, Nat.le_of_ble_eq_true rfl⟩) rfl hl.1 rfl (Nat.le_of_ble_eq_true rfl) (dJ0_charAt_5068e 1 rfl) ⟨Nat.zero_le _, Nat.zero_le _⟩) hP hD hS hcut [] [] rfl rfl (by decide) (by decide) (fun r u H locs hm hP hD hS => ?_)
  subst hm
  refine lv_if_eq (tgt := 16) hx hb (dJ0_charAt_5068e 2 rfl) (by decide) (fun q => absurd q (by decide)) (fun _ => ?_)
  refine lv_aload_n hx hb (dJ0_charAt_5068e 3 rfl) rfl (lv_at hl 0 rfl) ?_
  refine vk_getf hx hb (hI.2.2.1.1 i hi).2.2.1 hS hown (hts (.fieldLink RJ0 9 "java/lang/String" "value" "[B") (inR7 _ (List.mem_of_getElem? (i := 1) rfl))) (fun _ h => h) (dJ0_charAt_5068e 4 rfl) ?_
  refine lv_iload_n hx hb (dJ0_charAt_5068e 5 rfl) rfl (lv_at hl 1 rfl) ?_
  have hcut := ob_cut (wc := []) hP hD hS hA [] rfl (by decide)
  refine ob_i (wr := []) (ob_S (As := [.ref (im.2.2 i), .int x]) (rest := []) ⟨hx, hb, hml, hown, hts⟩ hK hcut (hI.cut hS hcut.2.2) hN (k_Jlch l D cI cZ cL im _ hi hx0) (cwS2 2 hts (hts (.methodLink RJ0 495 yJ1_charAt_3b067) (inR7 _ (List.mem_of_getElem? (i := 16) rfl))) (hts (.static yJ1_charAt_3b067) (inR7 _ (List.mem_of_getElem? (i := 17) rfl))) (hts (.initialized RJ1) (inR7 _ (List.mem_of_getElem? (i := 18) rfl))) (goodU_c (inR7 _ (List.mem_of_getElem? (i := 19) rfl))) rfl rfl rfl (by decide +kernel) ⟨Nat.le_of_ble_eq_true rfl, Nat.le_of_ble_eq_true rfl⟩) rfl hl.1 rfl (Nat.le_of_ble_eq_true rfl) (dJ0_charAt_5068e 6 rfl) ⟨Nat.zero_le _, Nat.zero_le _⟩) hP hD hS hcut [] [] rfl rfl (by decide) (by decide) (fun r u H locs hm hP hD hS => ?_)
  subst hm
  exact hZ _ () _ _ ls 15 rfl hP hD hS (dJ0_charAt_5068e 7 rfl) (sc_nar _)
section OBS
variable {p : Program} {l : Launch} {e : Env} {R : Room} {s : State} {m : MethodId} {args : Array Value} {below : List Frame} {meth : Method} {c : Code} {H : Heap} {locs : List Loc} {cells slots : Nat} {Q : State → Prop}
variable {cc : ByteArray} {nL index : Nat} {own : String} {rest : List Value} {pc : Nat} {ls : Array Slot} {D : va_G} {cI cZ cL : ClassId} {im : obIM} {ws : va_W} {A : Nat → Prop}
theorem ob_length {i : Nat} (hexec : p.tables.exec = Jvm.exec) (hb : c.code = cc) (hml : c.maxLocals = nL) (hown : s.vm.findClass own = some m.cls) (hts : ∀ w ∈ wsL_law, w.before args s = true) (hK : va_K D vwCl (tyG cI cZ cL) s) (hP : va_P D vwCl ws H) (hD : va_D A ws) (hS : va_S A s.heap H locs) (hA : ∀ q, s.heap.size ≤ q → A q) (hI : obI D im A s s.heap) (hN : obW s) (hi : i < 10)
    (hl : Cond.methodLink own index yJ0_length_8abf5 ∈ wsL_law) (hsize : ls.size = nL) (hW : (rest.map fun v => v.category).sum ≤ 8) (hdg : decode cc pc = .ok (.invokevirtual index, 3)) (hfr : 6 ≤ R.frames) (hlo : 150 ≤ R.locals) (HC : cells + 0 ≤ R.cells) (HSL : slots + 0 ≤ R.slots)
    (kk : ∀ (H1 : Heap) (locs1 : List Loc), va_P D vwCl ws H1 → va_D A ws → va_S A s.heap H1 locs1 → W p l e R s m args below meth c H1 locs1 cells slots Q (F0 m (pc + 3) ls (.int (nI (sLen i)) :: rest))) : W p l e R s m args below meth c H locs cells slots Q (F0 m pc ls (.ref (im.2.1 i) :: rest)) := by
  have hcut := ob_cut0 (D := D) hS hA
  refine ob_ro_i (ob_V (As := []) (rest := rest) ⟨hexec, hb, hml, hown, hts⟩ hK hcut (hI.cut hS hcut.2.2) hN (vk_recv hI.2.2.1 hi hS) (k_Jlen l D cI cZ cL im _ hi) (cwV 0 hts (gU_V hl (inR6 _ (List.mem_of_getElem? (i := 21) rfl)) (inR6 _ (List.mem_of_getElem? (i := 22) rfl)) (inR6 _ (List.mem_of_getElem? (i := 23) rfl)) (inR7 _ (List.mem_of_getElem? (i := 0) rfl))) rfl rfl rfl (by decide +kernel) ⟨Nat.le_trans (Nat.le_of_ble_eq_true rfl) hfr, Nat.le_trans (Nat.le_of_ble_eq_true rfl) hlo⟩) rfl hsize rfl hW hdg ⟨HC, HSL⟩) hP hD hS hA (fun r H1 locs1 hm hP1 hD1 hS1 => ?_)
  subst hm
  exact kk H1 locs1 hP1 hD1 hS1
theorem ob_charAt {i : Nat} {x : Int32} (hexec : p.tables.exec = Jvm.exec) (hb : c.code = cc) (hml : c.maxLocals = nL) (hown : s.vm.findClass own = some m.cls) (hts : ∀ w ∈ wsL_law, w.before args s = true) (hK : va_K D vwCl (tyG cI cZ cL) s) (hP : va_P D vwCl ws H) (hD : va_D A ws) (hS : va_S A s.heap H locs) (hA : ∀ q, s.heap.size ≤ q → A q) (hI : obI D im A s s.heap) (hN : obW s) (hi : i < 10) (hix : vp_in x (sLen i))
    (hl : Cond.methodLink own index yJ0_charAt_5068e ∈ wsL_law) (hsize : ls.size = nL) (hW : (rest.map fun v => v.category).sum ≤ 8) (hdg : decode cc pc = .ok (.invokevirtual index, 3)) (hfr : 6 ≤ R.frames) (hlo : 150 ≤ R.locals) (HC : cells + 0 ≤ R.cells) (HSL : slots + 0 ≤ R.slots)
    (kk : ∀ (H1 : Heap) (locs1 : List Loc), va_P D vwCl ws H1 → va_D A ws → va_S A s.heap H1 locs1 → W p l e R s m args below meth c H1 locs1 cells slots Q (F0 m (pc + 3) ls (.int (sCh i x.toNatClampNeg) :: rest))) : W p l e R s m args below meth c H locs cells slots Q (F0 m pc ls (.int x :: .ref (im.2.1 i) :: rest)) := by
  have hcut := ob_cut0 (D := D) hS hA
  refine ob_ro_i (ob_V (As := [.int x]) (rest := rest) ⟨hexec, hb, hml, hown, hts⟩ hK hcut (hI.cut hS hcut.2.2) hN (vk_recv hI.2.2.1 hi hS) (k_Jch l D cI cZ cL im _ hi hix) (cwV 1 hts (gU_V hl (inR7 _ (List.mem_of_getElem? (i := 9) rfl)) (inR7 _ (List.mem_of_getElem? (i := 10) rfl)) (inR6 _ (List.mem_of_getElem? (i := 23) rfl)) (inR7 _ (List.mem_of_getElem? (i := 11) rfl))) rfl rfl rfl (by decide +kernel) ⟨Nat.le_trans (Nat.le_of_ble_eq_true rfl) hfr, Nat.le_trans (Nat.le_of_ble_eq_true rfl) hlo⟩) rfl hsize rfl hW hdg ⟨HC, HSL⟩) hP hD hS hA (fun r H1 locs1 hm hP1 hD1 hS1 => ?_)
  subst hm
  exact kk H1 locs1 hP1 hD1 hS1
end OBS
