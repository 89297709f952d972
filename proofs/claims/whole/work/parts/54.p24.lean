/-! PURE: of, told, leap, as, count, trace, act -/
def ofA (D : DT) (st : TS) (a b : Int32) : Int32 := match idx (dN D) a with
  | none => -1
  | some p => if b = 0 then nI (dK D p) else if b = 1 then nI (dV D p) else if b = 2 then nI (dH D p) else if b = 3 then nI (tB st p) else if b = 4 then nI (bkN (dK D) (dH D) (dR D) 7 (tT st) p) else if b = 5 then nI (ixN (tP st) p (dN D)) else -1
theorem q_ofC {D : DT} {gap far : Nat} {lk : LKT} {fk : FKT} {nF : Option Nat} {nS nT nY nM nG nA nL : Int32} {nP : Nat → Option Nat} {nC nB nR : AR} {st : TS} {a b : Int32} {Q : Int32 → Prop} (h : NowC D gap far lk fk nF nS nT nY nM nG nA nL nP nC nB nR st) (hQ : Q (ofA D st a b)) : m_X11_of lk nS nT nL nP nC nB nR a b Q := by
  have hs := h.2.2.1
  have hN := hs.2.1
  have ht : tT st ≤ 999 := h.2.2.2.1
  unfold ofA at hQ
  unfold m_X11_of
  refine q_findC h (fun p ad hp e ei hb hl => ⟨fun c => (by cases c), fun b3 eb => ?_⟩) (fun e => ⟨fun _ => by rw [e] at hQ; exact hQ, fun b4 c => (by cases c)⟩)
  cases eb
  subst e
  rw [ei] at hQ
  dsimp only at hQ
  refine ⟨fun c => ?_, fun c => ?_, fun c => ?_, fun c => ?_, fun c => ?_, fun c => ?_, fun c => ?_⟩
  · rw [if_pos c] at hQ
    exact q_kindV hl (h.1.1.2 p hp).1 hQ
  · subst c
    rw [if_neg (by decide), if_pos rfl] at hQ
    exact ⟨_, _, _, _, hl, hQ⟩
  · subst c
    rw [if_neg (by decide), if_neg (by decide), if_pos rfl] at hQ
    exact ⟨_, _, _, _, hl, hQ⟩
  · subst c
    rw [if_neg (by decide), if_neg (by decide), if_neg (by decide), if_pos rfl] at hQ
    rw [nI_clamp (by omega), h.2.1.2.2.2.2.2 p hp]
    exact ⟨vp_in_nI (by omega) (by decide), hQ⟩
  · subst c
    rw [if_neg (by decide), if_neg (by decide), if_neg (by decide), if_neg (by decide), if_pos rfl] at hQ
    rw [h.2.1.2.1]
    exact q_backOfC h.1.1 hp (h.1.2.1 p hp) h.1.2.2.1 h.1.2.2.2.1 (by omega) hQ
  · subst c
    rw [if_neg (by decide), if_neg (by decide), if_neg (by decide), if_neg (by decide), if_neg (by decide), if_pos rfl] at hQ
    rw [h.2.1.1]
    exact q_placeOfC hs h.2.1.2.2.2.2.1 (h.2.2.2.2.2.2.2.2.1 p hp) (fun i _ _ ex => by rw [← ex]; exact hQ)
  · have n0 : ∀ k, k < 6 → ¬ b = nI k := fun k hk e => by rw [e, nI_toInt (by omega)] at c; omega
    rw [if_neg (show ¬ b = 0 from n0 0 (by omega)), if_neg (show ¬ b = 1 from n0 1 (by omega)), if_neg (show ¬ b = 2 from n0 2 (by omega)), if_neg (show ¬ b = 3 from n0 3 (by omega)), if_neg (show ¬ b = 4 from n0 4 (by omega)), if_neg (show ¬ b = 5 from n0 5 (by omega))] at hQ
    exact hQ
theorem q_ofM {D : DT} {nf gap far : Nat} {s : AR} {st : TS} {a b : Int32} {Q : Int32 → Prop} (h : NowM D nf gap far s st) (hQ : Q (ofA D st a b)) : m_X12_of s a b Q := by
  obtain ⟨hW, hS, hs, ht, hu⟩ := h
  have hN := hs.2.1
  unfold ofA at hQ
  refine q_isPersonM hN hW.2.1.1 (fun p hp e ei => ⟨fun c => absurd c (by decide), fun _ => ?_⟩) (fun ei => ⟨fun _ => by rw [ei] at hQ; exact hQ, fun c => absurd rfl c⟩)
  subst e
  rw [ei] at hQ
  dsimp only at hQ
  obtain ⟨hk, hv, hh⟩ := hW.2.1.2.1 p hp
  obtain ⟨hk6, hv9, hh9⟩ := hW.1.1.2 p hp
  have e11 : ((11 : Int32) + nI p).toNatClampNeg = 11 + p := ixc rfl (by omega)
  rw [e11]
  refine ⟨fun c => ?_, fun c3 => ⟨fun c => ?_, fun c4 => ⟨fun c => ?_, fun c5 => ?_⟩⟩⟩
  · subst c
    rw [if_neg (by decide), if_neg (by decide), if_neg (by decide), if_pos rfl] at hQ
    rw [hS.2.2.2.2.2 p hp]
    exact ⟨vpc (k := 11) rfl (by omega) (by decide), hQ⟩
  · subst c
    rw [if_neg (by decide), if_neg (by decide), if_neg (by decide), if_neg (by decide), if_pos rfl] at hQ
    have hm : tT st % 3 < 3 := Nat.mod_lt _ (by decide)
    refine q_backM (ki := dK D p) (h := dH D p) (r := dR D (3 * p + tT st % 3)) (t := tT st) (by omega) hk hk6 hh hh9 hS.1 (by omega) (by rw [Nat.add_assoc]; exact hW.2.1.2.2 _ (by omega)) ?_
    unfold bkN at hQ
    rw [if_neg (by omega)] at hQ
    exact hQ
  · subst c
    rw [if_neg (by decide), if_neg (by decide), if_neg (by decide), if_neg (by decide), if_neg (by decide), if_pos rfl] at hQ
    exact q_placeOfM hs hS (hu p hp) (fun i _ _ ex => by rw [← ex]; exact hQ)
  · rw [if_neg c3, if_neg c4, if_neg c5] at hQ
    refine q_inIdx 2 rfl (by decide) (fun k hk2 e ek => ⟨fun c => absurd c (by decide), fun _ => ?_⟩) (fun ek => ⟨fun _ => ?_, fun c => absurd rfl c⟩)
    · subst e
      have : k = 0 ∨ k = 1 ∨ k = 2 := by omega
      rcases this with rfl | rfl | rfl
      · rw [if_pos (show nI 0 = 0 from rfl)] at hQ
        have e24 : ((24 : Int32) + ((7 : Int32) * nI 0)) + nI p = nI (24 + p) := by rw [show (24 : Int32) + ((7 : Int32) * nI 0) = nI 24 from by decide, nI_add]
        rw [e24, nI_clamp (by omega), hk]
        exact ⟨vp_in_nI (by omega) (by decide), hQ⟩
      · rw [if_neg (show ¬ nI 1 = 0 from by decide), if_pos (show nI 1 = 1 from rfl)] at hQ
        have e24 : ((24 : Int32) + ((7 : Int32) * nI 1)) + nI p = nI (31 + p) := by rw [show (24 : Int32) + ((7 : Int32) * nI 1) = nI 31 from by decide, nI_add]
        rw [e24, nI_clamp (by omega), hv]
        exact ⟨vp_in_nI (by omega) (by decide), hQ⟩
      · rw [if_neg (show ¬ nI 2 = 0 from by decide), if_neg (show ¬ nI 2 = 1 from by decide), if_pos (show nI 2 = 2 from rfl)] at hQ
        have e24 : ((24 : Int32) + ((7 : Int32) * nI 2)) + nI p = nI (38 + p) := by rw [show (24 : Int32) + ((7 : Int32) * nI 2) = nI 38 from by decide, nI_add]
        rw [e24, nI_clamp (by omega), hh]
        exact ⟨vp_in_nI (by omega) (by decide), hQ⟩
    · have n0 : ∀ k, k < 3 → ¬ b = nI k := fun k hk e => by rw [e, idx_some hk (by omega)] at ek; cases ek
      rw [if_neg (show ¬ b = 0 from n0 0 (by omega)), if_neg (show ¬ b = 1 from n0 1 (by omega)), if_neg (show ¬ b = 2 from n0 2 (by omega))] at hQ
      exact hQ
def toldA (D : DT) (gap far : Nat) (st : TS) (a : Int32) : Int32 := if a = 0 then nI (tT st) else if a = 1 then nI (tY st) else if a = 2 then nI (tM st) else if a = 3 then nI gap else if a = 4 then nI far else match idx (dN D) (a - 10) with
  | none => -1
  | some k => nI (tP st k)
theorem q_toldC {D : DT} {gap far : Nat} {lk : LKT} {fk : FKT} {nF : Option Nat} {nS nT nY nM nG nA nL : Int32} {nP : Nat → Option Nat} {nC nB nR : AR} {st : TS} {a : Int32} {Q : Int32 → Prop} (h : NowC D gap far lk fk nF nS nT nY nM nG nA nL nP nC nB nR st) (hQ : Q (toldA D gap far st a)) : m_X11_told nS nT nY nM nG nA nC a Q := by
  have hs := h.2.2.1
  have hN := hs.2.1
  have hS := h.2.1
  unfold toldA at hQ
  refine ⟨fun c => ?_, fun c => ?_, fun c => ?_, fun c => ?_, fun c => ?_, fun c => ?_⟩
  · subst c
    rw [if_pos rfl] at hQ
    rw [hS.2.1]; exact hQ
  · subst c
    rw [if_neg (by decide), if_pos rfl] at hQ
    rw [hS.2.2.1]; exact hQ
  · subst c
    rw [if_neg (by decide), if_neg (by decide), if_pos rfl] at hQ
    rw [hS.2.2.2.1]; exact hQ
  · subst c
    rw [if_neg (by decide), if_neg (by decide), if_neg (by decide), if_pos rfl] at hQ
    rw [h.1.2.2.2.2.2.2.2.1]; exact hQ
  · subst c
    rw [if_neg (by decide), if_neg (by decide), if_neg (by decide), if_neg (by decide), if_pos rfl] at hQ
    rw [h.2.2.2.2.1]; exact hQ
  · have n0 : ∀ k, k < 5 → ¬ a = nI k := fun k hk e => by rw [e, nI_toInt (by omega)] at c; omega
    rw [if_neg (show ¬ a = 0 from n0 0 (by omega)), if_neg (show ¬ a = 1 from n0 1 (by omega)), if_neg (show ¬ a = 2 from n0 2 (by omega)), if_neg (show ¬ a = 3 from n0 3 (by omega)), if_neg (show ¬ a = 4 from n0 4 (by omega))] at hQ
    rw [hS.1]
    rcases pk_ix (a - 10) (n := dN D) (by omega) with q | q | ⟨k, hk, e⟩
    · have : idx (dN D) (a - 10) = none := idx_none (fun p hp e => by rw [e] at q; exact nI_pos (by omega) q)
      rw [this] at hQ
      exact ⟨fun _ => hQ, fun z => absurd q z⟩
    · have : idx (dN D) (a - 10) = none := idx_none (fun p hp e => by rw [e] at q; exact nI_ge hp (by omega) q)
      rw [this] at hQ
      exact ⟨fun _ => hQ, fun _ => ⟨fun _ => hQ, fun z => absurd q z⟩⟩
    · rw [e, idx_some hk (by omega)] at hQ
      rw [e]
      refine ⟨fun z => absurd z (nI_pos (by omega)), fun _ => ⟨fun z => absurd z (nI_ge hk (by omega)), fun _ => ?_⟩⟩
      rw [nI_clamp (by omega), hS.2.2.2.2.1 k hk]
      exact ⟨vp_in_nI (by omega) (by decide), hQ⟩
theorem q_inPm {a : Int32} {N : Nat} {Q : Int32 → Prop} (hN : N ≤ 100) (h1 : ∀ p, p < N → a = nI p → idx N a = some p → Q 1) (h0 : idx N a = none → Q 0) : m_X12_in a 0 (nI N - 1) Q := by
  cases N with
  | zero =>
    refine q_in (fun c d => ?_) (fun _ => h0 (idx_none (fun p hp => absurd hp (by omega))))
    rw [Int32.lt_iff_toInt_lt] at c d
    rw [show (nI 0 - 1 : Int32).toInt = -1 from by decide] at d
    rw [show (0 : Int32).toInt = 0 from rfl] at c
    omega
  | succ n =>
    rw [m1_pred]
    exact q_inIdx n rfl (by omega) (fun k hk e ei => h1 k (by omega) e ei) h0
theorem q_toldM {D : DT} {nf gap far : Nat} {s : AR} {st : TS} {a : Int32} {Q : Int32 → Prop} (h : NowM D nf gap far s st) (hQ : Q (toldA D gap far st a)) : m_X12_told s a Q := by
  obtain ⟨hW, hS, hs, ht, hu⟩ := h
  have hN := hs.2.1
  unfold toldA at hQ
  unfold m_X12_told
  rw [show (3 : Int32).toNatClampNeg = 3 from rfl, hS.2.2.2.1]
  refine q_inPm (by omega) (fun k hk e ei => ⟨fun c => absurd c (by decide), fun _ => ?_⟩) (fun ei => ⟨fun _ => ⟨fun c => ?_, fun c => ?_, fun c => ?_, fun c => ?_, fun c => ?_, fun c => ?_⟩, fun c => absurd rfl c⟩)
  · have ea := sub10 e
    have n0 : ∀ j, j < 5 → ¬ a = nI j := fun j hj e' => by
      rw [ea] at e'
      have := (nI_eq (by omega) (by omega)).mp e'
      omega
    rw [if_neg (show ¬ a = 0 from n0 0 (by omega)), if_neg (show ¬ a = 1 from n0 1 (by omega)), if_neg (show ¬ a = 2 from n0 2 (by omega)), if_neg (show ¬ a = 3 from n0 3 (by omega)), if_neg (show ¬ a = 4 from n0 4 (by omega)), ei] at hQ
    have e4 : ((4 : Int32) + a) - (10 : Int32) = nI (4 + k) := by rw [ea, show (4 : Int32) = nI 4 from rfl, nI_add, show (10 : Int32) = nI 10 from rfl, pk_sub (by omega), show 4 + (k + 10) - 10 = 4 + k from by omega]
    rw [e4, nI_clamp (by omega), hS.2.2.2.2.1 k hk]
    exact ⟨vp_in_nI (by omega) (by decide), hQ⟩
  · subst c
    rw [if_pos rfl] at hQ
    rw [show (0 : Int32).toNatClampNeg = 0 from rfl, hS.1]
    exact ⟨vp_in_iff.mpr (by decide), hQ⟩
  · subst c
    rw [if_neg (by decide), if_pos rfl] at hQ
    rw [show (1 : Int32).toNatClampNeg = 1 from rfl, hS.2.1]
    exact ⟨vp_in_iff.mpr (by decide), hQ⟩
  · subst c
    rw [if_neg (by decide), if_neg (by decide), if_pos rfl] at hQ
    rw [show (2 : Int32).toNatClampNeg = 2 from rfl, hS.2.2.1]
    exact ⟨vp_in_iff.mpr (by decide), hQ⟩
  · subst c
    rw [if_neg (by decide), if_neg (by decide), if_neg (by decide), if_pos rfl] at hQ
    exact q_tellsOf hW hQ
  · subst c
    rw [if_neg (by decide), if_neg (by decide), if_neg (by decide), if_neg (by decide), if_pos rfl] at hQ
    exact q_tellsFar hW hQ
  · have n0 : ∀ k, k < 5 → ¬ a = nI k := fun k hk e => by rw [e, nI_toInt (by omega)] at c; omega
    rw [if_neg (show ¬ a = 0 from n0 0 (by omega)), if_neg (show ¬ a = 1 from n0 1 (by omega)), if_neg (show ¬ a = 2 from n0 2 (by omega)), if_neg (show ¬ a = 3 from n0 3 (by omega)), if_neg (show ¬ a = 4 from n0 4 (by omega)), ei] at hQ
    exact hQ
def leapA (D : DT) (gap : Nat) (st : TS) (a b c : Int32) : Int32 := match idx (dN D) a, idx (dN D) b with
  | some p, some o => if c = 0 ∨ c = 1 then (if p = o then -2 else if c = 0 then nI (dL D gap 7 (tT st) (tB st p) p o) else nI (rsk D (tT st) (tB st p) p o)) else -1
  | _, _ => -1
theorem q_leapC {D : DT} {gap far : Nat} {lk : LKT} {fk : FKT} {nF : Option Nat} {nS nT nY nM nG nA nL : Int32} {nP : Nat → Option Nat} {nC nB nR : AR} {st : TS} {se : AR} {a b c : Int32} {Q : Int32 → AR → Prop} (h : NowC D gap far lk fk nF nS nT nY nM nG nA nL nP nC nB nR st) (hQ : ∀ se : AR, Q (leapA D gap st a b c) se) : m_X11_leap lk fk nF nT nG nL nP nB nR se a b c Q := by
  have hs := h.2.2.1
  have hN := hs.2.1
  have ht : tT st ≤ 999 := h.2.2.2.1
  unfold leapA at hQ
  refine q_findC h (fun p ad hp e ei hb hl => ⟨fun c => (by cases c), fun b3 eb => ?_⟩) (fun e => ⟨fun _ => by rw [e] at hQ; exact hQ se, fun b4 c => (by cases c)⟩)
  rw [ei] at hQ
  refine q_findC h (fun o ad2 ho e2 ei2 hb2 hl2 => ⟨fun c => (by cases c), fun b3 eb => ?_⟩) (fun e => ⟨fun _ => by rw [e] at hQ; exact hQ se, fun b4 c => (by cases c)⟩)
  rw [ei2] at hQ
  dsimp only at hQ
  subst e
  subst e2
  refine q_one2 (fun q => ⟨fun z => absurd z (by decide), fun _ => ?_⟩) (fun c0 c1 => ⟨fun _ => ?_, fun z => absurd rfl z⟩)
  · rw [if_pos q] at hQ
    rw [nI_eq (by omega) (by omega)]
    refine ⟨fun z => ?_, fun z => ?_⟩
    · rw [if_pos z] at hQ; exact hQ se
    · rw [if_neg z] at hQ
      obtain ⟨hok, hP, hR, hF, hFd, hsl, hri, hgg, hg⟩ := h.1
      rw [h.2.1.2.1, hgg]
      refine ⟨fun z => ?_, fun z => ?_⟩
      · rw [if_pos z] at hQ
        exact q_leapTimeC hok hp ho hP hR hF hFd hsl (by omega) hg (h.2.1.2.2.2.2.2 p hp) (hs.2.2.2.2.1 p hp) hQ
      · rw [if_neg z] at hQ
        exact q_leapRiskC (gap := gap) (gapI := nI gap) ⟨hok, hP, hR, hF, hFd, hsl, hri, rfl, hg⟩ hp ho (by omega) (h.2.1.2.2.2.2.2 p hp) (hs.2.2.2.2.1 p hp) hQ
  · rw [if_neg (fun z => z.elim c0 c1)] at hQ
    exact hQ se
theorem q_leapM {D : DT} {nf gap far : Nat} {s yb tr : AR} {st : TS} {fs fr a b c : Int32} {Q : Int32 → Int32 → Int32 → AR → AR → Prop} (h : NowM D nf gap far s st) (hQ : ∀ (fs' fr' : Int32) (yb' tr' : AR), Q (leapA D gap st a b c) fs' fr' yb' tr') : m_X12_leap fs fr (-1) s yb tr a b c Q := by
  obtain ⟨hW, hS, hs, ht, hu⟩ := h
  have hN := hs.2.1
  have hF : FlatC (-1) 7 := Or.inl ⟨rfl, rfl⟩
  unfold leapA at hQ
  refine q_isPersonM hN hW.2.1.1 (fun p hp e ei => ⟨fun c => absurd c (by decide), fun _ => ?_⟩) (fun ei => ⟨fun _ => by rw [ei] at hQ; exact hQ _ _ _ _, fun c => absurd rfl c⟩)
  rw [ei] at hQ
  refine q_isPersonM hN hW.2.1.1 (fun o ho e2 ei2 => ⟨fun c => absurd c (by decide), fun _ => ?_⟩) (fun ei => ⟨fun _ => by rw [ei] at hQ; exact hQ _ _ _ _, fun c => absurd rfl c⟩)
  rw [ei2] at hQ
  dsimp only at hQ
  subst e
  subst e2
  refine q_in01 (fun q => ⟨fun z => absurd z (by decide), fun _ => ?_⟩) (fun c0 c1 => ⟨fun _ => ?_, fun z => absurd rfl z⟩)
  · rw [if_pos q] at hQ
    rw [nI_eq (by omega) (by omega)]
    refine ⟨fun z => ?_, fun z => ?_⟩
    · rw [if_pos z] at hQ; exact hQ _ _ _ _
    · rw [if_neg z] at hQ
      refine q_looksForLeap hW hS.1 (hS.2.2.2.2.2 p hp) (hs.2.2.2.2.1 p hp) (by omega) hF hp ho (fun yb' tr' => q_tellsOf hW (fun x19 e19 => ?_))
      rw [nI_add, ← leap0_gap] at e19
      subst e19
      refine ⟨fun z => ?_, fun z => ?_⟩
      · rw [if_pos z] at hQ; exact hQ _ _ _ _
      · rw [if_neg z] at hQ; exact hQ _ _ _ _
  · rw [if_neg (fun z => z.elim c0 c1)] at hQ
    exact hQ _ _ _ _
/-! as -/
def isU (ki k : Nat) : Prop := k = 0 ∨ k = ki ∨ (0 < k ∧ k < 4 ∧ ki = k + 3)
theorem q_isUnderM {ki k : Nat} {Q : Int32 → Prop} (hki : ki ≤ 6) (hk : k ≤ 6) (h1 : isU ki k → Q 1) (h0 : ¬ isU ki k → Q 0) : m_X12_isUnder (nI ki) (nI k) Q := by
  unfold isU at h1 h0
  unfold m_X12_isUnder
  rw [show nI k = 0 ↔ k = 0 from nI_eq (a := k) (b := 0) (by omega) (by omega), nI_eq (a := k) (b := ki) (by omega) (by omega), show nI k ≤ 0 ↔ k ≤ 0 from nI_leI (a := k) (b := 0) (by omega) (by omega), show (4 : Int32) ≤ nI k ↔ 4 ≤ k from nI_leI (a := 4) (b := k) (by omega) (by omega), show nI k + 3 = nI (k + 3) from nI_add k 3, nI_eq (a := ki) (b := k + 3) (by omega) (by omega)]
  exact ⟨fun c => h1 (Or.inl c), fun c => ⟨fun d => h1 (Or.inr (Or.inl d)), fun d => ⟨fun _ => h0 (by omega), fun _ => ⟨fun _ => h0 (by omega), fun _ => ⟨fun _ => h1 (by omega), fun _ => h0 (by omega)⟩⟩⟩⟩⟩
theorem q_isUnderV {lk : LKT} {a p ki v h k : Nat} {Q : Int32 → Prop} (hl : lk a = some (obCi (nI ki), nI p, nI v, nI h)) (hki : ki ≤ 6) (hk : k ≤ 6) (h1 : isU ki k → Q 1) (h0 : ¬ isU ki k → Q 0) : m_V_isUnder lk a (nI k) Q := by
  refine ⟨_, _, _, _, hl, ?_⟩
  unfold isU at h1 h0
  have e : ∀ j, j ≤ 6 → (nI k = nI j ↔ k = j) := fun j hj => nI_eq (by omega) (by omega)
  have b4 : ∀ Q' : Int32 → Prop, (k = 0 → Q' 1) → (¬ k = 0 → Q' 0) → m_X4_isUnder a (nI k) Q' := fun Q' x y => ⟨fun c => x ((e 0 (by omega)).mp c), fun c => y (fun z => c ((e 0 (by omega)).mpr z))⟩
  have b0 : ∀ Q' : Int32 → Prop, (k = 3 ∨ k = 0 → Q' 1) → (¬ (k = 3 ∨ k = 0) → Q' 0) → m_X0_isUnder lk a (nI k) Q' := fun Q' x y => ⟨fun c => x (Or.inl ((e 3 (by omega)).mp c)), fun c => ⟨_, _, _, _, hl, b4 _ (fun z => ⟨fun q => absurd q (by decide), fun _ => x (Or.inr z)⟩) (fun z => ⟨fun _ => y (fun q => q.elim (fun q => c ((e 3 (by omega)).mpr q)) z), fun q => absurd rfl q⟩)⟩⟩
  have b6 : ∀ Q' : Int32 → Prop, (k = 1 ∨ k = 0 → Q' 1) → (¬ (k = 1 ∨ k = 0) → Q' 0) → m_X6_isUnder lk a (nI k) Q' := fun Q' x y => ⟨fun c => x (Or.inl ((e 1 (by omega)).mp c)), fun c => ⟨_, _, _, _, hl, b4 _ (fun z => ⟨fun q => absurd q (by decide), fun _ => x (Or.inr z)⟩) (fun z => ⟨fun _ => y (fun q => q.elim (fun q => c ((e 1 (by omega)).mpr q)) z), fun q => absurd rfl q⟩)⟩⟩
  have b3 : ∀ Q' : Int32 → Prop, (k = 2 ∨ k = 0 → Q' 1) → (¬ (k = 2 ∨ k = 0) → Q' 0) → m_X3_isUnder lk a (nI k) Q' := fun Q' x y => ⟨fun c => x (Or.inl ((e 2 (by omega)).mp c)), fun c => ⟨_, _, _, _, hl, b4 _ (fun z => ⟨fun q => absurd q (by decide), fun _ => x (Or.inr z)⟩) (fun z => ⟨fun _ => y (fun q => q.elim (fun q => c ((e 2 (by omega)).mpr q)) z), fun q => absurd rfl q⟩)⟩⟩
  have b8 : ∀ Q' : Int32 → Prop, (k = 4 ∨ k = 1 ∨ k = 0 → Q' 1) → (¬ (k = 4 ∨ k = 1 ∨ k = 0) → Q' 0) → m_X8_isUnder lk a (nI k) Q' := fun Q' x y => ⟨fun c => x (Or.inl ((e 4 (by omega)).mp c)), fun c => ⟨_, _, _, _, hl, b6 _ (fun z => ⟨fun q => absurd q (by decide), fun _ => x (Or.inr z)⟩) (fun z => ⟨fun _ => y (fun q => q.elim (fun q => c ((e 4 (by omega)).mpr q)) z), fun q => absurd rfl q⟩)⟩⟩
  have b2 : ∀ Q' : Int32 → Prop, (k = 5 ∨ k = 2 ∨ k = 0 → Q' 1) → (¬ (k = 5 ∨ k = 2 ∨ k = 0) → Q' 0) → m_X2_isUnder lk a (nI k) Q' := fun Q' x y => ⟨fun c => x (Or.inl ((e 5 (by omega)).mp c)), fun c => ⟨_, _, _, _, hl, b3 _ (fun z => ⟨fun q => absurd q (by decide), fun _ => x (Or.inr z)⟩) (fun z => ⟨fun _ => y (fun q => q.elim (fun q => c ((e 5 (by omega)).mpr q)) z), fun q => absurd rfl q⟩)⟩⟩
  have b10 : ∀ Q' : Int32 → Prop, (k = 6 ∨ k = 3 ∨ k = 0 → Q' 1) → (¬ (k = 6 ∨ k = 3 ∨ k = 0) → Q' 0) → m_X10_isUnder lk a (nI k) Q' := fun Q' x y => ⟨fun c => x (Or.inl ((e 6 (by omega)).mp c)), fun c => ⟨_, _, _, _, hl, b0 _ (fun z => ⟨fun q => absurd q (by decide), fun _ => x (Or.inr z)⟩) (fun z => ⟨fun _ => y (fun q => q.elim (fun q => c ((e 6 (by omega)).mpr q)) z), fun q => absurd rfl q⟩)⟩⟩
  rcases ki_cases hki with rfl | rfl | rfl | rfl | rfl | rfl | rfl
  · exact ⟨fun c => absurd c (by decide), fun c => absurd c (by decide), fun c => absurd c (by decide), fun _ => b4 Q (fun z => h1 (by omega)) (fun z => h0 (by omega)), fun c => absurd c (by decide), fun c => absurd c (by decide), fun c => absurd c (by decide)⟩
  · exact ⟨fun c => absurd c (by decide), fun c => absurd c (by decide), fun c => absurd c (by decide), fun c => absurd c (by decide), fun _ => b6 Q (fun z => h1 (by omega)) (fun z => h0 (by omega)), fun c => absurd c (by decide), fun c => absurd c (by decide)⟩
  · exact ⟨fun c => absurd c (by decide), fun c => absurd c (by decide), fun _ => b3 Q (fun z => h1 (by omega)) (fun z => h0 (by omega)), fun c => absurd c (by decide), fun c => absurd c (by decide), fun c => absurd c (by decide), fun c => absurd c (by decide)⟩
  · exact ⟨fun _ => b0 Q (fun z => h1 (by omega)) (fun z => h0 (by omega)), fun c => absurd c (by decide), fun c => absurd c (by decide), fun c => absurd c (by decide), fun c => absurd c (by decide), fun c => absurd c (by decide), fun c => absurd c (by decide)⟩
  · exact ⟨fun c => absurd c (by decide), fun c => absurd c (by decide), fun c => absurd c (by decide), fun c => absurd c (by decide), fun c => absurd c (by decide), fun _ => b8 Q (fun z => h1 (by omega)) (fun z => h0 (by omega)), fun c => absurd c (by decide)⟩
  · exact ⟨fun c => absurd c (by decide), fun _ => b2 Q (fun z => h1 (by omega)) (fun z => h0 (by omega)), fun c => absurd c (by decide), fun c => absurd c (by decide), fun c => absurd c (by decide), fun c => absurd c (by decide), fun c => absurd c (by decide)⟩
  · exact ⟨fun c => absurd c (by decide), fun c => absurd c (by decide), fun c => absurd c (by decide), fun c => absurd c (by decide), fun c => absurd c (by decide), fun c => absurd c (by decide), fun _ => b10 Q (fun z => h1 (by omega)) (fun z => h0 (by omega))⟩
def isUB (ki k : Nat) : Bool := k == 0 || (k == ki || (decide (0 < k) && (decide (k < 4) && ki == k + 3)))
theorem isUB_iff {ki k : Nat} : isUB ki k = true ↔ isU ki k := by
  unfold isUB isU
  rw [Bool.or_eq_true, Bool.or_eq_true, Bool.and_eq_true, Bool.and_eq_true, beq_iff_eq, beq_iff_eq, beq_iff_eq, decide_eq_true_eq, decide_eq_true_eq]
def asA (D : DT) (a b : Int32) : Int32 := match idx (dN D) a, idx 7 b with
  | some p, some k => if isUB (dK D p) k then nI (dV D p) else -6
  | _, _ => -1
theorem q_isKind {a : Int32} {Q : Int32 → Prop} (h1 : ∀ k, k < 7 → a = nI k → idx 7 a = some k → Q 1) (h0 : idx 7 a = none → Q 0) : m_X11_isKind a Q := by
  have := q_inIdx (a := a) (hi := 6) 6 rfl (by decide) (Q := Q) (fun k hk e ei => h1 k (by omega) e ei) h0
  exact this
theorem q_isDigit {a : Int32} {Q : Int32 → Prop} (h1 : ∀ k, k < 10 → a = nI k → idx 10 a = some k → Q 1) (h0 : idx 10 a = none → Q 0) : m_X11_isOneDigit a Q := by
  have := q_inIdx (a := a) (hi := 9) 9 rfl (by decide) (Q := Q) (fun k hk e ei => h1 k (by omega) e ei) h0
  exact this
theorem q_asC {D : DT} {gap far : Nat} {lk : LKT} {fk : FKT} {nF : Option Nat} {nS nT nY nM nG nA nL : Int32} {nP : Nat → Option Nat} {nC nB nR : AR} {st : TS} {a b : Int32} {Q : Int32 → Prop} (h : NowC D gap far lk fk nF nS nT nY nM nG nA nL nP nC nB nR st) (hQ : Q (asA D a b)) : m_X11_as lk nP a b Q := by
  unfold asA at hQ
  refine q_findC h (fun p ad hp e ei hb hl => ⟨fun c => (by cases c), fun b3 eb => ?_⟩) (fun e => ⟨fun _ => by rw [e] at hQ; exact hQ, fun b4 c => (by cases c)⟩)
  cases eb
  rw [ei] at hQ
  refine q_isKind (fun k hk e2 ek => ⟨fun c => absurd c (by decide), fun _ => ?_⟩) (fun ek => ⟨fun _ => by rw [ek] at hQ; exact hQ, fun c => absurd rfl c⟩)
  rw [ek] at hQ
  dsimp only at hQ
  subst e2
  refine q_isUnderV hl (h.1.1.2 p hp).1 (by omega) (fun c => ?_) (fun c => ?_)
  · rw [if_pos (isUB_iff.mpr c)] at hQ
    exact ⟨fun z => absurd z (by decide), fun _ => ⟨_, _, _, _, hl, hQ⟩⟩
  · rw [if_neg (fun z => c (isUB_iff.mp z))] at hQ
    exact ⟨fun _ => hQ, fun z => absurd rfl z⟩
theorem q_asM {D : DT} {nf gap far : Nat} {s : AR} {st : TS} {a b : Int32} {Q : Int32 → Prop} (h : NowM D nf gap far s st) (hQ : Q (asA D a b)) : m_X12_as s a b Q := by
  obtain ⟨hW, hS, hs, ht, hu⟩ := h
  have hN := hs.2.1
  unfold asA at hQ
  refine q_isPersonM hN hW.2.1.1 (fun p hp e ei => ⟨fun c => absurd c (by decide), fun _ => ?_⟩) (fun ei => ⟨fun _ => by rw [ei] at hQ; exact hQ, fun c => absurd rfl c⟩)
  rw [ei] at hQ
  refine q_inIdx 6 rfl (by decide) (fun k hk e2 ek => ⟨fun c => absurd c (by decide), fun _ => ?_⟩) (fun ek => ⟨fun _ => by rw [ek] at hQ; exact hQ, fun c => absurd rfl c⟩)
  rw [ek] at hQ
  dsimp only at hQ
  subst e
  subst e2
  obtain ⟨hk', hv, hh⟩ := hW.2.1.2.1 p hp
  have e24 : ((24 : Int32) + nI p).toNatClampNeg = 24 + p := ixc rfl (by omega)
  have e31 : ((31 : Int32) + nI p).toNatClampNeg = 31 + p := ixc rfl (by omega)
  rw [e24, e31, hk', hv]
  refine ⟨vpc (k := 24) rfl (by omega) (by decide), q_isUnderM (hW.1.1.2 p hp).1 hk (fun c => ?_) (fun c => ?_)⟩
  · rw [if_pos (isUB_iff.mpr c)] at hQ
    exact ⟨fun z => absurd z (by decide), fun _ => ⟨vpc (k := 31) rfl (by omega) (by decide), hQ⟩⟩
  · rw [if_neg (fun z => c (isUB_iff.mp z))] at hQ
    exact ⟨fun _ => hQ, fun z => absurd rfl z⟩
