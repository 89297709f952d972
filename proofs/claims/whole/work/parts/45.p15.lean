/-! PURE: looked; change -/
theorem q_at {cap n i : Nat} {size : Int32} {items : AR} {Q : Int32 → Prop} (hs : size = nI n) (hc : n ≤ cap) (hc2 : cap < 2 ^ 31) (hi : i < 2 ^ 31) (h1 : i < n → Q (items i)) (h0 : n ≤ i → Q (-1)) : m_X7_at cap size items (nI i) Q := by
  subst hs
  unfold m_X7_at
  rw [nI_clamp hi]
  refine ⟨fun c => absurd c (nI_pos hi), fun _ => ⟨fun c => h0 ((nI_leI (by omega) hi).mp c), fun c => ?_⟩⟩
  have : ¬ n ≤ i := fun z => c ((nI_leI (by omega) hi).mpr z)
  exact ⟨vp_in_nI (by omega) hc2, h1 (by omega)⟩
/-- the books: how many, which turns, which times -/
def BkOk (nb : Nat) (bt bm : Nat → Nat) : Prop := nb ≤ 8 ∧ ∀ k, k < nb → bt k ≤ 60 ∧ bm k ≤ 99999
def lookA (D : DT) (gap : Nat) (st : TS) (bt bm : Nat → Nat) : Nat → Nat → Int32
  | 0, _ => -5
  | d + 1, i => if tM (itN D gap 7 (dN D) (bt i) st) = bm i then lookA D gap st bt bm d (i + 1) else nI i
theorem it_bnd {D : DT} {gap fl M n : Nat} {st : TS} (hW : WD D gap) (hs : TSok (dN D) M st) (ht : tT st ≤ 2000) (hn : n ≤ 1000) : tM (itN D gap fl M n st) < 2 ^ 30 := by
  have h1 := (itN_ok (fl := fl) hW n st hs).2.2.2.2.2.2
  have h2 := itN_T (D := D) (gap := gap) (fl := fl) (M := M) n st
  omega
theorem q_lookedL {D : DT} {gap far nb : Nat} {lk : LKT} {fk : FKT} {nF : Option Nat} {nS nT nY nM nG nA nL : Int32} {nP : Nat → Option Nat} {nC nB nR : AR} {st : TS} {bt bm : Nat → Nat} {z1 z2 : Int32} {i1 i2 : AR} {Q : QuT} (h : NowC D gap far lk fk nF nS nT nY nM nG nA nL nP nC nB nR st) (hb : BkOk nb bt bm) (e1 : z1 = nI nb) (e2 : z2 = nI nb) (hi : ∀ k, k < nb → i1 k = nI (bt k) ∧ i2 k = nI (bm k)) {A : Int32} (hQ : ∀ (uF : Option Nat) (uS uT uY uM uG uA uL : Int32) (uP : Nat → Option Nat) (uC uB uR uE : AR), Q A uF uS uT uY uM uG uA uL uP uC uB uR uE) :
    ∀ (d i : Nat) (uF : Option Nat) (uS uT uY uM uG uA uL : Int32) (uP : Nat → Option Nat) (uC uB uR uE : AR), i + d = nb → lookA D gap st bt bm d i = A → m_X11_looked_L2 lk fk nF nS nT nY nM nG nA nL nP nC nB nR z1 i1 z2 i2 Q (d + 1) uF uS uT uY uM uG uA uL uP uC uB uR uE (nI i) := by
  have hb8 := hb.1
  intro d
  induction d with
  | zero =>
    intro i uF uS uT uY uM uG uA uL uP uC uB uR uE hd hA
    have hA : (-5 : Int32) = A := hA
    unfold m_X11_looked_L2
    rw [e1, hA]
    exact ⟨fun _ => hQ _ _ _ _ _ _ _ _ _ _ _ _ _, fun c => absurd ((nI_leI (by omega) (by omega)).mpr (by omega)) c⟩
  | succ d ih =>
    intro i uF uS uT uY uM uG uA uL uP uC uB uR uE hd hA
    have hbi := hb.2 i (by omega)
    have hii := hi i (by omega)
    have ht := h.2.2.2.1
    have hB := it_bnd (fl := 7) (WC_WD h.1) h.2.2.1 (n := bt i) (by omega) (by omega)
    unfold m_X11_looked_L2
    refine ⟨fun c => absurd ((nI_leI (a := nb) (b := i) (by omega) (by omega)).mp (by rw [← e1]; exact c)) (by omega), fun _ => q_trial h (fun P' C' B' R' hW hS => ?_)⟩
    refine q_at e1 hb8 (by omega) (by omega) (fun _ => ?_) (fun c => absurd c (by omega))
    rw [hii.1]
    refine q_takeTurns hW hS h.2.2.1 (by omega) (fun t' y' m' p' b' s' hS' => ?_)
    refine q_at e2 hb8 (by omega) (by omega) (fun _ => ?_) (fun c => absurd c (by omega))
    rw [hii.2, hS'.2.2.2.1, nI_eq (by omega) (by omega)]
    unfold lookA at hA
    refine ⟨fun c x e => ?_, fun c => ?_⟩
    · rw [nI_1] at e
      subst e
      rw [if_pos c] at hA
      exact ih (i + 1) _ _ _ _ _ _ _ _ _ _ _ _ _ (by omega) hA
    · rw [if_neg c] at hA
      rw [hA]
      exact hQ _ _ _ _ _ _ _ _ _ _ _ _ _
theorem q_lookedC {D : DT} {gap far nb : Nat} {lk : LKT} {fk : FKT} {nF : Option Nat} {nS nT nY nM nG nA nL : Int32} {nP : Nat → Option Nat} {nC nB nR : AR} {uF : Option Nat} {uS uT uY uM uG uA uL : Int32} {uP : Nat → Option Nat} {uC uB uR uE : AR} {st : TS} {bt bm : Nat → Nat} {z1 z2 : Int32} {i1 i2 : AR} {Q : QuT} (h : NowC D gap far lk fk nF nS nT nY nM nG nA nL nP nC nB nR st) (hb : BkOk nb bt bm) (e1 : z1 = nI nb) (e2 : z2 = nI nb) (hi : ∀ k, k < nb → i1 k = nI (bt k) ∧ i2 k = nI (bm k)) (hQ : ∀ (uF : Option Nat) (uS uT uY uM uG uA uL : Int32) (uP : Nat → Option Nat) (uC uB uR uE : AR), Q (lookA D gap st bt bm nb 0) uF uS uT uY uM uG uA uL uP uC uB uR uE) :
    m_X11_looked lk fk nF nS nT nY nM nG nA nL nP nC nB nR z1 i1 z2 i2 uF uS uT uY uM uG uA uL uP uC uB uR uE Q := by
  intro x e
  subst e
  exact ⟨nb + 1, q_lookedL h hb e1 e2 hi hQ nb 0 _ _ _ _ _ _ _ _ _ _ _ _ _ (by omega) rfl⟩
theorem onA_0 {D : DT} {gap k : Nat} {st : TS} (hk : k ≤ 60) : onA D gap st (nI k) 0 = nI (tM (itN D gap 7 (dN D) k st)) := by
  unfold onA
  rw [if_neg (fun c => by have := c.1; rw [show (0 : Int32) = nI 0 from rfl, idx_some (by omega) (by omega)] at this; cases this), idx_some (by omega) (by omega)]
  show onV D gap st k 0 = _
  unfold onV
  exact if_pos rfl
theorem q_lookedLM {D : DT} {nf gap far nb : Nat} {s : AR} {st : TS} {bt bm : Nat → Nat} {Q : Int32 → Int32 → Int32 → Int32 → AR → AR → AR → AR → AR → AR → Prop} (h : NowM D nf gap far s st) (hb : BkOk nb bt bm) (e1 : s 21 = nI nb) (hi : ∀ k, k < nb → s (72 + k) = nI (bt k) ∧ s (80 + k) = nI (bm k)) {A : Int32}
    (hQ : ∀ (fs' fr' g' : Int32) (fm' yb' tr' kn' lt' : AR), Q A fs' fr' g' s fm' yb' tr' kn' lt') :
    ∀ (d i : Nat) (fs fr g : Int32) (fm yb tr kn lt : AR), i + d = nb → lookA D gap st bt bm d i = A → m_X12_looked_L2 (-1) Q (d + 1) fs fr g s fm yb tr kn lt (nI i) := by
  have hb8 := hb.1
  have c21 : (21 : Int32).toNatClampNeg = 21 := rfl
  intro d
  induction d with
  | zero =>
    intro i fs fr g fm yb tr kn lt hd hA
    have hA : (-5 : Int32) = A := hA
    unfold m_X12_looked_L2
    rw [c21, e1, hA]
    exact ⟨fun _ => hQ _ _ _ _ _ _ _ _, fun c => absurd ((nI_leI (by omega) (by omega)).mpr (by omega)) c⟩
  | succ d ih =>
    intro i fs fr g fm yb tr kn lt hd hA
    have hbi := hb.2 i (by omega)
    have hii := hi i (by omega)
    have hB := it_bnd (fl := 7) h.1.1 h.2.2.1 (n := bt i) (by have := h.2.2.2.1; omega) (by omega)
    have e72 : ((72 : Int32) + nI i).toNatClampNeg = 72 + i := ixc rfl (by omega)
    have v72 : vp_in ((72 : Int32) + nI i) 903 := vpc (k := 72) rfl (by omega) (by decide)
    have e80 : ((80 : Int32) + nI i).toNatClampNeg = 80 + i := ixc rfl (by omega)
    have v80 : vp_in ((80 : Int32) + nI i) 903 := vpc (k := 80) rfl (by omega) (by decide)
    unfold m_X12_looked_L2
    rw [c21, e1, e72, e80, hii.1]
    refine ⟨fun c => absurd ((nI_leI (by omega) (by omega)).mp c) (by omega), fun _ => ⟨v72, q_onM h (fun fs' fr' g' fm' yb' tr' kn' lt' => ⟨v80, ?_⟩)⟩⟩
    rw [onA_0 (by omega), hii.2, nI_eq (by omega) (by omega)]
    unfold lookA at hA
    refine ⟨fun c x e => ?_, fun c => ?_⟩
    · rw [nI_1] at e
      subst e
      rw [if_pos c] at hA
      exact ih (i + 1) _ _ _ _ _ _ _ _ (by omega) hA
    · rw [if_neg c] at hA
      rw [hA]
      exact hQ _ _ _ _ _ _ _ _
theorem q_lookedM {D : DT} {nf gap far nb : Nat} {s fm yb tr kn lt : AR} {st : TS} {bt bm : Nat → Nat} {fs fr g : Int32} {Q : Int32 → Int32 → Int32 → Int32 → AR → AR → AR → AR → AR → AR → Prop} (h : NowM D nf gap far s st) (hb : BkOk nb bt bm) (e1 : s 21 = nI nb) (hi : ∀ k, k < nb → s (72 + k) = nI (bt k) ∧ s (80 + k) = nI (bm k))
    (hQ : ∀ (fs' fr' g' : Int32) (fm' yb' tr' kn' lt' : AR), Q (lookA D gap st bt bm nb 0) fs' fr' g' s fm' yb' tr' kn' lt') :
    m_X12_looked fs fr g (-1) s fm yb tr kn lt Q := by
  intro x e
  subst e
  exact ⟨nb + 1, q_lookedLM h hb e1 hi hQ nb 0 _ _ _ _ _ _ _ _ (by omega) rfl⟩
/-! a change of two -/
def exPl (pl : Nat → Nat) (p q : Nat) : Nat → Nat := fun k => if pl k = p then q else if pl k = q then p else pl k
def exTS (st : TS) (p q : Nat) : TS := (exPl (tP st) p q, st.2)
theorem ex_ok {N M p q : Nat} {st : TS} (h : TSok N M st) (hp : p < N) (hq : q < N) (hne : p ≠ q) : TSok N M (exTS st p q) := by
  obtain ⟨hM, hN, hpl, hinj, hr⟩ := h
  refine ⟨hM, hN, fun k hk => ?_, fun i j hi hj e => ?_, hr⟩
  · show exPl (tP st) p q k < N
    have := hpl k hk
    unfold exPl
    split
    · exact hq
    · split
      · exact hp
      · exact this
  · have e : exPl (tP st) p q i = exPl (tP st) p q j := e
    unfold exPl at e
    have key := hinj i j hi hj
    split at e
    · rename_i a
      split at e
      · rename_i b; exact key (a.trans b.symm)
      · rename_i b
        split at e
        · rename_i c; exact absurd e.symm hne
        · rename_i c; exact absurd e.symm c
    · rename_i a
      split at e
      · rename_i a2
        split at e
        · rename_i b; exact absurd e hne
        · rename_i b
          split at e
          · rename_i c; exact key (a2.trans c.symm)
          · rename_i c; exact absurd e.symm b
      · rename_i a2
        split at e
        · rename_i b; exact absurd e a2
        · split at e
          · exact absurd e a
          · exact key e
theorem ex_sur {N p q : Nat} {st : TS} (h : Sur N st) (hp : p < N) (hq : q < N) (hne : p ≠ q) : Sur N (exTS st p q) := by
  intro r hr
  by_cases e : r = p
  · obtain ⟨k, hk, ek⟩ := h q hq
    exact ⟨k, hk, by show exPl (tP st) p q k = r; unfold exPl; rw [if_neg (by rw [ek]; exact fun z => hne z.symm), if_pos ek, e]⟩
  · by_cases e2 : r = q
    · obtain ⟨k, hk, ek⟩ := h p hp
      exact ⟨k, hk, by show exPl (tP st) p q k = r; unfold exPl; rw [if_pos ek, e2]⟩
    · obtain ⟨k, hk, ek⟩ := h r hr
      exact ⟨k, hk, by show exPl (tP st) p q k = r; unfold exPl; rw [if_neg (by rw [ek]; exact e), if_neg (by rw [ek]; exact e2), ek]⟩
theorem q_exchangeC {N M p q : Nat} {size : Int32} {places : AR} {st : TS} {Q : AR → Prop} (hz : size = nI M) (hs : TSok N M st) (hC : ∀ k, k < M → places k = nI (tP st k)) (hp : ∃ k, k < M ∧ tP st k = p) (hq : ∃ k, k < M ∧ tP st k = q) (hne : p ≠ q)
    (hQ : ∀ C' : AR, (∀ k, k < M → C' k = nI (exPl (tP st) p q k)) → Q C') : m_X5_exchange size places (nI p) (nI q) Q := by
  subst hz
  have hM := hs.1
  have hN := hs.2.1
  refine q_placeOfC hs hC hp (fun i hi ei _ => q_placeOfC hs hC hq (fun j hj ej _ => ⟨fun c => absurd c (nI_nm1 (by omega)), fun _ => ⟨fun c => absurd c (nI_nm1 (by omega)), fun _ => ?_⟩⟩))
  unfold m_X11_exchangeAt
  rw [nI_clamp (by omega), nI_clamp (by omega), hC i hi, hC j hj, ei, ej]
  have vi : vp_in (nI i) 7 := vp_in_nI (by omega) (by decide)
  have vj : vp_in (nI j) 7 := vp_in_nI (by omega) (by decide)
  refine ⟨vi, fun x1 e1 => ⟨vj, vi, fun y2 e2 => ⟨vj, fun y3 e3 => hQ y3 (fun k hk => ?_)⟩⟩⟩
  subst e1
  unfold exPl
  by_cases ekj : k = j
  · rw [e3, ekj, pk_us, if_neg (by rw [ej]; exact fun z => hne z.symm), if_pos ej]
  · by_cases eki : k = i
    · rw [e3, pk_un ekj, e2, eki, pk_us, if_pos ei]
    · rw [e3, pk_un ekj, e2, pk_un eki, hC k hk, if_neg (fun z => eki (hs.2.2.2.1 k i hk hi (z.trans ei.symm))), if_neg (fun z => ekj (hs.2.2.2.1 k j hk hj (z.trans ej.symm)))]
theorem q_swapM {N p q : Nat} {s : AR} {st : TS} {Q : Int32 → AR → Prop} (h18 : s 18 = nI N) (hS : StM N N s st) (hs : TSok N N st) (hu : Sur N st) (hp : p < N) (hq : q < N) (hne : p ≠ q)
    (hQ : ∀ s' : AR, StM N N s' (exTS st p q) → (∀ k, k < 4 ∨ 11 ≤ k → s' k = s k) → Q (nI (ixN (tP st) q N)) s') : m_X12_swap s (nI p) (nI q) Q := by
  have hN := hs.2.1
  refine q_isPersonM hN h18 (fun _ _ _ _ => ⟨fun c => absurd c (by decide), fun _ => ?_⟩) (fun e => by rw [idx_some hp (by omega)] at e; cases e)
  refine q_isPersonM hN h18 (fun _ _ _ _ => ⟨fun c => absurd c (by decide), fun _ => ⟨fun c => absurd ((nI_eq (by omega) (by omega)).mp c) hne, fun _ => ?_⟩⟩) (fun e => by rw [idx_some hq (by omega)] at e; cases e)
  refine q_placeOfM hs hS (hu p hp) (fun i hi ei _ => q_placeOfM hs hS (hu q hq) (fun j hj ej exj => ?_))
  have e4 : ((4 : Int32) + nI i).toNatClampNeg = 4 + i := ixc rfl (by omega)
  have e5 : ((4 : Int32) + nI j).toNatClampNeg = 4 + j := ixc rfl (by omega)
  have v4 : vp_in ((4 : Int32) + nI i) 903 := vpc (k := 4) rfl (by omega) (by decide)
  have v5 : vp_in ((4 : Int32) + nI j) 903 := vpc (k := 4) rfl (by omega) (by decide)
  rw [e4, e5]
  refine ⟨v4, fun y12 e12 => ⟨v5, fun y13 e13 => ?_⟩⟩
  have g : ∀ k, k < 4 ∨ 11 ≤ k → y13 k = s k := fun k hk => by rw [e13, pk_un (by omega), e12, pk_un (by omega)]
  rw [← exj]
  refine hQ y13 ⟨?_, ?_, ?_, ?_, fun k hk => ?_, fun r hr => ?_⟩ g
  · rw [g 0 (by omega)]; exact hS.1
  · rw [g 1 (by omega)]; exact hS.2.1
  · rw [g 2 (by omega)]; exact hS.2.2.1
  · rw [g 3 (by omega)]; exact hS.2.2.2.1
  · show y13 (4 + k) = nI (exPl (tP st) p q k)
    unfold exPl
    by_cases ekj : k = j
    · rw [e13, ekj, pk_us, if_neg (by rw [ej]; exact fun z => hne z.symm), if_pos ej]
    · by_cases eki : k = i
      · rw [e13, pk_un (by omega), e12, eki, pk_us, if_pos ei]
      · rw [e13, pk_un (by omega), e12, pk_un (by omega), hS.2.2.2.2.1 k hk, if_neg (fun z => eki (hs.2.2.2.1 k i hk hi (z.trans ei.symm))), if_neg (fun z => ekj (hs.2.2.2.1 k j hk hj (z.trans ej.symm)))]
  · rw [g _ (by omega)]; exact hS.2.2.2.2.2 r hr
