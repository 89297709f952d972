/-! PURE: persons asked for, places, on -/
def idx (n : Nat) (a : Int32) : Option Nat := if a.toNatClampNeg < n ∧ a = nI a.toNatClampNeg then some a.toNatClampNeg else none
theorem idx_some {n p : Nat} (h : p < n) (hn : n < 2 ^ 31) : idx n (nI p) = some p := by
  unfold idx
  rw [nI_clamp (by omega)]
  exact if_pos ⟨h, rfl⟩
theorem idx_none {n : Nat} {a : Int32} (h : ∀ p, p < n → ¬ a = nI p) : idx n a = none := by
  unfold idx
  rw [if_neg]
  intro c
  exact h _ c.1 c.2
theorem idx_cases (n : Nat) (a : Int32) : (∃ p, p < n ∧ a = nI p ∧ idx n a = some p) ∨ ((∀ p, p < n → ¬ a = nI p) ∧ idx n a = none) ∨ ¬ n < 2 ^ 31 := by
  by_cases hn : n < 2 ^ 31
  · rcases pk_ix a hn with h | h | ⟨j, hj, e⟩
    · refine Or.inr (Or.inl ?_)
      have : ∀ p, p < n → ¬ a = nI p := fun p hp e => by rw [e] at h; exact nI_pos (by omega) h
      exact ⟨this, idx_none this⟩
    · refine Or.inr (Or.inl ?_)
      have : ∀ p, p < n → ¬ a = nI p := fun p hp e => by rw [e] at h; exact nI_ge hp hn h
      exact ⟨this, idx_none this⟩
    · exact Or.inl ⟨j, hj, e, by rw [e]; exact idx_some hj hn⟩
  · exact Or.inr (Or.inr hn)
theorem idx_cs {n : Nat} (a : Int32) (hn : n < 2 ^ 31) : (∃ p, p < n ∧ a = nI p ∧ idx n a = some p) ∨ ((∀ p, p < n → ¬ a = nI p) ∧ idx n a = none) := by
  rcases idx_cases n a with h | h | h
  · exact Or.inl h
  · exact Or.inr h
  · exact absurd hn h
theorem q_inIdx {a hi : Int32} (n : Nat) {Q : Int32 → Prop} (hh : hi = nI n) (hn : n < 2 ^ 20) (h1 : ∀ k, k ≤ n → a = nI k → idx (n + 1) a = some k → Q 1) (h0 : idx (n + 1) a = none → Q 0) : m_X12_in a 0 hi Q :=
  q_inN n hh hn (fun k hk e => h1 k hk e (by rw [e]; exact idx_some (by omega) (by omega))) (fun h => h0 (idx_none (fun p hp => h p (by omega))))
theorem q_isPersonM {N : Nat} {s : AR} {a : Int32} {Q : Int32 → Prop} (hN : N ≤ 7) (h18 : s 18 = nI N) (h1 : ∀ p, p < N → a = nI p → idx N a = some p → Q 1) (h0 : idx N a = none → Q 0) : m_X12_isPerson s a Q := by
  unfold m_X12_isPerson
  rw [show (18 : Int32).toNatClampNeg = 18 from rfl, h18]
  cases N with
  | zero =>
    refine q_in (fun c d => ?_) (fun _ => ⟨rfl, h0 (idx_none (fun p hp => absurd hp (by omega)))⟩)
    rw [Int32.lt_iff_toInt_lt] at c d
    rw [show (nI 0 - 1 : Int32).toInt = -1 from by decide] at d
    rw [show (0 : Int32).toInt = 0 from rfl] at c
    omega
  | succ n =>
    rw [m1_pred]
    exact q_inIdx n rfl (by omega) (fun k hk e ei => ⟨rfl, h1 k (by omega) e ei⟩) (fun e => ⟨rfl, h0 e⟩)
theorem q_findC {D : DT} {gap far : Nat} {lk : LKT} {fk : FKT} {nF : Option Nat} {nS nT nY nM nG nA nL : Int32} {nP : Nat → Option Nat} {nC nB nR : AR} {st : TS} {a : Int32} {Q : Option Nat → Prop} (h : NowC D gap far lk fk nF nS nT nY nM nG nA nL nP nC nB nR st)
    (h1 : ∀ p b, p < dN D → a = nI p → idx (dN D) a = some p → nP p = some b → lk b = some (obCi (nI (dK D p)), nI p, nI (dV D p), nI (dH D p)) → Q (some b)) (h0 : idx (dN D) a = none → Q none) : m_X5_find nP a Q := by
  have hN := h.2.2.1.2.1
  refine q_find (fun p hp e => ?_) (fun c => h0 (idx_none (fun p hp e => ?_)))
  · by_cases hpN : p < dN D
    · obtain ⟨b, hb, hl⟩ := h.1.2.1 p hpN
      rw [hb]
      exact h1 p b hpN e (by rw [e]; exact idx_some hpN (by omega)) hb hl
    · rw [h.2.2.2.2.2.2.2.2.2 p (by omega) hp]
      exact h0 (idx_none (fun q hq e' => hpN (by rw [(nI_eq (a := p) (b := q) (by omega) (by omega)).mp (e.symm.trans e')]; exact hq)))
  · rw [e] at c
    rcases c with c | c
    · exact nI_pos (by omega) c
    · exact nI_ge (a := p) (b := 7) (by omega) (by decide) c
def ixN (pl : Nat → Nat) (p : Nat) : Nat → Nat
  | 0 => 0
  | m + 1 => if pl m = p then m else ixN pl p m
theorem ixN_at {pl : Nat → Nat} {p : Nat} : ∀ (M i : Nat), i < M → pl i = p → (∀ j, j < M → pl j = p → j = i) → ixN pl p M = i := by
  intro M
  induction M with
  | zero => intro i hi; omega
  | succ m ih =>
    intro i hi he hu
    unfold ixN
    by_cases e : pl m = p
    · rw [if_pos e]; exact hu m (by omega) e
    · rw [if_neg e]
      have : i ≠ m := fun z => e (by rw [← z]; exact he)
      exact ih i (by omega) he (fun j hj => hu j (by omega))
theorem q_placeL {M i p : Nat} {places : AR} {pl : Nat → Nat} {Q : Int32 → Prop} (hM : M ≤ 7) (hC : ∀ k, k < M → places k = nI (pl k) ∧ pl k < 7) (hp : p < 7) (hi : i < M) (he : pl i = p) (hQ : Q (nI i)) :
    ∀ (d k : Nat), k + d = i → (∀ j, j < i → pl j ≠ p) → m_X5_placeOf_L2 (nI M) places (nI p) Q (d + 1) (nI k) := by
  intro d
  induction d with
  | zero =>
    intro k hk _
    unfold m_X5_placeOf_L2
    rw [nI_clamp (by omega), (hC k (by omega)).1]
    refine ⟨fun c => absurd ((nI_leI (by omega) (by omega)).mp c) (by omega), fun _ => ⟨vp_in_nI (by omega) (by decide), fun _ => ?_, fun c => absurd ?_ c⟩⟩
    · rw [show k = i from by omega]; exact hQ
    · rw [show k = i from by omega, he]
  | succ d ih =>
    intro k hk hu
    unfold m_X5_placeOf_L2
    have h7 := (hC k (by omega)).2
    rw [nI_clamp (by omega), (hC k (by omega)).1]
    refine ⟨fun c => absurd ((nI_leI (by omega) (by omega)).mp c) (by omega), fun _ => ⟨vp_in_nI (by omega) (by decide), fun c => ?_, fun _ x e => ?_⟩⟩
    · exact absurd ((nI_eq (by omega) (by omega)).mp c) (hu k (by omega))
    · rw [nI_1] at e
      subst e
      exact ih (k + 1) (by omega) hu
theorem q_placeOfC {N M p : Nat} {places : AR} {st : TS} {Q : Int32 → Prop} (hs : TSok N M st) (hC : ∀ k, k < M → places k = nI (tP st k)) (hp : ∃ k, k < M ∧ tP st k = p) (h1 : ∀ i, i < M → tP st i = p → ixN (tP st) p M = i → Q (nI i)) : m_X5_placeOf (nI M) places (nI p) Q := by
  obtain ⟨i, hi, he⟩ := hp
  obtain ⟨hM, hN, hpl, hinj, -⟩ := hs
  have hp7 : p < 7 := by rw [← he]; have := hpl i hi; omega
  have hu : ∀ j, j < M → tP st j = p → j = i := fun j hj e => hinj j i hj hi (e.trans he.symm)
  intro x e
  subst e
  exact ⟨i + 1, q_placeL (by omega) (fun k hk => ⟨hC k hk, by have := hpl k hk; omega⟩) hp7 hi he (h1 i hi he (ixN_at M i hi he hu)) i 0 (by omega) (fun j hj e => by have := hu j (by omega) e; omega)⟩
theorem q_placeLM {M i p : Nat} {s : AR} {pl : Nat → Nat} {Q : Int32 → Prop} (hM : M ≤ 7) (h3 : s 3 = nI M) (hC : ∀ k, k < M → s (4 + k) = nI (pl k) ∧ pl k < 7) (hp : p < 7) (hi : i < M) (he : pl i = p) (hu : ∀ j, j < M → pl j = p → j = i) (hQ : Q (nI i)) :
    ∀ (d k : Nat) (v : Int32), k + d = M → (v = if i < k then nI i else -1) → m_X12_placeOf_L4 s (nI p) Q (d + 1) v (nI k) := by
  have c3 : (3 : Int32).toNatClampNeg = 3 := rfl
  intro d
  induction d with
  | zero =>
    intro k v hk hv
    unfold m_X12_placeOf_L4
    rw [c3, h3]
    rw [if_pos (by omega)] at hv
    refine ⟨fun _ => by rw [hv]; exact hQ, fun c => absurd ((nI_leI (by omega) (by omega)).mpr (by omega)) c⟩
  | succ d ih =>
    intro k v hk hv
    unfold m_X12_placeOf_L4
    have h7 := (hC k (by omega)).2
    have e4 : ((4 : Int32) + nI k).toNatClampNeg = 4 + k := ixc rfl (by omega)
    rw [c3, h3, e4, (hC k (by omega)).1]
    refine ⟨fun c => absurd ((nI_leI (by omega) (by omega)).mp c) (by omega), fun _ => ⟨vpc (k := 4) rfl (by omega) (by decide), fun c x e => ?_, fun c x e => ?_⟩⟩
    · rw [nI_1] at e
      subst e
      have := hu k (by omega) ((nI_eq (by omega) (by omega)).mp c)
      exact ih (k + 1) _ (by omega) (by rw [if_pos (by omega), this])
    · rw [nI_1] at e
      subst e
      refine ih (k + 1) _ (by omega) ?_
      rw [hv]
      by_cases z : i < k
      · rw [if_pos z, if_pos (by omega)]
      · rw [if_neg z, if_neg]
        intro w
        have : k = i := by omega
        exact c (by rw [this, he])
theorem q_placeOfM {N M p : Nat} {s : AR} {st : TS} {Q : Int32 → Prop} (hs : TSok N M st) (hS : StM N M s st) (hp : ∃ k, k < M ∧ tP st k = p) (h1 : ∀ i, i < M → tP st i = p → ixN (tP st) p M = i → Q (nI i)) : m_X12_placeOf s (nI p) Q := by
  obtain ⟨i, hi, he⟩ := hp
  obtain ⟨hM, hN, hpl, hinj, -⟩ := hs
  have hp7 : p < 7 := by rw [← he]; have := hpl i hi; omega
  have hu : ∀ j, j < M → tP st j = p → j = i := fun j hj e => hinj j i hj hi (e.trans he.symm)
  intro x e y e'
  subst e
  subst e'
  exact ⟨M + 1, q_placeLM (by omega) hS.2.2.2.1 (fun k hk => ⟨hS.2.2.2.2.1 k hk, by have := hpl k hk; omega⟩) hp7 hi he hu (h1 i hi he (ixN_at M i hi he hu)) M 0 _ (by omega) (by rw [if_neg (by omega)])⟩
theorem q_lastC {N M : Nat} {size : Int32} {places : AR} {st : TS} {Q : Int32 → Prop} (hs : TSok N M st) (he : size = nI M) (hC : ∀ k, k < M → places k = nI (tP st k)) (hQ : Q (if M = 0 then -5 else nI (tP st (M - 1)))) : m_X5_last size places Q := by
  have hM := hs.1
  have hN := hs.2.1
  subst he
  refine ⟨fun c => ?_, fun c => ?_⟩
  · rw [if_pos ((nI_eq (a := M) (b := 0) (by omega) (by omega)).mp c)] at hQ; exact hQ
  · have h0 : ¬ M = 0 := fun z => c (by rw [z]; rfl)
    rw [if_neg h0] at hQ
    obtain ⟨m, rfl⟩ : ∃ m, M = m + 1 := ⟨M - 1, by omega⟩
    rw [m1_pred, nI_clamp (by omega), hC m (by omega)]
    exact ⟨vp_in_nI (by omega) (by decide), hQ⟩
def lpN (D : DT) (gap fl M : Nat) : Nat → TS → Nat → Nat
  | 0, _, _ => 0
  | n + 1, s, p => (if tP s (M - 1) = p then 1 else 0) + lpN D gap fl M n (turnN D gap fl M s) p
theorem lpN_succ {D : DT} {gap fl M n p : Nat} {s : TS} : lpN D gap fl M (n + 1) s p = (if tP s (M - 1) = p then 1 else 0) + lpN D gap fl M n (turnN D gap fl M s) p := rfl
theorem itN_0 {D : DT} {gap fl : Nat} : ∀ (n : Nat) (s : TS), itN D gap fl 0 n s = s := by
  intro n
  induction n with
  | zero => intro s; rfl
  | succ n ih => intro s; rw [itN_succ]; unfold turnN; rw [if_pos rfl]; exact ih s
def onV (D : DT) (gap : Nat) (st : TS) (k : Nat) (a : Int32) : Int32 := if a = 0 then nI (tM (itN D gap 7 (dN D) k st)) else if a = 1 then nI (tY (itN D gap 7 (dN D) k st)) else if a = 2 then (if dN D = 0 then -5 else nI (tP (itN D gap 7 (dN D) k st) (dN D - 1))) else nI (lpN D gap 7 (dN D) k st (a - 10).toNatClampNeg)
def onA (D : DT) (gap : Nat) (st : TS) (a b : Int32) : Int32 := if idx 3 b = none ∧ idx (dN D) (b - 10) = none then -1 else match idx 61 a with
  | none => -2
  | some k => onV D gap st k b
theorem sub10 {a : Int32} {p : Nat} (h : a - 10 = nI p) : a = nI (p + 10) := by
  rw [← nI_add, ← h]
  exact (Int32.sub_add_cancel a 10).symm
theorem q_onLC {D : DT} {gap n : Nat} {lk : LKT} {fk : FKT} {nF : Option Nat} {nS nG nA nL a2 : Int32} {nP : Nat → Option Nat} {nR : AR} {st : TS} {Q : QuT} (hn : n ≤ 60) (hW : WC D gap 7 lk fk nF nG nL nP nR) (hv : ¬ (idx 3 a2 = none ∧ idx (dN D) (a2 - 10) = none))
    (hQ : ∀ (uF : Option Nat) (uS uT uY uM uG uA uL : Int32) (uP : Nat → Option Nat) (uC uB uR uE : AR), Q (onV D gap st n a2) uF uS uT uY uM uG uA uL uP uC uB uR uE) :
    ∀ (d i : Nat) (uT uY uM v5 : Int32) (uC uB uE : AR) (s : TS), i + d = n → StC (dN D) (dN D) nS uT uY uM uC uB s → TSok (dN D) (dN D) s → tT s + d ≤ 4000 → itN D gap 7 (dN D) d s = itN D gap 7 (dN D) n st → (∀ p, p < dN D → a2 - 10 = nI p → ∃ c, v5 = nI c ∧ c + lpN D gap 7 (dN D) d s p = lpN D gap 7 (dN D) n st p) → m_X11_on_L75 lk fk (nI n) a2 nF nS nG nA nL nP nR (a2 - 10) Q (d + 1) uT uY uM uC uB uE v5 (nI i) := by
  intro d
  induction d with
  | zero =>
    intro i uT uY uM v5 uC uB uE s hi hS hs ht he hc
    have hN := hs.2.1
    have he : s = itN D gap 7 (dN D) n st := he
    subst he
    unfold m_X11_on_L75
    unfold onV at hQ
    refine ⟨fun _ => ⟨fun c => ?_, fun c => ?_, fun c => ?_, fun c => ?_⟩, fun c => absurd ((nI_leI (by omega) (by omega)).mpr (by omega)) c⟩
    · rw [if_pos c] at hQ
      rw [hS.2.2.2.1]
      exact hQ _ _ _ _ _ _ _ _ _ _ _ _ _
    · rw [if_neg (by rw [c]; decide), if_pos c] at hQ
      rw [hS.2.2.1]
      exact hQ _ _ _ _ _ _ _ _ _ _ _ _ _
    · rw [if_neg (by rw [c]; decide), if_neg (by rw [c]; decide), if_pos c] at hQ
      exact q_lastC hs hS.1 hS.2.2.2.2.1 (hQ _ _ _ _ _ _ _ _ _ _ _ _ _)
    · have n0 : ∀ k, k < 3 → ¬ a2 = nI k := fun k hk e => by rw [e, nI_toInt (by omega)] at c; omega
      rcases idx_cs (a2 - 10) (show dN D < 2 ^ 31 by omega) with ⟨p, hp, e, -⟩ | ⟨-, e⟩
      · obtain ⟨cc, e5, ec⟩ := hc p hp e
        rw [if_neg (show ¬ a2 = 0 from n0 0 (by omega)), if_neg (show ¬ a2 = 1 from n0 1 (by omega)), if_neg (show ¬ a2 = 2 from n0 2 (by omega)), e, nI_clamp (by omega)] at hQ
        have ec : cc = lpN D gap 7 (dN D) n st p := ec
        rw [e5, ec]
        exact hQ _ _ _ _ _ _ _ _ _ _ _ _ _
      · exact absurd ⟨idx_none n0, e⟩ hv
  | succ d ih =>
    intro i uT uY uM v5 uC uB uE s hi hS hs ht he hc
    have hN := hs.2.1
    unfold m_X11_on_L75
    refine ⟨fun c => absurd ((nI_leI (by omega) (by omega)).mp c) (by omega), fun _ => q_lastC hs hS.1 hS.2.2.2.2.1 ?_⟩
    have step : ∀ v : Int32, (∀ p, p < dN D → a2 - 10 = nI p → ∃ c, v = nI c ∧ c + lpN D gap 7 (dN D) d (turnN D gap 7 (dN D) s) p = lpN D gap 7 (dN D) n st p) → m_X11_on_L95 lk fk nF nS nG nA nL nP nR (nI n) a2 (a2 - 10) uT uY uM uC uB uE v (nI i) (m_X11_on_L75 lk fk (nI n) a2 nF nS nG nA nL nP nR (a2 - 10) Q (d + 1)) Q := by
      intro v hv'
      unfold m_X11_on_L95
      refine q_takeTurnC hW hS hs (by omega) (fun t' y' m' p' b' e' hS' x ex => ?_)
      rw [nI_1] at ex
      subst ex
      have := turn_T (D := D) (gap := gap) (fl := 7) (M := dN D) (s := s)
      exact ih (i + 1) _ _ _ _ _ _ _ _ (by omega) hS' (turn_ok (WC_WD hW) hs) (by omega) he hv'
    refine ⟨fun c x ex => step x (fun p hp e => ?_), fun c => step v5 (fun p hp e => ?_)⟩
    · obtain ⟨cc, e5, ec⟩ := hc p hp e
      have h0 : ¬ dN D = 0 := by omega
      rw [if_neg h0, e] at c
      have hl := hs.2.2.1 (dN D - 1) (by omega)
      have := (nI_eq (by omega) (by omega)).mp c
      rw [lpN_succ, if_pos this] at ec
      refine ⟨cc + 1, by rw [ex, e5, nI_1], by omega⟩
    · obtain ⟨cc, e5, ec⟩ := hc p hp e
      have h0 : ¬ dN D = 0 := by omega
      rw [if_neg h0, e] at c
      rw [lpN_succ, if_neg (fun z => c (by rw [z])), Nat.zero_add] at ec
      exact ⟨cc, e5, ec⟩
theorem q_onC {D : DT} {gap far : Nat} {lk : LKT} {fk : FKT} {nF : Option Nat} {nS nT nY nM nG nA nL : Int32} {nP : Nat → Option Nat} {nC nB nR : AR} {uF : Option Nat} {uS uT uY uM uG uA uL : Int32} {uP : Nat → Option Nat} {uC uB uR uE : AR} {st : TS} {a1 a2 : Int32} {Q : QuT} (h : NowC D gap far lk fk nF nS nT nY nM nG nA nL nP nC nB nR st) (hQ : ∀ (uF : Option Nat) (uS uT uY uM uG uA uL : Int32) (uP : Nat → Option Nat) (uC uB uR uE : AR), Q (onA D gap st a1 a2) uF uS uT uY uM uG uA uL uP uC uB uR uE) : m_X11_on lk fk nF nS nT nY nM nG nA nL nP nC nB nR uF uS uT uY uM uG uA uL uP uC uB uR uE a1 a2 Q := by
  have hN := h.2.2.1.2.1
  have ht := h.2.2.2.1
  have key : ¬ (idx 3 a2 = none ∧ idx (dN D) (a2 - 10) = none) → m_X11_on_L42 lk fk nF nS nT nY nM nG nA nL nP nC nB nR a1 a2 uF uS uT uY uM uG uA uL uP uC uB uR uE (a2 - 10) Q := by
    intro hv
    unfold onA at hQ
    rw [if_neg hv] at hQ
    unfold m_X11_on_L42
    have bad : idx 61 a1 = none → ∀ (uF : Option Nat) (uS uT uY uM uG uA uL : Int32) (uP : Nat → Option Nat) (uC uB uR uE : AR), Q (-2) uF uS uT uY uM uG uA uL uP uC uB uR uE := fun e => by rw [e] at hQ; exact hQ
    refine ⟨fun c => bad (idx_none (fun p hp e => ?_)) _ _ _ _ _ _ _ _ _ _ _ _ _, fun c => ⟨fun d => ?_, fun d => bad (idx_none (fun p hp e => ?_)) _ _ _ _ _ _ _ _ _ _ _ _ _⟩⟩
    · rw [e] at c; exact nI_pos (by omega) c
    · obtain ⟨k, hk, rfl⟩ := nI_of2 (M := 60) (n := 60) (by decide) c d
      rw [idx_some (by omega) (by omega)] at hQ
      refine q_trial h (fun P' C' B' R' hW hS x e y e' => ⟨k + 1, ?_⟩)
      subst e
      subst e'
      exact q_onLC hk hW hv hQ k 0 _ _ _ _ _ _ _ st (by omega) hS h.2.2.1 (by omega) rfl (fun p hp e => ⟨0, rfl, Nat.zero_add _⟩)
    · rw [e] at d; exact d ((nI_leI (a := p) (b := 60) (by omega) (by omega)).mpr (by omega))
  intro x e
  subst e
  refine q_findC h (fun p b hp e ei hb hl => ⟨fun c => (by cases c), fun b4 _ => ?_⟩) (fun e => ⟨fun _ => ?_, fun b4 c => (by cases c)⟩)
  · exact ⟨fun c => absurd c (by decide), fun _ => key (fun c => by rw [ei] at c; cases c.2)⟩
  · have bad : idx 3 a2 = none → ∀ (uF : Option Nat) (uS uT uY uM uG uA uL : Int32) (uP : Nat → Option Nat) (uC uB uR uE : AR), Q (-1) uF uS uT uY uM uG uA uL uP uC uB uR uE := fun e' => by unfold onA at hQ; rw [if_pos ⟨e', e⟩] at hQ; exact hQ
    refine ⟨fun _ => ⟨fun c => bad (idx_none (fun p hp e => ?_)) _ _ _ _ _ _ _ _ _ _ _ _ _, fun c => ⟨fun d => key (fun z => ?_), fun d => bad (idx_none (fun p hp e => ?_)) _ _ _ _ _ _ _ _ _ _ _ _ _⟩⟩, fun c => absurd rfl c⟩
    · rw [e] at c; exact nI_pos (by omega) c
    · obtain ⟨k, hk, rfl⟩ := nI_of2 (M := 2) (n := 2) (by decide) c d
      rw [idx_some (by omega) (by omega)] at z
      cases z.1
    · rw [e] at d; exact d ((nI_leI (a := p) (b := 2) (by omega) (by omega)).mpr (by omega))
