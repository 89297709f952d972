/-! PURE: many turns, across -/
def itN (D : DT) (gap fl M : Nat) : Nat → TS → TS
  | 0, s => s
  | n + 1, s => itN D gap fl M n (turnN D gap fl M s)
theorem itN_succ {D : DT} {gap fl M n : Nat} {s : TS} : itN D gap fl M (n + 1) s = itN D gap fl M n (turnN D gap fl M s) := rfl
theorem turn_T {D : DT} {gap fl M : Nat} {s : TS} : tT (turnN D gap fl M s) ≤ tT s + 1 := by
  unfold turnN
  split
  · exact Nat.le_succ _
  · exact Nat.le_refl _
theorem turn_M {D : DT} {gap fl M : Nat} {s : TS} : tM s ≤ tM (turnN D gap fl M s) := by
  unfold turnN
  split
  · exact Nat.le_refl _
  · exact Nat.le_add_right _ _
theorem turn_Y {D : DT} {gap fl M : Nat} {s : TS} (h : 0 < M) : tY (turnN D gap fl M s) = tY s + gap := by
  unfold turnN
  rw [if_neg (by omega)]
theorem itN_M {D : DT} {gap fl M : Nat} : ∀ (n : Nat) (s : TS), tM s ≤ tM (itN D gap fl M n s) := by
  intro n
  induction n with
  | zero => intro s; exact Nat.le_refl _
  | succ n ih => intro s; exact Nat.le_trans turn_M (ih _)
theorem itN_T {D : DT} {gap fl M : Nat} : ∀ (n : Nat) (s : TS), tT (itN D gap fl M n s) ≤ tT s + n := by
  intro n
  induction n with
  | zero => intro s; exact Nat.le_refl _
  | succ n ih =>
    intro s
    have h1 := ih (turnN D gap fl M s)
    have h2 := turn_T (D := D) (gap := gap) (fl := fl) (M := M) (s := s)
    rw [itN_succ]
    omega
theorem itN_ok {D : DT} {gap fl M : Nat} (h : WD D gap) : ∀ (n : Nat) (s : TS), TSok (dN D) M s → TSok (dN D) M (itN D gap fl M n s) := by
  intro n
  induction n with
  | zero => intro s hs; exact hs
  | succ n ih => intro s hs; exact ih _ (turn_ok h hs)
theorem WD_gap {D : DT} {gap gap' : Nat} (h : WD D gap) (hg : gap' ≤ 99) : WD D gap' := ⟨h.1, h.2.1, h.2.2.1, h.2.2.2.1, hg⟩
theorem q_takeTurnsL {D : DT} {gap fl M n : Nat} {lk : Nat → Option (Nat × Int32 × Int32 × Int32)} {fk : Nat → Option ((Nat → Int32) × (Nat → Int32) × (Nat → Int32) × (Nat → Int32) × (Nat → Int32) × Int32)} {field : Option Nat} {gapI flat size : Int32} {people : Nat → Option Nat} {rows : Nat → Int32} {Q : Int32 → Int32 → Int32 → (Nat → Int32) → (Nat → Int32) → (Nat → Int32) → Prop} (hn : n < 2 ^ 20)
    (hW : WC D gap fl lk fk field gapI flat people rows) :
    ∀ (d i : Nat) (turn yards time : Int32) (places breath seen : Nat → Int32) (s : TS), i + d = n → StC (dN D) M size turn yards time places breath s → TSok (dN D) M s → tT s + d ≤ 4000 →
      (∀ (turn' yards' time' : Int32) (places' breath' seen' : Nat → Int32), StC (dN D) M size turn' yards' time' places' breath' (itN D gap fl M d s) → Q turn' yards' time' places' breath' seen') →
      m_X5_takeTurns_L2 lk fk field size gapI flat people rows (nI n) Q (d + 1) turn yards time places breath seen (nI i) := by
  intro d
  induction d with
  | zero =>
    intro i turn yards time places breath seen s hi hS hs ht hQ
    unfold m_X5_takeTurns_L2
    exact ⟨fun _ => hQ _ _ _ _ _ _ hS, fun c => absurd ((nI_leI (by omega) (by omega)).mpr (by omega)) c⟩
  | succ d ih =>
    intro i turn yards time places breath seen s hi hS hs ht hQ
    unfold m_X5_takeTurns_L2
    refine ⟨fun c => absurd ((nI_leI (by omega) (by omega)).mp c) (by omega), fun _ => ?_⟩
    refine q_takeTurnC hW hS hs (by omega) (fun turn' yards' time' places' breath' seen' hS' x e => ?_)
    rw [nI_1] at e
    subst e
    have := turn_T (D := D) (gap := gap) (fl := fl) (M := M) (s := s)
    exact ih (i + 1) _ _ _ _ _ _ _ (by omega) hS' (turn_ok (WC_WD hW) hs) (by omega) hQ
theorem q_takeTurns {D : DT} {gap fl M n : Nat} {lk : Nat → Option (Nat × Int32 × Int32 × Int32)} {fk : Nat → Option ((Nat → Int32) × (Nat → Int32) × (Nat → Int32) × (Nat → Int32) × (Nat → Int32) × Int32)} {field : Option Nat} {gapI flat size turn yards time : Int32} {people : Nat → Option Nat} {rows places breath seen : Nat → Int32} {s : TS} {Q : Int32 → Int32 → Int32 → (Nat → Int32) → (Nat → Int32) → (Nat → Int32) → Prop}
    (hW : WC D gap fl lk fk field gapI flat people rows) (hS : StC (dN D) M size turn yards time places breath s) (hs : TSok (dN D) M s) (ht : tT s + n ≤ 4000)
    (hQ : ∀ (turn' yards' time' : Int32) (places' breath' seen' : Nat → Int32), StC (dN D) M size turn' yards' time' places' breath' (itN D gap fl M n s) → Q turn' yards' time' places' breath' seen') :
    m_X5_takeTurns lk fk field size turn yards time gapI flat people places breath rows seen (nI n) Q := by
  intro x e
  subst e
  exact ⟨n + 1, q_takeTurnsL (by omega) hW n 0 turn yards time places breath seen s (by omega) hS hs ht hQ⟩
/-- how many turns it takes till across; none: never (or more than 200) -/
def taN (far gap M y : Nat) : Option Nat := if far ≤ y then some 0 else if M = 0 ∨ gap = 0 then none else if (far - y + gap - 1) / gap ≤ 200 then some ((far - y + gap - 1) / gap) else none
theorem taN_some {far gap M y T : Nat} (h1 : far ≤ y + T * gap) (h2 : ∀ j, j < T → y + j * gap < far) (h3 : T = 0 ∨ 0 < M) (h4 : T ≤ 200) : taN far gap M y = some T := by
  unfold taN
  cases T with
  | zero => rw [if_pos (by omega)]
  | succ t =>
    have a := h2 0 (by omega)
    have b := h2 t (by omega)
    rw [Nat.succ_mul] at h1
    have hg : 0 < gap := by
      rcases Nat.eq_zero_or_pos gap with z | z
      · omega
      · exact z
    have e : (far - y + gap - 1) / gap = t + 1 := by
      refine Nat.div_eq_of_lt_le ?_ ?_
      · rw [Nat.succ_mul]; omega
      · rw [Nat.succ_mul, Nat.succ_mul]; omega
    rw [if_neg (by omega), if_neg (by omega), e, if_pos h4]
theorem taN_none {far gap M y : Nat} (h : (∀ j, j ≤ 200 → y + j * gap < far) ∨ (M = 0 ∧ y < far)) : taN far gap M y = none := by
  unfold taN
  rcases h with h | ⟨h0, h⟩
  · have a := h 0 (by omega)
    have b := h 200 (by omega)
    rw [if_neg (by omega)]
    by_cases c : M = 0 ∨ gap = 0
    · rw [if_pos c]
    · rw [if_neg c, if_neg]
      intro z
      have hg : 0 < gap := by omega
      have := (Nat.div_le_iff_le_mul_add_pred hg).mp z
      have e : gap * 200 = 200 * gap := Nat.mul_comm _ _
      omega
  · rw [if_neg (by omega), if_pos (Or.inl h0)]
theorem taN_le {far gap M y T : Nat} (h : taN far gap M y = some T) : T ≤ 200 := by
  unfold taN at h
  split at h
  · cases h; omega
  · split at h
    · cases h
    · split at h
      · cases h; assumption
      · cases h
def acN (D : DT) (gap fl M far : Nat) (s : TS) : Option Nat := match taN far gap M (tY s) with
  | none => none
  | some T => some (tM (itN D gap fl M T s))
theorem q_turnsAcross {far gap M y : Nat} {size yards gapI farI : Int32} {Q : Int32 → Prop} (hs : size = nI M) (hy : yards = nI y) (hg : gapI = nI gap) (hf : farI = nI far) (hM : M ≤ 7) (hy9 : y < 2 ^ 20) (hg9 : gap ≤ 99) (hf9 : far ≤ 99)
    (h0 : taN far gap M y = none → Q (-5)) (h1 : ∀ T, taN far gap M y = some T → Q (nI T)) : m_X5_turnsAcross size yards gapI farI Q := by
  subst hs
  subst hy
  subst hg
  subst hf
  unfold m_X5_turnsAcross
  intro x e
  have ei : x.toInt = (far : Int) - y := by rw [e]; exact pk_sub_toInt (by omega) (by omega)
  have ep : (0 : Int32) < x ↔ y < far := by rw [Int32.lt_iff_toInt_lt, ei, show (0 : Int32).toInt = 0 from rfl]; omega
  rw [ep]
  unfold taN at h0 h1
  refine ⟨fun c => ?_, fun c => ?_⟩
  · rw [if_neg (by omega)] at h0 h1
    rw [pk_sub (by omega)] at e
    refine ⟨fun z => ?_, fun z => ?_⟩
    · have := (nI_eq (a := M) (b := 0) (by omega) (by omega)).mp z
      exact h0 (if_pos (Or.inl this))
    · have zM : ¬ M = 0 := fun q => z (by rw [q]; rfl)
      rw [show (0 : Int32) < nI gap ↔ 0 < gap from nI_ltI (a := 0) (by omega) (by omega)]
      refine ⟨fun g0 => ⟨fun q => absurd ((nI_eq (a := gap) (b := 0) (by omega) (by omega)).mp q) (by omega), fun x5 e5 => ?_⟩, fun g0 => h0 (if_pos (Or.inr (by omega)))⟩
      rw [if_neg (by omega)] at h0 h1
      rw [e, nI_add, show (1 : Int32) = nI 1 from rfl, pk_sub (by omega), pk_div (by omega) g0 (by omega)] at e5
      have hd : (far - y + gap - 1) / gap < 2 ^ 20 := Nat.lt_of_le_of_lt (Nat.div_le_self _ _) (by omega)
      subst e5
      rw [show (200 : Int32) < nI ((far - y + gap - 1) / gap) ↔ 200 < (far - y + gap - 1) / gap from nI_ltI (a := 200) (by omega) (by omega)]
      exact ⟨fun g => h0 (if_neg (by omega)), fun g => h1 _ (if_pos (by omega))⟩
  · exact h1 0 (if_pos (by omega))
theorem q_goAcrossL {D : DT} {gap fl M T L : Nat} {lk : Nat → Option (Nat × Int32 × Int32 × Int32)} {fk : Nat → Option ((Nat → Int32) × (Nat → Int32) × (Nat → Int32) × (Nat → Int32) × (Nat → Int32) × Int32)} {field : Option Nat} {gapI flat size : Int32} {people : Nat → Option Nat} {rows : Nat → Int32} {Q : Int32 → Int32 → Int32 → Int32 → (Nat → Int32) → (Nat → Int32) → (Nat → Int32) → Prop} (hT : T ≤ 200) (hL : L < 2 ^ 31)
    (hW : WC D gap fl lk fk field gapI flat people rows) :
    ∀ (d i : Nat) (turn yards time : Int32) (places breath seen : Nat → Int32) (s : TS), i + d = T → StC (dN D) M size turn yards time places breath s → TSok (dN D) M s → tT s + d ≤ 4000 →
      (∀ (r : Nat) (turn' yards' time' : Int32) (places' breath' seen' : Nat → Int32), (r = tM (itN D gap fl M d s) ∨ (L ≤ r ∧ L ≤ tM (itN D gap fl M d s))) → r < 2 ^ 30 → Q (nI r) turn' yards' time' places' breath' seen') →
      m_X5_goAcross_L16 lk fk field size gapI flat people rows (nI L) (nI T) Q (d + 1) turn yards time places breath seen (nI i) := by
  intro d
  induction d with
  | zero =>
    intro i turn yards time places breath seen s hi hS hs ht hQ
    have hb := hs.2.2.2.2.2.2
    unfold m_X5_goAcross_L16
    rw [hS.2.2.2.1]
    exact ⟨fun _ => hQ _ _ _ _ _ _ _ (Or.inl rfl) (by omega), fun c => absurd ((nI_leI (by omega) (by omega)).mpr (by omega)) c⟩
  | succ d ih =>
    intro i turn yards time places breath seen s hi hS hs ht hQ
    have hb := hs.2.2.2.2.2.2
    have hm := itN_M (D := D) (gap := gap) (fl := fl) (M := M) (d + 1) s
    unfold m_X5_goAcross_L16
    refine ⟨fun c => absurd ((nI_leI (by omega) (by omega)).mp c) (by omega), fun _ => ⟨fun c => ?_, fun _ => ?_⟩⟩
    · rw [hS.2.2.2.1] at c ⊢
      have c' := (nI_leI (by omega) (by omega)).mp c
      exact hQ _ _ _ _ _ _ _ (Or.inr ⟨c', by omega⟩) (by omega)
    · refine q_takeTurnC hW hS hs (by omega) (fun turn' yards' time' places' breath' seen' hS' x e => ?_)
      rw [nI_1] at e
      subst e
      have := turn_T (D := D) (gap := gap) (fl := fl) (M := M) (s := s)
      exact ih (i + 1) _ _ _ _ _ _ _ (by omega) hS' (turn_ok (WC_WD hW) hs) (by omega) hQ
theorem q_goAcross {D : DT} {gap fl M far L : Nat} {lk : Nat → Option (Nat × Int32 × Int32 × Int32)} {fk : Nat → Option ((Nat → Int32) × (Nat → Int32) × (Nat → Int32) × (Nat → Int32) × (Nat → Int32) × Int32)} {field : Option Nat} {gapI flat size turn yards time farI : Int32} {people : Nat → Option Nat} {rows places breath seen : Nat → Int32} {s : TS} {Q : Int32 → Int32 → Int32 → Int32 → (Nat → Int32) → (Nat → Int32) → (Nat → Int32) → Prop} (hL : L < 2 ^ 31)
    (hW : WC D gap fl lk fk field gapI flat people rows) (hS : StC (dN D) M size turn yards time places breath s) (hs : TSok (dN D) M s) (ht : tT s ≤ 2000) (hf : farI = nI far) (hf9 : far ≤ 99)
    (h0 : acN D gap fl M far s = none → ∀ (turn' yards' time' : Int32) (places' breath' seen' : Nat → Int32), Q (-5) turn' yards' time' places' breath' seen')
    (h1 : ∀ w, acN D gap fl M far s = some w → ∀ (r : Nat) (turn' yards' time' : Int32) (places' breath' seen' : Nat → Int32), (r = w ∨ (L ≤ r ∧ L ≤ w)) → r < 2 ^ 30 → Q (nI r) turn' yards' time' places' breath' seen') :
    m_X5_goAcross lk fk field size turn yards time gapI farI flat people places breath rows seen (nI L) Q := by
  have hM7 : M ≤ 7 := Nat.le_trans hs.1 hs.2.1
  have hy := hs.2.2.2.2.2.1
  have hg := hW.2.2.2.2.2.2.2
  unfold m_X5_goAcross
  refine q_turnsAcross (M := M) (y := tY s) (gap := gap) (far := far) hS.1 hS.2.2.1 hg.1 hf hM7 (by omega) hg.2 hf9 (fun e => ⟨fun _ => h0 (by unfold acN; rw [e]) _ _ _ _ _ _, fun c => absurd rfl c⟩) (fun T e => ⟨fun c => ?_, fun _ x4 e4 => ⟨T + 1, ?_⟩⟩)
  · have hT := taN_le e
    have := congrArg Int32.toInt c
    rw [nI_toInt (by omega)] at this
    exact absurd this (by rw [show (-5 : Int32).toInt = -5 from by decide]; omega)
  · subst e4
    have hT := taN_le e
    exact q_goAcrossL hT hL hW T 0 turn yards time places breath seen s (by omega) hS hs (by omega) (fun r t' y' m' p' b' s' h hr => h1 _ (by unfold acN; rw [e]) r t' y' m' p' b' s' h hr)
/-! the reference's -/
theorem q_acrossL {D : DT} {nf gap0 gap far0 far fl M : Nat} {giver : Int32} {Q : Int32 → Int32 → Int32 → Int32 → (Nat → Int32) → (Nat → Int32) → (Nat → Int32) → (Nat → Int32) → Prop} (hF : FlatC giver fl) (hg : gap ≤ 99) (hf : far ≤ 99) :
    ∀ (d c : Nat) (fs fr : Int32) (s yb tr kn : Nat → Int32) (st : TS), c + d = 200 → WM D nf gap0 far0 s → StM (dN D) M s st → TSok (dN D) M st → tT st + d ≤ 4000 → KnownOk D fl kn →
      (∀ T, T ≤ d → far ≤ tY st + T * gap → (∀ j, j < T → tY st + j * gap < far) → (T = 0 ∨ 0 < M) → ∀ (fs' fr' : Int32) (s' yb' tr' kn' : Nat → Int32), KnownOk D fl kn' → Fr s s' → Q (nI (tM (itN D gap fl M T st))) fs' fr' (nI (c + T)) s' yb' tr' kn') →
      ((∀ j, j ≤ d → tY st + j * gap < far) ∨ (M = 0 ∧ tY st < far) → ∀ (fs' fr' tu : Int32) (s' yb' tr' kn' : Nat → Int32), KnownOk D fl kn' → Fr s s' → Q (-5) fs' fr' tu s' yb' tr' kn') →
      m_X12_acrossTime_L15 (nI gap) giver (nI far) Q (d + 1) fs fr (nI c) s yb tr kn := by
  intro d
  induction d with
  | zero =>
    intro c fs fr s yb tr kn st hc hW hS hs ht hK hy hn
    have hb := hs.2.2.2.2.2.1
    have c1 : (1 : Int32).toNatClampNeg = 1 := rfl
    have c2 : (2 : Int32).toNatClampNeg = 2 := rfl
    unfold m_X12_acrossTime_L15
    rw [c1, c2, hS.2.1, hS.2.2.1, nI_leI (by omega) (by omega)]
    refine ⟨fun z => hy 0 (by omega) (by omega) (fun j hj => absurd hj (by omega)) (Or.inl rfl) _ _ _ _ _ _ hK (fun _ _ => rfl), fun z => ⟨fun _ => hn (Or.inl fun j hj => ?_) _ _ _ _ _ _ _ hK (fun _ _ => rfl), fun q => absurd (by rw [show c = 200 from by omega]; rfl) q⟩⟩
    rw [show j = 0 from by omega]; omega
  | succ d ih =>
    intro c fs fr s yb tr kn st hc hW hS hs ht hK hy hn
    have hb := hs.2.2.2.2.2.1
    have hM7 : M ≤ 7 := Nat.le_trans hs.1 hs.2.1
    have c1 : (1 : Int32).toNatClampNeg = 1 := rfl
    have c2 : (2 : Int32).toNatClampNeg = 2 := rfl
    have c3 : (3 : Int32).toNatClampNeg = 3 := rfl
    unfold m_X12_acrossTime_L15
    rw [c1, c2, c3, hS.2.1, hS.2.2.1, hS.2.2.2.1, nI_leI (by omega) (by omega)]
    refine ⟨fun z => hy 0 (by omega) (by omega) (fun j hj => absurd hj (by omega)) (Or.inl rfl) _ _ _ _ _ _ hK (fun _ _ => rfl), fun z => ⟨fun q => absurd ((nI_eq (a := c) (b := 200) (by omega) (by omega)).mp q) (by omega), fun _ => ⟨fun q => ?_, fun q => ?_⟩⟩⟩
    · have := (nI_eq (a := M) (b := 0) (by omega) (by omega)).mp q
      exact hn (Or.inr ⟨this, by omega⟩) _ _ _ _ _ _ _ hK (fun _ _ => rfl)
    · have hM0 : 0 < M := by
        rcases Nat.eq_zero_or_pos M with w | w
        · exact absurd (by rw [w]; rfl) q
        · exact w
      refine q_goesM (gap := gap) hW hS hs hM0 (by omega) hF hg hK (fun fs' fr' s' yb' tr' kn' hK' hW' hFr hS' => ?_)
      rw [nI_1]
      have hT := turn_T (D := D) (gap := gap) (fl := fl) (M := M) (s := st)
      have hY := turn_Y (D := D) (gap := gap) (fl := fl) (s := st) hM0
      refine ih (c + 1) fs' fr' s' yb' tr' kn' (turnN D gap fl M st) (by omega) hW' hS' (turn_ok (WD_gap hW.1 hg) hs) (by omega) hK' (fun T hT1 hT2 hT3 hT4 fs2 fr2 s2 yb2 tr2 kn2 hk2 hf2 => ?_) (fun hno fs2 fr2 tu s2 yb2 tr2 kn2 hk2 hf2 => hn ?_ _ _ _ _ _ _ _ hk2 (fun j hj => (hf2 j hj).trans (hFr j hj)))
      · have := hy (T + 1) (by omega) (by rw [Nat.succ_mul]; omega) (fun j hj => ?_) (Or.inr hM0) fs2 fr2 s2 yb2 tr2 kn2 hk2 (fun j hj => (hf2 j hj).trans (hFr j hj))
        · rw [show c + 1 + T = c + (T + 1) from by omega]; exact this
        · cases j with
          | zero => omega
          | succ j =>
            have := hT3 j (by omega)
            rw [Nat.succ_mul]; omega
      · rcases hno with h | ⟨h, -⟩
        · refine Or.inl (fun j hj => ?_)
          cases j with
          | zero => omega
          | succ j =>
            have := h j (by omega)
            rw [Nat.succ_mul]; omega
        · omega
theorem q_tried {D : DT} {nf gap0 gap far fl M : Nat} {giver tu0 fs fr : Int32} {s f yb tr kn : Nat → Int32} {st : TS} {Q : Int32 → Int32 → Int32 → Int32 → (Nat → Int32) → (Nat → Int32) → (Nat → Int32) → (Nat → Int32) → Prop} (hW : WM D nf gap0 far s) (hS : StM (dN D) M s st) (hs : TSok (dN D) M st) (ht : tT st ≤ 2000) (hF : FlatC giver fl) (hg : gap ≤ 99) (hK : KnownOk D fl kn)
    (h0 : taN far gap M (tY st) = none → ∀ (fs' fr' tu : Int32) (s' yb' tr' kn' : Nat → Int32), KnownOk D fl kn' → (∀ k, k < 18 → s' k = f k) → (∀ k, 18 ≤ k → s' k = s k) → Q (-5) fs' fr' tu s' yb' tr' kn')
    (h1 : ∀ T, taN far gap M (tY st) = some T → ∀ (fs' fr' : Int32) (s' yb' tr' kn' : Nat → Int32), KnownOk D fl kn' → (∀ k, k < 18 → s' k = f k) → (∀ k, 18 ≤ k → s' k = s k) → Q (nI (tM (itN D gap fl M T st))) fs' fr' (nI T) s' yb' tr' kn') :
    m_X12_triedTime fs fr (nI gap) giver tu0 s f yb tr kn Q := by
  have hg0 := hW.2.2.2.2.1
  unfold m_X12_triedTime m_X12_acrossTime
  refine q_tellsFar hW ⟨201, ?_⟩
  rw [show (0 : Int32) = nI 0 from rfl]
  refine q_acrossL hF hg hg0 200 0 fs fr s yb tr kn st (by omega) hW hS hs (by omega) hK (fun T hT1 hT2 hT3 hT4 fs' fr' s' yb' tr' kn' hk hf => ?_) (fun hno fs' fr' tu s' yb' tr' kn' hk hf => ?_)
  · refine q_goesBack (fun s2 a b => ?_)
    rw [Nat.zero_add]
    exact h1 T (taN_some hT2 hT3 hT4 hT1) fs' fr' s2 yb' tr' kn' hk a (fun k hk' => (b k hk').trans (hf k hk'))
  · exact q_goesBack (fun s2 a b => h0 (taN_none hno) fs' fr' tu s2 yb' tr' kn' hk a (fun k hk' => (b k hk').trans (hf k hk')))
