/-! PURE: the trial; across -/
abbrev AR : Type := Nat → Int32
abbrev LKT : Type := Nat → Option (Nat × Int32 × Int32 × Int32)
abbrev FKT : Type := Nat → Option ((Nat → Int32) × (Nat → Int32) × (Nat → Int32) × (Nat → Int32) × (Nat → Int32) × Int32)
def Sur (N : Nat) (st : TS) : Prop := ∀ p, p < N → ∃ k, k < N ∧ tP st k = p
def PeoOk (lk : LKT) (nP : Nat → Option Nat) : Prop := ∀ k, k < 7 → ∀ b, nP k = some b → ∃ (ci : Nat) (x0 x1 x2 : Int32), lk b = some (ci, x0, x1, x2)
def NowC (D : DT) (gap far : Nat) (lk : LKT) (fk : FKT) (nF : Option Nat) (nS nT nY nM nG nA nL : Int32) (nP : Nat → Option Nat) (nC nB nR : AR) (st : TS) : Prop := WC D gap 7 lk fk nF nG nL nP nR ∧ StC (dN D) (dN D) nS nT nY nM nC nB st ∧ TSok (dN D) (dN D) st ∧ tT st ≤ 999 ∧ nA = nI far ∧ far ≤ 99 ∧ nL = -1 ∧ PeoOk lk nP ∧ Sur (dN D) st ∧ ∀ k, dN D ≤ k → k < 7 → nP k = none
def NowM (D : DT) (nf gap far : Nat) (s : AR) (st : TS) : Prop := WM D nf gap far s ∧ StM (dN D) (dN D) s st ∧ TSok (dN D) (dN D) st ∧ tT st ≤ 999 ∧ Sur (dN D) st
theorem q_one2 {a : Int32} {Q : Int32 → Prop} (h1 : a = 0 ∨ a = 1 → Q 1) (h0 : ¬ a = 0 → ¬ a = 1 → Q 0) : m_X11_isOneOfTwo a Q :=
  ⟨fun c => h1 (Or.inl c), fun c => ⟨fun d => h1 (Or.inr d), fun d => h0 c d⟩⟩
theorem q_inN {a hi : Int32} (n : Nat) {Q : Int32 → Prop} (hh : hi = nI n) (hn : n < 2 ^ 20) (h1 : ∀ k, k ≤ n → a = nI k → Q 1) (h0 : (∀ k, k ≤ n → ¬ a = nI k) → Q 0) : m_X12_in a 0 hi Q := by
  subst hh
  refine q_in (fun c d => ?_) (fun c => ?_)
  · rcases pk_ix a (n := n + 1) (by omega) with h | h | ⟨j, hj, e⟩
    · exact absurd h c
    · refine absurd ?_ d
      rw [Int32.le_iff_toInt_le, nI_toInt (by omega)] at h
      rw [Int32.lt_iff_toInt_lt, nI_toInt (by omega)]
      omega
    · exact h1 j (by omega) e
  · refine h0 (fun k hk e => ?_)
    subst e
    rcases c with c | c
    · exact nI_pos (by omega) c
    · have := (nI_ltI (by omega) (by omega)).mp c
      omega
theorem q_in01 {a : Int32} {Q : Int32 → Prop} (h1 : a = 0 ∨ a = 1 → Q 1) (h0 : ¬ a = 0 → ¬ a = 1 → Q 0) : m_X12_in a 0 1 Q :=
  q_inN 1 rfl (by decide) (fun k hk e => h1 (by
    have : k = 0 ∨ k = 1 := by omega
    rcases this with rfl | rfl
    · exact Or.inl e
    · exact Or.inr e)) (fun h => h0 (h 0 (by omega)) (h 1 (by omega)))
theorem q_becomeR {lk : LKT} {nF uF : Option Nat} {nS nT nY nM nG nA nL uS uT uY uM uG uA uL : Int32} {nR C B : AR} {PP : Nat → Option Nat} {Q : Option Nat → Int32 → Int32 → Int32 → Int32 → Int32 → Int32 → Int32 → (Nat → Option Nat) → AR → AR → AR → Prop} :
    ∀ (d i : Nat) (R : AR), i + d = 21 → (∀ k, k < i → R k = nR k) → (∀ R' : AR, (∀ k, k < 21 → R' k = nR k) → Q nF nS nT nY nM nG nA nL PP C B R') → m_X5_become_L52 lk nF nS nT nY nM nG nA nL nR uF uS uT uY uM uG uA uL PP C B Q (d + 1) R (nI i) := by
  intro d
  induction d with
  | zero =>
    intro i R hi hR hQ
    unfold m_X5_become_L52
    exact ⟨fun _ => hQ R (fun k hk => hR k (by omega)), fun c => absurd ((nI_leI (a := 21) (b := i) (by omega) (by omega)).mpr (by omega)) c⟩
  | succ d ih =>
    intro i R hi hR hQ
    unfold m_X5_become_L52
    rw [nI_clamp (by omega)]
    refine ⟨fun c => absurd ((nI_leI (a := 21) (b := i) (by omega) (by omega)).mp c) (by omega), fun _ => ⟨vp_in_nI (by omega) (by decide), vp_in_nI (by omega) (by decide), fun y e x ex => ?_⟩⟩
    rw [nI_1] at ex
    subst ex
    refine ih (i + 1) y (by omega) (fun k hk => ?_) hQ
    by_cases ek : k = i
    · rw [e, ek, pk_us]
    · rw [e, pk_un ek]; exact hR k (by omega)
theorem va_us {f : Nat → Option Nat} {k : Nat} {x : Option Nat} : va_up f k x k = x := by unfold va_up; exact if_pos rfl
theorem va_un {f : Nat → Option Nat} {k j : Nat} {x : Option Nat} (h : j ≠ k) : va_up f k x j = f j := by unfold va_up; exact if_neg h
theorem q_becomeL {lk : LKT} {nF : Option Nat} {nS nT nY nM nG nA nL : Int32} {nP : Nat → Option Nat} {nC nB nR : AR} {uF : Option Nat} {uS uT uY uM uG uA uL : Int32} {uR : AR} {Q : Option Nat → Int32 → Int32 → Int32 → Int32 → Int32 → Int32 → Int32 → (Nat → Option Nat) → AR → AR → AR → Prop} (hp : PeoOk lk nP) :
    ∀ (d i : Nat) (P : Nat → Option Nat) (C B : AR), i + d = 7 → (∀ k, k < i → P k = nP k ∧ C k = nC k ∧ B k = nB k) → (∀ (P' : Nat → Option Nat) (C' B' R' : AR), (∀ k, k < 7 → P' k = nP k) → (∀ k, k < 7 → C' k = nC k) → (∀ k, k < 7 → B' k = nB k) → (∀ k, k < 21 → R' k = nR k) → Q nF nS nT nY nM nG nA nL P' C' B' R') → m_X5_become_L2 lk nF nS nT nY nM nG nA nL nP nC nB nR uF uS uT uY uM uG uA uL uR Q (d + 1) P C B (nI i) := by
  intro d
  induction d with
  | zero =>
    intro i P C B hi h hQ
    unfold m_X5_become_L2
    refine ⟨fun _ x e => ⟨22, ?_⟩, fun c => absurd ((nI_leI (a := 7) (b := i) (by omega) (by omega)).mpr (by omega)) c⟩
    subst e
    exact q_becomeR 21 0 uR rfl (fun k hk => absurd hk (by omega)) (fun R' hR => hQ P C B R' (fun k hk => (h k (by omega)).1) (fun k hk => (h k (by omega)).2.1) (fun k hk => (h k (by omega)).2.2) hR)
  | succ d ih =>
    intro i P C B hi h hQ
    unfold m_X5_become_L2
    rw [nI_clamp (by omega)]
    have v : vp_in (nI i) 7 := vp_in_nI (by omega) (by decide)
    refine ⟨fun c => absurd ((nI_leI (a := 7) (b := i) (by omega) (by omega)).mp c) (by omega), fun _ => ⟨v, fun b hb => hp i (by omega) b hb, v, fun y9 e9 => ⟨v, v, fun y10 e10 => ⟨v, v, fun y11 e11 x ex => ?_⟩⟩⟩⟩
    rw [nI_1] at ex
    subst ex
    refine ih (i + 1) y9 y10 y11 (by omega) (fun k hk => ?_) hQ
    by_cases ek : k = i
    · rw [e9, e10, e11, ek, va_us, pk_us, pk_us]; exact ⟨rfl, rfl, rfl⟩
    · rw [e9, e10, e11, va_un ek, pk_un ek, pk_un ek]; exact h k (by omega)
theorem q_become {lk : LKT} {nF : Option Nat} {nS nT nY nM nG nA nL : Int32} {nP : Nat → Option Nat} {nC nB nR : AR} {uF : Option Nat} {uS uT uY uM uG uA uL : Int32} {uP : Nat → Option Nat} {uC uB uR : AR} {Q : Option Nat → Int32 → Int32 → Int32 → Int32 → Int32 → Int32 → Int32 → (Nat → Option Nat) → AR → AR → AR → Prop} (hp : PeoOk lk nP)
    (hQ : ∀ (P' : Nat → Option Nat) (C' B' R' : AR), (∀ k, k < 7 → P' k = nP k) → (∀ k, k < 7 → C' k = nC k) → (∀ k, k < 7 → B' k = nB k) → (∀ k, k < 21 → R' k = nR k) → Q nF nS nT nY nM nG nA nL P' C' B' R') : m_X5_become lk uF uS uT uY uM uG uA uL uP uC uB uR nF nS nT nY nM nG nA nL nP nC nB nR Q := by
  intro x e
  subst e
  exact ⟨8, q_becomeL hp 7 0 uP uC uB rfl (fun k hk => absurd hk (by omega)) hQ⟩
theorem WC_cp {D : DT} {gap fl : Nat} {lk : LKT} {fk : FKT} {field : Option Nat} {gapI flat : Int32} {P P' : Nat → Option Nat} {R R' : AR} (h : WC D gap fl lk fk field gapI flat P R) (hP : ∀ k, k < 7 → P' k = P k) (hR : ∀ k, k < 21 → R' k = R k) : WC D gap fl lk fk field gapI flat P' R' := by
  obtain ⟨h1, h2, h3, h4⟩ := h
  have hN := h1.1
  refine ⟨h1, fun q hq => ?_, fun j hj => ?_, h4⟩
  · obtain ⟨a, ha, hl⟩ := h2 q hq
    exact ⟨a, (hP q (by omega)).trans ha, hl⟩
  · rw [hR j (by omega)]; exact h3 j hj
theorem StC_cp {N M : Nat} {size turn yards time : Int32} {C C' B B' : AR} {st : TS} (h : StC N M size turn yards time C B st) (hN : N ≤ 7) (hM : M ≤ 7) (hC : ∀ k, k < 7 → C' k = C k) (hB : ∀ k, k < 7 → B' k = B k) : StC N M size turn yards time C' B' st := by
  obtain ⟨h1, h2, h3, h4, h5, h6⟩ := h
  exact ⟨h1, h2, h3, h4, fun k hk => (hC k (by omega)).trans (h5 k hk), fun p hp => (hB p (by omega)).trans (h6 p hp)⟩
theorem WC_fl {D : DT} {gap gap' fl fl' : Nat} {lk : LKT} {fk : FKT} {field : Option Nat} {gapI gapI' flat flat' : Int32} {P : Nat → Option Nat} {R : AR} (h : WC D gap fl lk fk field gapI flat P R) (hF : FlatC flat' fl') (hg : gapI' = nI gap') (hg9 : gap' ≤ 99) : WC D gap' fl' lk fk field gapI' flat' P R := by
  obtain ⟨h1, h2, h3, h4, h5, h6, h7, h8, h9⟩ := h
  exact ⟨h1, h2, h3, hF, h5, h6, h7, hg, hg9⟩
theorem q_trial {D : DT} {gap far : Nat} {lk : LKT} {fk : FKT} {nF : Option Nat} {nS nT nY nM nG nA nL : Int32} {nP : Nat → Option Nat} {nC nB nR : AR} {uF : Option Nat} {uS uT uY uM uG uA uL : Int32} {uP : Nat → Option Nat} {uC uB uR : AR} {st : TS} {Q : Option Nat → Int32 → Int32 → Int32 → Int32 → Int32 → Int32 → Int32 → (Nat → Option Nat) → AR → AR → AR → Prop} (h : NowC D gap far lk fk nF nS nT nY nM nG nA nL nP nC nB nR st)
    (hQ : ∀ (P' : Nat → Option Nat) (C' B' R' : AR), WC D gap 7 lk fk nF nG nL P' R' → StC (dN D) (dN D) nS nT nY nM C' B' st → Q nF nS nT nY nM nG nA nL P' C' B' R') : m_X5_become lk uF uS uT uY uM uG uA uL uP uC uB uR nF nS nT nY nM nG nA nL nP nC nB nR Q := by
  obtain ⟨h1, h2, h3, -, -, -, -, h7, -⟩ := h
  exact q_become h7 (fun P' C' B' R' a b c d => hQ P' C' B' R' (WC_cp h1 a d) (StC_cp h2 h3.2.1 h3.2.1 b c))
theorem q_timeAcross {D : DT} {gap far : Nat} {lk : LKT} {fk : FKT} {nF : Option Nat} {nS nT nY nM nG nA nL : Int32} {nP : Nat → Option Nat} {nC nB nR : AR} {uF : Option Nat} {uS uT uY uM uG uA uL : Int32} {uP : Nat → Option Nat} {uC uB uR uE : AR} {st : TS} {Q : Int32 → Option Nat → Int32 → Int32 → Int32 → Int32 → Int32 → Int32 → Int32 → (Nat → Option Nat) → AR → AR → AR → AR → Prop} (h : NowC D gap far lk fk nF nS nT nY nM nG nA nL nP nC nB nR st)
    (h0 : acN D gap 7 (dN D) far st = none → ∀ (uF' : Option Nat) (uS' uT' uY' uM' uG' uA' uL' : Int32) (uP' : Nat → Option Nat) (uC' uB' uR' uE' : AR), Q (-5) uF' uS' uT' uY' uM' uG' uA' uL' uP' uC' uB' uR' uE') (h1 : ∀ w, acN D gap 7 (dN D) far st = some w → w < 2 ^ 30 → ∀ (uF' : Option Nat) (uS' uT' uY' uM' uG' uA' uL' : Int32) (uP' : Nat → Option Nat) (uC' uB' uR' uE' : AR), Q (nI w) uF' uS' uT' uY' uM' uG' uA' uL' uP' uC' uB' uR' uE') : m_X11_timeAcross lk fk nF nS nT nY nM nG nA nL nP nC nB nR uF uS uT uY uM uG uA uL uP uC uB uR uE Q := by
  unfold m_X11_timeAcross
  refine q_trial h (fun P' C' B' R' hW hS => ?_)
  rw [show (2147483647 : Int32) = nI 2147483647 from rfl]
  refine q_goAcross (by omega) hW hS h.2.2.1 (by have := h.2.2.2.1; omega) h.2.2.2.2.1 h.2.2.2.2.2.1 (fun e t' y' m' p' b' s' => h0 e _ _ _ _ _ _ _ _ _ _ _ _ _) (fun w e r t' y' m' p' b' s' hr hr9 => ?_)
  rcases hr with rfl | ⟨hr, -⟩
  · exact h1 r e hr9 _ _ _ _ _ _ _ _ _ _ _ _ _
  · omega
def acrossA (D : DT) (gap far : Nat) (st : TS) (a : Int32) : Int32 :=
  if a = 0 then (match taN far gap (dN D) (tY st) with | none => -5 | some T => nI T) else if a = 1 then (match acN D gap 7 (dN D) far st with | none => -5 | some w => nI w) else -1
theorem q_acrossC {D : DT} {gap far : Nat} {lk : LKT} {fk : FKT} {nF : Option Nat} {nS nT nY nM nG nA nL : Int32} {nP : Nat → Option Nat} {nC nB nR : AR} {uF : Option Nat} {uS uT uY uM uG uA uL : Int32} {uP : Nat → Option Nat} {uC uB uR uE : AR} {st : TS} {a : Int32} {Q : Int32 → Option Nat → Int32 → Int32 → Int32 → Int32 → Int32 → Int32 → Int32 → (Nat → Option Nat) → AR → AR → AR → AR → Prop} (h : NowC D gap far lk fk nF nS nT nY nM nG nA nL nP nC nB nR st)
    (hQ : ∀ (uF' : Option Nat) (uS' uT' uY' uM' uG' uA' uL' : Int32) (uP' : Nat → Option Nat) (uC' uB' uR' uE' : AR), Q (acrossA D gap far st a) uF' uS' uT' uY' uM' uG' uA' uL' uP' uC' uB' uR' uE') : m_X11_across lk fk nF nS nT nY nM nG nA nL nP nC nB nR uF uS uT uY uM uG uA uL uP uC uB uR uE a Q := by
  unfold acrossA at hQ
  refine q_one2 (fun c => ⟨fun z => absurd z (by decide), fun _ => ⟨fun c0 => ?_, fun c0 => ?_⟩⟩) (fun c0 c1 => ⟨fun _ => ?_, fun z => absurd rfl z⟩)
  · rw [if_pos c0] at hQ
    have hy := h.2.2.1.2.2.2.2.2.1
    refine q_turnsAcross (M := dN D) (y := tY st) (gap := gap) (far := far) h.2.1.1 h.2.1.2.2.1 h.1.2.2.2.2.2.2.2.1 h.2.2.2.2.1 h.2.2.1.2.1 (by have := h.2.2.2.1; omega) h.1.2.2.2.2.2.2.2.2 h.2.2.2.2.2.1 (fun e => ?_) (fun T e => ?_)
    · rw [e] at hQ; exact hQ _ _ _ _ _ _ _ _ _ _ _ _ _
    · rw [e] at hQ; exact hQ _ _ _ _ _ _ _ _ _ _ _ _ _
  · have c1 : a = 1 := c.resolve_left c0
    rw [if_neg c0, if_pos c1] at hQ
    refine q_timeAcross h (fun e => ?_) (fun w e _ => ?_)
    · rw [e] at hQ; exact hQ
    · rw [e] at hQ; exact hQ
  · rw [if_neg c0, if_neg c1] at hQ
    exact hQ _ _ _ _ _ _ _ _ _ _ _ _ _
theorem s_back {s s' f : AR} (h1 : ∀ k, k < 18 → f k = s k) (h2 : ∀ k, k < 18 → s' k = f k) (h3 : ∀ k, 18 ≤ k → s' k = s k) : s' = s := by
  funext k
  by_cases hk : k < 18
  · exact (h2 k hk).trans (h1 k hk)
  · exact h3 k (by omega)
theorem q_acrossM {D : DT} {nf gap far : Nat} {s fm yb tr kn : AR} {st : TS} {fs fr g tu a : Int32} {Q : Int32 → Int32 → Int32 → Int32 → Int32 → AR → AR → AR → AR → AR → Prop} (h : NowM D nf gap far s st)
    (hQ : ∀ (fs' fr' g' tu' : Int32) (fm' yb' tr' kn' : AR), Q (acrossA D gap far st a) fs' fr' g' tu' s fm' yb' tr' kn') : m_X12_across fs fr g (-1) tu s fm yb tr kn a Q := by
  obtain ⟨hW, hS, hs, ht, -⟩ := h
  have hF : FlatC (-1) 7 := Or.inl ⟨rfl, rfl⟩
  have hg := hW.1.2.2.2.2
  unfold acrossA at hQ
  refine q_in01 (fun c => ⟨fun z => absurd z (by decide), fun _ => q_begins (fl := 7) hW (fun kn1 hK => q_keeps (fun f1 hf1 => ?_))⟩) (fun c0 c1 => ⟨fun _ => ?_, fun z => absurd rfl z⟩)
  · refine q_tried hW hS hs (by omega) hF hg hK (fun e fs' fr' tu' s' yb' tr' kn' _ h2 h3 => ?_) (fun T e fs' fr' s' yb' tr' kn' _ h2 h3 => ?_)
    · rw [s_back hf1 h2 h3]
      have ea : acN D gap 7 (dN D) far st = none := by unfold acN; rw [e]
      refine ⟨fun z => ?_, fun z => ⟨fun _ => ?_, fun w => absurd rfl w⟩⟩
      · rw [if_neg (by rw [z]; decide), if_pos z, ea] at hQ
        exact hQ _ _ _ _ _ _ _ _
      · rw [if_pos (c.resolve_right z), e] at hQ
        exact hQ _ _ _ _ _ _ _ _
    · rw [s_back hf1 h2 h3]
      have ea : acN D gap 7 (dN D) far st = some (tM (itN D gap 7 (dN D) T st)) := by unfold acN; rw [e]
      refine ⟨fun z => ?_, fun z => ⟨fun w => ?_, fun _ => ?_⟩⟩
      · rw [if_neg (by rw [z]; decide), if_pos z, ea] at hQ
        exact hQ _ _ _ _ _ _ _ _
      · have := (itN_ok (fl := 7) hW.1 T st hs).2.2.2.2.2.2
        have h2 := itN_T (D := D) (gap := gap) (fl := 7) (M := dN D) T st
        have h3 := taN_le e
        have := congrArg Int32.toInt w
        rw [nI_toInt (by omega)] at this
        exact absurd this (by rw [show (-5 : Int32).toInt = -5 from by decide]; omega)
      · rw [if_pos (c.resolve_right z), e] at hQ
        exact hQ _ _ _ _ _ _ _ _
  · rw [if_neg c0, if_neg c1] at hQ
    exact hQ _ _ _ _ _ _ _ _
