/-! PURE: gap -/
abbrev QuT : Type := Int32 → Option Nat → Int32 → Int32 → Int32 → Int32 → Int32 → Int32 → Int32 → (Nat → Option Nat) → AR → AR → AR → AR → Prop
/-- the least time so far, and by what -/
def lstN {X : Type} : Option (X × Nat) → Nat
  | none => 2147483647
  | some (_, l) => l
def pick {X : Type} (b : Option (X × Nat)) (x : X) (w : Option Nat) : Option (X × Nat) := match w with
  | none => b
  | some w => if w < lstN b then some (x, w) else b
theorem pick_none {X : Type} {b : Option (X × Nat)} {x : X} : pick b x none = b := rfl
theorem pick_lt {X : Type} {b : Option (X × Nat)} {x : X} {w : Nat} (h : w < lstN b) : pick b x (some w) = some (x, w) := if_pos h
theorem pick_ge {X : Type} {b : Option (X × Nat)} {x : X} {w : Nat} (h : ¬ w < lstN b) : pick b x (some w) = b := if_neg h
theorem acN_lt {D : DT} {gap fl M far w : Nat} {st : TS} (hW : WD D gap) (hs : TSok (dN D) M st) (ht : tT st ≤ 2000) (h : acN D gap fl M far st = some w) : w < 2 ^ 30 := by
  unfold acN at h
  split at h
  · cases h
  · rename_i T e
    cases h
    have h1 := (itN_ok (fl := fl) hW T st hs).2.2.2.2.2.2
    have h2 := itN_T (D := D) (gap := gap) (fl := fl) (M := M) T st
    have h3 := taN_le e
    omega
theorem q_triedA {D : DT} {nf gap0 gap far fl M : Nat} {giver tu0 fs fr : Int32} {s s1 f yb tr kn : AR} {st : TS} {Q : Int32 → Int32 → Int32 → Int32 → AR → AR → AR → AR → Prop} (hW : WM D nf gap0 far s1) (hS : StM (dN D) M s1 st) (hs : TSok (dN D) M st) (ht : tT st ≤ 2000) (hF : FlatC giver fl) (hg : gap ≤ 99) (hK : KnownOk D fl kn) (hf : ∀ k, k < 18 → f k = s k) (hfr : ∀ k, 18 ≤ k → s1 k = s k)
    (h0 : acN D gap fl M far st = none → ∀ (fs' fr' tu : Int32) (yb' tr' kn' : AR), KnownOk D fl kn' → Q (-5) fs' fr' tu s yb' tr' kn')
    (h1 : ∀ w, acN D gap fl M far st = some w → w < 2 ^ 30 → ∀ (fs' fr' tu : Int32) (yb' tr' kn' : AR), KnownOk D fl kn' → Q (nI w) fs' fr' tu s yb' tr' kn') :
    m_X12_triedTime fs fr (nI gap) giver tu0 s1 f yb tr kn Q := by
  refine q_tried hW hS hs ht hF hg hK (fun e fs' fr' tu s' yb' tr' kn' hk a b => ?_) (fun T e fs' fr' s' yb' tr' kn' hk a b => ?_)
  · rw [s_back hf a (fun k hk' => (b k hk').trans (hfr k hk'))]
    exact h0 (by unfold acN; rw [e]) _ _ _ _ _ _ hk
  · rw [s_back hf a (fun k hk' => (b k hk').trans (hfr k hk'))]
    have e' : acN D gap fl M far st = some (tM (itN D gap fl M T st)) := by unfold acN; rw [e]
    exact h1 _ e' (acN_lt (WD_gap hW.1 hg) hs ht e') _ _ _ _ _ _ hk
def gapB (D : DT) (far : Nat) (st : TS) : Nat → Option (Nat × Nat)
  | 0 => none
  | k + 1 => pick (gapB D far st k) (k + 1) (acN D (k + 1) 7 (dN D) far st)
theorem gapB_succ {D : DT} {far k : Nat} {st : TS} : gapB D far st (k + 1) = pick (gapB D far st k) (k + 1) (acN D (k + 1) 7 (dN D) far st) := rfl
def gInvC (b : Option (Nat × Nat)) (v2 v3 : Int32) : Prop := v2 = nI (lstN b) ∧ match b with
  | none => v3 = -5
  | some (g, l) => v3 = nI g ∧ l < 2 ^ 30 ∧ g ≤ 9
def gInvM (b : Option (Nat × Nat)) (v2 v3 : Int32) : Prop := match b with
  | none => v2 = -5 ∧ v3 = -5
  | some (g, l) => v2 = nI g ∧ v3 = nI l ∧ l < 2 ^ 30 ∧ g ≤ 9
theorem lst_lt {b : Option (Nat × Nat)} {v2 v3 : Int32} (h : gInvC b v2 v3) : lstN b < 2 ^ 31 := by
  obtain ⟨-, h⟩ := h
  cases b with
  | none => show 2147483647 < 2 ^ 31; omega
  | some p =>
    obtain ⟨g, l⟩ := p
    show l < 2 ^ 31
    have : l < 2 ^ 30 := h.2.1
    omega
theorem nI_nm5 {a : Nat} (h : a < 2 ^ 31) : ¬ nI a = -5 := fun c => by
  have := congrArg Int32.toInt c
  rw [nI_toInt h] at this
  exact absurd this (by rw [show (-5 : Int32).toInt = -5 from by decide]; omega)
def gapA (D : DT) (far : Nat) (st : TS) (a : Int32) : Int32 := if a = 0 then (match gapB D far st 9 with | none => -5 | some (g, _) => nI g) else if a = 1 then (match gapB D far st 9 with | none => -5 | some (_, l) => nI l) else -1
theorem q_gapLC {D : DT} {gap far : Nat} {lk : LKT} {fk : FKT} {nF : Option Nat} {nS nT nY nM nG nA nL : Int32} {nP : Nat → Option Nat} {nC nB nR : AR} {st : TS} {a : Int32} {Q : QuT} (h : NowC D gap far lk fk nF nS nT nY nM nG nA nL nP nC nB nR st) (ha : a = 0 ∨ a = 1) (hQ : ∀ (uF : Option Nat) (uS uT uY uM uG uA uL : Int32) (uP : Nat → Option Nat) (uC uB uR uE : AR), Q (gapA D far st a) uF uS uT uY uM uG uA uL uP uC uB uR uE) :
    ∀ (d k : Nat) (uF : Option Nat) (uS uT uY uM uG uA uL : Int32) (uP : Nat → Option Nat) (uC uB uR uE : AR) (v2 v3 : Int32), k + d = 9 → gInvC (gapB D far st k) v2 v3 → m_X11_gap_L18 lk fk nF nS nT nY nM nG nA nL nP nC nB nR a Q (d + 1) uF uS uT uY uM uG uA uL uP uC uB uR uE v2 v3 (nI (k + 1)) := by
  intro d
  induction d with
  | zero =>
    intro k uF uS uT uY uM uG uA uL uP uC uB uR uE v2 v3 hk hi
    have hk9 : k = 9 := by omega
    subst hk9
    unfold gapA at hQ
    unfold m_X11_gap_L18
    refine ⟨fun _ => ⟨fun c => ?_, fun c => ⟨fun e => ?_, fun e => ?_⟩⟩, fun c => absurd (by decide) c⟩
    · rw [if_pos c] at hQ
      obtain ⟨-, h3⟩ := hi
      cases hb : gapB D far st 9 with
      | none => rw [hb] at h3 hQ; have h3 : v3 = -5 := h3; rw [h3]; exact hQ _ _ _ _ _ _ _ _ _ _ _ _ _
      | some p => obtain ⟨g, l⟩ := p; rw [hb] at h3 hQ; rw [h3.1]; exact hQ _ _ _ _ _ _ _ _ _ _ _ _ _
    · rw [if_neg c, if_pos (ha.resolve_left c)] at hQ
      obtain ⟨-, h3⟩ := hi
      cases hb : gapB D far st 9 with
      | none => rw [hb] at hQ; rw [e]; exact hQ _ _ _ _ _ _ _ _ _ _ _ _ _
      | some p => obtain ⟨g, l⟩ := p; rw [hb] at h3; have h9 : g ≤ 9 := h3.2.2; rw [h3.1] at e; exact absurd e (nI_nm5 (by omega))
    · rw [if_neg c, if_pos (ha.resolve_left c)] at hQ
      obtain ⟨h2, h3⟩ := hi
      cases hb : gapB D far st 9 with
      | none => rw [hb] at h3; exact absurd h3 e
      | some p => obtain ⟨g, l⟩ := p; rw [hb] at h2 hQ; rw [h2]; exact hQ _ _ _ _ _ _ _ _ _ _ _ _ _
  | succ d ih =>
    intro k uF uS uT uY uM uG uA uL uP uC uB uR uE v2 v3 hk hi
    have hl := lst_lt hi
    have hs := h.2.2.1
    have hW := h.1
    unfold m_X11_gap_L18
    refine ⟨fun c => absurd ((nI_ltI (a := 9) (b := k + 1) (by omega) (by omega)).mp c) (by omega), fun _ => q_trial h (fun P' C' B' R' hW' hS' => ?_)⟩
    rw [hi.1]
    have step : ∀ b v2 v3, gapB D far st (k + 1) = b → gInvC b v2 v3 → ∀ (uF : Option Nat) (uS uT uY uM uG uA uL : Int32) (uP : Nat → Option Nat) (uC uB uR uE : AR), m_X11_gap_L77 lk fk nF nS nT nY nM nG nA nL nP nC nB nR a uF uS uT uY uM uG uA uL uP uC uB uR uE v2 v3 (nI (k + 1)) (m_X11_gap_L18 lk fk nF nS nT nY nM nG nA nL nP nC nB nR a Q (d + 1)) Q := by
      intro b v2 v3 e hb uF uS uT uY uM uG uA uL uP uC uB uR uE
      subst e
      unfold m_X11_gap_L77
      intro x ex
      rw [nI_1] at ex
      subst ex
      exact ih (k + 1) _ _ _ _ _ _ _ _ _ _ _ _ _ v2 v3 (by omega) hb
    refine q_goAcross (gap := k + 1) hl (WC_fl hW' (Or.inl ⟨h.2.2.2.2.2.2.1, rfl⟩) rfl (by omega)) hS' hs (by have := h.2.2.2.1; omega) h.2.2.2.2.1 h.2.2.2.2.2.1 (fun e t' y' m' p' b' s' => ⟨fun _ => ?_, fun z => absurd rfl z⟩) (fun w e r t' y' m' p' b' s' hr hr9 => ⟨fun z => absurd z (nI_nm5 (by omega)), fun _ => ⟨fun z => ?_, fun z => ?_⟩⟩)
    · exact step _ _ _ (by rw [gapB_succ, e, pick_none]) ⟨rfl, hi.2⟩ _ _ _ _ _ _ _ _ _ _ _ _ _
    · have hL := (nI_leI (by omega) (by omega)).mp z
      have hw : lstN (gapB D far st k) ≤ w := by
        rcases hr with rfl | ⟨-, hr⟩
        · exact hL
        · exact hr
      exact step _ _ _ (by rw [gapB_succ, e, pick_ge (by omega)]) ⟨rfl, hi.2⟩ _ _ _ _ _ _ _ _ _ _ _ _ _
    · have hL : ¬ lstN (gapB D far st k) ≤ r := fun q => z ((nI_leI (by omega) (by omega)).mpr q)
      have hw : r = w := by
        rcases hr with q | ⟨q, -⟩
        · exact q
        · exact absurd q hL
      subst hw
      exact step (some (k + 1, r)) _ _ (by rw [gapB_succ, e, pick_lt (by omega)]) ⟨rfl, rfl, hr9, by omega⟩ _ _ _ _ _ _ _ _ _ _ _ _ _
theorem q_gapC {D : DT} {gap far : Nat} {lk : LKT} {fk : FKT} {nF : Option Nat} {nS nT nY nM nG nA nL : Int32} {nP : Nat → Option Nat} {nC nB nR : AR} {uF : Option Nat} {uS uT uY uM uG uA uL : Int32} {uP : Nat → Option Nat} {uC uB uR uE : AR} {st : TS} {a : Int32} {Q : QuT} (h : NowC D gap far lk fk nF nS nT nY nM nG nA nL nP nC nB nR st) (hQ : ∀ (uF : Option Nat) (uS uT uY uM uG uA uL : Int32) (uP : Nat → Option Nat) (uC uB uR uE : AR), Q (gapA D far st a) uF uS uT uY uM uG uA uL uP uC uB uR uE) : m_X11_gap lk fk nF nS nT nY nM nG nA nL nP nC nB nR uF uS uT uY uM uG uA uL uP uC uB uR uE a Q := by
  refine q_one2 (fun c => ⟨fun z => absurd z (by decide), fun _ x4 e4 x5 e5 x6 e6 => ⟨10, ?_⟩⟩) (fun c0 c1 => ⟨fun _ => ?_, fun z => absurd rfl z⟩)
  · subst e4
    subst e5
    subst e6
    exact q_gapLC h c hQ 9 0 _ _ _ _ _ _ _ _ _ _ _ _ _ _ _ rfl ⟨rfl, rfl⟩
  · unfold gapA at hQ
    rw [if_neg c0, if_neg c1] at hQ
    exact hQ _ _ _ _ _ _ _ _ _ _ _ _ _
theorem q_gapLM {D : DT} {nf gap far : Nat} {s fm : AR} {st : TS} {a : Int32} {Q : Int32 → Int32 → Int32 → Int32 → Int32 → AR → AR → AR → AR → AR → Prop} (h : NowM D nf gap far s st) (ha : a = 0 ∨ a = 1) (hf : ∀ k, k < 18 → fm k = s k)
    (hQ : ∀ (fs' fr' g' tu' : Int32) (fm' yb' tr' kn' : AR), Q (gapA D far st a) fs' fr' g' tu' s fm' yb' tr' kn') :
    ∀ (d k : Nat) (fs fr g tu : Int32) (yb tr kn : AR) (v2 v3 : Int32), k + d = 9 → KnownOk D 7 kn → gInvM (gapB D far st k) v2 v3 → m_X12_gap_L28 (-1) a fm Q (d + 1) fs fr g tu s yb tr kn v2 v3 (nI (k + 1)) := by
  have hF : FlatC (-1) 7 := Or.inl ⟨rfl, rfl⟩
  intro d
  induction d with
  | zero =>
    intro k fs fr g tu yb tr kn v2 v3 hk hK hi
    have hk9 : k = 9 := by omega
    subst hk9
    unfold gapA at hQ
    unfold m_X12_gap_L28
    refine ⟨fun _ => ⟨fun c => ?_, fun c => ?_⟩, fun c => absurd (by decide) c⟩
    · rw [if_pos c] at hQ
      cases hb : gapB D far st 9 with
      | none => rw [hb] at hi hQ; rw [hi.1]; exact hQ _ _ _ _ _ _ _ _
      | some p => obtain ⟨g, l⟩ := p; rw [hb] at hi hQ; rw [hi.1]; exact hQ _ _ _ _ _ _ _ _
    · rw [if_neg c, if_pos (ha.resolve_left c)] at hQ
      cases hb : gapB D far st 9 with
      | none => rw [hb] at hi hQ; rw [hi.2]; exact hQ _ _ _ _ _ _ _ _
      | some p => obtain ⟨g, l⟩ := p; rw [hb] at hi hQ; rw [hi.2.1]; exact hQ _ _ _ _ _ _ _ _
  | succ d ih =>
    intro k fs fr g tu yb tr kn v2 v3 hk hK hi
    obtain ⟨hW, hS, hs, ht, -⟩ := h
    unfold m_X12_gap_L28
    have step : ∀ b v2 v3, gapB D far st (k + 1) = b → gInvM b v2 v3 → ∀ (fs fr g tu : Int32) (yb tr kn : AR), KnownOk D 7 kn → m_X12_gap_L72 (-1) fm a fs fr g tu s yb tr kn v2 v3 (nI (k + 1)) (m_X12_gap_L28 (-1) a fm Q (d + 1)) Q := by
      intro b v2 v3 e hb fs fr g tu yb tr kn hK
      subst e
      unfold m_X12_gap_L72
      intro x ex
      rw [nI_1] at ex
      subst ex
      exact ih (k + 1) fs fr g tu yb tr kn v2 v3 (by omega) hK hb
    refine ⟨fun c => absurd ((nI_leI (a := 10) (b := k + 1) (by omega) (by omega)).mp c) (by omega), fun _ => q_triedA (gap := k + 1) hW hS hs (by omega) hF (by omega) hK hf (fun _ _ => rfl) (fun e fs' fr' tu' yb' tr' kn' hk' => ⟨fun _ => ?_, fun z => absurd rfl z⟩) (fun w e hw fs' fr' tu' yb' tr' kn' hk' => ⟨fun z => absurd z (nI_nm5 (by omega)), fun _ => ⟨fun z => ?_, fun z => ⟨fun y => ?_, fun y => ?_⟩⟩⟩)⟩
    · exact step _ _ _ (by rw [gapB_succ, e, pick_none]) hi _ _ _ _ _ _ _ hk'
    · unfold m_X12_gap_L66
      cases hb : gapB D far st k with
      | none => exact step (some (k + 1, w)) _ _ (by rw [gapB_succ, e, hb, pick_lt (by show w < 2147483647; omega)]) ⟨rfl, rfl, hw, by omega⟩ _ _ _ _ _ _ _ hk'
      | some p =>
        obtain ⟨g, l⟩ := p
        rw [hb] at hi
        have hl : l < 2 ^ 30 := hi.2.2.1
        rw [hi.2.1] at z
        exact absurd z (nI_nm5 (by omega))
    · cases hb : gapB D far st k with
      | none => rw [hb] at hi; exact absurd hi.2 z
      | some p =>
        obtain ⟨g, l⟩ := p
        rw [hb] at hi
        have hl : l < 2 ^ 30 := hi.2.2.1
        rw [hi.2.1] at y ⊢
        rw [hi.1]
        have := (nI_leI (by omega) (by omega)).mp y
        exact step (some (g, l)) _ _ (by rw [gapB_succ, e, hb, pick_ge (by show ¬ w < l; omega)]) ⟨rfl, rfl, hl, hi.2.2.2⟩ _ _ _ _ _ _ _ hk'
    · unfold m_X12_gap_L66
      cases hb : gapB D far st k with
      | none => rw [hb] at hi; exact absurd hi.2 z
      | some p =>
        obtain ⟨g, l⟩ := p
        rw [hb] at hi
        have hl : l < 2 ^ 30 := hi.2.2.1
        rw [hi.2.1] at y
        have : ¬ l ≤ w := fun q => y ((nI_leI (by omega) (by omega)).mpr q)
        exact step (some (k + 1, w)) _ _ (by rw [gapB_succ, e, hb, pick_lt (by show w < l; omega)]) ⟨rfl, rfl, hw, by omega⟩ _ _ _ _ _ _ _ hk'
theorem q_gapM {D : DT} {nf gap far : Nat} {s fm yb tr kn : AR} {st : TS} {fs fr g tu a : Int32} {Q : Int32 → Int32 → Int32 → Int32 → Int32 → AR → AR → AR → AR → AR → Prop} (h : NowM D nf gap far s st)
    (hQ : ∀ (fs' fr' g' tu' : Int32) (fm' yb' tr' kn' : AR), Q (gapA D far st a) fs' fr' g' tu' s fm' yb' tr' kn') : m_X12_gap fs fr g (-1) tu s fm yb tr kn a Q := by
  refine q_in01 (fun c => ⟨fun z => absurd z (by decide), fun _ => q_begins (fl := 7) h.1 (fun kn1 hK => q_keeps (fun f1 hf1 x11 e11 x12 e12 x13 e13 => ⟨10, ?_⟩))⟩) (fun c0 c1 => ⟨fun _ => ?_, fun z => absurd rfl z⟩)
  · subst e11
    subst e12
    subst e13
    exact q_gapLM h c hf1 hQ 9 0 _ _ _ _ _ _ _ _ _ rfl hK ⟨rfl, rfl⟩
  · unfold gapA at hQ
    rw [if_neg c0, if_neg c1] at hQ
    exact hQ _ _ _ _ _ _ _ _
