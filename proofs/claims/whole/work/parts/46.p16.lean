/-! PURE: change, both -/
def chQ (D : DT) (gap far : Nat) (st : TS) (p : Nat) : Nat → Nat → Option (Int32 × Nat) → Option (Int32 × Nat)
  | 0, _, b => b
  | d + 1, q, b => chQ D gap far st p d (q + 1) (pick b (nI (10 * p + q)) (acN D gap 7 (dN D) far (exTS st p q)))
def chP (D : DT) (gap far : Nat) (st : TS) : Nat → Nat → Option (Int32 × Nat) → Option (Int32 × Nat)
  | 0, _, b => b
  | d + 1, p, b => chP D gap far st d (p + 1) (chQ D gap far st p (dN D - (p + 1)) (p + 1) b)
def changeA (D : DT) (gap far : Nat) (st : TS) : Int32 := match acN D gap 7 (dN D) far st with
  | none => -5
  | some w => match chP D gap far st (dN D) 0 (some (-5, w)) with
    | none => -5
    | some (x, _) => x
def cInv (b : Option (Int32 × Nat)) (v1 v2 : Int32) : Prop := ∃ (x : Int32) (l : Nat), b = some (x, l) ∧ v1 = nI l ∧ v2 = x ∧ l < 2 ^ 30
theorem ac_some {D : DT} {gap fl M far w : Nat} {st st2 : TS} (h : acN D gap fl M far st = some w) (e : tY st2 = tY st) : ∃ v, acN D gap fl M far st2 = some v := by
  unfold acN at h ⊢
  rw [e]
  split at h
  · cases h
  · exact ⟨_, rfl⟩
theorem ac_none {D : DT} {gap fl M far : Nat} {st st2 : TS} (h : acN D gap fl M far st = none) (e : tY st2 = tY st) : acN D gap fl M far st2 = none := by
  cases h2 : acN D gap fl M far st2 with
  | none => rfl
  | some v =>
    obtain ⟨w, hw⟩ := ac_some (st2 := st) h2 e.symm
    rw [h] at hw
    cases hw
theorem q_chQC {D : DT} {gap far w0 p : Nat} {lk : LKT} {fk : FKT} {nF : Option Nat} {nS nT nY nM nG nA nL : Int32} {nP : Nat → Option Nat} {nC nB nR : AR} {st : TS} {Q : QuT} {K : Option Nat → Int32 → Int32 → Int32 → Int32 → Int32 → Int32 → Int32 → (Nat → Option Nat) → AR → AR → AR → AR → Int32 → Int32 → Int32 → Prop} (h : NowC D gap far lk fk nF nS nT nY nM nG nA nL nP nC nB nR st) (hw : acN D gap 7 (dN D) far st = some w0) (hp : p < dN D) :
    ∀ (d q : Nat) (uF : Option Nat) (uS uT uY uM uG uA uL : Int32) (uP : Nat → Option Nat) (uC uB uR uE : AR) (v1 v2 : Int32) (b : Option (Int32 × Nat)), q + d = dN D → p < q → cInv b v1 v2 →
      (∀ (uF' : Option Nat) (uS' uT' uY' uM' uG' uA' uL' : Int32) (uP' : Nat → Option Nat) (uC' uB' uR' uE' : AR) (v1 v2 : Int32), cInv (chQ D gap far st p d q b) v1 v2 → K uF' uS' uT' uY' uM' uG' uA' uL' uP' uC' uB' uR' uE' v1 v2 (nI (p + 1))) →
      m_X11_change_L38 lk fk nF nS nT nY nM nG nA nL nP nC nB nR (nI p) K Q (d + 1) uF uS uT uY uM uG uA uL uP uC uB uR uE v1 v2 (nI q) := by
  have hs := h.2.2.1
  have hN := hs.2.1
  have hz : nS = nI (dN D) := h.2.1.1
  intro d
  induction d with
  | zero =>
    intro q uF uS uT uY uM uG uA uL uP uC uB uR uE v1 v2 b hq hpq hi hQ
    unfold m_X11_change_L38
    refine ⟨fun _ x e => ?_, fun c => absurd (by rw [hz]; exact (nI_leI (by omega) (by omega)).mpr (by omega)) c⟩
    rw [nI_1] at e
    subst e
    exact hQ _ _ _ _ _ _ _ _ _ _ _ _ _ _ _ hi
  | succ d ih =>
    intro q uF uS uT uY uM uG uA uL uP uC uB uR uE v1 v2 b hq hpq hi hQ
    have hq' : q < dN D := by omega
    obtain ⟨x, l, rfl, rfl, rfl, hl⟩ := hi
    unfold m_X11_change_L38
    refine ⟨fun c => absurd ((nI_leI (a := dN D) (b := q) (by omega) (by omega)).mp (by rw [← hz]; exact c)) (by omega), fun _ => q_trial h (fun P' C' B' R' hW hS => ?_)⟩
    refine q_exchangeC hS.1 hs hS.2.2.2.2.1 (h.2.2.2.2.2.2.2.2.1 p hp) (h.2.2.2.2.2.2.2.2.1 q hq') (by omega) (fun C2 hC2 => ?_)
    have hok := ex_ok hs hp hq' (by omega)
    obtain ⟨w, ew⟩ := ac_some (st2 := exTS st p q) hw rfl
    have hS2 : StC (dN D) (dN D) nS nT nY nM C2 B' (exTS st p q) := ⟨hS.1, hS.2.1, hS.2.2.1, hS.2.2.2.1, hC2, hS.2.2.2.2.2⟩
    have step : ∀ b v1 v2, pick (some (v2, l)) (nI (10 * p + q)) (some w) = b → cInv b v1 v2 → True := fun _ _ _ _ _ => trivial
    refine q_goAcross (L := l) (by omega) hW hS2 hok (by have := h.2.2.2.1; show tT st ≤ 2000; omega) h.2.2.2.2.1 h.2.2.2.2.2.1 (fun e => by rw [ew] at e; cases e) (fun w' e r t' y' m' p' b' s' hr hr9 => ?_)
    rw [ew] at e
    cases e
    refine ⟨fun z x' ex => ?_, fun z x50 e50 x' ex => ?_⟩
    · rw [nI_1] at ex
      subst ex
      have hL := (nI_leI (by omega) (by omega)).mp z
      have hwl : l ≤ w := by
        rcases hr with rfl | ⟨-, hr⟩
        · exact hL
        · exact hr
      refine ih (q + 1) _ _ _ _ _ _ _ _ _ _ _ _ _ _ _ (some (v2, l)) (by omega) (by omega) ⟨v2, l, rfl, rfl, rfl, hl⟩ (fun uF'2 uS'2 uT'2 uY'2 uM'2 uG'2 uA'2 uL'2 uP'2 uC'2 uB'2 uR'2 uE'2 v1' v2' hc => hQ uF'2 uS'2 uT'2 uY'2 uM'2 uG'2 uA'2 uL'2 uP'2 uC'2 uB'2 uR'2 uE'2 v1' v2' ?_)
      unfold chQ
      rw [ew, pick_ge (show ¬ w < l by omega)]
      exact hc
    · rw [nI_1] at ex
      subst ex
      rw [show (10 : Int32) = nI 10 from rfl, pk_mul, nI_add] at e50
      subst e50
      have hL : ¬ l ≤ r := fun y => z ((nI_leI (by omega) (by omega)).mpr y)
      have hrw : r = w := by
        rcases hr with y | ⟨y, -⟩
        · exact y
        · exact absurd y hL
      subst hrw
      refine ih (q + 1) _ _ _ _ _ _ _ _ _ _ _ _ _ _ _ (some (nI (10 * p + q), r)) (by omega) (by omega) ⟨_, r, rfl, rfl, rfl, hr9⟩ (fun uF'2 uS'2 uT'2 uY'2 uM'2 uG'2 uA'2 uL'2 uP'2 uC'2 uB'2 uR'2 uE'2 v1' v2' hc => hQ uF'2 uS'2 uT'2 uY'2 uM'2 uG'2 uA'2 uL'2 uP'2 uC'2 uB'2 uR'2 uE'2 v1' v2' ?_)
      unfold chQ
      rw [ew, pick_lt (show r < l by omega)]
      exact hc
theorem q_chPC {D : DT} {gap far w0 : Nat} {lk : LKT} {fk : FKT} {nF : Option Nat} {nS nT nY nM nG nA nL : Int32} {nP : Nat → Option Nat} {nC nB nR : AR} {st : TS} {Q : QuT} {A : Int32} (h : NowC D gap far lk fk nF nS nT nY nM nG nA nL nP nC nB nR st) (hw : acN D gap 7 (dN D) far st = some w0) (hQ : ∀ (uF : Option Nat) (uS uT uY uM uG uA uL : Int32) (uP : Nat → Option Nat) (uC uB uR uE : AR), Q A uF uS uT uY uM uG uA uL uP uC uB uR uE) :
    ∀ (d p : Nat) (uF : Option Nat) (uS uT uY uM uG uA uL : Int32) (uP : Nat → Option Nat) (uC uB uR uE : AR) (v1 v2 : Int32) (b : Option (Int32 × Nat)), p + d = dN D → cInv b v1 v2 → (match chP D gap far st d p b with | none => -5 | some (x, _) => x) = A →
      m_X11_change_L19 lk fk nF nS nT nY nM nG nA nL nP nC nB nR Q (d + 1) uF uS uT uY uM uG uA uL uP uC uB uR uE v1 v2 (nI p) := by
  have hs := h.2.2.1
  have hN := hs.2.1
  have hz : nS = nI (dN D) := h.2.1.1
  intro d
  induction d with
  | zero =>
    intro p uF uS uT uY uM uG uA uL uP uC uB uR uE v1 v2 b hd hi hA
    obtain ⟨x, l, rfl, rfl, rfl, hl⟩ := hi
    have hA : v2 = A := hA
    unfold m_X11_change_L19
    rw [hA]
    exact ⟨fun _ => hQ _ _ _ _ _ _ _ _ _ _ _ _ _, fun c => absurd (by rw [hz]; exact (nI_leI (by omega) (by omega)).mpr (by omega)) c⟩
  | succ d ih =>
    intro p uF uS uT uY uM uG uA uL uP uC uB uR uE v1 v2 b hd hi hA
    unfold m_X11_change_L19
    refine ⟨fun c => absurd ((nI_leI (a := dN D) (b := p) (by omega) (by omega)).mp (by rw [← hz]; exact c)) (by omega), fun _ x e => ⟨dN D - (p + 1) + 1, ?_⟩⟩
    rw [nI_1] at e
    subst e
    refine q_chQC h hw (by omega) (dN D - (p + 1)) (p + 1) _ _ _ _ _ _ _ _ _ _ _ _ _ v1 v2 b (by omega) (by omega) hi (fun uF'2 uS'2 uT'2 uY'2 uM'2 uG'2 uA'2 uL'2 uP'2 uC'2 uB'2 uR'2 uE'2 v1' v2' hc => ?_)
    exact ih (p + 1) uF'2 uS'2 uT'2 uY'2 uM'2 uG'2 uA'2 uL'2 uP'2 uC'2 uB'2 uR'2 uE'2 v1' v2' _ (by omega) hc hA
theorem q_changeC {D : DT} {gap far : Nat} {lk : LKT} {fk : FKT} {nF : Option Nat} {nS nT nY nM nG nA nL : Int32} {nP : Nat → Option Nat} {nC nB nR : AR} {uF : Option Nat} {uS uT uY uM uG uA uL : Int32} {uP : Nat → Option Nat} {uC uB uR uE : AR} {st : TS} {Q : QuT} (h : NowC D gap far lk fk nF nS nT nY nM nG nA nL nP nC nB nR st) (hQ : ∀ (uF : Option Nat) (uS uT uY uM uG uA uL : Int32) (uP : Nat → Option Nat) (uC uB uR uE : AR), Q (changeA D gap far st) uF uS uT uY uM uG uA uL uP uC uB uR uE) : m_X11_change lk fk nF nS nT nY nM nG nA nL nP nC nB nR uF uS uT uY uM uG uA uL uP uC uB uR uE Q := by
  unfold changeA at hQ
  refine q_timeAcross h (fun e uF' uS' uT' uY' uM' uG' uA' uL' uP' uC' uB' uR' uE' => ?_) (fun w e hw9 uF' uS' uT' uY' uM' uG' uA' uL' uP' uC' uB' uR' uE' => ?_)
  · rw [e] at hQ
    exact ⟨fun _ => hQ _ _ _ _ _ _ _ _ _ _ _ _ _, fun c => absurd rfl c⟩
  · rw [e] at hQ
    refine ⟨fun c => absurd c (nI_nm5 (by omega)), fun _ x ex y ey => ⟨dN D + 1, ?_⟩⟩
    subst ex
    subst ey
    exact q_chPC h e hQ (dN D) 0 _ _ _ _ _ _ _ _ _ _ _ _ _ _ _ (some (-5, w)) (by omega) ⟨-5, w, rfl, rfl, rfl, hw9⟩ rfl
/-! the reference's -/
def mInv (D : DT) (gap far : Nat) (st : TS) (b : Option (Int32 × Nat)) (v1 v2 : Int32) : Prop := (b = none ∧ v1 = -5 ∧ v2 = -5 ∧ acN D gap 7 (dN D) far st = none) ∨ ∃ (x : Int32) (l : Nat), b = some (x, l) ∧ v1 = nI l ∧ v2 = x ∧ l < 2 ^ 30
theorem q_chQM {D : DT} {nf gap far p : Nat} {s f : AR} {st : TS} {Q : Int32 → Int32 → Int32 → Int32 → Int32 → AR → AR → AR → AR → AR → Prop} {K : Int32 → Int32 → Int32 → AR → AR → AR → AR → Int32 → Int32 → Int32 → Prop} (h : NowM D nf gap far s st) (hf : ∀ k, k < 18 → f k = s k) (hp : p < dN D) :
    ∀ (d q : Nat) (fs fr tu : Int32) (yb tr kn : AR) (v1 v2 : Int32) (b : Option (Int32 × Nat)), q + d = dN D → p < q → KnownOk D 7 kn → mInv D gap far st b v1 v2 →
      (∀ (fs fr tu : Int32) (yb tr kn : AR) (v1 v2 : Int32), KnownOk D 7 kn → mInv D gap far st (chQ D gap far st p d q b) v1 v2 → K fs fr tu s yb tr kn v1 v2 (nI (p + 1))) →
      m_X12_change_L34 (-1) (nI gap) f (nI p) K Q (d + 1) fs fr tu s yb tr kn v1 v2 (nI q) := by
  obtain ⟨hW, hS, hs, ht, hu⟩ := h
  have hN := hs.2.1
  have c18 : (18 : Int32).toNatClampNeg = 18 := rfl
  have hF : FlatC (-1) 7 := Or.inl ⟨rfl, rfl⟩
  intro d
  induction d with
  | zero =>
    intro q fs fr tu yb tr kn v1 v2 b hq hpq hK hi hQ
    unfold m_X12_change_L34
    rw [c18, hW.2.1.1]
    refine ⟨fun _ x e => ?_, fun c => absurd ((nI_leI (by omega) (by omega)).mpr (by omega)) c⟩
    rw [nI_1] at e
    subst e
    exact hQ _ _ _ _ _ _ _ _ hK hi
  | succ d ih =>
    intro q fs fr tu yb tr kn v1 v2 b hq hpq hK hi hQ
    have hq' : q < dN D := by omega
    unfold m_X12_change_L34
    rw [c18, hW.2.1.1]
    refine ⟨fun c => absurd ((nI_leI (by omega) (by omega)).mp c) (by omega), fun _ => q_swapM hW.2.1.1 hS hs hu hp hq' (by omega) (fun s2 hS2 hf2 => ?_)⟩
    have fr2 : Fr s s2 := fun j hj => hf2 j (by omega)
    have step : ∀ b' v1 v2, pick b (nI (10 * p + q)) (acN D gap 7 (dN D) far (exTS st p q)) = b' → mInv D gap far st b' v1 v2 → ∀ (fs fr tu : Int32) (yb tr kn : AR), KnownOk D 7 kn → m_X12_change_L84 (-1) (nI gap) f (nI p) fs fr tu s yb tr kn v1 v2 (nI q) K (m_X12_change_L34 (-1) (nI gap) f (nI p) K Q (d + 1)) Q := by
      intro b' v1 v2 e hb fs fr tu yb tr kn hK
      unfold m_X12_change_L84
      intro x ex
      rw [nI_1] at ex
      subst ex
      refine ih (q + 1) fs fr tu yb tr kn v1 v2 b' (by omega) (by omega) hK hb (fun fs fr tu yb tr kn v1 v2 hk hc => hQ fs fr tu yb tr kn v1 v2 hk ?_)
      unfold chQ
      rw [e]
      exact hc
    refine q_triedA (s := s) (WM_fr hW fr2) hS2 (ex_ok hs hp hq' (by omega)) (by show tT st ≤ 2000; omega) hF hW.1.2.2.2.2 hK hf fr2 (fun e fs' fr' tu' yb' tr' kn' hk' => ⟨fun _ => step b _ _ (by rw [e, pick_none]) hi _ _ _ _ _ _ hk', fun z => absurd rfl z⟩) (fun w e hw fs' fr' tu' yb' tr' kn' hk' => ⟨fun z => absurd z (nI_nm5 (by omega)), fun _ => ?_⟩)
    rcases hi with ⟨-, -, -, hn⟩ | ⟨x, l, rfl, rfl, rfl, hl⟩
    · rw [ac_none (st2 := exTS st p q) hn rfl] at e
      cases e
    · rw [nI_leI (by omega) (by omega)]
      refine ⟨fun z => step _ _ _ (by rw [e, pick_ge (show ¬ w < l by omega)]) (Or.inr ⟨_, l, rfl, rfl, rfl, hl⟩) _ _ _ _ _ _ hk', fun z x38 e38 => ?_⟩
      rw [show (10 : Int32) = nI 10 from rfl, pk_mul, nI_add] at e38
      subst e38
      exact step _ _ _ (by rw [e, pick_lt (show w < l by omega)]) (Or.inr ⟨_, w, rfl, rfl, rfl, hw⟩) _ _ _ _ _ _ hk'
theorem q_chPM {D : DT} {nf gap far : Nat} {s f : AR} {st : TS} {Q : Int32 → Int32 → Int32 → Int32 → Int32 → AR → AR → AR → AR → AR → Prop} {A : Int32} (h : NowM D nf gap far s st) (hf : ∀ k, k < 18 → f k = s k)
    (hQ : ∀ (fs' fr' g' tu' : Int32) (fm' yb' tr' kn' : AR), Q A fs' fr' g' tu' s fm' yb' tr' kn') :
    ∀ (d p : Nat) (fs fr tu : Int32) (yb tr kn : AR) (v1 v2 : Int32) (b : Option (Int32 × Nat)), p + d = dN D → KnownOk D 7 kn → mInv D gap far st b v1 v2 → (match chP D gap far st d p b with | none => -5 | some (x, _) => x) = A →
      m_X12_change_L18 (-1) (nI gap) f Q (d + 1) fs fr tu s yb tr kn v1 v2 (nI p) := by
  have hN := h.2.2.1.2.1
  have c18 : (18 : Int32).toNatClampNeg = 18 := rfl
  intro d
  induction d with
  | zero =>
    intro p fs fr tu yb tr kn v1 v2 b hd hK hi hA
    unfold m_X12_change_L18
    rw [c18, h.1.2.1.1]
    refine ⟨fun _ => ?_, fun c => absurd ((nI_leI (by omega) (by omega)).mpr (by omega)) c⟩
    rcases hi with ⟨rfl, -, rfl, -⟩ | ⟨x, l, rfl, -, rfl, -⟩
    · have hA : (-5 : Int32) = A := hA
      rw [hA]; exact hQ _ _ _ _ _ _ _ _
    · have hA : v2 = A := hA
      rw [hA]; exact hQ _ _ _ _ _ _ _ _
  | succ d ih =>
    intro p fs fr tu yb tr kn v1 v2 b hd hK hi hA
    unfold m_X12_change_L18
    rw [c18, h.1.2.1.1]
    refine ⟨fun c => absurd ((nI_leI (by omega) (by omega)).mp c) (by omega), fun _ x e => ⟨dN D - (p + 1) + 1, ?_⟩⟩
    rw [nI_1] at e
    subst e
    exact q_chQM h hf (by omega) (dN D - (p + 1)) (p + 1) fs fr tu yb tr kn v1 v2 b (by omega) (by omega) hK hi (fun fs fr tu yb tr kn v1 v2 hk hc => ih (p + 1) fs fr tu yb tr kn v1 v2 _ (by omega) hk hc hA)
theorem chN_none {D : DT} {gap far : Nat} {st : TS} (hn : acN D gap 7 (dN D) far st = none) : ∀ d p, chP D gap far st d p none = none := by
  have h1 : ∀ d p q, chQ D gap far st p d q none = none := by
    intro d
    induction d with
    | zero => intro p q; rfl
    | succ d ih =>
      intro p q
      unfold chQ
      rw [ac_none (st2 := exTS st p q) hn rfl, pick_none]
      exact ih p (q + 1)
  intro d
  induction d with
  | zero => intro p; rfl
  | succ d ih =>
    intro p
    unfold chP
    rw [h1]
    exact ih (p + 1)
theorem q_changeM {D : DT} {nf gap far : Nat} {s fm yb tr kn : AR} {st : TS} {fs fr g tu : Int32} {Q : Int32 → Int32 → Int32 → Int32 → Int32 → AR → AR → AR → AR → AR → Prop} (h : NowM D nf gap far s st)
    (hQ : ∀ (fs' fr' g' tu' : Int32) (fm' yb' tr' kn' : AR), Q (changeA D gap far st) fs' fr' g' tu' s fm' yb' tr' kn') : m_X12_change fs fr g (-1) tu s fm yb tr kn Q := by
  have hF : FlatC (-1) 7 := Or.inl ⟨rfl, rfl⟩
  unfold changeA at hQ
  refine q_begins (fl := 7) h.1 (fun kn1 hK => q_keeps (fun f1 hf1 => ?_))
  refine q_triedA (s := s) h.1 h.2.1 h.2.2.1 (by have := h.2.2.2.1; omega) hF h.1.1.2.2.2.2 hK hf1 (fun _ _ => rfl) (fun e fs' fr' tu' yb' tr' kn' hk' x ex y ey => ⟨dN D + 1, ?_⟩) (fun w e hw fs' fr' tu' yb' tr' kn' hk' x ex y ey => ⟨dN D + 1, ?_⟩)
  · rw [e] at hQ
    subst ex
    subst ey
    exact q_chPM h hf1 hQ (dN D) 0 _ _ _ _ _ _ _ _ none (by omega) hk' (Or.inl ⟨rfl, rfl, rfl, e⟩) (by rw [chN_none e])
  · rw [e] at hQ
    subst ex
    subst ey
    exact q_chPM h hf1 hQ (dN D) 0 _ _ _ _ _ _ _ _ (some (-5, w)) (by omega) hk' (Or.inr ⟨-5, w, rfl, rfl, rfl, hw⟩) rfl
