/-! PURE: gave -/
def tkB (D : DT) (gap who : Nat) (tk : Nat → Nat) : Nat → Nat → TS → Bool
  | 0, _, _ => true
  | d + 1, i, s => if tookN D gap who (dN D) s = tk i then tkB D gap who tk d (i + 1) (turnN D gap who (dN D) s) else false
def gvA (D : DT) (gap : Nat) (st : TS) (nt : Nat) (tk : Nat → Nat) : Nat → Nat → Int32 → Int32
  | 0, _, acc => acc
  | d + 1, w, acc => gvA D gap st nt tk d (w + 1) (if tkB D gap w tk nt 0 st then acc ||| ((1 : Int32) <<< (nI w &&& 31)) else acc)
def TkOk (nt : Nat) (tk : Nat → Nat) : Prop := nt ≤ 6 ∧ ∀ k, k < nt → tk k ≤ 9999
theorem q_tkC {D : DT} {gap who nt : Nat} {lk : LKT} {fk : FKT} {nF : Option Nat} {nS nG nA nL zt : Int32} {nP : Nat → Option Nat} {nR it : AR} {tk : Nat → Nat} {A : Bool} {Q : QuT} (hW : WC D gap who lk fk nF nG nL nP nR) (hk : TkOk nt tk) (hz : zt = nI nt) (hi : ∀ k, k < nt → it k = nI (tk k))
    (hQ : ∀ (uF : Option Nat) (uS uT uY uM uG uA uL : Int32) (uP : Nat → Option Nat) (uC uB uR uE : AR), Q (if A then 1 else 0) uF uS uT uY uM uG uA uL uP uC uB uR uE) :
    ∀ (d i : Nat) (uT uY uM : Int32) (uC uB uE : AR) (s : TS), i + d = nt → StC (dN D) (dN D) nS uT uY uM uC uB s → TSok (dN D) (dN D) s → tT s + d ≤ 4000 → tkB D gap who tk d i s = A → m_X11_gaveBack_L24 lk fk zt it nF nS nG nA nL nP nR Q (d + 1) uT uY uM uC uB uE (nI i) := by
  have hn6 := hk.1
  intro d
  induction d with
  | zero =>
    intro i uT uY uM uC uB uE s hd hS hs ht hA
    have hA : true = A := hA
    subst hA
    unfold m_X11_gaveBack_L24
    exact ⟨fun _ => hQ _ _ _ _ _ _ _ _ _ _ _ _ _, fun c => absurd (by rw [hz]; exact (nI_leI (by omega) (by omega)).mpr (by omega)) c⟩
  | succ d ih =>
    intro i uT uY uM uC uB uE s hd hS hs ht hA
    have hki := hk.2 i (by omega)
    have hto := tookN_le (fl := who) (WC_WD hW) hs
    unfold m_X11_gaveBack_L24
    refine ⟨fun c => absurd ((nI_leI (a := nt) (b := i) (by omega) (by omega)).mp (by rw [← hz]; exact c)) (by omega), fun _ => ?_⟩
    refine q_takeTurnC hW hS hs (by omega) (fun t' y' m' p' b' e' hS' => ?_)
    refine q_at hz hn6 (by omega) (by omega) (fun _ => ?_) (fun c => absurd c (by omega))
    rw [hi i (by omega), nI_eq (by omega) (by omega)]
    unfold tkB at hA
    have hT := turn_T (D := D) (gap := gap) (fl := who) (M := dN D) (s := s)
    refine ⟨fun c x ex => ?_, fun c => ?_⟩
    · rw [nI_1] at ex
      subst ex
      rw [if_pos c] at hA
      exact ih (i + 1) _ _ _ _ _ _ _ (by omega) hS' (turn_ok (WC_WD hW) hs) (by omega) hA
    · rw [if_neg c] at hA
      subst hA
      exact hQ _ _ _ _ _ _ _ _ _ _ _ _ _
theorem q_gaveLC {D : DT} {gap far nt : Nat} {lk : LKT} {fk : FKT} {nF : Option Nat} {nS nT nY nM nG nA nL : Int32} {nP : Nat → Option Nat} {nC nB nR : AR} {st : TS} {zt A : Int32} {it : AR} {tk : Nat → Nat} {Q : QuT} (h : NowC D gap far lk fk nF nS nT nY nM nG nA nL nP nC nB nR st) (hk : TkOk nt tk) (hz : zt = nI nt) (hi : ∀ k, k < nt → it k = nI (tk k)) (hQ : ∀ (uF : Option Nat) (uS uT uY uM uG uA uL : Int32) (uP : Nat → Option Nat) (uC uB uR uE : AR), Q A uF uS uT uY uM uG uA uL uP uC uB uR uE) :
    ∀ (d w : Nat) (uF : Option Nat) (uS uT uY uM uG uA uL : Int32) (uP : Nat → Option Nat) (uC uB uR uE : AR) (acc : Int32), w + d = dN D → gvA D gap st nt tk d w acc = A → m_X11_gave_L4 lk fk nF nS nT nY nM nG nA nL nP nC nB nR zt it Q (d + 1) uF uS uT uY uM uG uA uL uP uC uB uR uE acc (nI w) := by
  have hN := h.2.2.1.2.1
  have hS0 : nS = nI (dN D) := h.2.1.1
  have hn6 := hk.1
  intro d
  induction d with
  | zero =>
    intro w uF uS uT uY uM uG uA uL uP uC uB uR uE acc hd hA
    have hA : acc = A := hA
    subst hA
    unfold m_X11_gave_L4
    exact ⟨fun _ => hQ _ _ _ _ _ _ _ _ _ _ _ _ _, fun c => absurd (by rw [hS0]; exact (nI_leI (by omega) (by omega)).mpr (by omega)) c⟩
  | succ d ih =>
    intro w uF uS uT uY uM uG uA uL uP uC uB uR uE acc hd hA
    unfold m_X11_gave_L4
    refine ⟨fun c => absurd ((nI_leI (a := dN D) (b := w) (by omega) (by omega)).mp (by rw [← hS0]; exact c)) (by omega), fun _ => ?_⟩
    unfold m_X11_gaveBack
    refine q_trial h (fun P' C' B' R' hW hS x e => ⟨nt + 1, ?_⟩)
    subst e
    have hW' : WC D gap w lk fk nF nG (nI w) P' R' := WC_fl hW (Or.inr ⟨by omega, rfl⟩) hW.2.2.2.2.2.2.2.1 hW.2.2.2.2.2.2.2.2
    unfold gvA at hA
    have key := ih (w + 1)
    refine q_tkC hW' hk hz hi (A := tkB D gap w tk nt 0 st) (fun uF' uS' uT' uY' uM' uG' uA' uL' uP' uC' uB' uR' uE' => ?_) nt 0 _ _ _ _ _ _ st (by omega) hS h.2.2.1 (by have := h.2.2.2.1; omega) rfl
    cases hb : tkB D gap w tk nt 0 st with
    | true =>
      rw [hb] at hA
      refine ⟨fun c => absurd c (by decide), fun _ x21 e21 x20 e20 => ?_⟩
      rw [nI_1] at e20
      subst e20
      subst e21
      exact key _ _ _ _ _ _ _ _ _ _ _ _ _ _ (by omega) hA
    | false =>
      rw [hb] at hA
      refine ⟨fun _ x20 e20 => ?_, fun c => absurd rfl c⟩
      rw [nI_1] at e20
      subst e20
      exact key _ _ _ _ _ _ _ _ _ _ _ _ _ _ (by omega) hA
theorem q_gaveC {D : DT} {gap far nt : Nat} {lk : LKT} {fk : FKT} {nF : Option Nat} {nS nT nY nM nG nA nL : Int32} {nP : Nat → Option Nat} {nC nB nR : AR} {uF : Option Nat} {uS uT uY uM uG uA uL : Int32} {uP : Nat → Option Nat} {uC uB uR uE : AR} {st : TS} {zt : Int32} {it : AR} {tk : Nat → Nat} {Q : QuT} (h : NowC D gap far lk fk nF nS nT nY nM nG nA nL nP nC nB nR st) (hk : TkOk nt tk) (hz : zt = nI nt) (hi : ∀ k, k < nt → it k = nI (tk k)) (hQ : ∀ (uF : Option Nat) (uS uT uY uM uG uA uL : Int32) (uP : Nat → Option Nat) (uC uB uR uE : AR), Q (gvA D gap st nt tk (dN D) 0 0) uF uS uT uY uM uG uA uL uP uC uB uR uE) : m_X11_gave lk fk nF nS nT nY nM nG nA nL nP nC nB nR zt it uF uS uT uY uM uG uA uL uP uC uB uR uE Q := by
  intro x e y e'
  subst e
  subst e'
  exact ⟨dN D + 1, q_gaveLC h hk hz hi hQ (dN D) 0 _ _ _ _ _ _ _ _ _ _ _ _ _ _ (by omega) rfl⟩
/-! the reference's -/
theorem q_takesL {D : DT} {nf gap far who nt : Nat} {giver : Int32} {s0 : AR} {tk : Nat → Nat} {A : Bool} {Q : Int32 → Int32 → Int32 → AR → AR → AR → AR → Prop} (hF : FlatC giver who) (hN0 : 0 < dN D) (hk : TkOk nt tk) (h20 : s0 20 = nI nt) (hi : ∀ k, k < nt → s0 (66 + k) = nI (tk k))
    (hQ : ∀ (fs fr : Int32) (s yb tr kn : AR), Fr s0 s → Q (if A then 1 else 0) fs fr s yb tr kn) :
    ∀ (d i : Nat) (fs fr : Int32) (s yb tr kn : AR) (st : TS), i + d = nt → WM D nf gap far s → Fr s0 s → StM (dN D) (dN D) s st → TSok (dN D) (dN D) st → tT st + d ≤ 4000 → KnownOk D who kn → tkB D gap who tk d i st = A → m_X12_takesSo_L4 (nI gap) giver Q (d + 2) fs fr s yb tr kn 1 (nI i) := by
  have hn6 := hk.1
  have c20 : (20 : Int32).toNatClampNeg = 20 := rfl
  intro d
  induction d with
  | zero =>
    intro i fs fr s yb tr kn st hd hW hFr hS hs ht hK hA
    have hA : true = A := hA
    subst hA
    unfold m_X12_takesSo_L4
    rw [c20, hFr 20 (by omega), h20]
    exact ⟨fun _ => ⟨rfl, hQ _ _ _ _ _ _ hFr⟩, fun c => absurd ((nI_leI (by omega) (by omega)).mpr (by omega)) c⟩
  | succ d ih =>
    intro i fs fr s yb tr kn st hd hW hFr hS hs ht hK hA
    have hki := hk.2 i (by omega)
    have hto := tookN_le (fl := who) hW.1 hs
    have e66 : ((66 : Int32) + nI i).toNatClampNeg = 66 + i := ixc rfl (by omega)
    have hT := turn_T (D := D) (gap := gap) (fl := who) (M := dN D) (s := st)
    unfold m_X12_takesSo_L4
    rw [c20, hFr 20 (by omega), h20, e66]
    refine ⟨fun c => absurd ((nI_leI (by omega) (by omega)).mp c) (by omega), fun _ => ⟨fun c => absurd c (by decide), fun _ => ?_⟩⟩
    refine q_goesM hW hS hs hN0 (by omega) hF hW.1.2.2.2.2 hK (fun fs' fr' s' yb' tr' kn' hK' hW' hFr' hS' => ⟨vpc (k := 66) rfl (by omega) (by decide), ?_⟩)
    have hFr2 : Fr s0 s' := fun j hj => (hFr' j hj).trans (hFr j hj)
    rw [hFr2 _ (by omega), hi i (by omega), nI_eq (by omega) (by omega)]
    unfold tkB at hA
    refine ⟨fun c x ex => ?_, fun c x ex => ?_⟩
    · rw [nI_1] at ex
      subst ex
      rw [if_pos c] at hA
      exact ih (i + 1) _ _ _ _ _ _ _ (by omega) hW' hFr2 hS' (turn_ok hW.1 hs) (by omega) hK' hA
    · rw [if_neg c] at hA
      subst hA
      unfold m_X12_takesSo_L4
      exact ⟨fun _ => ⟨rfl, hQ _ _ _ _ _ _ hFr2⟩, fun _ => ⟨fun _ => ⟨rfl, hQ _ _ _ _ _ _ hFr2⟩, fun c => absurd rfl c⟩⟩
theorem q_gaveLM {D : DT} {nf gap far nt : Nat} {s f : AR} {st : TS} {tk : Nat → Nat} {A : Int32} {Q : Int32 → Int32 → Int32 → Int32 → Int32 → AR → AR → AR → AR → AR → Prop} (h : NowM D nf gap far s st) (hf : ∀ k, k < 18 → f k = s k) (hk : TkOk nt tk) (h20 : s 20 = nI nt) (hi : ∀ k, k < nt → s (66 + k) = nI (tk k))
    (hQ : ∀ (fs' fr' g' : Int32) (yb' tr' kn' : AR), Q A fs' fr' g' (-1) s f yb' tr' kn') :
    ∀ (d w : Nat) (fs fr g giver : Int32) (yb tr kn : AR) (acc : Int32), w + d = dN D → gvA D gap st nt tk d w acc = A → m_X12_gave_L8 f Q (d + 1) fs fr g giver s yb tr kn acc (nI w) := by
  obtain ⟨hW, hS, hs, ht, hu⟩ := h
  have hN := hs.2.1
  have c18 : (18 : Int32).toNatClampNeg = 18 := rfl
  intro d
  induction d with
  | zero =>
    intro w fs fr g giver yb tr kn acc hd hA
    have hA : acc = A := hA
    subst hA
    unfold m_X12_gave_L8
    rw [c18, hW.2.1.1]
    exact ⟨fun _ => hQ _ _ _ _ _ _, fun c => absurd ((nI_leI (by omega) (by omega)).mpr (by omega)) c⟩
  | succ d ih =>
    intro w fs fr g giver yb tr kn acc hd hA
    unfold m_X12_gave_L8
    rw [c18, hW.2.1.1]
    refine ⟨fun c => absurd ((nI_leI (by omega) (by omega)).mp c) (by omega), fun _ => q_begins (fl := w) hW (fun kn1 hK x1 e1 x2 e2 => ⟨nt + 2, ?_⟩)⟩
    subst e1
    subst e2
    unfold gvA at hA
    refine q_takesL (A := tkB D gap w tk nt 0 st) (Or.inr ⟨by omega, rfl⟩) (by omega) hk h20 hi (fun fs2 fr2 s2 yb2 tr2 kn2 hFr => ?_) nt 0 fs fr s yb tr kn1 st (by omega) hW (fun _ _ => rfl) hS hs (by have := hk.1; omega) hK rfl
    cases hb : tkB D gap w tk nt 0 st with
    | true =>
      rw [hb] at hA
      refine ⟨fun c => absurd c (by decide), fun _ x20 e20 => q_goesBack (fun s3 b1 b2 x24 e24 => ?_)⟩
      rw [nI_1] at e24
      subst e24
      subst e20
      rw [s_back hf b1 (fun k hk => (b2 k hk).trans (hFr k hk))]
      exact ih (w + 1) _ _ _ _ _ _ _ _ (by omega) hA
    | false =>
      rw [hb] at hA
      refine ⟨fun _ x20 e20 => q_goesBack (fun s3 b1 b2 x24 e24 => ?_), fun c => absurd rfl c⟩
      rw [nI_1] at e24
      subst e24
      rw [Int32.or_zero] at e20
      subst e20
      rw [s_back hf b1 (fun k hk => (b2 k hk).trans (hFr k hk))]
      exact ih (w + 1) _ _ _ _ _ _ _ _ (by omega) hA
theorem q_gaveM {D : DT} {nf gap far nt : Nat} {s fm yb tr kn : AR} {st : TS} {fs fr g giver : Int32} {tk : Nat → Nat} {Q : Int32 → Int32 → Int32 → Int32 → Int32 → AR → AR → AR → AR → AR → Prop} (h : NowM D nf gap far s st) (hk : TkOk nt tk) (h20 : s 20 = nI nt) (hi : ∀ k, k < nt → s (66 + k) = nI (tk k))
    (hQ : ∀ (fs' fr' g' : Int32) (fm' yb' tr' kn' : AR), Q (gvA D gap st nt tk (dN D) 0 0) fs' fr' g' (-1) s fm' yb' tr' kn') : m_X12_gave fs fr g giver s fm yb tr kn Q := by
  intro x e
  subst e
  refine q_keeps (fun f1 hf1 y e' => ⟨dN D + 1, ?_⟩)
  subst e'
  exact q_gaveLM h hf1 hk h20 hi (fun _ _ _ _ _ _ => hQ _ _ _ _ _ _ _) (dN D) 0 _ _ _ _ _ _ _ _ (by omega) rfl
