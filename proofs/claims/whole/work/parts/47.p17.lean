/-! PURE: without, breathless -/
def rmPl (pl : Nat → Nat) (i : Nat) : Nat → Nat := fun k => if k < i then pl k else pl (k + 1)
def rmTS (st : TS) (i : Nat) : TS := (rmPl (tP st) i, st.2)
theorem rm_ok {N m i : Nat} {st : TS} (h : TSok N (m + 1) st) : TSok N m (rmTS st i) := by
  obtain ⟨hM, hN, hpl, hinj, hr⟩ := h
  refine ⟨by omega, hN, fun k hk => ?_, fun a b ha hb e => ?_, hr⟩
  · show rmPl (tP st) i k < N
    unfold rmPl
    split
    · exact hpl _ (by omega)
    · exact hpl _ (by omega)
  · have e : rmPl (tP st) i a = rmPl (tP st) i b := e
    unfold rmPl at e
    split at e <;> split at e
    · exact hinj _ _ (by omega) (by omega) e
    · have := hinj _ _ (by omega) (by omega) e; omega
    · have := hinj _ _ (by omega) (by omega) e; omega
    · have := hinj _ _ (by omega) (by omega) e; omega
theorem q_leaveL {m i : Nat} {size : Int32} {pl : Nat → Nat} {Q : Int32 → AR → Prop} (hz : size = nI (m + 1)) (hm : m < 7) (hi : i ≤ m) (hQ : ∀ C' : AR, (∀ k, k < m → C' k = nI (rmPl pl i k)) → Q (nI m) C') :
    ∀ (d k : Nat) (C : AR), k + d = m → i ≤ k → (∀ j, j < k → C j = nI (rmPl pl i j)) → (∀ j, k ≤ j → j ≤ m → C j = nI (pl j)) → m_X5_leave_L14 size Q (d + 1) C (nI k) := by
  subst hz
  intro d
  induction d with
  | zero =>
    intro k C hk hik h1 h2
    unfold m_X5_leave_L14
    rw [m1_pred]
    exact ⟨fun _ => hQ C (fun j hj => h1 j (by omega)), fun c => absurd ((nI_leI (by omega) (by omega)).mpr (by omega)) c⟩
  | succ d ih =>
    intro k C hk hik h1 h2
    unfold m_X5_leave_L14
    rw [m1_pred, nI_1, nI_clamp (by omega), nI_clamp (by omega), h2 (k + 1) (by omega) (by omega)]
    refine ⟨fun c => absurd ((nI_leI (by omega) (by omega)).mp c) (by omega), fun _ => ⟨vp_in_nI (by omega) (by decide), vp_in_nI (by omega) (by decide), fun y e x ex => ?_⟩⟩
    subst ex
    refine ih (k + 1) y (by omega) (by omega) (fun j hj => ?_) (fun j h3 h4 => ?_)
    · by_cases ej : j = k
      · rw [e, ej, pk_us]
        unfold rmPl
        rw [if_neg (by omega)]
      · rw [e, pk_un ej]; exact h1 j (by omega)
    · rw [e, pk_un (by omega)]; exact h2 j (by omega) h4
theorem q_leaveC {N m p : Nat} {size : Int32} {places : AR} {st : TS} {Q : Int32 → AR → Prop} (hz : size = nI (m + 1)) (hs : TSok N (m + 1) st) (hC : ∀ k, k < m + 1 → places k = nI (tP st k)) (hp : ∃ k, k < m + 1 ∧ tP st k = p)
    (hQ : ∀ C' : AR, (∀ k, k < m → C' k = nI (rmPl (tP st) (ixN (tP st) p (m + 1)) k)) → Q (nI m) C') : m_X5_leave size places (nI p) Q := by
  have hM := hs.1
  have hN := hs.2.1
  unfold m_X5_leave
  have key : m_X5_placeOf (nI (m + 1)) places (nI p) (fun r1 => ((r1 = (-1 : Int32) → Q size places) ∧ (¬ r1 = (-1 : Int32) → (∃ n7 : Nat, m_X5_leave_L14 size Q n7 places r1)))) :=
    q_placeOfC hs hC hp (fun i hi ei ex => ⟨fun c => absurd c (nI_nm1 (by omega)), fun _ => ⟨m - i + 1, q_leaveL (i := i) hz (by omega) (by omega) (by rw [ex] at hQ; exact hQ) (m - i) i places (by omega) (by omega) (fun j hj => by rw [hC j (by omega)]; unfold rmPl; rw [if_pos hj]) (fun j _ hj => hC j (by omega))⟩⟩)
  rw [← hz] at key
  exact key
def withoutA (D : DT) (gap far : Nat) (st : TS) (a : Int32) : Int32 := match idx (dN D) a with
  | none => -10001
  | some p => match acN D gap 7 (dN D) far st with
    | none => -10005
    | some w => match acN D gap 7 (dN D - 1) far (rmTS st (ixN (tP st) p (dN D))) with
      | none => -10005
      | some v => nI v - nI w
theorem q_withoutC {D : DT} {gap far : Nat} {lk : LKT} {fk : FKT} {nF : Option Nat} {nS nT nY nM nG nA nL : Int32} {nP : Nat → Option Nat} {nC nB nR : AR} {uF : Option Nat} {uS uT uY uM uG uA uL : Int32} {uP : Nat → Option Nat} {uC uB uR uE : AR} {st : TS} {a : Int32} {Q : QuT} (h : NowC D gap far lk fk nF nS nT nY nM nG nA nL nP nC nB nR st) (hQ : ∀ (uF : Option Nat) (uS uT uY uM uG uA uL : Int32) (uP : Nat → Option Nat) (uC uB uR uE : AR), Q (withoutA D gap far st a) uF uS uT uY uM uG uA uL uP uC uB uR uE) : m_X11_without lk fk nF nS nT nY nM nG nA nL nP nC nB nR uF uS uT uY uM uG uA uL uP uC uB uR uE a Q := by
  have hs := h.2.2.1
  have hN := hs.2.1
  unfold withoutA at hQ
  unfold m_X11_without
  refine q_findC h (fun p b hp e ei hb hl => ⟨fun c => (by cases c), fun b4 _ => ?_⟩) (fun e => ⟨fun _ => ?_, fun b4 c => (by cases c)⟩)
  · rw [ei] at hQ
    dsimp only at hQ
    subst e
    obtain ⟨m, hm⟩ : ∃ m, dN D = m + 1 := ⟨dN D - 1, by omega⟩
    have second : ∀ (uF' : Option Nat) (uS' uT' uY' uM' uG' uA' uL' : Int32) (uP' : Nat → Option Nat) (uC' uB' uR' uE' : AR) (r5 : Int32), (r5 = -5 ∧ acN D gap 7 (dN D) far st = none) ∨ (∃ w, w < 2 ^ 30 ∧ r5 = nI w ∧ acN D gap 7 (dN D) far st = some w) → m_X5_become lk uF' uS' uT' uY' uM' uG' uA' uL' uP' uC' uB' uR' nF nS nT nY nM nG nA nL nP nC nB nR (fun z22 z23 z24 z25 z26 z27 z28 z29 z30 z31 z32 z33 => m_X5_leave z23 z31 (nI p) (fun z36 z37 => m_X5_goAcross lk fk z22 z36 z24 z25 z26 z27 z28 z29 z30 z37 z32 z33 uE' (2147483647 : Int32) (fun r38 z40 z41 z42 z43 z44 z45 => ((r5 = (-5 : Int32) → Q (-10005 : Int32) z22 z36 z40 z41 z42 z27 z28 z29 z30 z43 z44 z33 z45) ∧ (¬ r5 = (-5 : Int32) → ((r38 = (-5 : Int32) → Q (-10005 : Int32) z22 z36 z40 z41 z42 z27 z28 z29 z30 z43 z44 z33 z45) ∧ (¬ r38 = (-5 : Int32) → Q (r38 - r5) z22 z36 z40 z41 z42 z27 z28 z29 z30 z43 z44 z33 z45))))))) := by
      intro uF' uS' uT' uY' uM' uG' uA' uL' uP' uC' uB' uR' uE' r5 hr5
      refine q_trial h (fun P' C' B' R' hW hS => ?_)
      have hs1 : TSok (dN D) (m + 1) st := hm ▸ hs
      refine q_leaveC (hS.1.trans (by rw [hm])) hs1 (fun k hk => hS.2.2.2.2.1 k (by omega)) (by have := h.2.2.2.2.2.2.2.2.1 p hp; rw [hm] at this; exact this) (fun C2 hC2 => ?_)
      rw [hm, Nat.add_sub_cancel] at hQ
      rw [hm] at hr5
      rw [show (2147483647 : Int32) = nI 2147483647 from rfl]
      have hS2 : StC (dN D) m (nI m) nT nY nM C2 B' (rmTS st (ixN (tP st) p (m + 1))) := ⟨rfl, hS.2.1, hS.2.2.1, hS.2.2.2.1, hC2, hS.2.2.2.2.2⟩
      refine q_goAcross (by omega) hW hS2 (rm_ok hs1) (by have := h.2.2.2.1; show tT st ≤ 2000; omega) h.2.2.2.2.1 h.2.2.2.2.2.1 (fun e t' y' m' p' b' s' => ?_) (fun v e r t' y' m' p' b' s' hr hr9 => ?_)
      · rw [e] at hQ
        rcases hr5 with ⟨rfl, e1⟩ | ⟨w, hw, rfl, e1⟩
        · rw [e1] at hQ
          exact ⟨fun _ => hQ _ _ _ _ _ _ _ _ _ _ _ _ _, fun c => absurd rfl c⟩
        · rw [e1] at hQ
          exact ⟨fun c => absurd c (nI_nm5 (by omega)), fun _ => ⟨fun _ => hQ _ _ _ _ _ _ _ _ _ _ _ _ _, fun c => absurd rfl c⟩⟩
      · have hrv : r = v := by
          rcases hr with y | ⟨y, -⟩
          · exact y
          · omega
        subst hrv
        rw [e] at hQ
        rcases hr5 with ⟨rfl, e1⟩ | ⟨w, hw, rfl, e1⟩
        · rw [e1] at hQ
          exact ⟨fun _ => hQ _ _ _ _ _ _ _ _ _ _ _ _ _, fun c => absurd rfl c⟩
        · rw [e1] at hQ
          exact ⟨fun c => absurd c (nI_nm5 (by omega)), fun _ => ⟨fun c => absurd c (nI_nm5 (by omega)), fun _ => hQ _ _ _ _ _ _ _ _ _ _ _ _ _⟩⟩
    exact q_timeAcross h (fun e uF' uS' uT' uY' uM' uG' uA' uL' uP' uC' uB' uR' uE' => second uF' uS' uT' uY' uM' uG' uA' uL' uP' uC' uB' uR' uE' _ (Or.inl ⟨rfl, e⟩)) (fun w e hw uF' uS' uT' uY' uM' uG' uA' uL' uP' uC' uB' uR' uE' => second uF' uS' uT' uY' uM' uG' uA' uL' uP' uC' uB' uR' uE' _ (Or.inr ⟨w, hw, rfl, e⟩))
  · rw [e] at hQ
    exact hQ _ _ _ _ _ _ _ _ _ _ _ _ _
theorem q_withoutLM {m i : Nat} {pl : Nat → Nat} {giver fs fr g tu v2 : Int32} {f yb tr kn s0 : AR} {Q : Int32 → Int32 → Int32 → Int32 → Int32 → AR → AR → AR → AR → AR → Prop} (hm : m < 7) (hi : i ≤ m)
    (hQ : ∀ s' : AR, (∀ k, k < m → s' (4 + k) = nI (rmPl pl i k)) → (∀ j, j < 4 ∨ 11 ≤ j → s' j = s0 j) → m_X12_triedTime fs fr g giver tu s' f yb tr kn (fun r24 z26 z27 z28 z29 z30 z31 z32 => ((v2 = (-5 : Int32) → Q (-10005 : Int32) z26 z27 g z28 z29 f z30 z31 z32) ∧ (¬ v2 = (-5 : Int32) → ((r24 = (-5 : Int32) → Q (-10005 : Int32) z26 z27 g z28 z29 f z30 z31 z32) ∧ (¬ r24 = (-5 : Int32) → Q (r24 - v2) z26 z27 g z28 z29 f z30 z31 z32)))))) :
    ∀ (d k : Nat) (s : AR), k + d = m → i ≤ k → s 3 = nI m → (∀ j, j < k → s (4 + j) = nI (rmPl pl i j)) → (∀ j, k ≤ j → j ≤ m → s (4 + j) = nI (pl j)) → (∀ j, j < 4 ∨ 11 ≤ j → s j = s0 j) → m_X12_without_L44 giver fs fr g tu f yb tr kn v2 Q (d + 1) s (nI k) := by
  have c3 : (3 : Int32).toNatClampNeg = 3 := rfl
  intro d
  induction d with
  | zero =>
    intro k s hk hik h3 h1 h2 h0
    unfold m_X12_without_L44
    rw [c3, h3]
    exact ⟨fun _ => hQ s (fun j hj => h1 j (by omega)) h0, fun c => absurd ((nI_leI (by omega) (by omega)).mpr (by omega)) c⟩
  | succ d ih =>
    intro k s hk hik h3 h1 h2 h0
    unfold m_X12_without_L44
    have e4 : ((4 : Int32) + nI k).toNatClampNeg = 4 + k := ixc rfl (by omega)
    have v4 : vp_in ((4 : Int32) + nI k) 903 := vpc (k := 4) rfl (by omega) (by decide)
    have e5' : ((4 : Int32) + nI k) + (1 : Int32) = nI (4 + (k + 1)) := by rw [show (4 : Int32) = nI 4 from rfl, nI_add, nI_1]; rfl
    rw [c3, h3, e5', e4, nI_clamp (by omega), h2 (k + 1) (by omega) (by omega)]
    refine ⟨fun c => absurd ((nI_leI (by omega) (by omega)).mp c) (by omega), fun _ => ⟨vp_in_nI (by omega) (by decide), v4, fun y e x ex => ?_⟩⟩
    rw [nI_1] at ex
    subst ex
    refine ih (k + 1) y (by omega) (by omega) ?_ (fun j hj => ?_) (fun j h3 h4 => ?_) (fun j hj => ?_)
    · rw [e, pk_un (by omega)]; exact h3
    · by_cases ej : j = k
      · rw [e, ej, pk_us]
        unfold rmPl
        rw [if_neg (by omega)]
      · rw [e, pk_un (by omega)]; exact h1 j (by omega)
    · rw [e, pk_un (by omega)]; exact h2 j (by omega) h4
    · rw [e, pk_un (by omega)]; exact h0 j hj
theorem q_withoutM {D : DT} {nf gap far : Nat} {s fm yb tr kn : AR} {st : TS} {fs fr g tu a : Int32} {Q : Int32 → Int32 → Int32 → Int32 → Int32 → AR → AR → AR → AR → AR → Prop} (h : NowM D nf gap far s st)
    (hQ : ∀ (fs' fr' g' tu' : Int32) (fm' yb' tr' kn' : AR), Q (withoutA D gap far st a) fs' fr' g' tu' s fm' yb' tr' kn') : m_X12_without fs fr g (-1) tu s fm yb tr kn a Q := by
  obtain ⟨hW, hS, hs, ht, hu⟩ := h
  have hN := hs.2.1
  have hF : FlatC (-1) 7 := Or.inl ⟨rfl, rfl⟩
  have c3 : (3 : Int32).toNatClampNeg = 3 := rfl
  unfold withoutA at hQ
  refine q_isPersonM hN hW.2.1.1 (fun p hp e ei => ⟨fun c => absurd c (by decide), fun _ => ?_⟩) (fun ei => ⟨fun _ => ?_, fun c => absurd rfl c⟩)
  · rw [ei] at hQ
    dsimp only at hQ
    subst e
    obtain ⟨m, hm⟩ : ∃ m, dN D = m + 1 := ⟨dN D - 1, by omega⟩
    refine q_begins (fl := 7) hW (fun kn1 hK => q_keeps (fun f1 hf1 => ?_))
    have second : ∀ (fs fr tu : Int32) (yb tr kn : AR) (v2 : Int32), KnownOk D 7 kn → (v2 = -5 ∧ acN D gap 7 (dN D) far st = none) ∨ (∃ w, w < 2 ^ 30 ∧ v2 = nI w ∧ acN D gap 7 (dN D) far st = some w) → m_X12_placeOf s (nI p) (fun r20 => ∀ y22 : Nat → Int32, y22 = upd s (3 : Int32).toNatClampNeg ((s (3 : Int32).toNatClampNeg) - (1 : Int32)) → (∃ n37 : Nat, m_X12_without_L44 (-1) fs fr (nI gap) tu f1 yb tr kn v2 Q n37 y22 r20)) := by
      intro fs fr tu yb tr kn v2 hK hv
      refine q_placeOfM hs hS (hu p hp) (fun i hi ei' ex y22 e22 => ⟨m - i + 1, ?_⟩)
      rw [c3, hS.2.2.2.1] at e22
      have e22 : y22 = upd s 3 (nI m) := by rw [e22, hm, m1_pred]
      rw [ex] at hQ
      rw [hm, Nat.add_sub_cancel] at hQ
      rw [hm] at hv
      refine q_withoutLM (m := m) (pl := tP st) (i := i) (s0 := y22) (by omega) (by omega) (fun s' h1 h0 => ?_) (m - i) i y22 (by omega) (by omega) (by rw [e22, pk_us]) (fun j hj => ?_) (fun j _ hj => ?_) (fun j hj => rfl)
      · have hs1 : TSok (dN D) (m + 1) st := hm ▸ hs
        have g : ∀ j, j ≠ 3 → j < 4 ∨ 11 ≤ j → s' j = s j := fun j j3 hj => by rw [h0 j hj, e22, pk_un j3]
        have fr' : Fr s s' := fun j hj => g j (by omega) (by omega)
        have hS2 : StM (dN D) m s' (rmTS st i) := ⟨(g 0 (by omega) (by omega)).trans hS.1, (g 1 (by omega) (by omega)).trans hS.2.1, (g 2 (by omega) (by omega)).trans hS.2.2.1, by rw [h0 3 (by omega), e22, pk_us], h1, fun q hq => (g _ (by omega) (by omega)).trans (hS.2.2.2.2.2 q hq)⟩
        refine q_triedA (s := s) (WM_fr hW fr') hS2 (rm_ok hs1) (by show tT st ≤ 2000; omega) hF hW.1.2.2.2.2 hK hf1 fr' (fun e fs' fr' tu' yb' tr' kn' _ => ?_) (fun v e hv9 fs' fr' tu' yb' tr' kn' _ => ?_)
        · rw [e] at hQ
          rcases hv with ⟨rfl, e1⟩ | ⟨w, hw, rfl, e1⟩
          · rw [e1] at hQ
            exact ⟨fun _ => hQ _ _ _ _ _ _ _ _, fun c => absurd rfl c⟩
          · rw [e1] at hQ
            exact ⟨fun c => absurd c (nI_nm5 (by omega)), fun _ => ⟨fun _ => hQ _ _ _ _ _ _ _ _, fun c => absurd rfl c⟩⟩
        · rw [e] at hQ
          rcases hv with ⟨rfl, e1⟩ | ⟨w, hw, rfl, e1⟩
          · rw [e1] at hQ
            exact ⟨fun _ => hQ _ _ _ _ _ _ _ _, fun c => absurd rfl c⟩
          · rw [e1] at hQ
            exact ⟨fun c => absurd c (nI_nm5 (by omega)), fun _ => ⟨fun c => absurd c (nI_nm5 (by omega)), fun _ => hQ _ _ _ _ _ _ _ _⟩⟩
      · rw [e22, pk_un (by omega), hS.2.2.2.2.1 j (by omega)]
        unfold rmPl
        rw [if_pos hj]
      · rw [e22, pk_un (by omega)]; exact hS.2.2.2.2.1 j (by omega)
    exact q_triedA (s := s) hW hS hs (by omega) hF hW.1.2.2.2.2 hK hf1 (fun _ _ => rfl) (fun e fs' fr' tu' yb' tr' kn' hk' => second _ _ _ _ _ _ _ hk' (Or.inl ⟨rfl, e⟩)) (fun w e hw fs' fr' tu' yb' tr' kn' hk' => second _ _ _ _ _ _ _ hk' (Or.inr ⟨w, hw, rfl, e⟩))
  · rw [ei] at hQ
    exact hQ _ _ _ _ _ _ _ _
/-! breathless -/
def outN (B : Nat → Nat) : Nat → Nat → Option Nat
  | 0, _ => none
  | d + 1, i => if B i = 0 then some i else outN B d (i + 1)
theorem outN_succ {B : Nat → Nat} {d i : Nat} : outN B (d + 1) i = if B i = 0 then some i else outN B d (i + 1) := rfl
theorem outN_lt {B : Nat → Nat} : ∀ (d i p : Nat), outN B d i = some p → p < i + d := by
  intro d
  induction d with
  | zero => intro i p h; cases h
  | succ d ih =>
    intro i p h
    unfold outN at h
    split at h
    · cases h; omega
    · have := ih _ _ h; omega
def brl (D : DT) (gap : Nat) : Nat → Nat → TS → Option (Nat × Nat)
  | 0, _, _ => none
  | d + 1, n, s => match outN (tB (turnN D gap 7 (dN D) s)) (dN D) 0 with
    | some p => some (n, p)
    | none => brl D gap d (n + 1) (turnN D gap 7 (dN D) s)
def breathlessA (D : DT) (gap : Nat) (st : TS) (a : Int32) : Int32 := if a = 0 then (match brl D gap 60 1 st with | none => -5 | some (n, _) => nI n) else if a = 1 then (match brl D gap 60 1 st with | none => -5 | some (_, p) => nI p) else -1
theorem q_outC {N : Nat} {size : Int32} {breath : AR} {B : Nat → Nat} {Q : Int32 → Prop} (hz : size = nI N) (hN : N ≤ 7) (hb : ∀ p, p < N → breath p = nI (B p) ∧ B p ≤ 9) (h0 : outN B N 0 = none → Q (-1)) (h1 : ∀ p, p < N → outN B N 0 = some p → Q (nI p)) : m_X5_outOfBreath size breath Q := by
  subst hz
  have L : ∀ (d i : Nat), i + d = N → outN B d i = outN B N 0 → m_X5_outOfBreath_L2 (nI N) breath Q (d + 1) (nI i) := by
    intro d
    induction d with
    | zero =>
      intro i hi e
      unfold m_X5_outOfBreath_L2
      exact ⟨fun _ => h0 e.symm, fun c => absurd ((nI_leI (by omega) (by omega)).mpr (by omega)) c⟩
    | succ d ih =>
      intro i hi e
      unfold m_X5_outOfBreath_L2
      have hbi := hb i (by omega)
      rw [nI_clamp (by omega), hbi.1]
      rw [outN_succ] at e
      refine ⟨fun c => absurd ((nI_leI (by omega) (by omega)).mp c) (by omega), fun _ => ⟨vp_in_nI (by omega) (by decide), fun c => ?_, fun c x ex => ?_⟩⟩
      · rw [if_pos ((nI_eq (a := B i) (b := 0) (by omega) (by omega)).mp c)] at e
        exact h1 i (by omega) e.symm
      · rw [nI_1] at ex
        subst ex
        rw [if_neg (fun z => c (by rw [z]; rfl))] at e
        exact ih (i + 1) (by omega) e
  intro x e
  subst e
  exact ⟨N + 1, L N 0 (by omega) rfl⟩
theorem q_outM {N : Nat} {s : AR} {B : Nat → Nat} {Q : Int32 → Prop} (h18 : s 18 = nI N) (hN : N ≤ 7) (hb : ∀ p, p < N → s (11 + p) = nI (B p) ∧ B p ≤ 9) (h0 : outN B N 0 = none → Q (-5)) (h1 : ∀ p, p < N → outN B N 0 = some p → Q (nI p)) : m_X12_breathlessOne s Q := by
  have c18 : (18 : Int32).toNatClampNeg = 18 := rfl
  have L : ∀ (d i : Nat), i + d = N → outN B d i = outN B N 0 → m_X12_breathlessOne_L2 s Q (d + 1) (nI i) := by
    intro d
    induction d with
    | zero =>
      intro i hi e
      unfold m_X12_breathlessOne_L2
      rw [c18, h18]
      exact ⟨fun _ => h0 e.symm, fun c => absurd ((nI_leI (by omega) (by omega)).mpr (by omega)) c⟩
    | succ d ih =>
      intro i hi e
      unfold m_X12_breathlessOne_L2
      have hbi := hb i (by omega)
      have e11 : ((11 : Int32) + nI i).toNatClampNeg = 11 + i := ixc rfl (by omega)
      rw [c18, h18, e11, hbi.1]
      rw [outN_succ] at e
      refine ⟨fun c => absurd ((nI_leI (by omega) (by omega)).mp c) (by omega), fun _ => ⟨vpc (k := 11) rfl (by omega) (by decide), fun c => ?_, fun c x ex => ?_⟩⟩
      · rw [if_pos ((nI_eq (a := B i) (b := 0) (by omega) (by omega)).mp c)] at e
        exact h1 i (by omega) e.symm
      · rw [nI_1] at ex
        subst ex
        rw [if_neg (fun z => c (by rw [z]; rfl))] at e
        exact ih (i + 1) (by omega) e
  intro x e
  subst e
  exact ⟨N + 1, L N 0 (by omega) rfl⟩
theorem q_brlC {D : DT} {gap : Nat} {lk : LKT} {fk : FKT} {nF : Option Nat} {nS nG nA nL a : Int32} {nP : Nat → Option Nat} {nR : AR} {A : Option (Nat × Nat)} {Q : QuT} (hW : WC D gap 7 lk fk nF nG nL nP nR) (ha : a = 0 ∨ a = 1)
    (h0 : A = none → ∀ (uF : Option Nat) (uS uT uY uM uG uA uL : Int32) (uP : Nat → Option Nat) (uC uB uR uE : AR), Q (-5) uF uS uT uY uM uG uA uL uP uC uB uR uE) (h1 : ∀ n p, A = some (n, p) → ∀ (uF : Option Nat) (uS uT uY uM uG uA uL : Int32) (uP : Nat → Option Nat) (uC uB uR uE : AR), Q (if a = 0 then nI n else nI p) uF uS uT uY uM uG uA uL uP uC uB uR uE) :
    ∀ (d n : Nat) (uT uY uM : Int32) (uC uB uE : AR) (s : TS), n + d = 61 → StC (dN D) (dN D) nS uT uY uM uC uB s → TSok (dN D) (dN D) s → tT s + d ≤ 4000 → brl D gap d n s = A → m_X11_breathless_L25 lk fk a nF nS nG nA nL nP nR Q (d + 1) uT uY uM uC uB uE (nI n) := by
  intro d
  induction d with
  | zero =>
    intro n uT uY uM uC uB uE s hn hS hs ht hA
    unfold m_X11_breathless_L25
    exact ⟨fun _ => h0 hA.symm _ _ _ _ _ _ _ _ _ _ _ _ _, fun c => absurd ((nI_ltI (a := 60) (b := n) (by omega) (by omega)).mpr (by omega)) c⟩
  | succ d ih =>
    intro n uT uY uM uC uB uE s hn hS hs ht hA
    have hN := hs.2.1
    unfold m_X11_breathless_L25
    refine ⟨fun c => absurd ((nI_ltI (a := 60) (b := n) (by omega) (by omega)).mp c) (by omega), fun _ => ?_⟩
    refine q_takeTurnC hW hS hs (by omega) (fun t' y' m' p' b' e' hS' => ?_)
    have hok := turn_ok (fl := 7) (WC_WD hW) hs
    have hT := turn_T (D := D) (gap := gap) (fl := 7) (M := dN D) (s := s)
    unfold brl at hA
    refine q_outC hS'.1 hN (fun p hp => ⟨hS'.2.2.2.2.2 p hp, hok.2.2.2.2.1 p hp⟩) (fun e => ⟨fun _ x ex => ?_, fun c => absurd rfl c⟩) (fun p hp e => ⟨fun c => absurd c (nI_nm1 (by omega)), fun _ => ?_⟩)
    · rw [nI_1] at ex
      subst ex
      rw [e] at hA
      exact ih (n + 1) _ _ _ _ _ _ _ (by omega) hS' hok (by omega) hA
    · rw [e] at hA
      have h1' := h1 n p hA.symm
      refine ⟨fun c => ?_, fun c => ?_⟩
      · rw [if_pos c] at h1'; exact h1' _ _ _ _ _ _ _ _ _ _ _ _ _
      · rw [if_neg c] at h1'; exact h1' _ _ _ _ _ _ _ _ _ _ _ _ _
theorem q_breathlessC {D : DT} {gap far : Nat} {lk : LKT} {fk : FKT} {nF : Option Nat} {nS nT nY nM nG nA nL : Int32} {nP : Nat → Option Nat} {nC nB nR : AR} {uF : Option Nat} {uS uT uY uM uG uA uL : Int32} {uP : Nat → Option Nat} {uC uB uR uE : AR} {st : TS} {a : Int32} {Q : QuT} (h : NowC D gap far lk fk nF nS nT nY nM nG nA nL nP nC nB nR st) (hQ : ∀ (uF : Option Nat) (uS uT uY uM uG uA uL : Int32) (uP : Nat → Option Nat) (uC uB uR uE : AR), Q (breathlessA D gap st a) uF uS uT uY uM uG uA uL uP uC uB uR uE) : m_X11_breathless lk fk nF nS nT nY nM nG nA nL nP nC nB nR uF uS uT uY uM uG uA uL uP uC uB uR uE a Q := by
  unfold breathlessA at hQ
  refine q_one2 (fun c => ⟨fun z => absurd z (by decide), fun _ => q_trial h (fun P' C' B' R' hW hS x e => ⟨61, ?_⟩)⟩) (fun c0 c1 => ⟨fun _ => ?_, fun z => absurd rfl z⟩)
  · subst e
    refine q_brlC hW c (A := brl D gap 60 1 st) (fun e => ?_) (fun n p e => ?_) 60 1 _ _ _ _ _ _ st rfl hS h.2.2.1 (by have := h.2.2.2.1; omega) rfl
    · rw [e] at hQ
      rcases c with c | c
      · rw [if_pos c] at hQ; exact hQ
      · rw [if_neg (by rw [c]; decide), if_pos c] at hQ; exact hQ
    · rw [e] at hQ
      rcases c with c | c
      · rw [if_pos c] at hQ ⊢; exact hQ
      · rw [if_neg (by rw [c]; decide), if_pos c] at hQ
        rw [if_neg (by rw [c]; decide)]
        exact hQ
  · rw [if_neg c0, if_neg c1] at hQ
    exact hQ _ _ _ _ _ _ _ _ _ _ _ _ _
abbrev QmT : Type := Int32 → Int32 → Int32 → Int32 → AR → AR → AR → AR → AR → Prop
theorem brl_0 {D : DT} {gap : Nat} (h0 : dN D = 0) : ∀ d n s, brl D gap d n s = none := by
  intro d
  induction d with
  | zero => intro n s; rfl
  | succ d ih =>
    intro n s
    unfold brl
    rw [h0]
    show brl D gap d (n + 1) _ = none
    exact ih _ _
theorem q_brlM {D : DT} {nf gap far : Nat} {s0 f : AR} {a : Int32} {A : Option (Nat × Nat)} {Q : QmT} (ha : a = 0 ∨ a = 1) (hf : ∀ k, k < 18 → f k = s0 k)
    (h0 : A = none → ∀ (fs fr : Int32) (yb tr kn : AR), Q (-5) fs fr (nI gap) s0 f yb tr kn) (h1 : ∀ n p, A = some (n, p) → ∀ (fs fr : Int32) (yb tr kn : AR), Q (if a = 0 then nI n else nI p) fs fr (nI gap) s0 f yb tr kn) :
    ∀ (d n : Nat) (fs fr : Int32) (s yb tr kn : AR) (st : TS), n + d = 61 → 0 < d + 1 → WM D nf gap far s → Fr s0 s → StM (dN D) (dN D) s st → TSok (dN D) (dN D) st → tT st + d ≤ 4000 → KnownOk D 7 kn → brl D gap d n st = A → m_X12_breathless_L28 (-1) a (nI gap) f Q (d + 2) fs fr s yb tr kn (-5) (-5) (nI n) := by
  have hF : FlatC (-1) 7 := Or.inl ⟨rfl, rfl⟩
  have c3 : (3 : Int32).toNatClampNeg = 3 := rfl
  have back : ∀ (fs fr : Int32) (s yb tr kn : AR) (v2 v3 : Int32), Fr s0 s → ((v2 = -5 ∧ v3 = -5 ∧ A = none) ∨ ∃ n p, v2 = nI n ∧ v3 = nI p ∧ A = some (n, p)) → m_X12_breathless_L80 a fs fr (nI gap) s f yb tr kn v2 v3 Q := by
    intro fs fr s yb tr kn v2 v3 hFr hv
    unfold m_X12_breathless_L80
    refine q_goesBack (fun s2 b1 b2 => ?_)
    rw [s_back hf b1 (fun k hk => (b2 k hk).trans (hFr k hk))]
    rcases hv with ⟨rfl, rfl, e⟩ | ⟨n, p, rfl, rfl, e⟩
    · exact ⟨fun _ => h0 e _ _ _ _ _, fun _ => h0 e _ _ _ _ _⟩
    · have h1' := h1 n p e
      refine ⟨fun c => ?_, fun c => ?_⟩
      · rw [if_pos c] at h1'; exact h1' _ _ _ _ _
      · rw [if_neg c] at h1'; exact h1' _ _ _ _ _
  intro d
  induction d with
  | zero =>
    intro n fs fr s yb tr kn st hn _ hW hFr hS hs ht hK hA
    unfold m_X12_breathless_L28
    exact ⟨fun _ => back _ _ _ _ _ _ _ _ hFr (Or.inl ⟨rfl, rfl, hA.symm⟩), fun c => absurd ((nI_ltI (a := 60) (b := n) (by omega) (by omega)).mpr (by omega)) c⟩
  | succ d ih =>
    intro n fs fr s yb tr kn st hn _ hW hFr hS hs ht hK hA
    have hN := hs.2.1
    unfold m_X12_breathless_L28
    rw [c3, hS.2.2.2.1]
    refine ⟨fun c => absurd ((nI_ltI (a := 60) (b := n) (by omega) (by omega)).mp c) (by omega), fun _ => ⟨fun _ => ⟨fun z => ?_, fun z => ?_⟩, fun c => absurd rfl c⟩⟩
    · have z0 := (nI_leI (a := dN D) (b := 0) (by omega) (by omega)).mp z
      exact back _ _ _ _ _ _ _ _ hFr (Or.inl ⟨rfl, rfl, by rw [← hA]; exact brl_0 (by omega) _ _ _⟩)
    · have z0 : 0 < dN D := by
        rcases Nat.eq_zero_or_pos (dN D) with w | w
        · exact absurd (by rw [w]; exact (nI_leI (a := 0) (b := 0) (by omega) (by omega)).mpr (Nat.le_refl 0)) z
        · exact w
      refine q_goesM hW hS hs z0 (by omega) hF hW.1.2.2.2.2 hK (fun fs' fr' s' yb' tr' kn' hK' hW' hFr' hS' => ?_)
      have hok := turn_ok (fl := 7) hW.1 hs
      have hT := turn_T (D := D) (gap := gap) (fl := 7) (M := dN D) (s := st)
      have hFr2 : Fr s0 s' := fun j hj => (hFr' j hj).trans (hFr j hj)
      unfold brl at hA
      refine q_outM hW'.2.1.1 hN (fun p hp => ⟨hS'.2.2.2.2.2 p hp, hok.2.2.2.2.1 p hp⟩) (fun e => ⟨fun _ x ex => ?_, fun c => absurd rfl c⟩) (fun p hp e => ⟨fun c => absurd c (nI_nm5 (by omega)), fun _ x ex => ?_⟩)
      · rw [nI_1] at ex
        subst ex
        rw [e] at hA
        exact ih (n + 1) _ _ _ _ _ _ _ (by omega) (by omega) hW' hFr2 hS' hok (by omega) hK' hA
      · rw [e] at hA
        unfold m_X12_breathless_L28
        have hv : (nI n = -5 ∧ nI p = -5 ∧ A = none) ∨ ∃ n' p', nI n = nI n' ∧ nI p = nI p' ∧ A = some (n', p') := Or.inr ⟨n, p, rfl, rfl, hA.symm⟩
        exact ⟨fun _ => back _ _ _ _ _ _ _ _ hFr2 hv, fun _ => ⟨fun c => absurd c (nI_nm5 (by omega)), fun _ => back _ _ _ _ _ _ _ _ hFr2 hv⟩⟩
theorem q_breathlessM {D : DT} {nf gap far : Nat} {s fm yb tr kn : AR} {st : TS} {fs fr g a : Int32} {Q : QmT} (h : NowM D nf gap far s st)
    (hQ : ∀ (fs' fr' g' : Int32) (fm' yb' tr' kn' : AR), Q (breathlessA D gap st a) fs' fr' g' s fm' yb' tr' kn') : m_X12_breathless fs fr g (-1) s fm yb tr kn a Q := by
  unfold breathlessA at hQ
  refine q_in01 (fun c => ⟨fun z => absurd z (by decide), fun _ => q_begins (fl := 7) h.1 (fun kn1 hK => q_keeps (fun f1 hf1 x ex y ey z ez => ⟨62, ?_⟩))⟩) (fun c0 c1 => ⟨fun _ => ?_, fun z => absurd rfl z⟩)
  · subst ex
    subst ey
    subst ez
    refine q_brlM c (A := brl D gap 60 1 st) hf1 (fun e => ?_) (fun n p e => ?_) 60 1 _ _ _ _ _ _ st rfl (by omega) h.1 (fun _ _ => rfl) h.2.1 h.2.2.1 (by have := h.2.2.2.1; omega) hK rfl
    · rw [e] at hQ
      rcases c with c | c
      · rw [if_pos c] at hQ; exact fun _ _ _ _ _ => hQ _ _ _ _ _ _ _
      · rw [if_neg (by rw [c]; decide), if_pos c] at hQ; exact fun _ _ _ _ _ => hQ _ _ _ _ _ _ _
    · rw [e] at hQ
      rcases c with c | c
      · rw [if_pos c] at hQ ⊢; exact fun _ _ _ _ _ => hQ _ _ _ _ _ _ _
      · rw [if_neg (by rw [c]; decide), if_pos c] at hQ
        rw [if_neg (by rw [c]; decide)]
        exact fun _ _ _ _ _ => hQ _ _ _ _ _ _ _
  · rw [if_neg c0, if_neg c1] at hQ
    exact hQ _ _ _ _ _ _ _
