/-! PURE: person; image, undo; count -/
def peA (D : DT) (a b c : Int32) : Int32 := match idx 7 a, idx 10 b, idx 10 c with | some _, some _, some _ => if dN D = 7 then -4 else nI (dN D) | none, _, _ => -1 | _, _, _ => -2
def peOk (D : DT) (a b c : Int32) : Option (Nat × Nat × Nat) := match idx 7 a, idx 10 b, idx 10 c with | some k, some v, some h => if dN D = 7 then none else some (k, v, h) | _, _, _ => none
def peD (D : DT) (k v h : Nat) : DT := (fun q => if q = dN D then k else dK D q, fun q => if q = dN D then v else dV D q, fun q => if q = dN D then h else dH D q, fun j => if 3 * dN D ≤ j then 0 else dR D j, dS D, dI D, dN D + 1)
def peT (D : DT) (st : TS) : TS := (fun k => if k = dN D then dN D else tP st k, fun q => if q = dN D then 9 else tB st q, st.2.2)
theorem pe_ok {D : DT} {st : TS} (hs : TSok (dN D) (dN D) st) (h7 : dN D < 7) : TSok (dN D + 1) (dN D + 1) (peT D st) := by
  obtain ⟨o1, o2, o3, o4, o5, o6⟩ := hs
  refine ⟨Nat.le_refl _, by omega, fun k hk => ?_, fun i j hi hj e => ?_, fun q hq => ?_, o6⟩
  · show (if k = dN D then dN D else tP st k) < dN D + 1
    split
    · omega
    · have := o3 k (by omega); omega
  · have e : (if i = dN D then dN D else tP st i) = (if j = dN D then dN D else tP st j) := e
    split at e <;> split at e
    · omega
    · have := o3 j (by omega); omega
    · have := o3 i (by omega); omega
    · exact o4 i j (by omega) (by omega) e
  · show (if q = dN D then 9 else tB st q) ≤ 9
    split
    · omega
    · exact o5 q (by omega)
theorem pe_sur {D : DT} {st : TS} (hu : Sur (dN D) st) : Sur (dN D + 1) (peT D st) := by
  intro p hp
  by_cases c : p = dN D
  · exact ⟨dN D, by omega, by show (if dN D = dN D then dN D else tP st (dN D)) = p; rw [if_pos rfl, c]⟩
  · obtain ⟨k, hk, e⟩ := hu p (by omega)
    exact ⟨k, by omega, by show (if k = dN D then dN D else tP st k) = p; rw [if_neg (by omega), e]⟩
theorem pe_WD {D : DT} {gap k v h : Nat} (hW : WD D gap) (h7 : dN D < 7) (hk : k ≤ 6) (hv : v ≤ 9) (hh : h ≤ 9) : WD (peD D k v h) gap := by
  obtain ⟨⟨u0, u1⟩, u2, u3, u4, u5⟩ := hW
  refine ⟨⟨by show dN D + 1 ≤ 7; omega, fun p hp => ?_⟩, fun j hj => ?_, u3, u4, u5⟩
  · have hp : p < dN D + 1 := hp
    show (if p = dN D then k else dK D p) ≤ 6 ∧ (if p = dN D then v else dV D p) ≤ 9 ∧ (if p = dN D then h else dH D p) ≤ 9
    by_cases c : p = dN D
    · rw [if_pos c, if_pos c, if_pos c]; exact ⟨hk, hv, hh⟩
    · rw [if_neg c, if_neg c, if_neg c]; exact u1 p (by omega)
  · show (if 3 * dN D ≤ j then 0 else dR D j) ≤ 9
    split
    · omega
    · exact u2 j (by omega)
theorem q_joinL {lk : LKT} {N : Nat} {size v2 : Int32} {P : Nat → Option Nat} {C B R0 : AR} {Q : Int32 → Int32 → (Nat → Option Nat) → AR → AR → AR → Prop} (hN : N < 7) (hv : v2 = nI N) (hQ : ∀ R : AR, (∀ k, k < 3 → R (3 * N + k) = 0) → (∀ j, j < 3 * N → R j = R0 j) → Q v2 (size + 1) P C B R) :
    ∀ (d i : Nat) (R : AR), i + d = 3 → (∀ k, k < i → R (3 * N + k) = 0) → (∀ j, j < 3 * N → R j = R0 j) → m_X5_join_L38 lk size P C B v2 Q (d + 1) R (nI i) := by
  subst hv
  intro d
  induction d with
  | zero =>
    intro i R hi h1 h2
    unfold m_X5_join_L38
    exact ⟨fun _ => hQ R (fun k hk => h1 k (by omega)) h2, fun c => absurd ((nI_leI (a := 3) (b := i) (by omega) (by omega)).mpr (by omega)) c⟩
  | succ d ih =>
    intro i R hi h1 h2
    unfold m_X5_join_L38
    have e1 : nI N * (3 : Int32) + nI i = nI (3 * N + i) := by rw [show (3 : Int32) = nI 3 from rfl, pk_mul, nI_add, Nat.mul_comm]
    rw [e1, nI_clamp (by omega)]
    refine ⟨fun c => absurd ((nI_leI (a := 3) (b := i) (by omega) (by omega)).mp c) (by omega), fun _ => ⟨vp_in_nI (by omega) (by decide), fun y e x ex => ?_⟩⟩
    rw [nI_1] at ex
    subst ex
    refine ih (i + 1) y (by omega) (fun k hk => ?_) (fun j hj => ?_)
    · by_cases ek : k = i
      · rw [e, ek, pk_us]
      · rw [e, pk_un (by omega)]; exact h1 k (by omega)
    · rw [e, pk_un (by omega)]; exact h2 j hj
theorem q_personC {D : DT} {gap far : Nat} {lk : LKT} {fk : FKT} {nF : Option Nat} {nS nT nY nM nG nA nL : Int32} {nP : Nat → Option Nat} {nC nB nR : AR} {st : TS} {a b c : Int32} {Q : Int32 → Int32 → (Nat → Option Nat) → AR → AR → AR → Option obNLT → Prop} (h : NowC D gap far lk fk nF nS nT nY nM nG nA nL nP nC nB nR st)
    (h0 : peOk D a b c = none → Q (peA D a b c) nS nP nC nB nR none)
    (h1 : ∀ k v hh, peOk D a b c = some (k, v, hh) → k ≤ 6 → v ≤ 9 → hh ≤ 9 → dN D < 7 → ∀ (z : Int32) (P : Nat → Option Nat) (C B R : AR) (w : obNLT), obK w.2.1 → LkExt lk (lkNew lk (some w)) → NowC (peD D k v hh) gap far (lkNew lk (some w)) fk nF z nT nY nM nG nA nL P C B R (peT D st) → Q (peA D a b c) z P C B R (some w)) : m_X11_person lk nS nP nC nB nR a b c Q := by
  have hs := h.2.2.1
  have hN := hs.2.1
  unfold peA peOk at h0 h1
  unfold m_X11_person
  refine q_isKind (fun k hk e ek => ⟨fun c => absurd c (by decide), fun _ => ?_⟩) (fun ek => ⟨fun _ => by rw [ek] at h0; exact h0 rfl, fun c => absurd rfl c⟩)
  rw [ek] at h0 h1
  refine q_isDigit (fun v hv e2 ev => ⟨fun c => absurd c (by decide), fun _ => ?_⟩) (fun ev => ⟨fun _ => by rw [ev] at h0; exact h0 rfl, fun c => absurd rfl c⟩)
  rw [ev] at h0 h1
  refine q_isDigit (fun hh hhh e3 eh => ⟨fun c => absurd c (by decide), fun _ => ?_⟩) (fun eh => ⟨fun _ => by rw [eh] at h0; exact h0 rfl, fun c => absurd rfl c⟩)
  rw [eh] at h0 h1
  dsimp only at h0 h1
  subst e
  subst e2
  subst e3
  have hz : nS = nI (dN D) := h.2.1.1
  refine ⟨fun c7 b0 hb0 => ?_, fun c7 => ?_⟩
  · rw [hz] at c7
    have n7 : dN D < 7 := (nI_ltI (a := dN D) (b := 7) (by omega) (by omega)).mp c7
    rw [if_neg (by omega), if_neg (by omega)] at h1
    have hext : LkExt lk (lkUp lk b0 (obCi (nI k), nS, nI v, nI hh)) := by
      intro x y hx
      unfold lkUp
      rw [if_neg]
      · exact hx
      · intro z
        rw [z, hb0] at hx
        cases hx
    unfold m_X5_join
    rw [hz, nI_clamp (by omega)]
    have v7 : vp_in (nI (dN D)) 7 := vp_in_nI n7 (by decide)
    refine ⟨fun _ => ⟨fun b2 eb2 => ?_, v7, fun y3 e3 => ⟨v7, fun y4 e4 => ⟨v7, fun y5 e5 x6 e6 => ⟨4, ?_⟩⟩⟩⟩, fun z => absurd ((nI_ltI (a := dN D) (b := 7) (by omega) (by omega)).mpr n7) z⟩
    · cases eb2
      exact ⟨_, _, _, _, by unfold lkUp; exact if_pos rfl⟩
    · subst e6
      refine q_joinL (R0 := nR) n7 rfl (fun R r1 r2 => ?_) 3 0 nR rfl (fun k hk => absurd hk (by omega)) (fun _ _ => rfl)
      rw [hz] at hext
      refine h1 k v hh rfl (by omega) (by omega) (by omega) n7 _ y3 y4 y5 R (b0, obCi (nI k), nI (dN D), nI v, nI hh) (obCi_ok _) hext ?_
      obtain ⟨⟨w1, w2, w3, w4, w5, w6, w7, w8, w9⟩, ⟨c1, c2, c3, c4, c5, c6⟩, -, h4, h5, h6, h7, h8, h9, h10⟩ := h
      have hWD := pe_WD (k := k) (v := v) (h := hh) ⟨w1, fun j hj => (w3 j hj).2, w6, w7, w9⟩ n7 (by omega) (by omega) (by omega)
      refine ⟨⟨hWD.1, fun q hq => ?_, fun j hj => ?_, w4, w5, w6, w7, w8, w9⟩, ⟨nI_1 _, c2, c3, c4, fun j hj => ?_, fun q hq => ?_⟩, pe_ok hs n7, h4, h5, h6, h7, fun j hj b hb => ?_, pe_sur h9, fun j hj hj7 => ?_⟩
      · have hq : q < dN D + 1 := hq
        show ∃ a : Nat, y3 q = some a ∧ lkUp lk b0 (obCi (nI k), nI (dN D), nI v, nI hh) a = some (obCi (nI (if q = dN D then k else dK D q)), nI q, nI (if q = dN D then v else dV D q), nI (if q = dN D then hh else dH D q))
        by_cases cq : q = dN D
        · rw [if_pos cq, if_pos cq, if_pos cq, cq]
          exact ⟨b0, by rw [e3, va_us], by unfold lkUp; exact if_pos rfl⟩
        · rw [if_neg cq, if_neg cq, if_neg cq]
          obtain ⟨ad, had, hl⟩ := w2 q (by omega)
          exact ⟨ad, by rw [e3, va_un cq]; exact had, hext _ _ hl⟩
      · have hj : j < 3 * (dN D + 1) := hj
        show R j = nI (if 3 * dN D ≤ j then 0 else dR D j) ∧ (if 3 * dN D ≤ j then 0 else dR D j) ≤ 9
        by_cases cj : 3 * dN D ≤ j
        · rw [if_pos cj]
          refine ⟨?_, by omega⟩
          have := r1 (j - 3 * dN D) (by omega)
          rw [show 3 * dN D + (j - 3 * dN D) = j from by omega] at this
          exact this
        · rw [if_neg cj, r2 j (by omega)]
          exact w3 j (by omega)
      · have hj : j < dN D + 1 := hj
        show y4 j = nI (if j = dN D then dN D else tP st j)
        by_cases cj : j = dN D
        · rw [if_pos cj, e4, cj, pk_us]
        · rw [if_neg cj, e4, pk_un cj]; exact c5 j (by omega)
      · have hq : q < dN D + 1 := hq
        show y5 q = nI (if q = dN D then 9 else tB st q)
        by_cases cj : q = dN D
        · rw [if_pos cj, e5, cj, pk_us]; rfl
        · rw [if_neg cj, e5, pk_un cj]; exact c6 q (by omega)
      · by_cases cj : j = dN D
        · rw [e3, cj, va_us] at hb
          cases hb
          exact ⟨_, _, _, _, by show lkUp lk b0 _ b0 = _; unfold lkUp; exact if_pos rfl⟩
        · rw [e3, va_un cj] at hb
          obtain ⟨ci, x0, x1, x2, hx⟩ := h8 j hj b hb
          exact ⟨ci, x0, x1, x2, hext _ _ hx⟩
      · have hj : dN D + 1 ≤ j := hj
        rw [e3, va_un (by omega)]
        exact h10 j (by omega) hj7
  · have n7 : dN D = 7 := by
      rcases Nat.lt_or_ge (dN D) 7 with z | z
      · exact absurd (by rw [hz]; exact (nI_ltI (a := dN D) (b := 7) (by omega) (by omega)).mpr z) c7
      · omega
    rw [if_pos n7, if_pos n7] at h0
    exact h0 rfl
theorem q_perL {N : Nat} {v4 : Int32} {s0 : AR} {Q : Int32 → AR → Prop} (hv : v4 = nI N) (hN : N < 7) (h3 : s0 3 = nI N) (h18 : s0 18 = nI N)
    (hQ : ∀ s' : AR, (∀ k, k < 3 → s' (45 + 3 * N + k) = 0) → s' (4 + N) = nI N → s' 3 = nI (N + 1) → s' 18 = nI (N + 1) → (∀ j, j ≠ 4 + N → j ≠ 3 → j ≠ 18 → ¬ (45 + 3 * N ≤ j ∧ j < 48 + 3 * N) → s' j = s0 j) → Q v4 s') :
    ∀ (d i : Nat) (s : AR), i + d = 3 → (∀ k, k < i → s (45 + 3 * N + k) = 0) → (∀ j, ¬ (45 + 3 * N ≤ j ∧ j < 48 + 3 * N) → s j = s0 j) → m_X12_person_L107 v4 Q (d + 1) s (nI i) := by
  subst hv
  have c3 : (3 : Int32).toNatClampNeg = 3 := rfl
  have c18 : (18 : Int32).toNatClampNeg = 18 := rfl
  intro d
  induction d with
  | zero =>
    intro i s hi h1 h2
    unfold m_X12_person_L107
    have e4 : ((4 : Int32) + nI N).toNatClampNeg = 4 + N := ixc rfl (by omega)
    rw [c3, c18, h2 3 (by omega), h3, e4]
    refine ⟨fun _ => ⟨vpc (k := 4) rfl (by omega) (by decide), fun y18 e18 y19 e19 y20 e20 => ?_⟩, fun c => absurd ((nI_leI (a := 3) (b := i) (by omega) (by omega)).mpr (by omega)) c⟩
    rw [e18, pk_un (by omega), h2 3 (by omega), h3, nI_1] at e19
    rw [e19, pk_un (by omega), pk_un (by omega), h2 18 (by omega), h18, nI_1] at e20
    refine hQ y20 (fun k hk => ?_) ?_ ?_ ?_ (fun j j1 j2 j3 j4 => ?_)
    · rw [e20, pk_un (by omega), pk_un (by omega), pk_un (by omega)]; exact h1 k (by omega)
    · rw [e20, pk_un (by omega), pk_un (by omega), pk_us]
    · rw [e20, pk_un (by omega), pk_us]
    · rw [e20, pk_us]
    · rw [e20, pk_un j3, pk_un j2, pk_un j1]; exact h2 j j4
  | succ d ih =>
    intro i s hi h1 h2
    unfold m_X12_person_L107
    have e1 : ((45 : Int32) + (3 : Int32) * nI N) + nI i = nI (45 + 3 * N + i) := by rw [show (3 : Int32) = nI 3 from rfl, show (45 : Int32) = nI 45 from rfl, pk_mul, nI_add, nI_add]
    rw [e1, nI_clamp (by omega)]
    refine ⟨fun c => absurd ((nI_leI (a := 3) (b := i) (by omega) (by omega)).mp c) (by omega), fun _ => ⟨vp_in_nI (by omega) (by decide), fun y e x ex => ?_⟩⟩
    rw [nI_1] at ex
    subst ex
    refine ih (i + 1) y (by omega) (fun k hk => ?_) (fun j hj => ?_)
    · by_cases ek : k = i
      · rw [e, ek, pk_us]
      · rw [e, pk_un (by omega)]; exact h1 k (by omega)
    · rw [e, pk_un (by omega)]; exact h2 j hj
theorem q_personM {D : DT} {nf gap far : Nat} {s : AR} {st : TS} {a b c : Int32} {Q : Int32 → AR → Prop} (h : NowM D nf gap far s st) (h0 : peOk D a b c = none → Q (peA D a b c) s)
    (h1 : ∀ k v hh, peOk D a b c = some (k, v, hh) → k ≤ 6 → v ≤ 9 → hh ≤ 9 → dN D < 7 → ∀ s' : AR, NowM (peD D k v hh) nf gap far s' (peT D st) → (∀ j, (20 ≤ j ∧ j < 24) ∨ 66 ≤ j → s' j = s j) → Q (peA D a b c) s') : m_X12_person s a b c Q := by
  have hs := h.2.2.1
  have hN := hs.2.1
  have h18 := h.1.2.1.1
  have c18 : (18 : Int32).toNatClampNeg = 18 := rfl
  unfold peA peOk at h0 h1
  unfold m_X12_person
  refine q_inIdx 6 rfl (by decide) (fun k hk e ek => ⟨fun c => absurd c (by decide), fun _ => ?_⟩) (fun ek => ⟨fun _ => by rw [ek] at h0; exact h0 rfl, fun c => absurd rfl c⟩)
  rw [ek] at h0 h1
  refine q_inIdx 9 rfl (by decide) (fun v hv e2 ev => ⟨fun c => absurd c (by decide), fun _ => ?_⟩) (fun ev => ⟨fun _ => by rw [ev] at h0; exact h0 rfl, fun c => absurd rfl c⟩)
  rw [ev] at h0 h1
  refine q_inIdx 9 rfl (by decide) (fun hh hhh e3 eh => ⟨fun c => absurd c (by decide), fun _ => ?_⟩) (fun eh => ⟨fun _ => by rw [eh] at h0; exact h0 rfl, fun c => absurd rfl c⟩)
  rw [eh] at h0 h1
  dsimp only at h0 h1
  subst e
  subst e2
  subst e3
  have e24 : ((24 : Int32) + nI (dN D)).toNatClampNeg = 24 + dN D := ixc rfl (by omega)
  have e31 : ((31 : Int32) + nI (dN D)).toNatClampNeg = 31 + dN D := ixc rfl (by omega)
  have e38 : ((38 : Int32) + nI (dN D)).toNatClampNeg = 38 + dN D := ixc rfl (by omega)
  have e11 : ((11 : Int32) + nI (dN D)).toNatClampNeg = 11 + dN D := ixc rfl (by omega)
  rw [c18, h18, show nI (dN D) = 7 ↔ dN D = 7 from nI_eq (a := dN D) (b := 7) (by omega) (by omega)]
  refine ⟨fun c => by rw [if_pos c, if_pos c] at h0; exact h0 rfl, fun c x11 e11' => ?_⟩
  subst e11'
  rw [if_neg c, if_neg c] at h1
  rw [e24, e31, e38, e11]
  refine ⟨vpc (k := 24) rfl (by omega) (by decide), fun y12 e12 => ⟨vpc (k := 31) rfl (by omega) (by decide), fun y13 e13 => ⟨vpc (k := 38) rfl (by omega) (by decide), fun y14 e14 => ⟨vpc (k := 11) rfl (by omega) (by decide), fun y15 e15 x16 e16 => ⟨4, ?_⟩⟩⟩⟩⟩
  subst e16
  obtain ⟨⟨hWD, ⟨v1, v2, v3⟩, v4, v5⟩, ⟨d1, d2, d3, d4, d5, d6⟩, -, m4, m5⟩ := h
  have g : ∀ j, j ≠ 24 + dN D → j ≠ 31 + dN D → j ≠ 38 + dN D → j ≠ 11 + dN D → y15 j = s j := fun j j1 j2 j3 j4 => by rw [e15, pk_un j4, e14, pk_un j3, e13, pk_un j2, e12, pk_un j1]
  refine q_perL (N := dN D) (s0 := y15) rfl (by omega) (by rw [g _ (by omega) (by omega) (by omega) (by omega)]; exact d4) (by rw [g _ (by omega) (by omega) (by omega) (by omega)]; exact v1) (fun s' s1 s2 s3 s4 s5 => ?_) 3 0 y15 rfl (fun k hk => absurd hk (by omega)) (fun _ _ => rfl)
  have t : ∀ j, j ≠ 4 + dN D → j ≠ 3 → j ≠ 18 → ¬ (45 + 3 * dN D ≤ j ∧ j < 48 + 3 * dN D) → j ≠ 24 + dN D → j ≠ 31 + dN D → j ≠ 38 + dN D → j ≠ 11 + dN D → s' j = s j := fun j a1 a2 a3 a4 j1 j2 j3 j4 => (s5 j a1 a2 a3 a4).trans (g j j1 j2 j3 j4)
  have n7 : dN D < 7 := by omega
  refine h1 k v hh rfl hk (by omega) (by omega) n7 s' ⟨⟨pe_WD hWD n7 hk (by omega) (by omega), ⟨s4, fun p hp => ?_, fun j hj => ?_⟩, fun z hz => v4 z (fun j hj => (hz j hj).trans ?_), ?_⟩, ⟨?_, ?_, ?_, s3, fun j hj => ?_, fun q hq => ?_⟩, pe_ok hs n7, m4, pe_sur m5⟩ (fun j hj => t j (by omega) (by omega) (by omega) (by omega) (by omega) (by omega) (by omega) (by omega))
  · have hp : p < dN D + 1 := hp
    show s' (24 + p) = nI (if p = dN D then k else dK D p) ∧ s' (31 + p) = nI (if p = dN D then v else dV D p) ∧ s' (38 + p) = nI (if p = dN D then hh else dH D p)
    by_cases cp : p = dN D
    · rw [if_pos cp, if_pos cp, if_pos cp, cp, s5 _ (by omega) (by omega) (by omega) (by omega), s5 _ (by omega) (by omega) (by omega) (by omega), s5 _ (by omega) (by omega) (by omega) (by omega), e15, pk_un (by omega), pk_un (by omega), pk_un (by omega), e14, pk_un (by omega), pk_un (by omega), pk_us, e13, pk_un (by omega), pk_us, e12, pk_us]
      exact ⟨rfl, rfl, rfl⟩
    · rw [if_neg cp, if_neg cp, if_neg cp, t _ (by omega) (by omega) (by omega) (by omega) (by omega) (by omega) (by omega) (by omega), t _ (by omega) (by omega) (by omega) (by omega) (by omega) (by omega) (by omega) (by omega), t _ (by omega) (by omega) (by omega) (by omega) (by omega) (by omega) (by omega) (by omega)]
      exact v2 p (by omega)
  · have hj : j < 3 * (dN D + 1) := hj
    show s' (45 + j) = nI (if 3 * dN D ≤ j then 0 else dR D j)
    by_cases cj : 3 * dN D ≤ j
    · rw [if_pos cj]
      have := s1 (j - 3 * dN D) (by omega)
      rw [show 45 + 3 * dN D + (j - 3 * dN D) = 45 + j from by omega] at this
      exact this
    · rw [if_neg cj, t _ (by omega) (by omega) (by omega) (by omega) (by omega) (by omega) (by omega) (by omega)]
      exact v3 j (by omega)
  · have hj2 : InF nf j := hj
    unfold InF at hj2
    exact t j (by omega) (by omega) (by omega) (by omega) (by omega) (by omega) (by omega) (by omega)
  · obtain ⟨g1, g2, g3, g4, g5⟩ := v5
    refine ⟨g1, g2, g3, (t _ (by omega) (by omega) (by omega) (by omega) (by omega) (by omega) (by omega) (by omega)).trans g4, ?_⟩
    rcases g5 with ⟨a1, a2, a3⟩ | ⟨a1, a2, a3, a4⟩
    · exact Or.inl ⟨a1, (t _ (by omega) (by omega) (by omega) (by omega) (by omega) (by omega) (by omega) (by omega)).trans a2, a3⟩
    · exact Or.inr ⟨a1, (t _ (by omega) (by omega) (by omega) (by omega) (by omega) (by omega) (by omega) (by omega)).trans a2, (t _ (by omega) (by omega) (by omega) (by omega) (by omega) (by omega) (by omega) (by omega)).trans a3, (t _ (by omega) (by omega) (by omega) (by omega) (by omega) (by omega) (by omega) (by omega)).trans a4⟩
  · exact (t 0 (by omega) (by omega) (by omega) (by omega) (by omega) (by omega) (by omega) (by omega)).trans d1
  · exact (t 1 (by omega) (by omega) (by omega) (by omega) (by omega) (by omega) (by omega) (by omega)).trans d2
  · exact (t 2 (by omega) (by omega) (by omega) (by omega) (by omega) (by omega) (by omega) (by omega)).trans d3
  · have hj : j < dN D + 1 := hj
    show s' (4 + j) = nI (if j = dN D then dN D else tP st j)
    by_cases cj : j = dN D
    · rw [if_pos cj, cj]; exact s2
    · rw [if_neg cj, t _ (by omega) (by omega) (by omega) (by omega) (by omega) (by omega) (by omega) (by omega)]
      exact d5 j (by omega)
  · have hq : q < dN D + 1 := hq
    show s' (11 + q) = nI (if q = dN D then 9 else tB st q)
    by_cases cj : q = dN D
    · rw [if_pos cj, cj, s5 _ (by omega) (by omega) (by omega) (by omega), e15, pk_us]; rfl
    · rw [if_neg cj, t _ (by omega) (by omega) (by omega) (by omega) (by omega) (by omega) (by omega) (by omega)]
      exact d6 q (by omega)
