/-! PURE: breath, swap, row, turn, person -/
def LkExt (lk lk' : LKT) : Prop := ∀ a x, lk a = some x → lk' a = some x
theorem NowC_lk {D : DT} {gap far : Nat} {lk lk' : LKT} {fk : FKT} {nF : Option Nat} {nS nT nY nM nG nA nL : Int32} {nP : Nat → Option Nat} {nC nB nR : AR} {st : TS} (h : NowC D gap far lk fk nF nS nT nY nM nG nA nL nP nC nB nR st) (e : LkExt lk lk') : NowC D gap far lk' fk nF nS nT nY nM nG nA nL nP nC nB nR st := by
  obtain ⟨⟨h1, h2, h3⟩, h4, h5, h6, h7, h8, h9, h10, h11⟩ := h
  refine ⟨⟨h1, fun q hq => ?_, h3⟩, h4, h5, h6, h7, h8, h9, fun k hk b hb => ?_, h11⟩
  · obtain ⟨a, ha, hl⟩ := h2 q hq
    exact ⟨a, ha, e _ _ hl⟩
  · obtain ⟨ci, x0, x1, x2, hx⟩ := h10 k hk b hb
    exact ⟨ci, x0, x1, x2, e _ _ hx⟩
/-! breath -/
def brA (D : DT) (st : TS) (a b : Int32) : Int32 := match idx (dN D) a, idx 10 b with | some p, some _ => nI (tB st p) | some _, none => -2 | none, _ => -1
def brT (D : DT) (st : TS) (a b : Int32) : TS := match idx (dN D) a, idx 10 b with | some p, some n => (tP st, fun q => if q = p then n else tB st q, st.2.2) | _, _ => st
def brB (D : DT) (a b : Int32) (B : AR) : AR := match idx (dN D) a, idx 10 b with | some p, some n => upd B p (nI n) | _, _ => B
def brS (D : DT) (a b : Int32) (s : AR) : AR := match idx (dN D) a, idx 10 b with | some p, some n => upd s (11 + p) (nI n) | _, _ => s
theorem q_breathC {D : DT} {gap far : Nat} {lk : LKT} {fk : FKT} {nF : Option Nat} {nS nT nY nM nG nA nL : Int32} {nP : Nat → Option Nat} {nC nB nR : AR} {st : TS} {a b : Int32} {Q : Int32 → AR → Prop} (h : NowC D gap far lk fk nF nS nT nY nM nG nA nL nP nC nB nR st) (hQ : Q (brA D st a b) (brB D a b nB)) : m_X11_breath nP nB a b Q := by
  have hN := h.2.2.1.2.1
  unfold brA brB at hQ
  refine q_findC h (fun p ad hp e ei hb hl => ⟨fun c => (by cases c), fun b3 eb => ?_⟩) (fun e => ⟨fun _ => by rw [e] at hQ; exact hQ, fun b4 c => (by cases c)⟩)
  rw [ei] at hQ
  refine q_isDigit (fun n hn e2 ek => ⟨fun c => absurd c (by decide), fun _ => ?_⟩) (fun ek => ⟨fun _ => by rw [ek] at hQ; exact hQ, fun c => absurd rfl c⟩)
  rw [ek] at hQ
  subst e
  rw [nI_clamp (by omega), h.2.1.2.2.2.2.2 p hp]
  refine ⟨vp_in_nI (by omega) (by decide), fun x8 e8 => ⟨vp_in_nI (by omega) (by decide), fun y e9 => ?_⟩⟩
  rw [e8, e9, e2]
  exact hQ
theorem q_breathM {D : DT} {nf gap far : Nat} {s : AR} {st : TS} {a b : Int32} {Q : Int32 → AR → Prop} (h : NowM D nf gap far s st) (hQ : Q (brA D st a b) (brS D a b s)) : m_X12_breath s a b Q := by
  obtain ⟨hW, hS, hs, ht, hu⟩ := h
  have hN := hs.2.1
  unfold brA brS at hQ
  refine q_isPersonM hN hW.2.1.1 (fun p hp e ei => ⟨fun c => absurd c (by decide), fun _ => ?_⟩) (fun ei => ⟨fun _ => by rw [ei] at hQ; exact hQ, fun c => absurd rfl c⟩)
  rw [ei] at hQ
  refine q_inIdx 9 rfl (by decide) (fun n hn e2 ek => ⟨fun c => absurd c (by decide), fun _ => ?_⟩) (fun ek => ⟨fun _ => by rw [ek] at hQ; exact hQ, fun c => absurd rfl c⟩)
  rw [ek] at hQ
  subst e
  have e11 : ((11 : Int32) + nI p).toNatClampNeg = 11 + p := ixc rfl (by omega)
  have v11 : vp_in ((11 : Int32) + nI p) 903 := vpc (k := 11) rfl (by omega) (by decide)
  rw [e11, hS.2.2.2.2.2 p hp]
  refine ⟨v11, fun x8 e8 => ⟨v11, fun y e9 => ?_⟩⟩
  rw [e8, e9, e2]
  exact hQ
theorem rel_breath {D : DT} {nf gap far : Nat} {lk : LKT} {fk : FKT} {nF : Option Nat} {nS nT nY nM nG nA nL : Int32} {nP : Nat → Option Nat} {nC nB nR : AR} {s : AR} {st : TS} {a b : Int32} (h : NowC D gap far lk fk nF nS nT nY nM nG nA nL nP nC nB nR st) (hM : NowM D nf gap far s st) : NowC D gap far lk fk nF nS nT nY nM nG nA nL nP nC (brB D a b nB) nR (brT D st a b) ∧ NowM D nf gap far (brS D a b s) (brT D st a b) ∧ ∀ j, ¬ (11 ≤ j ∧ j < 18) → brS D a b s j = s j := by
  have hN := h.2.2.1.2.1
  unfold brT brB brS
  rcases idx_cs (n := dN D) a (by omega) with ⟨p, hp, e, ei⟩ | ⟨-, ei⟩
  · rcases idx_cs (n := 10) b (by omega) with ⟨n, hn, e', ei'⟩ | ⟨-, ei'⟩
    · rw [ei, ei']
      dsimp only
      obtain ⟨h1, ⟨c1, c2, c3, c4, c5, c6⟩, ⟨o1, o2, o3, o4, o5, o6⟩, h4, h5, h6, h7, h8, h9, h10⟩ := h
      obtain ⟨m1, ⟨d1, d2, d3, d4, d5, d6⟩, -, m4, m5⟩ := hM
      have hok : TSok (dN D) (dN D) (tP st, fun q => if q = p then n else tB st q, st.2.2) := ⟨o1, o2, o3, o4, fun q hq => (by show (if q = p then n else tB st q) ≤ 9; split <;> first | omega | exact o5 q hq), o6⟩
      refine ⟨⟨h1, ⟨c1, c2, c3, c4, c5, fun q hq => ?_⟩, hok, h4, h5, h6, h7, h8, h9, h10⟩, ⟨WM_ch m1 (fun j hj => pk_un (by omega)), ⟨(pk_un (by omega)).trans d1, (pk_un (by omega)).trans d2, (pk_un (by omega)).trans d3, (pk_un (by omega)).trans d4, fun k hk => (pk_un (by omega)).trans (d5 k hk), fun q hq => ?_⟩, hok, m4, m5⟩, fun j hj => pk_un (by omega)⟩
      · show upd nB p (nI n) q = nI (if q = p then n else tB st q)
        by_cases eq : q = p
        · rw [if_pos eq, eq, pk_us]
        · rw [if_neg eq, pk_un eq]; exact c6 q hq
      · show upd s (11 + p) (nI n) (11 + q) = nI (if q = p then n else tB st q)
        by_cases eq : q = p
        · rw [if_pos eq, eq, pk_us]
        · rw [if_neg eq, pk_un (by omega)]; exact d6 q hq
    · rw [ei, ei']
      exact ⟨h, hM, fun _ _ => rfl⟩
  · rw [ei]
    exact ⟨h, hM, fun _ _ => rfl⟩
/-! swap -/
def swA (D : DT) (st : TS) (a b : Int32) : Int32 := match idx (dN D) a, idx (dN D) b with | some p, some q => if p = q then -2 else nI (ixN (tP st) q (dN D)) | _, _ => -1
def swT (D : DT) (st : TS) (a b : Int32) : TS := match idx (dN D) a, idx (dN D) b with | some p, some q => if p = q then st else exTS st p q | _, _ => st
theorem ix_ex {N p q : Nat} {st : TS} (hs : TSok N N st) (hu : Sur N st) (hp : p < N) (hq : q < N) (hne : p ≠ q) : ixN (tP (exTS st p q)) p N = ixN (tP st) q N := by
  obtain ⟨k, hk, ek⟩ := hu q hq
  have h1 : ixN (tP st) q N = k := ixN_at N k hk ek (fun j hj e => hs.2.2.2.1 j k hj hk (e.trans ek.symm))
  have hok := ex_ok hs hp hq hne
  have ek2 : tP (exTS st p q) k = p := by
    show exPl (tP st) p q k = p
    unfold exPl
    rw [if_neg (by rw [ek]; exact fun z => hne z.symm), if_pos ek]
  rw [h1]
  exact ixN_at N k hk ek2 (fun j hj e => hok.2.2.2.1 j k hj hk (e.trans ek2.symm))
theorem q_swapC {D : DT} {gap far : Nat} {lk : LKT} {fk : FKT} {nF : Option Nat} {nS nT nY nM nG nA nL : Int32} {nP : Nat → Option Nat} {nC nB nR : AR} {st : TS} {a b : Int32} {Q : Int32 → AR → Prop} (h : NowC D gap far lk fk nF nS nT nY nM nG nA nL nP nC nB nR st) (hQ : ∀ C' : AR, NowC D gap far lk fk nF nS nT nY nM nG nA nL nP C' nB nR (swT D st a b) → Q (swA D st a b) C') : m_X11_swap nS nP nC a b Q := by
  have hs := h.2.2.1
  have hN := hs.2.1
  have hu : Sur (dN D) st := h.2.2.2.2.2.2.2.2.1
  unfold swA swT at hQ
  refine q_findC h (fun p ad hp e ei hb hl => ⟨fun c => (by cases c), fun b3 eb => ?_⟩) (fun e => ⟨fun _ => by rw [e] at hQ; exact hQ nC h, fun b4 c => (by cases c)⟩)
  rw [ei] at hQ
  refine q_findC h (fun q ad2 hq e2 ei2 hb2 hl2 => ⟨fun c => (by cases c), fun b3 eb => ?_⟩) (fun e => ⟨fun _ => by rw [e] at hQ; exact hQ nC h, fun b4 c => (by cases c)⟩)
  rw [ei2] at hQ
  dsimp only at hQ
  subst e
  subst e2
  rw [nI_eq (by omega) (by omega)]
  refine ⟨fun c => by rw [if_pos c, if_pos c] at hQ; exact hQ nC h, fun c => ?_⟩
  rw [if_neg c, if_neg c] at hQ
  refine q_exchangeC h.2.1.1 hs h.2.1.2.2.2.2.1 (hu p hp) (hu q hq) c (fun C2 hC2 => ?_)
  have hok := ex_ok hs hp hq c
  rw [h.2.1.1]
  refine q_placeOfC hok hC2 (ex_sur hu hp hq c p hp) (fun i _ _ ex => ?_)
  rw [← ex, ix_ex hs hu hp hq c]
  obtain ⟨h1, ⟨c1, c2, c3, c4, c5, c6⟩, h3, h4, h5, h6, h7, h8, h9, h10⟩ := h
  exact hQ C2 ⟨h1, ⟨c1, c2, c3, c4, hC2, c6⟩, hok, h4, h5, h6, h7, h8, ex_sur hu hp hq c, h10⟩
theorem q_swapMM {D : DT} {nf gap far : Nat} {s : AR} {st : TS} {a b : Int32} {Q : Int32 → AR → Prop} (h : NowM D nf gap far s st) (hQ : ∀ s' : AR, NowM D nf gap far s' (swT D st a b) → (∀ k, k < 4 ∨ 11 ≤ k → s' k = s k) → Q (swA D st a b) s') : m_X12_swap s a b Q := by
  have h0 := h
  obtain ⟨hW, hS, hs, ht, hu⟩ := h
  have hN := hs.2.1
  unfold swA swT at hQ
  rcases idx_cs (n := dN D) a (by omega) with ⟨p, hp, e, ei⟩ | ⟨hn, ei⟩
  · rcases idx_cs (n := dN D) b (by omega) with ⟨q, hq, e', ei'⟩ | ⟨hn, ei'⟩
    · rw [ei, ei'] at hQ
      dsimp only at hQ
      subst e
      subst e'
      by_cases c : p = q
      · rw [if_pos c, if_pos c] at hQ
        refine q_isPersonM hN hW.2.1.1 (fun _ _ _ _ => ⟨fun c => absurd c (by decide), fun _ => ?_⟩) (fun ei2 => by rw [ei] at ei2; cases ei2)
        refine q_isPersonM hN hW.2.1.1 (fun _ _ _ _ => ⟨fun c => absurd c (by decide), fun _ => ⟨fun _ => hQ s h0 (fun _ _ => rfl), fun d => absurd (by rw [c]) d⟩⟩) (fun ei2 => by rw [ei'] at ei2; cases ei2)
      · rw [if_neg c, if_neg c] at hQ
        refine q_swapM hW.2.1.1 hS hs hu hp hq c (fun s' hS' hf => hQ s' ⟨WM_ch hW (fun j hj => hf j (by omega)), hS', ex_ok hs hp hq c, ht, ex_sur hu hp hq c⟩ hf)
    · rw [ei, ei'] at hQ
      refine q_isPersonM hN hW.2.1.1 (fun _ _ _ _ => ⟨fun c => absurd c (by decide), fun _ => ?_⟩) (fun ei2 => by rw [ei] at ei2; cases ei2)
      exact q_isPersonM hN hW.2.1.1 (fun _ _ _ ei2 => by rw [ei'] at ei2; cases ei2) (fun _ => ⟨fun _ => hQ s h0 (fun _ _ => rfl), fun c => absurd rfl c⟩)
  · rw [ei] at hQ
    exact q_isPersonM hN hW.2.1.1 (fun _ _ _ ei2 => by rw [ei] at ei2; cases ei2) (fun _ => ⟨fun _ => hQ s h0 (fun _ _ => rfl), fun c => absurd rfl c⟩)
/-! row -/
def roA (D : DT) (a k n : Int32) : Int32 := match idx (dN D) a, idx 3 k, idx 10 n with | some p, some i, some _ => if dK D p = 6 then nI (dR D (3 * p + i)) else -3 | some _, some _, none => -2 | _, _, _ => -1
def roD (D : DT) (a k n : Int32) : DT := match idx (dN D) a, idx 3 k, idx 10 n with | some p, some i, some m => if dK D p = 6 then (dK D, dV D, dH D, fun j => if j = 3 * p + i then m else dR D j, dS D, dI D, dN D) else D | _, _, _ => D
def roR (D : DT) (a k n : Int32) (R : AR) : AR := match idx (dN D) a, idx 3 k, idx 10 n with | some p, some i, some m => if dK D p = 6 then upd R (3 * p + i) (nI m) else R | _, _, _ => R
def roS (D : DT) (a k n : Int32) (s : AR) : AR := match idx (dN D) a, idx 3 k, idx 10 n with | some p, some i, some m => if dK D p = 6 then upd s (45 + 3 * p + i) (nI m) else s | _, _, _ => s
theorem q_rng3 {a : Int32} {X Y : Prop} (h0 : idx 3 a = none → X) (h1 : ∀ k, k < 3 → a = nI k → idx 3 a = some k → Y) : (a < 0 → X) ∧ (¬ a < 0 → (a < 3 → Y) ∧ (¬ a < 3 → X)) := by
  have h := q_rng (a := a) (hi := 2) 2 rfl (by decide) h0 (fun k hk e ei => h1 k (by omega) e ei)
  refine ⟨h.1, fun c => ⟨fun d => (h.2 c).1 ?_, fun d => (h.2 c).2 (fun e => d ?_)⟩⟩
  · rw [Int32.lt_iff_toInt_lt, show (3 : Int32).toInt = 3 from rfl] at d
    rw [Int32.le_iff_toInt_le, show (2 : Int32).toInt = 2 from rfl]
    omega
  · rw [Int32.le_iff_toInt_le, show (2 : Int32).toInt = 2 from rfl] at e
    rw [Int32.lt_iff_toInt_lt, show (3 : Int32).toInt = 3 from rfl]
    omega
theorem q_rowC {D : DT} {gap far : Nat} {lk : LKT} {fk : FKT} {nF : Option Nat} {nS nT nY nM nG nA nL : Int32} {nP : Nat → Option Nat} {nC nB nR : AR} {st : TS} {a k n : Int32} {Q : Int32 → AR → Prop} (h : NowC D gap far lk fk nF nS nT nY nM nG nA nL nP nC nB nR st) (hQ : Q (roA D a k n) (roR D a k n nR)) : m_X11_row lk nP nR a k n Q := by
  have hN := h.2.2.1.2.1
  unfold roA roR at hQ
  refine q_findC h (fun p ad hp e ei hb hl => ⟨fun c => (by cases c), fun b3 eb => ?_⟩) (fun e => ⟨fun _ => by rw [e] at hQ; exact hQ, fun b4 c => (by cases c)⟩)
  cases eb
  rw [ei] at hQ
  refine q_rng3 (fun ek => by rw [ek] at hQ; exact hQ) (fun i hi e2 ek => ?_)
  rw [ek] at hQ
  refine q_isDigit (fun m hm e3 em => ⟨fun c => absurd c (by decide), fun _ => ?_⟩) (fun em => ⟨fun _ => by rw [em] at hQ; exact hQ, fun c => absurd rfl c⟩)
  rw [em] at hQ
  dsimp only at hQ
  subst e
  subst e2
  have hk6 := (h.1.1.2 p hp).1
  refine q_kindV hl hk6 ?_
  rw [show nI (dK D p) = 6 ↔ dK D p = 6 from nI_eq (a := dK D p) (b := 6) (by omega) (by omega)]
  have e1 : nI p * (3 : Int32) + nI i = nI (3 * p + i) := by rw [show (3 : Int32) = nI 3 from rfl, pk_mul, nI_add, Nat.mul_comm]
  rw [e1, nI_clamp (by omega), (h.1.2.2.1 (3 * p + i) (by omega)).1]
  refine ⟨fun c => ⟨vp_in_nI (by omega) (by decide), fun x13 e13 => ⟨vp_in_nI (by omega) (by decide), fun y e14 => ?_⟩⟩, fun c => by rw [if_neg c, if_neg c] at hQ; exact hQ⟩
  rw [if_pos c, if_pos c] at hQ
  rw [e13, e14, e3]
  exact hQ
theorem q_rowM {D : DT} {nf gap far : Nat} {s : AR} {st : TS} {a k n : Int32} {Q : Int32 → AR → Prop} (h : NowM D nf gap far s st) (hQ : Q (roA D a k n) (roS D a k n s)) : m_X12_row s a k n Q := by
  obtain ⟨hW, hS, hs, ht, hu⟩ := h
  have hN := hs.2.1
  unfold roA roS at hQ
  refine q_isPersonM hN hW.2.1.1 (fun p hp e ei => ⟨fun c => absurd c (by decide), fun _ => ?_⟩) (fun ei => ⟨fun _ => by rw [ei] at hQ; exact hQ, fun c => absurd rfl c⟩)
  rw [ei] at hQ
  refine q_inIdx 2 rfl (by decide) (fun i hi e2 ek => ⟨fun c => absurd c (by decide), fun _ => ?_⟩) (fun ek => ⟨fun _ => by rw [ek] at hQ; exact hQ, fun c => absurd rfl c⟩)
  rw [ek] at hQ
  refine q_inIdx 9 rfl (by decide) (fun m hm e3 em => ⟨fun c => absurd c (by decide), fun _ => ?_⟩) (fun em => ⟨fun _ => by rw [em] at hQ; exact hQ, fun c => absurd rfl c⟩)
  rw [em] at hQ
  dsimp only at hQ
  subst e
  subst e2
  obtain ⟨hk', -, -⟩ := hW.2.1.2.1 p hp
  have hk6 := (hW.1.1.2 p hp).1
  have e24 : ((24 : Int32) + nI p).toNatClampNeg = 24 + p := ixc rfl (by omega)
  have e1 : ((45 : Int32) + (3 : Int32) * nI p) + nI i = nI (45 + 3 * p + i) := by rw [show (3 : Int32) = nI 3 from rfl, show (45 : Int32) = nI 45 from rfl, pk_mul, nI_add, nI_add]
  rw [e24, hk', e1, nI_clamp (by omega), Nat.add_assoc 45, hW.2.1.2.2 _ (by omega), ← Nat.add_assoc, show nI (dK D p) = 6 ↔ dK D p = 6 from nI_eq (a := dK D p) (b := 6) (by omega) (by omega)]
  have v : vp_in (nI (45 + 3 * p + i)) 903 := vp_in_nI (by omega) (by decide)
  refine ⟨vpc (k := 24) rfl (by omega) (by decide), fun c => ⟨v, fun x13 e13 => ⟨v, fun y e14 => ?_⟩⟩, fun c => by rw [if_neg c, if_neg c] at hQ; exact hQ⟩
  rw [if_pos c, if_pos c] at hQ
  rw [e13, e14, e3]
  exact hQ
theorem rel_row {D : DT} {nf gap far : Nat} {lk : LKT} {fk : FKT} {nF : Option Nat} {nS nT nY nM nG nA nL : Int32} {nP : Nat → Option Nat} {nC nB nR : AR} {s : AR} {st : TS} {a k n : Int32} (h : NowC D gap far lk fk nF nS nT nY nM nG nA nL nP nC nB nR st) (hM : NowM D nf gap far s st) : NowC (roD D a k n) gap far lk fk nF nS nT nY nM nG nA nL nP nC nB (roR D a k n nR) st ∧ NowM (roD D a k n) nf gap far (roS D a k n s) st ∧ ∀ j, ¬ (45 ≤ j ∧ j < 66) → roS D a k n s j = s j := by
  have hN := h.2.2.1.2.1
  unfold roD roR roS
  rcases idx_cs (n := dN D) a (by omega) with ⟨p, hp, e, ei⟩ | ⟨-, ei⟩
  · rcases idx_cs (n := 3) k (by omega) with ⟨i, hi, e', ei'⟩ | ⟨-, ei'⟩
    · rcases idx_cs (n := 10) n (by omega) with ⟨m, hm, e2, ei2⟩ | ⟨-, ei2⟩
      · rw [ei, ei', ei2]
        dsimp only
        by_cases c : dK D p = 6
        · rw [if_pos c, if_pos c, if_pos c]
          obtain ⟨⟨w1, w2, w3, w4, w5, w6, w7, w8, w9⟩, h2, h3, h4, h5, h6, h7, h8, h9, h10⟩ := h
          obtain ⟨⟨⟨u1, u2, u3, u4, u5⟩, ⟨v1, v2, v3⟩, v4, v5⟩, m2, -, m4, m5⟩ := hM
          refine ⟨⟨⟨w1, w2, fun j hj => ?_, w4, w5, w6, w7, w8, w9⟩, h2, h3, h4, h5, h6, h7, h8, h9, h10⟩, ⟨⟨⟨u1, fun j hj => ?_, u3, u4, u5⟩, ⟨(pk_un (by omega)).trans v1, fun q hq => ?_, fun j hj => ?_⟩, fun s2 hs2 => v4 s2 (fun j hj => (hs2 j hj).trans (pk_un (by unfold InF at hj; omega))), ?_⟩, StM_ch m2 hN hN (fun j hj => pk_un (by omega)), h3, m4, m5⟩, fun j hj => pk_un (by omega)⟩
          · show upd nR (3 * p + i) (nI m) j = nI (if j = 3 * p + i then m else dR D j) ∧ (if j = 3 * p + i then m else dR D j) ≤ 9
            by_cases ej : j = 3 * p + i
            · rw [if_pos ej, ej, pk_us]; exact ⟨rfl, by omega⟩
            · rw [if_neg ej, pk_un ej]; exact w3 j hj
          · show (if j = 3 * p + i then m else dR D j) ≤ 9
            split
            · omega
            · exact u2 j hj
          · have hq : q < dN D := hq
            rw [pk_un (by omega), pk_un (by omega), pk_un (by omega)]; exact v2 q hq
          · show upd s (45 + 3 * p + i) (nI m) (45 + j) = nI (if j = 3 * p + i then m else dR D j)
            by_cases ej : j = 3 * p + i
            · rw [if_pos ej, ej, ← Nat.add_assoc, pk_us]
            · rw [if_neg ej, pk_un (by omega)]; exact v3 j hj
          · obtain ⟨g1, g2, g3, g4, g5⟩ := v5
            refine ⟨g1, g2, g3, (pk_un (by omega)).trans g4, ?_⟩
            rcases g5 with ⟨a1, a2, a3⟩ | ⟨a1, a2, a3, a4⟩
            · exact Or.inl ⟨a1, (pk_un (by omega)).trans a2, a3⟩
            · exact Or.inr ⟨a1, (pk_un (by omega)).trans a2, (pk_un (by omega)).trans a3, (pk_un (by omega)).trans a4⟩
        · rw [if_neg c, if_neg c, if_neg c]
          exact ⟨h, hM, fun _ _ => rfl⟩
      · rw [ei, ei', ei2]
        exact ⟨h, hM, fun _ _ => rfl⟩
    · rw [ei, ei']
      exact ⟨h, hM, fun _ _ => rfl⟩
  · rw [ei]
    exact ⟨h, hM, fun _ _ => rfl⟩
/-! turn -/
def tuA (D : DT) (gap : Nat) (st : TS) : Int32 := if dN D = 0 ∨ tT st = 999 then -3 else nI (tookN D gap 7 (dN D) st)
def tuT (D : DT) (gap : Nat) (st : TS) : TS := if dN D = 0 ∨ tT st = 999 then st else turnN D gap 7 (dN D) st
theorem tu_sur {D : DT} {gap : Nat} {st : TS} (h : Sur (dN D) st) : Sur (dN D) (turnN D gap 7 (dN D) st) := by
  intro p hp
  obtain ⟨k, hk, e⟩ := h p hp
  unfold turnN
  rw [if_neg (by omega)]
  by_cases c : k = dN D - 1
  · exact ⟨0, by omega, by show nxPl (dN D) (tP st) 0 = p; unfold nxPl; rw [if_pos rfl, ← c]; exact e⟩
  · exact ⟨k + 1, by omega, by show nxPl (dN D) (tP st) (k + 1) = p; unfold nxPl; rw [if_neg (by omega)]; exact e⟩
theorem q_turnC {D : DT} {gap far : Nat} {lk : LKT} {fk : FKT} {nF : Option Nat} {nS nT nY nM nG nA nL : Int32} {nP : Nat → Option Nat} {nC nB nR : AR} {st : TS} {se : AR} {Q : Int32 → Int32 → Int32 → Int32 → AR → AR → AR → Prop} (h : NowC D gap far lk fk nF nS nT nY nM nG nA nL nP nC nB nR st) (hQ : ∀ (t y m : Int32) (C B E : AR), NowC D gap far lk fk nF nS t y m nG nA nL nP C B nR (tuT D gap st) → Q (tuA D gap st) t y m C B E) : m_X11_turn lk fk nF nS nT nY nM nG nL nP nC nB nR se Q := by
  have hs := h.2.2.1
  have hN := hs.2.1
  have ht : tT st ≤ 999 := h.2.2.2.1
  unfold tuA tuT at hQ
  unfold m_X11_turn
  rw [h.2.1.1, h.2.1.2.1, show nI (dN D) = 0 ↔ dN D = 0 from nI_eq (a := dN D) (b := 0) (by omega) (by omega), show nI (tT st) < 999 ↔ tT st < 999 from nI_ltI (a := tT st) (b := 999) (by omega) (by omega)]
  refine ⟨fun c => ?_, fun c => ⟨fun d => ?_, fun d => ?_⟩⟩
  · rw [if_pos (Or.inl c), if_pos (Or.inl c)] at hQ
    rw [← h.2.1.2.1]
    exact hQ _ _ _ _ _ _ h
  · rw [if_neg (by omega), if_neg (by omega)] at hQ
    rw [← h.2.1.1, ← h.2.1.2.1]
    refine q_takeTurnC h.1 h.2.1 hs (by omega) (fun t y m C B E hS' => hQ t y m C B E ?_)
    have hT := turn_T (D := D) (gap := gap) (fl := 7) (M := dN D) (s := st)
    obtain ⟨h1, h2, h3, h4, h5, h6, h7, h8, h9, h10⟩ := h
    exact ⟨h1, hS', turn_ok (WC_WD h1) h3, by omega, h5, h6, h7, h8, tu_sur h9, h10⟩
  · rw [if_pos (by omega), if_pos (by omega)] at hQ
    rw [← h.2.1.2.1]
    exact hQ _ _ _ _ _ _ h
theorem q_turnM {D : DT} {nf gap far : Nat} {s yb tr kn : AR} {st : TS} {fs fr g : Int32} {Q : Int32 → Int32 → Int32 → Int32 → AR → AR → AR → AR → Prop} (h : NowM D nf gap far s st) (hQ : ∀ (fs' fr' g' : Int32) (s' yb' tr' kn' : AR), NowM D nf gap far s' (tuT D gap st) → (∀ j, 18 ≤ j → s' j = s j) → Q (tuA D gap st) fs' fr' g' s' yb' tr' kn') : m_X12_turn fs fr g (-1) s yb tr kn Q := by
  have h0 := h
  obtain ⟨hW, hS, hs, ht, hu⟩ := h
  have hN := hs.2.1
  have hF : FlatC (-1) 7 := Or.inl ⟨rfl, rfl⟩
  unfold tuA tuT at hQ
  unfold m_X12_turn
  rw [show (3 : Int32).toNatClampNeg = 3 from rfl, show (0 : Int32).toNatClampNeg = 0 from rfl, hS.2.2.2.1, hS.1, show nI (dN D) = 0 ↔ dN D = 0 from nI_eq (a := dN D) (b := 0) (by omega) (by omega), show nI (tT st) = 999 ↔ tT st = 999 from nI_eq (a := tT st) (b := 999) (by omega) (by omega)]
  refine ⟨fun c => ?_, fun c => ⟨fun d => ?_, fun d => ?_⟩⟩
  · rw [if_pos (Or.inl c), if_pos (Or.inl c)] at hQ
    exact hQ _ _ _ _ _ _ _ h0 (fun _ _ => rfl)
  · rw [if_pos (Or.inr d), if_pos (Or.inr d)] at hQ
    exact hQ _ _ _ _ _ _ _ h0 (fun _ _ => rfl)
  · rw [if_neg (by omega), if_neg (by omega)] at hQ
    refine q_begins (fl := 7) hW (fun kn1 hK => q_goesM hW hS hs (by omega) (by omega) hF hW.1.2.2.2.2 hK (fun fs' fr' s' yb' tr' kn' _ hW' hFr hS' => hQ _ _ _ s' _ _ _ ⟨hW', hS', turn_ok hW.1 hs, ?_, tu_sur hu⟩ hFr))
    have hT := turn_T (D := D) (gap := gap) (fl := 7) (M := dN D) (s := st)
    omega
