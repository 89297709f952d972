/-! PURE: the class's turn, whole; many of them -/
theorem tookF_le {L : Nat → Nat → Nat} {pl : Nat → Nat} {X : Nat} : ∀ (m b : Nat), (∀ b k, k < m → L b (pl k) ≤ X) → tookF L pl m b ≤ X * m := by
  intro m
  induction m with
  | zero => intro b _; exact Nat.le_refl 0
  | succ m ih =>
    intro b h
    have h1 := h b m (by omega)
    have h2 := ih (b - 1) (fun b k hk => h b k (by omega))
    unfold tookF
    rw [Nat.mul_succ]
    omega
def WD (D : DT) (gap : Nat) : Prop := PersOk (dK D) (dV D) (dH D) (dN D) ∧ (∀ j, j < 3 * dN D → dR D j ≤ 9) ∧ MeanOk (dS D) ∧ MeanOk (dI D) ∧ gap ≤ 99
theorem WC_WD {D : DT} {gap fl : Nat} {lk : Nat → Option (Nat × Int32 × Int32 × Int32)} {fk : Nat → Option ((Nat → Int32) × (Nat → Int32) × (Nat → Int32) × (Nat → Int32) × (Nat → Int32) × Int32)} {field : Option Nat} {gapI flat : Int32} {people : Nat → Option Nat} {rows : Nat → Int32} (h : WC D gap fl lk fk field gapI flat people rows) : WD D gap := by
  obtain ⟨h1, h2, h3, h4, h5, h6, h7, h8, h9⟩ := h
  exact ⟨h1, fun j hj => (h3 j hj).2, h6, h7, h9⟩
theorem dL_le {D : DT} {gap fl t b p o : Nat} (h : WD D gap) (hp : p < dN D) (ho : o < dN D) : dL D gap fl t b p o ≤ 1124 :=
  leapN_le (rows := fun j => nI (dR D j)) h.1 hp ho (fun j hj => ⟨rfl, h.2.1 j hj⟩) h.2.2.1 h.2.2.2.2
theorem tookN_le {D : DT} {gap fl M : Nat} {s : TS} (h : WD D gap) (hs : TSok (dN D) M s) : tookN D gap fl M s ≤ 6744 := by
  obtain ⟨hM, hN, hpl, hinj, hb, hy, ht⟩ := hs
  unfold tookN
  split
  · omega
  · have := tookF_le (L := fun b o => dL D gap fl (tT s) b (tP s (M - 1)) o) (pl := tP s) (X := 1124) (M - 1) (tB s (tP s (M - 1))) (fun b k hk => dL_le h (hpl _ (by omega)) (hpl _ (by omega)))
    omega
theorem turn_ok {D : DT} {gap fl M : Nat} {s : TS} (h : WD D gap) (hs : TSok (dN D) M s) : TSok (dN D) M (turnN D gap fl M s) := by
  have hto := tookN_le (fl := fl) h hs
  have hs0 := hs
  obtain ⟨hM, hN, hpl, hinj, hb, hy, ht⟩ := hs
  have hg := h.2.2.2.2
  unfold turnN
  split
  · exact hs0
  · refine ⟨hM, hN, fun k hk => ?_, fun i j hi hj e => ?_, fun p hp => ?_, ?_, ?_⟩
    · show nxPl M (tP s) k < _
      unfold nxPl
      split
      · exact hpl _ (by omega)
      · exact hpl _ (by omega)
    · have e' : nxPl M (tP s) i = nxPl M (tP s) j := e
      unfold nxPl at e'
      split at e' <;> split at e'
      · omega
      · have := hinj _ _ (by omega) (by omega) e'; omega
      · have := hinj _ _ (by omega) (by omega) e'; omega
      · have := hinj _ _ (by omega) (by omega) e'; omega
    · show nxBr M (tP s) (tB s) p ≤ 9
      have := hb p hp
      unfold nxBr
      split <;> omega
    · show tY s + gap ≤ 99 * (tT s + 1)
      omega
    · show tM s + tookN D gap fl M s ≤ 6744 * (tT s + 1)
      omega
theorem cnt_one {pl : Nat → Nat} {p : Nat} : ∀ m, (∀ k, k < m → pl k ≠ p) → cntN pl m p = 0 := by
  intro m
  induction m with
  | zero => intro _; rfl
  | succ m ih =>
    intro h
    unfold cntN
    rw [if_neg (h m (by omega)), ih (fun k hk => h k (by omega))]
theorem q_takeTurnC {D : DT} {gap fl M : Nat} {lk : Nat → Option (Nat × Int32 × Int32 × Int32)} {fk : Nat → Option ((Nat → Int32) × (Nat → Int32) × (Nat → Int32) × (Nat → Int32) × (Nat → Int32) × Int32)} {field : Option Nat} {gapI flat size turn yards time : Int32} {people : Nat → Option Nat} {rows places breath seen : Nat → Int32} {s : TS} {Q : Int32 → Int32 → Int32 → Int32 → (Nat → Int32) → (Nat → Int32) → (Nat → Int32) → Prop}
    (hW : WC D gap fl lk fk field gapI flat people rows) (hS : StC (dN D) M size turn yards time places breath s) (hs : TSok (dN D) M s) (ht : tT s ≤ 4000)
    (hQ : ∀ (turn' yards' time' : Int32) (places' breath' seen' : Nat → Int32), StC (dN D) M size turn' yards' time' places' breath' (turnN D gap fl M s) → Q (nI (tookN D gap fl M s)) turn' yards' time' places' breath' seen') : m_X5_takeTurn lk fk field size turn yards time gapI flat people places breath rows seen Q := by
  have hWD := WC_WD hW
  have hto := tookN_le (fl := fl) hWD hs
  obtain ⟨hok, hP, hR, hF, hFd, hsl, hri, rfl, hg⟩ := hW
  have hS0 := hS
  obtain ⟨rfl, rfl, rfl, rfl, hpl, hbr⟩ := hS
  obtain ⟨hM, hN, hplN, hinj, hb9, hy, htm⟩ := hs
  unfold m_X5_takeTurn
  refine ⟨fun c => ?_, fun c => ?_⟩
  · have h0 : M = 0 := (nI_eq (a := M) (b := 0) (by omega) (by omega)).mp c
    have := hQ (nI (tT s)) (nI (tY s)) (nI (tM s)) places breath seen (by unfold turnN; rw [if_pos h0]; exact hS0)
    unfold tookN at this
    rw [if_pos h0] at this
    exact this
  · have h0 : ¬ M = 0 := fun z => c (by rw [z]; rfl)
    obtain ⟨m, rfl⟩ : ∃ m, M = m + 1 := ⟨M - 1, by omega⟩
    rw [m1_pred, nI_clamp (by omega), hpl m (by omega)]
    refine ⟨vp_in_nI (by omega) (by decide), fun x2 e2 x3 e3 x4 e4 => ⟨m + 1, ?_⟩⟩
    have e4' : x4 = nI m - 1 := by
      rw [e4, ← m1_pred m]
      exact (show ∀ a : Int32, a - 2 = a - 1 - 1 from fun a => by
        rw [Int32.sub_eq_add_neg, Int32.sub_eq_add_neg, Int32.sub_eq_add_neg, Int32.add_assoc]; rfl) _
    subst e2 e3
    rw [e4']
    refine q_L30 (M := m + 1) (ki := dK D) (v := dV D) (h := dH D) (row := dR D) (pl := tP s) (sl := dS D) (ri := dI D) (N := dN D) (fl := fl) (b := tB s (tP s m)) (x := 0) (m := m) (size := nI (m + 1)) hok (hplN m (by omega)) hP hR hF hFd hsl (by omega) hg hM (fun k hk => ⟨hpl k hk, hplN k hk⟩) _ _ (by omega) (hbr _ (hplN m (by omega))) (hb9 _ (hplN m (by omega))) (by omega) (fun br' se' b1 b2 x6 e6 => ?_)
    rw [m1_pred] at e6
    subst e6
    have eB : tookF (fun b o => leapN (dK D) (dV D) (dH D) (dR D) (dS D) gap fl (tT s) b (tP s m) o) (tP s) m (tB s (tP s m)) = tookN D gap fl (m + 1) s := rfl
    rw [Nat.zero_add, eB]
    refine ⟨m + 1, q_L66 (pl := tP s) (N := dN D) (M := m + 1) hM hN hplN m places br' (fun p => if p = tP s m then tB s p - m else tB s p) (by omega) (fun k hk => hpl k (by omega)) (fun k k1 k2 => absurd k2 (by omega)) (fun p hp => ?_) (fun p hp => ?_) (fun pl' br'' c1 c2 c3 => ?_)⟩
    · show br' p = nI (if p = tP s m then tB s p - m else tB s p)
      split
      · rename_i e; rw [e, b1]
      · rename_i e; rw [b2 p e, hbr p hp]
    · have := hb9 p hp
      show (if p = tP s m then tB s p - m else tB s p) ≤ 9
      split <;> omega
    · refine hQ _ _ _ pl' br'' se' ?_
      unfold turnN
      rw [if_neg (by omega)]
      refine ⟨rfl, ?_, ?_, ?_, fun k hk => ?_, fun p hp => ?_⟩
      · rw [show (1 : Int32) = nI 1 from rfl, nI_add]
      · rw [nI_add]
      · rw [nI_add]
      · show pl' k = nI (nxPl (m + 1) (tP s) k)
        unfold nxPl
        split
        · rename_i e; rw [e, c1]; rfl
        · exact c2 k (by omega) hk
      · rw [c3 p hp]
        show nI (min 9 ((if p = tP s m then tB s p - m else tB s p) + cntN (tP s) m p)) = nI (nxBr (m + 1) (tP s) (tB s) p)
        have := hb9 p hp
        unfold nxBr
        rw [Nat.add_sub_cancel]
        congr 1
        split
        · rename_i e
          rw [cnt_one m (fun k hk z => by have := hinj k m (by omega) (by omega) (z.trans e); omega)]
          omega
        · rfl
