/-! PURE: a turn, as numbers; the class's turn -/
abbrev DT : Type := (Nat → Nat) × (Nat → Nat) × (Nat → Nat) × (Nat → Nat) × MeanT × MeanT × Nat
abbrev dK (D : DT) : Nat → Nat := D.1
abbrev dV (D : DT) : Nat → Nat := D.2.1
abbrev dH (D : DT) : Nat → Nat := D.2.2.1
abbrev dR (D : DT) : Nat → Nat := D.2.2.2.1
abbrev dS (D : DT) : MeanT := D.2.2.2.2.1
abbrev dI (D : DT) : MeanT := D.2.2.2.2.2.1
abbrev dN (D : DT) : Nat := D.2.2.2.2.2.2
abbrev TS : Type := (Nat → Nat) × (Nat → Nat) × Nat × Nat × Nat
abbrev tP (s : TS) : Nat → Nat := s.1
abbrev tB (s : TS) : Nat → Nat := s.2.1
abbrev tT (s : TS) : Nat := s.2.2.1
abbrev tY (s : TS) : Nat := s.2.2.2.1
abbrev tM (s : TS) : Nat := s.2.2.2.2
def cntN (pl : Nat → Nat) : Nat → Nat → Nat
  | 0, _ => 0
  | m + 1, p => (if pl m = p then 1 else 0) + cntN pl m p
def nxPl (M : Nat) (pl : Nat → Nat) : Nat → Nat := fun k => if k = 0 then pl (M - 1) else pl (k - 1)
def nxBr (M : Nat) (pl br : Nat → Nat) : Nat → Nat := fun p => if p = pl (M - 1) then br p - (M - 1) else min 9 (br p + cntN pl (M - 1) p)
def dL (D : DT) (gap fl : Nat) : Nat → Nat → Nat → Nat → Nat := fun t b p o => leapN (dK D) (dV D) (dH D) (dR D) (dS D) gap fl t b p o
def tookN (D : DT) (gap fl M : Nat) (s : TS) : Nat := if M = 0 then 0 else tookF (fun b o => dL D gap fl (tT s) b (tP s (M - 1)) o) (tP s) (M - 1) (tB s (tP s (M - 1)))
def turnN (D : DT) (gap fl M : Nat) (s : TS) : TS := if M = 0 then s else (nxPl M (tP s), nxBr M (tP s) (tB s), tT s + 1, tY s + gap, tM s + tookN D gap fl M s)
def TSok (N M : Nat) (s : TS) : Prop := M ≤ N ∧ N ≤ 7 ∧ (∀ k, k < M → tP s k < N) ∧ (∀ i j, i < M → j < M → tP s i = tP s j → i = j) ∧ (∀ p, p < N → tB s p ≤ 9) ∧ tY s ≤ 99 * tT s ∧ tM s ≤ 6744 * tT s
def StC (N M : Nat) (size turn yards time : Int32) (places breath : Nat → Int32) (s : TS) : Prop := size = nI M ∧ turn = nI (tT s) ∧ yards = nI (tY s) ∧ time = nI (tM s) ∧ (∀ k, k < M → places k = nI (tP s k)) ∧ ∀ p, p < N → breath p = nI (tB s p)
def WC (D : DT) (gap fl : Nat) (lk : Nat → Option (Nat × Int32 × Int32 × Int32)) (fk : Nat → Option ((Nat → Int32) × (Nat → Int32) × (Nat → Int32) × (Nat → Int32) × (Nat → Int32) × Int32)) (field : Option Nat) (gapI flat : Int32) (people : Nat → Option Nat) (rows : Nat → Int32) : Prop :=
  PersOk (dK D) (dV D) (dH D) (dN D) ∧ (∀ q, q < dN D → PersC lk people (dK D) (dV D) (dH D) q) ∧ RowsC rows (dR D) (dN D) ∧ FlatC flat fl ∧ FieldC fk field (dS D) (dI D) ∧ MeanOk (dS D) ∧ MeanOk (dI D) ∧ gapI = nI gap ∧ gap ≤ 99
theorem q_L66 {lk : Nat → Option (Nat × Int32 × Int32 × Int32)} {fk : Nat → Option ((Nat → Int32) × (Nat → Int32) × (Nat → Int32) × (Nat → Int32) × (Nat → Int32) × Int32)} {gapI turn yards time took one : Int32} {seen : Nat → Int32} {pl : Nat → Nat} {N M : Nat} {Q : Int32 → Int32 → Int32 → Int32 → (Nat → Int32) → (Nat → Int32) → (Nat → Int32) → Prop} (hM : M ≤ N) (hN : N ≤ 7) (hpl : ∀ k, k < M → pl k < N) :
    ∀ (m : Nat) (places breath : Nat → Int32) (B : Nat → Nat), m < M → (∀ k, k ≤ m → places k = nI (pl k)) → (∀ k, m < k → k < M → places k = nI (pl (k - 1))) → (∀ p, p < N → breath p = nI (B p)) → (∀ p, p < N → B p ≤ 9) →
      (∀ places' breath' : Nat → Int32, places' 0 = one → (∀ k, 0 < k → k < M → places' k = nI (pl (k - 1))) → (∀ p, p < N → breath' p = nI (min 9 (B p + cntN pl m p))) → Q took (turn + 1) (yards + gapI) (time + took) places' breath' seen) →
      m_X5_takeTurn_L66 lk fk gapI turn yards time seen one took Q (m + 1) places breath (nI m) := by
  intro m
  induction m with
  | zero =>
    intro places breath B hm h1 h2 hb hB hQ
    unfold m_X5_takeTurn_L66
    refine ⟨fun _ y e => hQ y breath ?_ (fun k k0 kM => ?_) (fun p hp => ?_), fun c => absurd (by decide) c⟩
    · subst e; exact pk_us
    · subst e; rw [show (0 : Int32).toNatClampNeg = 0 from rfl, pk_un (by omega)]; exact h2 k k0 kM
    · rw [hb p hp]; have := hB p hp; unfold cntN; congr 1; omega
  | succ m ih =>
    intro places breath B hm h1 h2 hb hB hQ
    unfold m_X5_takeTurn_L66
    rw [m1_pred, nI_clamp (by omega), nI_clamp (by omega), h1 m (by omega)]
    have hp := hpl m (by omega)
    have hB' := hB _ hp
    refine ⟨fun c => absurd ((nI_leI (a := m + 1) (b := 0) (by omega) (by omega)).mp c) (by omega), fun _ => ⟨vp_in_nI (by omega) (by decide), fun x9 e9 => ⟨vp_in_nI (by omega) (by decide), fun y10 e10 => ?_⟩⟩⟩
    subst e9
    rw [nI_clamp (by omega), hb _ hp]
    have p1 : ∀ k, k ≤ m → y10 k = nI (pl k) := fun k hk => by rw [e10, pk_un (by omega)]; exact h1 k (by omega)
    have p2 : ∀ k, m < k → k < M → y10 k = nI (pl (k - 1)) := fun k k1 k2 => by
      by_cases hk : k = m + 1
      · rw [e10, hk, pk_us]; rfl
      · rw [e10, pk_un hk]; exact h2 k (by omega) k2
    refine ⟨vp_in_nI (by omega) (by decide), fun c => ?_, fun c => ⟨vp_in_nI (by omega) (by decide), vp_in_nI (by omega) (by decide), fun y13 e13 => ?_⟩⟩
    · have c9 := (nI_leI (a := 9) (by omega) (by omega)).mp c
      intro x12 e12
      rw [add_m1, m1_pred] at e12
      subst e12
      refine ih y10 breath B (by omega) p1 p2 hb hB (fun pl' br' a1 a2 a3 => hQ pl' br' a1 a2 (fun p hp' => ?_))
      rw [a3 p hp', cntN]
      have := hB p hp'
      congr 1
      split
      · rename_i e; rw [← e] at *; omega
      · omega
    · have c9 : ¬ 9 ≤ B (pl m) := fun z => c ((nI_leI (a := 9) (by omega) (by omega)).mpr z)
      intro x12 e12
      rw [add_m1, m1_pred] at e12
      subst e12
      refine ih y10 y13 (fun p => if pl m = p then B p + 1 else B p) (by omega) p1 p2 (fun p hp' => ?_) (fun p hp' => ?_) (fun pl' br' a1 a2 a3 => hQ pl' br' a1 a2 (fun p hp' => ?_))
      · by_cases e : pl m = p
        · rw [e13, ← e, pk_us, if_pos rfl, show (1 : Int32) = nI 1 from rfl, nI_add]
        · rw [e13, pk_un (fun z => e z.symm), if_neg e]; exact hb p hp'
      · have := hB p hp'
        show (if pl m = p then B p + 1 else B p) ≤ 9
        split
        · rename_i e; rw [← e]; omega
        · exact this
      · rw [a3 p hp', cntN]
        congr 1
        show min 9 ((if pl m = p then B p + 1 else B p) + _) = _
        split <;> omega
