/-! PURE: persons, a field's meaning, a leap -/
/-- person p: kind, v, height, and where its leaper lies -/
def PersC (lk : Nat → Option (Nat × Int32 × Int32 × Int32)) (people : Nat → Option Nat) (ki v h : Nat → Nat) (p : Nat) : Prop := ∃ a : Nat, people p = some a ∧ lk a = some (obCi (nI (ki p)), nI p, nI (v p), nI (h p))
def PersOk (ki v h : Nat → Nat) (N : Nat) : Prop := N ≤ 7 ∧ ∀ p, p < N → ki p ≤ 6 ∧ v p ≤ 9 ∧ h p ≤ 9
/-- what slow (or risk) of a field adds up to: five numbers -> a number of at most 990 -/
abbrev MeanT : Type := Nat → Nat → Nat → Nat → Nat → Nat
def SumC (fk : Nat → Option ((Nat → Int32) × (Nat → Int32) × (Nat → Int32) × (Nat → Int32) × (Nat → Int32) × Int32)) (a : Nat) (w : Int32) (F : MeanT) : Prop :=
  ∀ (fk' : Nat → Option ((Nat → Int32) × (Nat → Int32) × (Nat → Int32) × (Nat → Int32) × (Nat → Int32) × Int32)), fk' a = fk a → ∀ (seen : Nat → Int32) (p o k h b : Nat) (Q : Int32 → Prop), p ≤ 6 → o ≤ 6 → k ≤ 6 → h ≤ 11 → b ≤ 9 → seen 0 = nI p → seen 1 = nI o → seen 2 = nI k → seen 3 = nI h → seen 4 = nI b → Q (nI (F p o k h b)) → m_X1_sum fk' 5 seen a w Q
def FieldC (fk : Nat → Option ((Nat → Int32) × (Nat → Int32) × (Nat → Int32) × (Nat → Int32) × (Nat → Int32) × Int32)) (field : Option Nat) (sl ri : MeanT) : Prop :=
  (field = none ∧ (∀ p o k h b, sl p o k h b = 0) ∧ ∀ p o k h b, ri p o k h b = 0) ∨ ∃ a : Nat, field = some a ∧ (∃ (st wo nu sa en : Nat → Int32) (cl : Int32), fk a = some (st, wo, nu, sa, en, cl)) ∧ SumC fk a 2 sl ∧ SumC fk a 3 ri
def MeanOk (F : MeanT) : Prop := ∀ p o k h b, F p o k h b ≤ 990
/-- BACK of p at a turn, flat being the one whose BACK counts as 0 (7: nobody) -/
def bkN (ki h : Nat → Nat) (row : Nat → Nat) (fl t p : Nat) : Nat := if p = fl then 0 else backN (ki p) (h p) (row (3 * p + t % 3))
def RowsC (rows : Nat → Int32) (row : Nat → Nat) (N : Nat) : Prop := ∀ j, j < 3 * N → rows j = nI (row j) ∧ row j ≤ 9
def FlatC (flat : Int32) (fl : Nat) : Prop := (flat = -1 ∧ fl = 7) ∨ (fl < 7 ∧ flat = nI fl)
theorem flat_eq {flat : Int32} {fl p : Nat} (h : FlatC flat fl) (hp : p < 7) : nI p = flat ↔ p = fl := by
  rcases h with ⟨rfl, rfl⟩ | ⟨h1, rfl⟩
  · constructor
    · intro e
      have := congrArg Int32.toInt e
      rw [nI_toInt (by omega)] at this
      exact absurd this (by rw [show (-1 : Int32).toInt = -1 from by decide]; omega)
    · omega
  · exact nI_eq (by omega) (by omega)
theorem q_backOfC {lk : Nat → Option (Nat × Int32 × Int32 × Int32)} {people : Nat → Option Nat} {rows : Nat → Int32} {ki v h row : Nat → Nat} {N t fl p : Nat} {flat : Int32} {Q : Int32 → Prop} (hok : PersOk ki v h N) (hp : p < N) (hP : PersC lk people ki v h p) (hR : RowsC rows row N) (hF : FlatC flat fl) (ht : t < 2 ^ 20) (hQ : Q (nI (bkN ki h row fl t p))) : m_X5_backOf lk (nI t) flat people rows (nI p) Q := by
  obtain ⟨hN, hok⟩ := hok
  obtain ⟨hk6, hv9, hh9⟩ := hok p hp
  obtain ⟨a, ha, hl⟩ := hP
  unfold m_X5_backOf
  refine q_findN (by omega) ⟨fun c => (by rw [ha] at c; cases c), fun b hb => ⟨fun c => ?_, fun c => ?_⟩⟩
  · have e := (flat_eq hF (by omega)).mp c
    unfold bkN at hQ
    rw [if_pos e] at hQ
    exact hQ
  · have e : ¬ p = fl := fun z => c ((flat_eq hF (by omega)).mpr z)
    unfold bkN at hQ
    rw [if_neg e] at hQ
    rw [ha] at hb
    cases hb
    have hm : t % 3 < 3 := Nat.mod_lt _ (by decide)
    have e1 : nI p * (3 : Int32) + (nI t - nI t / (3 : Int32) * (3 : Int32)) = nI (3 * p + t % 3) := by
      rw [nI_mod3 (by omega), show (3 : Int32) = nI 3 from rfl, pk_mul, nI_add, Nat.mul_comm]
    rw [e1, nI_clamp (by omega), (hR _ (by omega)).1]
    exact ⟨vp_in_nI (by omega) (by decide), q_backV hl hk6 hh9 hQ⟩
/-- what a leap of p over o takes -/
def leapN (ki v h row : Nat → Nat) (sl : MeanT) (gap fl t : Nat) (b p o : Nat) : Nat := paceN (ki p) (v p) (bkN ki h row fl t o) + gap + bkN ki h row fl t o + (if b = 0 then 10 else 0) + sl p o (ki p) (bkN ki h row fl t o) b
theorem bkN_le {ki v h row : Nat → Nat} {N fl t p : Nat} {rows : Nat → Int32} (hok : PersOk ki v h N) (hp : p < N) (hR : RowsC rows row N) : bkN ki h row fl t p ≤ 11 := by
  obtain ⟨hk6, hv9, hh9⟩ := hok.2 p hp
  have hm : t % 3 < 3 := Nat.mod_lt _ (by decide)
  have := (hR (3 * p + t % 3) (by omega)).2
  unfold bkN backN
  split
  · omega
  · split
    · omega
    · split
      · omega
      · split <;> omega
