/-! PURE: a leap on the class's side, whole -/
theorem q_leapTimeC {lk : Nat → Option (Nat × Int32 × Int32 × Int32)} {fk : Nat → Option ((Nat → Int32) × (Nat → Int32) × (Nat → Int32) × (Nat → Int32) × (Nat → Int32) × Int32)} {field : Option Nat} {people : Nat → Option Nat} {rows breath seen : Nat → Int32} {ki v h row : Nat → Nat} {sl ri : MeanT} {N t fl gap p o b : Nat} {flat : Int32} {Q : Int32 → (Nat → Int32) → Prop}
    (hok : PersOk ki v h N) (hp : p < N) (ho : o < N) (hP : ∀ q, q < N → PersC lk people ki v h q) (hR : RowsC rows row N) (hF : FlatC flat fl) (hFd : FieldC fk field sl ri) (hsl : MeanOk sl) (ht : t < 2 ^ 20) (hg : gap ≤ 99) (hb : breath p = nI b) (hb9 : b ≤ 9)
    (hQ : ∀ seen' : Nat → Int32, Q (nI (leapN ki v h row sl gap fl t b p o)) seen') : m_X5_leapTime lk fk field (nI t) (nI gap) flat people breath rows seen (nI p) (nI o) Q := by
  have hN := hok.1
  obtain ⟨hk6, hv9, hh9⟩ := hok.2 p hp
  obtain ⟨a, ha, hl⟩ := hP p hp
  have hbk := bkN_le (fl := fl) (t := t) hok ho hR
  have hsl' := hsl p o (ki p) (bkN ki h row fl t o) b
  unfold m_X5_leapTime
  refine q_findN (by omega) ⟨fun c => (by rw [ha] at c; cases c), fun b3 hb3 => ?_⟩
  rw [ha] at hb3
  cases hb3
  refine q_backOfC hok ho (hP o ho) hR hF ht (q_paceV hl hk6 hv9 hbk ?_)
  intro x9 e9
  have hpn : paceN (ki p) (v p) (bkN ki h row fl t o) ≤ 14 := by
    unfold paceN
    split
    · split <;> omega
    · split
      · omega
      · split <;> omega
  rw [nI_add, nI_add] at e9
  rw [nI_clamp (by omega), hb]
  -- behind the breath: x is what it takes so far
  have key : ∀ x : Nat, x + sl p o (ki p) (bkN ki h row fl t o) b = leapN ki v h row sl gap fl t b p o → m_X5_leapTime_L47 lk fk field breath (nI o) seen a (nI (bkN ki h row fl t o)) (nI x) Q := by
    intro x ex
    unfold m_X5_leapTime_L47
    rcases hFd with ⟨rfl, h0, -⟩ | ⟨f, rfl, hf, hs, -⟩
    · refine ⟨fun _ => ?_, fun b11 c => (by cases c)⟩
      have := hQ seen
      rw [← ex, h0, Nat.add_zero] at this
      exact this
    · refine ⟨fun c => (by cases c), fun b11 c => ?_⟩
      cases c
      refine q_see hl hk6 (by omega) hb (fun seen' s0 s1 s2 s3 s4 => ⟨hf, ?_⟩)
      refine hs fk rfl seen' p o (ki p) (bkN ki h row fl t o) b _ (by omega) (by omega) hk6 hbk hb9 s0 s1 s2 s3 s4 ?_
      rw [nI_add, ex]
      exact hQ seen'
  refine ⟨vp_in_nI (by omega) (by decide), fun c => ?_, fun c => ?_⟩
  · have hb0 : b = 0 := (nI_eq (a := b) (b := 0) (by omega) (by omega)).mp c
    intro x18 e18
    subst e9
    rw [show (10 : Int32) = nI 10 from rfl, nI_add] at e18
    subst e18
    refine key _ ?_
    unfold leapN
    rw [if_pos hb0]
  · have hb0 : ¬ b = 0 := fun z => c (by rw [z]; rfl)
    subst e9
    refine key _ ?_
    unfold leapN
    rw [if_neg hb0, Nat.add_zero]
