/-! PURE: a turn on the class's side -/
theorem m1_pred (m : Nat) : nI (m + 1) - 1 = nI m := nI_pred m
theorem add_m1 (x : Int32) : x + (-1 : Int32) = x - 1 := (Int32.sub_eq_add_neg x 1).symm
/-- what m leaps take, from the place m - 1 on down to the first, breath b at the first of them -/
def tookF (L : Nat → Nat → Nat) (pl : Nat → Nat) : Nat → Nat → Nat
  | 0, _ => 0
  | m + 1, b => L b (pl m) + tookF L pl m (b - 1)
theorem q_tireC {people : Nat → Option Nat} {breath : Nat → Int32} {p b a : Nat} {Q : (Nat → Int32) → Prop} (hp : p < 7) (ha : people p = some a) (hb : breath p = nI b) (hb9 : b ≤ 9)
    (hQ : ∀ br' : Nat → Int32, br' p = nI (b - 1) → (∀ q, q ≠ p → br' q = breath q) → Q br') : m_X5_tire people breath (nI p) Q := by
  unfold m_X5_tire
  refine q_findN hp ⟨fun c => (by rw [ha] at c; cases c), fun b3 hb3 => ⟨vp_in_nI hp (by decide), fun c => ?_, fun c => ⟨vp_in_nI hp (by decide), vp_in_nI hp (by decide), fun y6 e6 => ?_⟩⟩⟩
  · rw [nI_clamp (by omega), hb] at c
    have h0 : b ≤ 0 := (nI_leI (a := b) (b := 0) (by omega) (by omega)).mp c
    exact hQ breath (by rw [hb]; congr 1; omega) (fun _ _ => rfl)
  · rw [nI_clamp (by omega), hb] at c e6
    have h0 : ¬ b ≤ 0 := fun z => c ((nI_leI (a := b) (b := 0) (by omega) (by omega)).mpr z)
    subst e6
    refine hQ _ ?_ (fun q hq => ?_)
    · rw [pk_us, show (1 : Int32) = nI 1 from rfl, pk_sub (by omega)]
    · exact pk_un hq
theorem leapN_le {ki v h row : Nat → Nat} {sl : MeanT} {N gap fl t b p o : Nat} {rows : Nat → Int32} (hok : PersOk ki v h N) (hp : p < N) (ho : o < N) (hR : RowsC rows row N) (hsl : MeanOk sl) (hg : gap ≤ 99) : leapN ki v h row sl gap fl t b p o ≤ 1124 := by
  obtain ⟨hk6, hv9, hh9⟩ := hok.2 p hp
  have hbk := bkN_le (fl := fl) (t := t) hok ho hR
  have hsl' := hsl p o (ki p) (bkN ki h row fl t o) b
  unfold leapN paceN
  split
  · split <;> split <;> omega
  · split
    · split <;> omega
    · split
      · split <;> omega
      · split <;> omega
theorem q_L30 {lk : Nat → Option (Nat × Int32 × Int32 × Int32)} {fk : Nat → Option ((Nat → Int32) × (Nat → Int32) × (Nat → Int32) × (Nat → Int32) × (Nat → Int32) × Int32)} {field : Option Nat} {people : Nat → Option Nat} {rows places : Nat → Int32} {ki v h row pl : Nat → Nat} {sl ri : MeanT} {N M t fl gap one : Nat} {flat yards time size : Int32} {Q : Int32 → Int32 → Int32 → Int32 → (Nat → Int32) → (Nat → Int32) → (Nat → Int32) → Prop}
    (hok : PersOk ki v h N) (hone : one < N) (hP : ∀ q, q < N → PersC lk people ki v h q) (hR : RowsC rows row N) (hF : FlatC flat fl) (hFd : FieldC fk field sl ri) (hsl : MeanOk sl) (ht : t < 2 ^ 20) (hg : gap ≤ 99) (hM : M ≤ N) (hpl : ∀ k, k < M → places k = nI (pl k) ∧ pl k < N) :
    ∀ (m x b : Nat) (breath seen : Nat → Int32), m < M → breath one = nI b → b ≤ 9 → x + 1124 * m < 2 ^ 30 →
      (∀ breath' seen' : Nat → Int32, breath' one = nI (b - m) → (∀ q, q ≠ one → breath' q = breath q) → ∀ x6 : Int32, x6 = size - 1 → ∃ n14 : Nat, m_X5_takeTurn_L66 lk fk (nI gap) (nI t) yards time seen' (nI one) (nI (x + tookF (fun b o => leapN ki v h row sl gap fl t b one o) pl m b)) Q n14 places breath' x6) →
      m_X5_takeTurn_L30 lk fk field size (nI gap) flat people rows (nI t) yards time places (nI one) Q (m + 1) breath seen (nI x) (nI m - 1) := by
  intro m
  induction m with
  | zero =>
    intro x b breath seen hm hb hb9 hx hQ
    unfold m_X5_takeTurn_L30
    exact ⟨fun _ => hQ breath seen hb (fun _ _ => rfl), fun c => absurd (by decide) c⟩
  | succ m ih =>
    intro x b breath seen hm hb hb9 hx hQ
    have hN := hok.1
    obtain ⟨a, ha, hl⟩ := hP one hone
    unfold m_X5_takeTurn_L30
    rw [m1_pred]
    refine ⟨fun c => absurd c (nI_pos (by omega)), fun _ => ⟨vp_in_nI (by omega) (by decide), ?_⟩⟩
    rw [nI_clamp (by omega), (hpl m (by omega)).1]
    refine q_leapTimeC hok hone (hpl m (by omega)).2 hP hR hF hFd hsl ht hg hb hb9 (fun seen' x18 e18 => ?_)
    refine q_tireC (by omega) ha hb hb9 (fun br' h1 h2 x22 e22 => ?_)
    rw [nI_add] at e18
    rw [add_m1] at e22
    subst e18
    subst e22
    have hle := leapN_le (fl := fl) (t := t) (b := b) (p := one) (o := pl m) hok hone (hpl m (by omega)).2 hR hsl hg
    refine ih _ (b - 1) br' seen' (by omega) h1 (by omega) (by omega) (fun br2 se2 g1 g2 x6 e6 => ?_)
    have := hQ br2 se2 (by rw [g1]; congr 1; omega) (fun q hq => (g2 q hq).trans (h2 q hq)) x6 e6
    unfold tookF at this
    rw [← Nat.add_assoc] at this
    exact this
