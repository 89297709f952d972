/-! PURE: a turn on the class's side -/
theorem m1_pred (m : Nat) : nI (m + 1) - 1 = nI m := nI_pred m
theorem add_m1 (x : Int32) : x + (-1 : Int32) = x - 1 := (Int32.sub_eq_add_neg).symm
/-- what m leaps take, from the place m - 1 on down to the first, breath b at the first of them -/
def tookF (L : Nat → Nat → Nat) (pl : Nat → Nat) : Nat → Nat → Nat
  | 0, _ => 0
  | m + 1, b => L b (pl m) + tookF L pl m (b - 1)
theorem q_tireC {people : Nat → Option Nat} {breath : Nat → Int32} {p b a : Nat} {Q : (Nat → Int32) → Prop} (hp : p < 7) (ha : people p = some a) (hb : breath p = nI b) (hb9 : b ≤ 9)
    (hQ : ∀ br' : Nat → Int32, br' p = nI (b - 1) → (∀ q, q ≠ p → br' q = breath q) → Q br') : m_X5_tire people breath (nI p) Q := by
  unfold m_X5_tire
  refine q_findN hp ⟨fun c => (by rw [ha] at c; cases c), fun b3 hb3 => ⟨vp_in_nI hp (by decide), fun c => ?_, fun c => ⟨vp_in_nI hp (by decide), vp_in_nI hp (by decide), fun y6 e6 => ?_⟩⟩⟩
  · rw [nI_clamp (by omega), hb] at c
    have h0 : b ≤ 0 := (nI_leI (a := b) (b := 0) (by omega) (by omega)).mp c
    exact hQ breath (by rw [hb]; congr 1; omega) (fun _ _ => rfl)
  · rw [nI_clamp (by omega), hb] at c e6
    have h0 : ¬ b ≤ 0 := fun z => c ((nI_leI (a := b) (b := 0) (by omega) (by omega)).mpr z)
    subst e6
    refine hQ _ ?_ (fun q hq => ?_)
    · rw [pk_us, show (1 : Int32) = nI 1 from rfl, pk_sub (by omega)]
    · exact pk_un hq
