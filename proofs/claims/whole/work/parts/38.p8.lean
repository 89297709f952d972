/-! PURE: the reference's turn -/
def keyN (p o b r : Nat) : Nat := ((p * 7 + o) * 10 + b) * 3 + r
def KnownOk (D : DT) (fl : Nat) (kn : Nat → Int32) : Prop := ∀ p o b r, p < dN D → o < dN D → b ≤ 9 → r < 3 → kn (keyN p o b r) = -1 ∨ kn (keyN p o b r) = nI (leap0 D fl r b p o)
theorem nI_nm1 {a : Nat} (h : a < 2 ^ 31) : ¬ nI a = -1 := fun c => by
  have := congrArg Int32.toInt c
  rw [nI_toInt h] at this
  exact absurd this (by rw [show (-1 : Int32).toInt = -1 from by decide]; omega)
theorem q_leapOf {D : DT} {nf gap0 gap far fl p o t b : Nat} {s yb tr kn : Nat → Int32} {fs fr giver : Int32} {Q : Int32 → Int32 → Int32 → (Nat → Int32) → (Nat → Int32) → (Nat → Int32) → Prop} (h : WM D nf gap0 far s) (h0 : s 0 = nI t) (hb : s (11 + p) = nI b) (hb9 : b ≤ 9) (ht : t ≤ 5000) (hF : FlatC giver fl) (hg : gap ≤ 99) (hK : KnownOk D fl kn) (hp : p < dN D) (ho : o < dN D)
    (hQ : ∀ (fs' fr' : Int32) (yb' tr' kn' : Nat → Int32), KnownOk D fl kn' → Q (nI (dL D gap fl (t) (b) p o)) fs' fr' yb' tr' kn') : m_X12_leapOf fs fr (nI gap) giver s yb tr kn (nI p) (nI o) Q := by
  have hN := h.1.1.1
  have hm : t % 3 < 3 := Nat.mod_lt _ (by decide)
  have e11 : ((11 : Int32) + nI p).toNatClampNeg = 11 + p := ixc rfl (by omega)
  have e0 : s (0 : Int32).toNatClampNeg = nI (t) := h0
  have eK : ((((nI p * (7 : Int32)) + nI o) * (10 : Int32)) + nI (b)) * (3 : Int32) + (s (0 : Int32).toNatClampNeg - s (0 : Int32).toNatClampNeg / (3 : Int32) * (3 : Int32)) = nI (keyN p o (b) (t % 3)) := by
    rw [e0, nI_mod3 (by omega), show (3 : Int32) = nI 3 from rfl, show (7 : Int32) = nI 7 from rfl, show (10 : Int32) = nI 10 from rfl, pk_mul, nI_add, pk_mul, nI_add, pk_mul, nI_add]
    unfold keyN
    congr 1
  have hk1 : keyN p o (b) (t % 3) < 1470 := by unfold keyN; omega
  have vK : vp_in (nI (keyN p o (b) (t % 3))) 1470 := vp_in_nI hk1 (by decide)
  have eL : nI (leap0 D fl (t % 3) (b) p o) + nI gap = nI (dL D gap fl (t) (b) p o) := by rw [nI_add, leap0_gap, leap0_mod (t := t)]
  unfold m_X12_leapOf
  rw [e11, hb, eK]
  refine ⟨vpc (k := 11) rfl (by omega) (by decide), fun x1 e1 => ?_⟩
  subst e1
  rw [nI_clamp (by omega)]
  refine ⟨vK, fun c => ?_, fun c => ?_⟩
  · refine q_looksForLeap h h0 hb hb9 ht hF hp ho (fun yb' tr' => ⟨vK, fun y9 e9 => ?_⟩)
    unfold m_X12_leapOf_L53
    rw [nI_clamp (by omega)]
    have ey : y9 (keyN p o (b) (t % 3)) = nI (leap0 D fl (t % 3) (b) p o) := by rw [e9, pk_us, ← leap0_mod]
    rw [ey, eL]
    refine ⟨vK, hQ _ _ _ _ _ (fun p' o' b' r' h1 h2 h3 h4 => ?_)⟩
    by_cases e : keyN p' o' b' r' = keyN p o (b) (t % 3)
    · refine Or.inr ?_
      rw [e, ey]
      unfold keyN at e
      have x1 : p' = p := by omega
      have x2 : o' = o := by omega
      have x3 : b' = b := by omega
      have x4 : r' = t % 3 := by omega
      rw [x1, x2, x3, x4]
    · rw [e9, pk_un e]
      exact hK p' o' b' r' h1 h2 h3 h4
  · unfold m_X12_leapOf_L53
    rw [nI_clamp (by omega)]
    rcases hK p o (b) (t % 3) hp ho hb9 hm with k | k
    · exact absurd k c
    · rw [k, eL]
      exact ⟨vK, hQ _ _ _ _ _ hK⟩
theorem q_breathUp {s : Nat → Int32} {p b : Nat} {Q : (Nat → Int32) → Prop} (hp : p < 7) (hb : s (11 + p) = nI b) (hb9 : b ≤ 9) (hQ : ∀ s' : Nat → Int32, s' (11 + p) = nI (min 9 (b + 1)) → (∀ j, j ≠ 11 + p → s' j = s j) → Q s') : m_X12_breathes s (nI p) 1 Q := by
  have e11 : ((11 : Int32) + nI p).toNatClampNeg = 11 + p := ixc rfl (by omega)
  have v11 : vp_in ((11 : Int32) + nI p) 903 := vpc (k := 11) rfl (by omega) (by decide)
  unfold m_X12_breathes m_X12_breathes_L40
  rw [e11, hb, show (1 : Int32) = nI 1 from rfl, nI_add]
  refine ⟨v11, fun x1 e1 => ?_⟩
  subst e1
  refine ⟨fun _ => ⟨fun c => ⟨v11, fun y e => ?_⟩, fun c => ⟨v11, fun y e => ?_⟩⟩, fun c => absurd ((nI_leI (a := 0) (by omega) (by omega)).mpr (by omega)) c⟩
  · have := (nI_leI (b := 9) (by omega) (by omega)).mp c
    subst e
    exact hQ _ (by rw [pk_us]; congr 1; omega) (fun j hj => pk_un hj)
  · have : ¬ b + 1 ≤ 9 := fun z => c ((nI_leI (b := 9) (by omega) (by omega)).mpr z)
    subst e
    exact hQ _ (by rw [pk_us]; rw [show min 9 (b + 1) = 9 from by omega]; rfl) (fun j hj => pk_un hj)
theorem q_breathDown {s : Nat → Int32} {p b : Nat} {Q : (Nat → Int32) → Prop} (hp : p < 7) (hb : s (11 + p) = nI b) (hb9 : b ≤ 9) (hQ : ∀ s' : Nat → Int32, s' (11 + p) = nI (b - 1) → (∀ j, j ≠ 11 + p → s' j = s j) → Q s') : m_X12_breathes s (nI p) (-1) Q := by
  have e11 : ((11 : Int32) + nI p).toNatClampNeg = 11 + p := ixc rfl (by omega)
  have v11 : vp_in ((11 : Int32) + nI p) 903 := vpc (k := 11) rfl (by omega) (by decide)
  unfold m_X12_breathes m_X12_breathes_L40
  rw [e11, hb, add_m1]
  refine ⟨v11, fun x1 e1 => ?_⟩
  cases b with
  | zero =>
    subst e1
    refine ⟨fun c => absurd c (by decide), fun _ => ⟨v11, fun y e => ?_⟩⟩
    subst e
    exact hQ _ (by rw [pk_us]; rfl) (fun j hj => pk_un hj)
  | succ b =>
    rw [m1_pred] at e1
    subst e1
    refine ⟨fun _ => ⟨fun c => ⟨v11, fun y e => ?_⟩, fun c => absurd ((nI_leI (b := 9) (by omega) (by omega)).mpr (by omega)) c⟩, fun c => absurd ((nI_leI (a := 0) (by omega) (by omega)).mpr (by omega)) c⟩
    subst e
    exact hQ _ (by rw [pk_us]; rfl) (fun j hj => pk_un hj)
