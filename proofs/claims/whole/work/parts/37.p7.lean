/-! PURE: the reference's leap -/
def InF (nf j : Nat) : Prop := j = 23 ∨ (0 < nf ∧ (j = 187 + nf ∨ j = 192 + nf ∨ j = 197 + nf ∨ (63 + 140 * nf ≤ j ∧ j < 203 + 140 * nf)))
/-- the field that holds, in the reference: what its looks answers -/
def FieldM (s : Nat → Int32) (nf : Nat) (sl ri : MeanT) : Prop :=
  ∀ s' : Nat → Int32, (∀ j, InF nf j → s' j = s j) → ∀ (p o k h b : Nat) (fs fr : Int32) (yb tr : Nat → Int32) (Q : Int32 → Int32 → (Nat → Int32) → (Nat → Int32) → Prop), p ≤ 6 → o ≤ 6 → k ≤ 6 → h ≤ 11 → b ≤ 9 → s' (24 + p) = nI k →
    (∀ yb' tr' : Nat → Int32, Q (nI (sl p o k h b)) (nI (min (ri p o k h b) 100)) yb' tr') → m_X12_looks fs fr s' yb tr (nI p) (nI o) (nI h) (nI b) Q
def HoldM (s : Nat → Int32) (nf gap far : Nat) : Prop := gap ≤ 99 ∧ far ≤ 99 ∧ nf ≤ 5 ∧ s 19 = nI nf ∧ ((nf = 0 ∧ s 23 = -1 ∧ gap = 2 ∧ far = 60) ∨ (0 < nf ∧ s 23 = nI (nf - 1) ∧ s (187 + nf) = nI gap ∧ s (192 + nf) = nI far))
def PersM (s : Nat → Int32) (D : DT) : Prop := s 18 = nI (dN D) ∧ (∀ p, p < dN D → s (24 + p) = nI (dK D p) ∧ s (31 + p) = nI (dV D p) ∧ s (38 + p) = nI (dH D p)) ∧ ∀ j, j < 3 * dN D → s (45 + j) = nI (dR D j)
def WM (D : DT) (nf gap far : Nat) (s : Nat → Int32) : Prop := WD D gap ∧ PersM s D ∧ FieldM s nf (dS D) (dI D) ∧ HoldM s nf gap far
def StM (N M : Nat) (s : Nat → Int32) (st : TS) : Prop := s 0 = nI (tT st) ∧ s 1 = nI (tY st) ∧ s 2 = nI (tM st) ∧ s 3 = nI M ∧ (∀ k, k < M → s (4 + k) = nI (tP st k)) ∧ ∀ p, p < N → s (11 + p) = nI (tB st p)
def Fr (s s' : Nat → Int32) : Prop := ∀ j, 18 ≤ j → s' j = s j
theorem WM_fr {D : DT} {nf gap far : Nat} {s s' : Nat → Int32} (h : WM D nf gap far s) (hf : Fr s s') : WM D nf gap far s' := by
  obtain ⟨h1, ⟨h2, h3, h4⟩, h5, h6, h7, h7b, h8, h9⟩ := h
  refine ⟨h1, ⟨?_, fun p hp => ?_, fun j hj => ?_⟩, fun s2 hs2 => h5 s2 (fun j hj => (hs2 j hj).trans (hf j ?_)), h6, h7, h7b, ?_, ?_⟩
  · rw [hf _ (by omega)]; exact h2
  · rw [hf _ (by omega), hf _ (by omega), hf _ (by omega)]; exact h3 p hp
  · rw [hf _ (by omega)]; exact h4 j hj
  · unfold InF at hj; omega
  · rw [hf _ (by omega)]; exact h8
  · rw [hf _ (by omega), hf _ (by omega), hf _ (by omega)]; exact h9
theorem q_tellsOf {D : DT} {nf gap far : Nat} {s : Nat → Int32} {Q : Int32 → Prop} (h : WM D nf gap far s) (hQ : Q (nI gap)) : m_X12_tellsOf s 188 2 Q := by
  obtain ⟨-, -, -, hg, hfa, hn, h19, h⟩ := h
  unfold m_X12_tellsOf
  have e : (23 : Int32).toNatClampNeg = 23 := rfl
  rw [e]
  rcases h with ⟨h0, h1, rfl, h3⟩ | ⟨h0, h1, h2, h3⟩
  · exact ⟨fun _ => hQ, fun c => absurd h1 c⟩
  · refine ⟨fun c => ?_, fun _ => ?_⟩
    · rw [h1] at c
      have := congrArg Int32.toInt c
      rw [nI_toInt (by omega)] at this
      exact absurd this (by rw [show (-1 : Int32).toInt = -1 from by decide]; omega)
    · rw [h1, show (188 : Int32) = nI 188 from rfl, nI_add, nI_clamp (by omega), show 188 + (nf - 1) = 187 + nf from by omega, h2]
      exact ⟨vp_in_nI (by omega) (by decide), hQ⟩
theorem q_tellsFar {D : DT} {nf gap far : Nat} {s : Nat → Int32} {Q : Int32 → Prop} (h : WM D nf gap far s) (hQ : Q (nI far)) : m_X12_tellsOf s 193 60 Q := by
  obtain ⟨-, -, -, hg, hfa, hn, h19, h⟩ := h
  unfold m_X12_tellsOf
  have e : (23 : Int32).toNatClampNeg = 23 := rfl
  rw [e]
  rcases h with ⟨h0, h1, -, rfl⟩ | ⟨h0, h1, h2, h3⟩
  · exact ⟨fun _ => hQ, fun c => absurd h1 c⟩
  · refine ⟨fun c => ?_, fun _ => ?_⟩
    · rw [h1] at c
      have := congrArg Int32.toInt c
      rw [nI_toInt (by omega)] at this
      exact absurd this (by rw [show (-1 : Int32).toInt = -1 from by decide]; omega)
    · rw [h1, show (193 : Int32) = nI 193 from rfl, nI_add, nI_clamp (by omega), show 193 + (nf - 1) = 192 + nf from by omega, h3]
      exact ⟨vp_in_nI (by omega) (by decide), hQ⟩
theorem q_paceM {D : DT} {nf gap far p b : Nat} {s : Nat → Int32} {Q : Int32 → Prop} (h : WM D nf gap far s) (hp : p < dN D) (hb : b ≤ 11) (hQ : Q (nI (paceN (dK D p) (dV D p) b))) : m_X12_paceOf s (nI p) (nI b) Q := by
  obtain ⟨⟨⟨hN, hok⟩, -⟩, ⟨-, hpe, -⟩, -⟩ := h
  obtain ⟨hk, hv, hh⟩ := hpe p hp
  obtain ⟨hk6, hv9, hh9⟩ := hok p hp
  have e24 : ((24 : Int32) + nI p).toNatClampNeg = 24 + p := ixc rfl (by omega)
  have e31 : ((31 : Int32) + nI p).toNatClampNeg = 31 + p := ixc rfl (by omega)
  have v31 : vp_in ((31 : Int32) + nI p) 903 := vpc (k := 31) rfl (by omega) (by decide)
  unfold m_X12_paceOf
  refine ⟨vpc (k := 24) rfl (by omega) (by decide), fun x1 e1 => ?_⟩
  rw [e24, hk] at e1
  rw [e31, hv, nI_leI (by omega) (by omega)]
  generalize dK D p = ki at *
  subst e1
  have b1 : ∀ Q' : Int32 → Prop, Q' (nI (if dV D p < b then 8 else 5)) → (b ≤ dV D p → Q' 5) ∧ (¬ b ≤ dV D p → Q' 8) := fun Q' q => ⟨fun c => (by rw [if_neg (by omega)] at q; exact q), fun c => (by rw [if_pos (by omega)] at q; exact q)⟩
  rcases ki_cases hk6 with rfl | rfl | rfl | rfl | rfl | rfl | rfl
  · exact ⟨fun c => absurd c (by decide), fun c => absurd c (by decide), fun c => absurd c (by decide), fun c => absurd c (by decide), fun _ => hQ⟩
  · exact ⟨fun c => absurd c (by decide), fun c => absurd c (by decide), fun c => absurd c (by decide), fun c => absurd c (by decide), fun _ => hQ⟩
  · exact ⟨fun c => absurd c (by decide), fun c => absurd c (by decide), fun c => absurd c (by decide), fun c => absurd c (by decide), fun _ => hQ⟩
  · exact ⟨fun _ => ⟨v31, b1 Q hQ⟩, fun c => absurd c (by decide), fun c => absurd c (by decide), fun c => absurd c (by decide), fun c => absurd c (by decide)⟩
  · exact ⟨fun c => absurd c (by decide), fun _ => hQ, fun c => absurd c (by decide), fun c => absurd c (by decide), fun c => absurd c (by decide)⟩
  · exact ⟨fun c => absurd c (by decide), fun c => absurd c (by decide), fun _ => ⟨v31, by rw [show (5 : Int32) = nI 5 from rfl, nI_add]; exact hQ⟩, fun c => absurd c (by decide), fun c => absurd c (by decide)⟩
  · exact ⟨fun c => absurd c (by decide), fun c => absurd c (by decide), fun c => absurd c (by decide), fun _ => ⟨v31, b1 Q hQ⟩, fun c => absurd c (by decide)⟩
/-- what the reference keeps of a leap: without the gap -/
def leap0 (D : DT) (fl t b p o : Nat) : Nat := dL D 0 fl t b p o
theorem leap0_gap {D : DT} {gap fl t b p o : Nat} : dL D gap fl t b p o = leap0 D fl t b p o + gap := by
  unfold leap0 dL leapN
  omega
theorem leap0_mod {D : DT} {fl t b p o : Nat} : leap0 D fl t b p o = leap0 D fl (t % 3) b p o := by
  have : bkN (dK D) (dH D) (dR D) fl (t % 3) o = bkN (dK D) (dH D) (dR D) fl t o := by unfold bkN; rw [Nat.mod_mod]
  unfold leap0 dL leapN
  rw [this]
theorem q_looksForLeap {D : DT} {nf gap far fl p o t b : Nat} {s yb tr : Nat → Int32} {fs fr giver : Int32} {Q : Int32 → Int32 → Int32 → (Nat → Int32) → (Nat → Int32) → Prop} (h : WM D nf gap far s) (s0 : s 0 = nI t) (sbr : s (11 + p) = nI b) (hb9 : b ≤ 9) (ht : t ≤ 5000) (hF : FlatC giver fl) (hp : p < dN D) (ho : o < dN D)
    (hQ : ∀ yb' tr' : Nat → Int32, Q (nI (leap0 D fl (t) b p o)) (nI (dS D p o (dK D p) (bkN (dK D) (dH D) (dR D) fl (t) o) (b))) (nI (min (dI D p o (dK D p) (bkN (dK D) (dH D) (dR D) fl (t) o) (b)) 100)) yb' tr') : m_X12_looksForLeap fs fr giver s yb tr (nI p) (nI o) Q := by
  have h0 := h
  obtain ⟨⟨⟨hN, hok⟩, hr9, hsl, hri, hg⟩, ⟨-, hpe, hro⟩, hfm, hhm⟩ := h
  obtain ⟨hk, hv, hh⟩ := hpe p hp
  obtain ⟨hk6, hv9, hh9⟩ := hok p hp
  have hbk : bkN (dK D) (dH D) (dR D) fl (t) o ≤ 11 := bkN_le (rows := fun j => nI (dR D j)) ⟨hN, hok⟩ ho (fun j hj => ⟨rfl, hr9 j hj⟩)
  have e11 : ((11 : Int32) + nI p).toNatClampNeg = 11 + p := ixc rfl (by omega)
  have v11 : vp_in ((11 : Int32) + nI p) 903 := vpc (k := 11) rfl (by omega) (by decide)
  have key : m_X12_looksForLeap_L17 s (nI p) (nI o) fs fr yb tr (nI (bkN (dK D) (dH D) (dR D) fl (t) o)) Q := by
    unfold m_X12_looksForLeap_L17
    rw [e11, sbr]
    refine ⟨v11, hfm s (fun _ _ => rfl) p o (dK D p) _ b fs fr yb tr _ (by omega) (by omega) hk6 hbk hb9 hk (fun yb' tr' => ?_)⟩
    refine q_paceM h0 hp hbk ⟨v11, fun c => ?_, fun c => ?_⟩
    · have hb0 : b = 0 := (nI_eq (b := 0) (by omega) (by omega)).mp c
      have := hQ yb' tr'
      rw [show (10 : Int32) = nI 10 from rfl, nI_add, nI_add, nI_add]
      unfold leap0 dL leapN at this
      rw [if_pos hb0] at this
      rw [show ∀ a b c : Nat, a + b + c + 10 = a + 0 + b + 10 + c from fun a b c => by omega]
      exact this
    · have hb0 : ¬ b = 0 := fun z => c (by rw [z]; rfl)
      have := hQ yb' tr'
      rw [show (0 : Int32) = nI 0 from rfl, nI_add, nI_add, nI_add]
      unfold leap0 dL leapN at this
      rw [if_neg hb0] at this
      rw [show ∀ a b c : Nat, a + b + c + 0 = a + 0 + b + 0 + c from fun a b c => by omega]
      exact this
  unfold m_X12_looksForLeap
  refine ⟨fun c => ?_, fun c => ?_⟩
  · have e := (flat_eq hF (by omega)).mp c
    have hz : bkN (dK D) (dH D) (dR D) fl (t) o = 0 := by unfold bkN; rw [if_pos e]
    rw [hz] at key
    exact key
  · have e : ¬ o = fl := fun z => c ((flat_eq hF (by omega)).mpr z)
    obtain ⟨hk', hv', hh'⟩ := hpe o ho
    obtain ⟨hk6', hv9', hh9'⟩ := hok o ho
    have hm : t % 3 < 3 := Nat.mod_lt _ (by decide)
    refine q_backM (ki := dK D o) (h := dH D o) (r := dR D (3 * o + t % 3)) (t := t) (by omega) hk' hk6' hh' hh9' s0 (by omega) (by rw [Nat.add_assoc]; exact hro _ (by omega)) ?_
    have hz : bkN (dK D) (dH D) (dR D) fl (t) o = backN (dK D o) (dH D o) (dR D (3 * o + t % 3)) := by unfold bkN; rw [if_neg e]
    rw [hz] at key
    exact key
