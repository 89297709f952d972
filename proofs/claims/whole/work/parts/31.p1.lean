/-! PURE: one leap on the class's side -/
theorem q_find {people : Nat → Option Nat} {a : Int32} {Q : Option Nat → Prop} (h1 : ∀ p, p < 7 → a = nI p → Q (people p)) (h0 : a < 0 ∨ (7 : Int32) ≤ a → Q none) : m_X5_find people a Q := by
  unfold m_X5_find
  refine ⟨fun c => h0 (Or.inl c), fun c => ⟨fun d => h0 (Or.inr d), fun d => ?_⟩⟩
  rcases pk_ix a (n := 7) (by decide) with h | h | ⟨j, hj, rfl⟩
  · exact absurd h c
  · exact absurd h d
  · exact ⟨vp_in_nI hj (by decide), by rw [nI_clamp (by omega)]; exact h1 j hj rfl⟩
theorem q_findN {people : Nat → Option Nat} {p : Nat} {Q : Option Nat → Prop} (hp : p < 7) (h : Q (people p)) : m_X5_find people (nI p) Q := by
  refine q_find (fun q hq e => ?_) (fun c => ?_)
  · rw [← (nI_eq (by omega) (by omega)).mp e]; exact h
  · rcases c with c | c
    · exact absurd c (nI_pos (by omega))
    · exact absurd c (nI_ge (a := p) (b := 7) hp (by decide))
theorem q_paceV {lk : Nat → Option (Nat × Int32 × Int32 × Int32)} {a p ki v h b : Nat} {Q : Int32 → Prop} (hl : lk a = some (obCi (nI ki), nI p, nI v, nI h)) (hki : ki ≤ 6) (hv : v ≤ 9) (hb : b ≤ 11) (hQ : Q (nI (paceN ki v b))) : m_V_pace lk a (nI b) Q := by
  refine ⟨_, _, _, _, hl, ?_⟩
  have b0 : ∀ Q' : Int32 → Prop, Q' (nI (if v < b then 8 else 5)) → m_X0_pace lk a (nI b) Q' := fun Q' q => ⟨_, _, _, _, hl, fun c => by
    rw [if_neg (by have := (nI_leI (by omega) (by omega)).mp c; omega)] at q; exact q, fun c => by
    rw [if_pos (Nat.lt_of_not_le fun z => c ((nI_leI (a := b) (b := v) (by omega) (by omega)).mpr z))] at q; exact q⟩
  have b2 : ∀ Q' : Int32 → Prop, Q' (nI (5 + v)) → m_X2_pace lk a (nI b) Q' := fun Q' q => ⟨_, _, _, _, hl, by rw [show (5 : Int32) = nI 5 from rfl, nI_add]; exact q⟩
  rcases ki_cases hki with rfl | rfl | rfl | rfl | rfl | rfl | rfl
  · exact ⟨fun c => absurd c (by decide), fun c => absurd c (by decide), fun c => absurd c (by decide), fun _ => hQ, fun c => absurd c (by decide), fun c => absurd c (by decide), fun c => absurd c (by decide)⟩
  · exact ⟨fun c => absurd c (by decide), fun c => absurd c (by decide), fun c => absurd c (by decide), fun c => absurd c (by decide), fun _ => hQ, fun c => absurd c (by decide), fun c => absurd c (by decide)⟩
  · exact ⟨fun c => absurd c (by decide), fun c => absurd c (by decide), fun _ => hQ, fun c => absurd c (by decide), fun c => absurd c (by decide), fun c => absurd c (by decide), fun c => absurd c (by decide)⟩
  · exact ⟨fun _ => b0 _ hQ, fun c => absurd c (by decide), fun c => absurd c (by decide), fun c => absurd c (by decide), fun c => absurd c (by decide), fun c => absurd c (by decide), fun c => absurd c (by decide)⟩
  · exact ⟨fun c => absurd c (by decide), fun c => absurd c (by decide), fun c => absurd c (by decide), fun c => absurd c (by decide), fun c => absurd c (by decide), fun _ => hQ, fun c => absurd c (by decide)⟩
  · exact ⟨fun c => absurd c (by decide), fun _ => b2 _ hQ, fun c => absurd c (by decide), fun c => absurd c (by decide), fun c => absurd c (by decide), fun c => absurd c (by decide), fun c => absurd c (by decide)⟩
  · exact ⟨fun c => absurd c (by decide), fun c => absurd c (by decide), fun c => absurd c (by decide), fun c => absurd c (by decide), fun c => absurd c (by decide), fun c => absurd c (by decide), fun _ => b0 _ hQ⟩
theorem q_kindV {lk : Nat → Option (Nat × Int32 × Int32 × Int32)} {a p ki v h : Nat} {Q : Int32 → Prop} (hl : lk a = some (obCi (nI ki), nI p, nI v, nI h)) (hki : ki ≤ 6) (hQ : Q (nI ki)) : m_V_kind lk a Q := by
  refine ⟨_, _, _, _, hl, ?_⟩
  rcases ki_cases hki with rfl | rfl | rfl | rfl | rfl | rfl | rfl
  · exact ⟨fun c => absurd c (by decide), fun c => absurd c (by decide), fun c => absurd c (by decide), fun _ => hQ, fun c => absurd c (by decide), fun c => absurd c (by decide), fun c => absurd c (by decide)⟩
  · exact ⟨fun c => absurd c (by decide), fun c => absurd c (by decide), fun c => absurd c (by decide), fun c => absurd c (by decide), fun _ => hQ, fun c => absurd c (by decide), fun c => absurd c (by decide)⟩
  · exact ⟨fun c => absurd c (by decide), fun c => absurd c (by decide), fun _ => hQ, fun c => absurd c (by decide), fun c => absurd c (by decide), fun c => absurd c (by decide), fun c => absurd c (by decide)⟩
  · exact ⟨fun _ => hQ, fun c => absurd c (by decide), fun c => absurd c (by decide), fun c => absurd c (by decide), fun c => absurd c (by decide), fun c => absurd c (by decide), fun c => absurd c (by decide)⟩
  · exact ⟨fun c => absurd c (by decide), fun c => absurd c (by decide), fun c => absurd c (by decide), fun c => absurd c (by decide), fun c => absurd c (by decide), fun _ => hQ, fun c => absurd c (by decide)⟩
  · exact ⟨fun c => absurd c (by decide), fun _ => hQ, fun c => absurd c (by decide), fun c => absurd c (by decide), fun c => absurd c (by decide), fun c => absurd c (by decide), fun c => absurd c (by decide)⟩
  · exact ⟨fun c => absurd c (by decide), fun c => absurd c (by decide), fun c => absurd c (by decide), fun c => absurd c (by decide), fun c => absurd c (by decide), fun c => absurd c (by decide), fun _ => hQ⟩
theorem q_see {lk : Nat → Option (Nat × Int32 × Int32 × Int32)} {breath seen : Nat → Int32} {a p ki v h o b : Nat} {bk : Int32} {Q : (Nat → Int32) → Prop} (hl : lk a = some (obCi (nI ki), nI p, nI v, nI h)) (hki : ki ≤ 6) (hp : p < 7) (hb : breath p = nI b)
    (hQ : ∀ seen' : Nat → Int32, seen' 0 = nI p → seen' 1 = nI o → seen' 2 = nI ki → seen' 3 = bk → seen' 4 = nI b → Q seen') : m_X5_see lk breath seen a (nI o) bk Q := by
  refine ⟨_, _, _, _, hl, fun y2 e2 y3 e3 => q_kindV hl hki (fun y6 e6 y7 e7 => ⟨_, _, _, _, hl, vp_in_nI hp (by decide), fun y9 e9 => ?_⟩)⟩
  rw [nI_clamp (by omega), hb] at e9
  subst e9 e7 e6 e3 e2
  exact hQ _ rfl rfl rfl rfl rfl
