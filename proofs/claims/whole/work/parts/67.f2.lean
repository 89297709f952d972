/-! PURE: reading a field: signs, numbers, tests -/
def hT (n : Nat) (t : AR) (p : Nat) : Int32 := if p < n then t p else -1
theorem q_atT {n p : Nat} {t : AR} {Q : Int32 → Prop} (hn : n ≤ 100) (hp : p ≤ 1000) (hQ : Q (hT n t p)) : m_X7_at 100 (nI n) t (nI p) Q := by
  unfold hT at hQ
  refine q_at rfl hn (by decide) (by omega) (fun c => ?_) (fun c => ?_)
  · rw [if_pos c] at hQ; exact hQ
  · rw [if_neg (by omega)] at hQ; exact hQ
theorem q_hereT {n p : Nat} {t s : AR} {Q : Int32 → Prop} (hn : n ≤ 100) (hp : p ≤ 1000) (hs : ∀ j, j < n → s (88 + j) = t j) (hQ : Q (hT n t p)) : m_X12_here (nI p) (nI n) s Q := by
  unfold hT at hQ
  unfold m_X12_here
  have e88 : ((88 : Int32) + nI p).toNatClampNeg = 88 + p := ixc rfl (by omega)
  rw [nI_leI (by omega) (by omega), e88]
  refine ⟨fun c => ?_, fun c => ⟨vpc (k := 88) rfl (by omega) (by decide), ?_⟩⟩
  · rw [if_neg (by omega)] at hQ; exact hQ
  · rw [if_pos (by omega)] at hQ
    rw [hs p (by omega)]; exact hQ
theorem dig_cs (x : Int32) : (∃ d, d ≤ 9 ∧ x = nI (48 + d)) ∨ x < 48 ∨ (57 : Int32) < x := by
  by_cases c : x < 48
  · exact Or.inr (Or.inl c)
  · by_cases d : (57 : Int32) < x
    · exact Or.inr (Or.inr d)
    · refine Or.inl ?_
      rw [Int32.lt_iff_toInt_lt, show (48 : Int32).toInt = 48 from rfl] at c
      rw [Int32.lt_iff_toInt_lt, show (57 : Int32).toInt = 57 from rfl] at d
      obtain ⟨j, hj, e⟩ := nI_of (x := x) (fun q => by rw [Int32.lt_iff_toInt_lt, show (0 : Int32).toInt = 0 from rfl] at q; omega)
      rw [e, nI_toInt hj] at c d
      exact ⟨j - 48, by omega, by rw [e]; congr 1; omega⟩
theorem dig_lo {d : Nat} (h : d ≤ 9) : ¬ nI (48 + d) < 48 := fun c => by have := (nI_ltI (a := 48 + d) (b := 48) (by omega) (by omega)).mp c; omega
theorem dig_hi {d : Nat} (h : d ≤ 9) : ¬ (57 : Int32) < nI (48 + d) := fun c => by have := (nI_ltI (a := 57) (b := 48 + d) (by omega) (by omega)).mp c; omega
theorem dig_48 (d : Nat) : nI (48 + d) - (48 : Int32) = nI d := by rw [show (48 : Int32) = nI 48 from rfl, pk_sub (by omega)]; congr 1; omega
theorem hT_dig {n p d : Nat} {t : AR} (h : hT n t p = nI (48 + d)) (hd : d ≤ 9) : p < n := by
  unfold hT at h
  by_cases c : p < n
  · exact c
  · rw [if_neg c] at h
    exact absurd h.symm (nI_nm1 (by omega))
theorem hT_lt {n p v : Nat} {t : AR} (h : hT n t p = nI v) (hd : v < 1000) : p < n := by
  unfold hT at h
  by_cases c : p < n
  · exact c
  · rw [if_neg c] at h
    exact absurd h.symm (nI_nm1 (by omega))
/-- a number at p: r 1 read, 0 no number, 2 a 0 ahead of another -/
def NumP (n : Nat) (t : AR) (p r v p' : Nat) : Prop := r ≤ 2 ∧ v ≤ 99 ∧ p ≤ p' ∧ p' ≤ n ∧ (r = 1 → p + 1 ≤ p') ∧ (r = 2 → p + 1 ≤ p' ∧ v = 0 ∧ ∃ d, d ≤ 9 ∧ hT n t p' = nI (48 + d)) ∧
  (∀ Q : Int32 → Int32 → Prop, (r = 1 → Q (nI v) (nI p')) → (r ≠ 1 → Q (-1) (nI p')) → m_X1_readNumber (nI p) (nI n) t Q) ∧
  (∀ (s : AR) (Q : Int32 → Int32 → Int32 → Prop), (∀ j, j < n → s (88 + j) = t j) → (r ≠ 0 → Q (nI v) (nI p') 0) → (r = 0 → Q 0 (nI p') 1) → m_X12_figures (nI p) (nI n) 0 s Q)
theorem q_fig1 {n p : Nat} {s : AR} {Q : Int32 → Int32 → Int32 → Prop} (hQ : Q 0 (nI p) 1) : m_X12_figures (nI p) (nI n) 1 s Q := by
  unfold m_X12_figures m_X12_figures_L22 m_X12_figures_L27
  refine ⟨fun c => absurd c (by decide), fun _ => ⟨⟨rfl, rfl⟩, fun x2 e2 x3 e3 => ⟨1, ?_⟩⟩⟩
  subst e2
  subst e3
  unfold m_X12_figures_L34
  exact ⟨fun _ => hQ, fun _ => ⟨fun c => absurd c (by decide), fun _ => hQ⟩⟩
theorem num_ex {n p : Nat} {t : AR} (hn : n ≤ 100) (hp : p ≤ n) : ∃ r v p', NumP n t p r v p' := by
  have c57 : ∀ (x : Int32) (Q : Int32 → Prop), (x < 48 ∨ (57 : Int32) < x) → Q 0 → m_X12_in x 48 57 Q := fun x Q hx q => q_in (fun c d => absurd hx (fun z => z.elim c d)) (fun _ => q)
  have d57 : ∀ (d : Nat) (Q : Int32 → Prop), d ≤ 9 → Q 1 → m_X12_in (nI (48 + d)) 48 57 Q := fun d Q hd q => q_in (fun _ _ => q) (fun c => absurd c (fun z => z.elim (dig_lo hd) (dig_hi hd)))
  have nd : ∀ (x : Int32) (Q : Int32 → Prop), (x < 48 ∨ (57 : Int32) < x) → Q 0 → m_X1_isDigitSign x Q := fun x Q hx q => ⟨fun _ => q, fun c => ⟨fun _ => q, fun d => absurd hx (fun z => z.elim c d)⟩⟩
  have yd : ∀ (d : Nat) (Q : Int32 → Prop), d ≤ 9 → Q 1 → m_X1_isDigitSign (nI (48 + d)) Q := fun d Q hd q => ⟨fun c => absurd c (dig_lo hd), fun _ => ⟨fun c => absurd c (dig_hi hd), fun _ => q⟩⟩
  rcases dig_cs (hT n t p) with ⟨d, hd, e⟩ | e
  · have hpn := hT_dig e hd
    -- the reference's first figure
    have ref1 : ∀ (s : AR) (Q : Int32 → Int32 → Int32 → Prop), (∀ j, j < n → s (88 + j) = t j) → m_X12_figures_L34 (nI n) s 0 Q 2 (nI (p + 1)) (nI d) (nI 1) → m_X12_figures (nI p) (nI n) 0 s Q := by
      intro s Q hs h
      unfold m_X12_figures m_X12_figures_L22 m_X12_figures_L27
      refine ⟨fun _ => q_hereT hn (by omega) hs ?_, fun c => absurd rfl c⟩
      rw [e]
      refine d57 d _ hd ⟨fun c => absurd c (by decide), fun _ => ⟨⟨rfl, rfl⟩, fun x2 e2 x3 e3 => ⟨3, ?_⟩⟩⟩
      subst e2
      subst e3
      unfold m_X12_figures_L34
      refine ⟨fun c => absurd c (by decide), fun _ => ⟨fun _ => q_hereT hn (by omega) hs ?_, fun c => absurd rfl c⟩⟩
      rw [e]
      refine d57 d _ hd ⟨fun c => absurd c (by decide), fun _ => ⟨fun _ => ?_, fun c => absurd rfl c⟩⟩
      unfold m_X12_figures_L68
      refine q_hereT hn (by omega) hs ?_
      rw [e]
      intro x14 e14 x15 e15
      have e14 : x14 = nI d := by rw [e14, show (10 : Int32) * 0 = nI 0 from by decide, nI_add, Nat.zero_add]; exact dig_48 d
      have e15 : x15 = nI 1 := e15
      subst e14
      subst e15
      rw [nI_1]
      exact h
    have ec : (10 : Nat) = 10 := rfl
    rcases dig_cs (hT n t (p + 1)) with ⟨d2, hd2, e2⟩ | e2
    · have hpn2 := hT_dig e2 hd2
      by_cases h0 : d = 0
      · subst h0
        refine ⟨2, 0, p + 1, by omega, by omega, by omega, by omega, fun c => absurd c (by decide), fun _ => ⟨by omega, rfl, d2, hd2, e2⟩, fun Q _ hb => ?_, fun s Q hs h1 _ => ref1 s Q hs ?_⟩
        · unfold m_X1_readNumber
          refine q_atT hn (by omega) ?_
          rw [e]
          refine yd 0 _ hd ⟨fun c => absurd c (by decide), fun _ => ?_⟩
          rw [nI_1]
          refine q_atT hn (by omega) ?_
          rw [e2]
          exact yd d2 _ hd2 ⟨fun c => absurd c (by decide), fun _ => ⟨fun _ => hb (by decide), fun c => absurd rfl c⟩⟩
        · unfold m_X12_figures_L34
          refine ⟨fun c => absurd c (by decide), fun _ => ⟨fun _ => q_hereT hn (by omega) hs ?_, fun c => absurd rfl c⟩⟩
          rw [e2]
          exact d57 d2 _ hd2 ⟨fun c => absurd c (by decide), fun _ => ⟨fun c => absurd c (by decide), fun _ => ⟨fun _ => h1 (by decide), fun c => absurd (by decide) c⟩⟩⟩
      · refine ⟨1, d * 10 + d2, p + 2, by omega, by omega, by omega, by omega, fun _ => by omega, fun c => absurd c (by decide), fun Q ha _ => ?_, fun s Q hs h1 _ => ref1 s Q hs ?_⟩
        · unfold m_X1_readNumber
          refine q_atT hn (by omega) ?_
          rw [e]
          refine yd d _ hd ⟨fun c => absurd c (by decide), fun _ => ?_⟩
          rw [nI_1]
          refine q_atT hn (by omega) ?_
          rw [e2]
          refine yd d2 _ hd2 ⟨fun c => absurd c (by decide), fun _ => ⟨fun c => ?_, fun _ => ?_⟩⟩
          · have := (nI_eq (a := 48 + d) (b := 48) (by omega) (by omega)).mp c
            omega
          · rw [dig_48, dig_48, show (10 : Int32) = nI 10 from rfl, pk_mul, nI_add, nI_1]
            exact ha rfl
        · unfold m_X12_figures_L34
          refine ⟨fun c => absurd c (by decide), fun _ => ⟨fun _ => q_hereT hn (by omega) hs ?_, fun c => absurd rfl c⟩⟩
          rw [e2]
          refine d57 d2 _ hd2 ⟨fun c => absurd c (by decide), fun _ => ⟨fun c => absurd c (by decide), fun _ => ⟨fun c => absurd ((nI_leI (a := d) (b := 0) (by omega) (by omega)).mp c) (by omega), fun _ => ?_⟩⟩⟩
          unfold m_X12_figures_L68
          refine q_hereT hn (by omega) hs ?_
          rw [e2]
          intro x14 e14 x15 e15
          have e14 : x14 = nI (d * 10 + d2) := by rw [e14, show (10 : Int32) = nI 10 from rfl, pk_mul, nI_add, show 10 * d + (48 + d2) = 48 + (d * 10 + d2) from by omega]; exact dig_48 _
          rw [nI_1] at e15
          subst e14
          subst e15
          rw [nI_1]
          unfold m_X12_figures_L34
          exact ⟨fun _ => h1 (by decide), fun c => absurd (by decide) c⟩
    · refine ⟨1, d, p + 1, by omega, by omega, by omega, by omega, fun _ => by omega, fun c => absurd c (by decide), fun Q ha _ => ?_, fun s Q hs h1 _ => ref1 s Q hs ?_⟩
      · unfold m_X1_readNumber
        refine q_atT hn (by omega) ?_
        rw [e]
        refine yd d _ hd ⟨fun c => absurd c (by decide), fun _ => ?_⟩
        rw [nI_1]
        refine q_atT hn (by omega) (nd _ _ e2 ⟨fun _ => ?_, fun c => absurd rfl c⟩)
        rw [dig_48]
        exact ha rfl
      · unfold m_X12_figures_L34
        exact ⟨fun c => absurd c (by decide), fun _ => ⟨fun _ => q_hereT hn (by omega) hs (c57 _ _ e2 ⟨fun _ => h1 (by decide), fun c => absurd rfl c⟩), fun c => absurd rfl c⟩⟩
  · refine ⟨0, 0, p, by omega, by omega, by omega, hp, fun c => absurd c (by decide), fun c => absurd c (by decide), fun Q _ hb => ?_, fun s Q hs _ h0 => ?_⟩
    · exact q_atT hn (by omega) (nd _ _ e ⟨fun _ => hb (by decide), fun c => absurd rfl c⟩)
    · unfold m_X12_figures m_X12_figures_L22 m_X12_figures_L27
      refine ⟨fun _ => q_hereT hn (by omega) hs (c57 _ _ e ⟨fun _ => ⟨⟨rfl, rfl⟩, fun x2 e2 x3 e3 => ⟨1, ?_⟩⟩, fun c => absurd rfl c⟩), fun c => absurd rfl c⟩
      subst e2
      subst e3
      unfold m_X12_figures_L34
      exact ⟨fun _ => h0 rfl, fun _ => ⟨fun c => absurd c (by decide), fun _ => h0 rfl⟩⟩
/-- one of the letters of a text -/
theorem q_among {n p i1 m : Nat} {t s : AR} {Q : Int32 → Int32 → Prop} (hn : n ≤ 100) (hp : p ≤ 200) (hi : i1 < 10) (hm : sLen i1 = m) (hm9 : m ≤ 9) (hs : ∀ j, j < n → s (88 + j) = t j) (h1 : ∀ k, k < m → hT n t p = sCh i1 k → Q (nI k) (nI (p + 1))) (h0 : (∀ k, k < m → ¬ hT n t p = sCh i1 k) → Q (-1) (nI p)) : m_X12_among (nI p) (nI n) s i1 Q := by
  have L : ∀ (d k : Nat), k + d = m → (∀ j, j < k → ¬ hT n t p = sCh i1 j) → m_X12_among_L2 (nI n) s i1 (nI p) Q (d + 1) (nI k) := by
    intro d
    induction d with
    | zero =>
      intro k hk hno
      unfold m_X12_among_L2
      rw [hm]
      exact ⟨hi, fun _ => h0 (fun j hj => hno j (by omega)), fun c => absurd ((nI_leI (by omega) (by omega)).mpr (by omega)) c⟩
    | succ d ih =>
      intro k hk hno
      unfold m_X12_among_L2
      rw [hm, nI_clamp (by omega), nI_1]
      refine ⟨hi, fun c => absurd ((nI_leI (by omega) (by omega)).mp c) (by omega), fun _ => q_hereT hn (by omega) hs ⟨hi, vp_in_nI (by omega) (by omega), fun c => h1 k (by omega) c, fun c x ex => ?_⟩⟩
      rw [nI_1] at ex
      subst ex
      exact ih (k + 1) (by omega) (fun j hj => by
        by_cases ej : j = k
        · rw [ej]; exact c
        · exact hno j (by omega))
  intro x e
  subst e
  exact ⟨m + 1, L m 0 (by omega) (fun j hj => absurd hj (by omega))⟩
