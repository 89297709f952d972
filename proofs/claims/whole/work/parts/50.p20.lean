/-! PURE: lowest terms, odds, mean -/
def lowA (up low : Nat) (part : Int32) : Int64 := if part = 0 then lN (up / Nat.gcd up low) else lN (low / Nat.gcd up low)
theorem lg0 {a : Nat} (ha : a < 2 ^ 63) : lg_cmp (lN a) (0 : Int64) = 0 ↔ a = 0 := by
  rw [lg_cmp_eq, show (0 : Int64) = lN 0 from rfl]
  exact pk_lEQ ha (by omega)
theorem l0 {a : Nat} (ha : a < 2 ^ 63) : lN a = 0 ↔ a = 0 := by
  rw [show (0 : Int64) = lN 0 from rfl]
  exact pk_lEQ ha (by omega)
theorem q_low45 {up low g : Nat} {part : Int32} {Q : Int64 → Prop} (hu : up < 2 ^ 62) (hl : low < 2 ^ 62) (hg : g = Nat.gcd up low) (h0 : 0 < g) (hg9 : g < 2 ^ 62) (hQ : Q (lowA up low part)) : m_X11_lowest_L45 (lN up) (lN low) part (lN g) Q := by
  unfold m_X11_lowest_L45
  unfold lowA at hQ
  rw [lg0 (by omega), l0 (by omega), pk_lDiv (by omega) h0 (by omega), pk_lDiv (by omega) h0 (by omega), hg]
  refine ⟨fun c => absurd c (by omega), fun _ => ⟨fun c => ⟨by omega, ?_⟩, fun c => ⟨by omega, ?_⟩⟩⟩
  · rw [if_pos c] at hQ; exact hQ
  · rw [if_neg c] at hQ; exact hQ
theorem half_mod {y r : Nat} (h : 0 < r) (hr : r < y) : 2 * (y % r) < y := by
  have h1 := Nat.mod_lt y h
  rcases Nat.lt_or_ge y (2 * r) with c | c
  · have : y % r = y - r := by rw [Nat.mod_eq_sub_mod (by omega), Nat.mod_eq_of_lt (by omega)]
    omega
  · omega
theorem q_lowLC {a1 a2 : Int64} {a3 : Int32} {Q : Int64 → Prop} : ∀ (k n v x y : Nat), y < 2 ^ k → x < 2 ^ 62 → y < 2 ^ 62 → 2 * k + 1 ≤ n → v + 2 * k ≤ 990 → m_X11_lowest_L45 a1 a2 a3 (lN (Nat.gcd x y)) Q → m_X11_lowest_L9 a1 a2 a3 Q n (lN x) (lN y) (nI v) := by
  have base : ∀ (n v x : Nat), v ≤ 990 → m_X11_lowest_L45 a1 a2 a3 (lN (Nat.gcd x 0)) Q → m_X11_lowest_L9 a1 a2 a3 Q (n + 1) (lN x) (lN 0) (nI v) := by
    intro n v x hv hQ
    unfold m_X11_lowest_L9
    rw [Nat.gcd_zero_right] at hQ
    refine ⟨fun c => absurd ((nI_leI (a := 1000) (b := v) (by omega) (by omega)).mp c) (by omega), fun _ => ⟨fun _ => hQ, fun c => absurd ((lg0 (by omega)).mpr rfl) c⟩⟩
  have step : ∀ (n v x y : Nat), v ≤ 990 → x < 2 ^ 62 → y < 2 ^ 62 → 0 < y → m_X11_lowest_L9 a1 a2 a3 Q n (lN y) (lN (x % y)) (nI (v + 1)) → m_X11_lowest_L9 a1 a2 a3 Q (n + 1) (lN x) (lN y) (nI v) := by
    intro n v x y hv hx hy h0 h
    unfold m_X11_lowest_L9
    rw [lg0 (by omega), l0 (by omega), pk_lRem (by omega) h0 (by omega)]
    refine ⟨fun c => absurd ((nI_leI (a := 1000) (b := v) (by omega) (by omega)).mp c) (by omega), fun _ => ⟨fun c => absurd c (by omega), fun _ => ⟨by omega, fun x6 e6 x7 e7 => ?_⟩⟩⟩
    rw [nI_1] at e7
    subst e6
    subst e7
    exact h
  intro k
  induction k with
  | zero =>
    intro n v x y hy hx hy2 hn hv hQ
    have : y = 0 := by simp at hy; exact hy
    subst this
    obtain ⟨n, rfl⟩ : ∃ m, n = m + 1 := ⟨n - 1, by omega⟩
    exact base n v x (by omega) hQ
  | succ k ih =>
    intro n v x y hy hx hy2 hn hv hQ
    obtain ⟨n, rfl⟩ : ∃ m, n = m + 2 := ⟨n - 2, by omega⟩
    rcases Nat.eq_zero_or_pos y with h0 | h0
    · subst h0
      exact base (n + 1) v x (by omega) hQ
    · have hr := Nat.mod_lt x h0
      have e1 : Nat.gcd x y = Nat.gcd y (x % y) := by rw [Nat.gcd_comm x y, Nat.gcd_rec y x, Nat.gcd_comm]
      rw [e1] at hQ
      refine step (n + 1) v x y (by omega) hx hy2 h0 ?_
      rcases Nat.eq_zero_or_pos (x % y) with r0 | r0
      · rw [r0] at hQ ⊢
        exact base n (v + 1) y (by omega) hQ
      · have e2 : Nat.gcd y (x % y) = Nat.gcd (x % y) (y % (x % y)) := by rw [Nat.gcd_comm y (x % y), Nat.gcd_rec (x % y) y, Nat.gcd_comm]
        rw [e2] at hQ
        have hh := half_mod r0 hr
        rw [Nat.pow_succ] at hy
        exact step n (v + 1) y (x % y) (by omega) hy2 (by omega) r0 (ih n (v + 2) (x % y) (y % (x % y)) (by omega) (by omega) (by omega) (by omega) (by omega) hQ)
theorem q_lowestC {up low : Nat} {part : Int32} {Q : Int64 → Prop} (hu : up < 2 ^ 60) (hl : low < 2 ^ 60) (h0 : 0 < low) (hQ : Q (lowA up low part)) : m_X11_lowest (lN up) (lN low) part Q := by
  intro x e
  subst e
  have hg : 0 < Nat.gcd low up := Nat.gcd_pos_of_pos_left _ h0
  have hgl : Nat.gcd low up ≤ low := Nat.le_of_dvd h0 (Nat.gcd_dvd_left _ _)
  exact ⟨121, q_lowLC 60 121 0 low up (by omega) (by omega) (by omega) (by omega) (by omega) (q_low45 (by omega) (by omega) (Nat.gcd_comm _ _) hg (by omega) hQ)⟩
theorem q_lowLM {up low : Nat} {part : Int32} {Q : Int64 → Prop} (hu : up < 2 ^ 60) (hl : low < 2 ^ 60) (h0 : 0 < low) (hQ : Q (lowA up low part)) : ∀ (k n x y : Nat), y < 2 ^ k → x < 2 ^ 62 → y < 2 ^ 62 → 2 * k + 1 ≤ n → Nat.gcd x y = Nat.gcd up low → m_X12_lowest_L6 (lN up) (lN low) part Q n (lN x) (lN y) := by
  have hg : 0 < Nat.gcd up low := Nat.gcd_pos_of_pos_right _ h0
  have hgl : Nat.gcd up low ≤ low := Nat.le_of_dvd h0 (Nat.gcd_dvd_right _ _)
  have base : ∀ (n x : Nat), Nat.gcd x 0 = Nat.gcd up low → m_X12_lowest_L6 (lN up) (lN low) part Q (n + 1) (lN x) (lN 0) := by
    intro n x hx
    rw [Nat.gcd_zero_right] at hx
    unfold lowA at hQ
    rw [← hx] at hg hgl hQ
    unfold m_X12_lowest_L6
    rw [l0 (a := x) (by omega), pk_lDiv (by omega) hg (by omega), pk_lDiv (by omega) hg (by omega)]
    refine ⟨fun _ => ⟨fun c => ⟨by omega, ?_⟩, fun c => ⟨by omega, ?_⟩⟩, fun c => absurd ((lg0 (by omega)).mpr rfl) c⟩
    · rw [if_pos c] at hQ; exact hQ
    · rw [if_neg c] at hQ; exact hQ
  have step : ∀ (n x y : Nat), x < 2 ^ 62 → y < 2 ^ 62 → 0 < y → m_X12_lowest_L6 (lN up) (lN low) part Q n (lN y) (lN (x % y)) → m_X12_lowest_L6 (lN up) (lN low) part Q (n + 1) (lN x) (lN y) := by
    intro n x y hx hy h0 h
    unfold m_X12_lowest_L6
    rw [lg0 (by omega), l0 (a := y) (by omega), pk_lRem (by omega) h0 (by omega)]
    refine ⟨fun c => absurd c (by omega), fun _ => ⟨by omega, fun x6 e6 => ?_⟩⟩
    subst e6
    exact h
  intro k
  induction k with
  | zero =>
    intro n x y hy hx hy2 hn hQ
    have : y = 0 := by simp at hy; exact hy
    subst this
    obtain ⟨n, rfl⟩ : ∃ m, n = m + 1 := ⟨n - 1, by omega⟩
    exact base n x hQ
  | succ k ih =>
    intro n x y hy hx hy2 hn hQ
    obtain ⟨n, rfl⟩ : ∃ m, n = m + 2 := ⟨n - 2, by omega⟩
    rcases Nat.eq_zero_or_pos y with h0 | h0
    · subst h0
      exact base (n + 1) x hQ
    · have hr := Nat.mod_lt x h0
      have e1 : Nat.gcd x y = Nat.gcd y (x % y) := by rw [Nat.gcd_comm x y, Nat.gcd_rec y x, Nat.gcd_comm]
      rw [e1] at hQ
      refine step (n + 1) x y hx hy2 h0 ?_
      rcases Nat.eq_zero_or_pos (x % y) with r0 | r0
      · rw [r0] at hQ ⊢
        exact base n y hQ
      · have e2 : Nat.gcd y (x % y) = Nat.gcd (x % y) (y % (x % y)) := by rw [Nat.gcd_comm y (x % y), Nat.gcd_rec (x % y) y, Nat.gcd_comm]
        rw [e2] at hQ
        have hh := half_mod r0 hr
        rw [Nat.pow_succ] at hy
        exact step n y (x % y) hy2 (by omega) r0 (ih n (x % y) (y % (x % y)) (by omega) (by omega) (by omega) (by omega) hQ)
theorem q_lowestM {up low : Nat} {part : Int32} {Q : Int64 → Prop} (hu : up < 2 ^ 60) (hl : low < 2 ^ 60) (h0 : 0 < low) (hQ : Q (lowA up low part)) : m_X12_lowest (lN up) (lN low) part Q :=
  ⟨121, q_lowLM hu hl h0 hQ 60 121 up low (by omega) (by omega) (by omega) (by omega) rfl⟩
/-! the risk of a leap -/
def rsk (D : DT) (t b p o : Nat) : Nat := min (dI D p o (dK D p) (bkN (dK D) (dH D) (dR D) 7 t o) b) 100
theorem q_leapRiskC {D : DT} {gap p o t b : Nat} {lk : LKT} {fk : FKT} {field : Option Nat} {gapI flat : Int32} {people : Nat → Option Nat} {rows breath seen : AR} {Q : Int32 → AR → Prop} (hW : WC D gap 7 lk fk field gapI flat people rows) (hp : p < dN D) (ho : o < dN D) (ht : t ≤ 5000) (hb : breath p = nI b) (hb9 : b ≤ 9) (hQ : ∀ se : AR, Q (nI (rsk D t b p o)) se) : m_X5_leapRisk lk fk field (nI t) flat people breath rows seen (nI p) (nI o) Q := by
  obtain ⟨hok, hP, hR, hF, hFd, hsl, hri, rfl, hg⟩ := hW
  have hN := hok.1
  obtain ⟨hk6, hv9, hh9⟩ := hok.2 p hp
  obtain ⟨a, ha, hl⟩ := hP p hp
  have hbk := bkN_le (fl := 7) (t := t) hok ho hR
  have hri' := hri p o (dK D p) (bkN (dK D) (dH D) (dR D) 7 t o) b
  unfold rsk at hQ
  unfold m_X5_leapRisk
  refine q_findN (by omega) ⟨fun c => (by rw [ha] at c; cases c), fun b3 hb3 => ?_⟩
  rw [ha] at hb3
  cases hb3
  rcases hFd with ⟨rfl, -, h0⟩ | ⟨f, rfl, hf, -, hs⟩
  · refine ⟨fun _ => ?_, fun b5 c => (by cases c)⟩
    have := hQ seen
    rw [h0] at this
    exact this
  · refine ⟨fun c => (by cases c), fun b5 c => ?_⟩
    cases c
    refine q_backOfC hok ho (hP o ho) hR hF (by omega) (q_see hl hk6 (by omega) hb (fun seen' s0 s1 s2 s3 s4 => ⟨hf, ?_⟩))
    refine hs fk rfl seen' p o (dK D p) (bkN (dK D) (dH D) (dR D) 7 t o) b _ (by omega) (by omega) hk6 hbk hb9 s0 s1 s2 s3 s4 ?_
    have := hQ seen'
    rw [show (100 : Int32) = nI 100 from rfl]
    by_cases c : 100 < dI D p o (dK D p) (bkN (dK D) (dH D) (dR D) 7 t o) b
    · rw [if_pos ((nI_ltI (a := 100) (by omega) (by omega)).mpr c)]
      rw [Nat.min_eq_right (by omega)] at this
      exact this
    · rw [if_neg (fun z => c ((nI_ltI (a := 100) (by omega) (by omega)).mp z))]
      rw [Nat.min_eq_left (by omega)] at this
      exact this
def odN (R : Nat → Nat → Nat) (pl : Nat → Nat) : Nat → Nat → Nat → Nat
  | 0, x, _ => x
  | m + 1, x, b => odN R pl m (x * (100 - R b (pl m))) (b - 1)
theorem odN_succ {R : Nat → Nat → Nat} {pl : Nat → Nat} {m x b : Nat} : odN R pl (m + 1) x b = odN R pl m (x * (100 - R b (pl m))) (b - 1) := rfl
def oddsA (D : DT) (st : TS) (a : Int32) : Int64 := if a = 0 ∨ a = 1 then lowA (odN (fun b o => rsk D (tT st) b (tP st (dN D - 1)) o) (tP st) (dN D - 1) 1 (tB st (tP st (dN D - 1)))) (100 ^ (dN D - 1)) a else (-9223372036854775808 : Int64)
theorem r100 {r : Nat} (h : r ≤ 100) : ((100 : Int32) - nI r).toInt64 = lN (100 - r) := by
  rw [show (100 : Int32) = nI 100 from rfl, pk_sub h, nI_l (by omega)]
theorem pow_le6 {a b : Nat} (h : a + b ≤ 6) : 100 ^ a ≤ 10 ^ 12 := by
  have : 100 ^ a ≤ 100 ^ 6 := Nat.pow_le_pow_right (by omega) (by omega)
  omega
theorem q_od41 {D : DT} {gap t N one : Nat} {lk : LKT} {fk : FKT} {nF : Option Nat} {nS nT nY nM nG nA nL a : Int32} {nP : Nat → Option Nat} {nC nR : AR} {pl : Nat → Nat} {X : Nat} {Q : Int64 → Option Nat → Int32 → Int32 → Int32 → Int32 → Int32 → Int32 → Int32 → (Nat → Option Nat) → AR → AR → AR → AR → Prop} (hW : WC D gap 7 lk fk nF nG nL nP nR) (ht : t ≤ 5000) (eT : nT = nI t) (h1 : one < dN D) (hS : nS = nI (N + 1)) (hN : N ≤ 6) (hC : ∀ k, k < N → nC k = nI (pl k) ∧ pl k < dN D) (hCN : nC N = nI one)
    (hQ : ∀ (uF : Option Nat) (uS uT uY uM uG uA uL : Int32) (uP : Nat → Option Nat) (uC uB uR uE : AR), Q (lowA X (100 ^ N) a) uF uS uT uY uM uG uA uL uP uC uB uR uE) :
    ∀ (m x b : Nat) (br se : AR), m ≤ N → br one = nI b → b ≤ 9 → x ≤ 100 ^ (N - m) → odN (fun b o => rsk D t b one o) pl m x b = X →
      m_X11_odds_L41 lk fk a nF nS nT nY nM nG nA nL nP nC nR Q (m + 1) br se (lN x) (lN (100 ^ (N - m))) (nI m - 1) := by
  have hok := hW.1
  have hN7 := hok.1
  obtain ⟨ad, had, -⟩ := hW.2.1 one h1
  subst eT
  have hlast : ∀ Q' : Int32 → Prop, Q' (nI one) → m_X5_last nS nC Q' := by
    intro Q' q
    subst hS
    refine ⟨fun c => absurd c (nI_ne0 (by omega) (by omega)), fun _ => ?_⟩
    rw [m1_pred, nI_clamp (by omega), hCN]
    exact ⟨vp_in_nI (by omega) (by decide), q⟩
  intro m
  induction m with
  | zero =>
    intro x b br se _ hb hb9 hx hX
    have hX : x = X := hX
    subst hX
    rw [Nat.sub_zero] at hx
    have hp := pow_le6 (a := N) (b := 0) (by omega)
    have hp0 : 0 < 100 ^ N := Nat.pow_pos (by omega)
    unfold m_X11_odds_L41
    exact ⟨fun _ => q_lowestC (by omega) (by rw [Nat.sub_zero]; omega) (by rw [Nat.sub_zero]; exact hp0) (by rw [Nat.sub_zero]; exact hQ _ _ _ _ _ _ _ _ _ _ _ _ _), fun c => absurd (by decide) c⟩
  | succ m ih =>
    intro x b br se hm hb hb9 hx hX
    have hpm := hC m (by omega)
    unfold m_X11_odds_L41
    rw [m1_pred]
    refine ⟨fun c => absurd c (nI_pos (by omega)), fun _ => hlast _ ?_⟩
    have hst : ∀ Q' : Int32 → Prop, Q' (nI (pl m)) → m_X5_standsAt nS nC (nI m) Q' := by
      intro Q' q
      subst hS
      refine ⟨fun c => absurd c (nI_pos (by omega)), fun _ => ⟨fun c => absurd ((nI_leI (by omega) (by omega)).mp c) (by omega), fun _ => ?_⟩⟩
      rw [nI_clamp (by omega), hpm.1]
      exact ⟨vp_in_nI (by omega) (by decide), q⟩
    refine hst _ (q_leapRiskC hW h1 hpm.2 ht hb hb9 (fun se' x31 e31 x32 e32 => hlast _ (q_tireC (by omega) had hb hb9 (fun br' g1 _ x38 e38 => ?_))))
    have hr : rsk D t b one (pl m) ≤ 100 := Nat.min_le_right _ _
    rw [r100 hr, lN_mul] at e31
    rw [show (100 : Int64) = lN 100 from rfl, lN_mul] at e32
    rw [add_m1] at e38
    subst e31
    subst e32
    subst e38
    have e : 100 ^ (N - (m + 1)) * 100 = 100 ^ (N - m) := by rw [← Nat.pow_succ]; congr 1; omega
    rw [e]
    refine ih _ (b - 1) br' se' (by omega) g1 (by omega) ?_ hX
    rw [← e]
    exact Nat.mul_le_mul hx (by omega)
theorem q_oddsC {D : DT} {gap far : Nat} {lk : LKT} {fk : FKT} {nF : Option Nat} {nS nT nY nM nG nA nL : Int32} {nP : Nat → Option Nat} {nC nB nR : AR} {uF : Option Nat} {uS uT uY uM uG uA uL : Int32} {uP : Nat → Option Nat} {uC uB uR uE : AR} {st : TS} {a : Int32} {Q : Int64 → Option Nat → Int32 → Int32 → Int32 → Int32 → Int32 → Int32 → Int32 → (Nat → Option Nat) → AR → AR → AR → AR → Prop} (h : NowC D gap far lk fk nF nS nT nY nM nG nA nL nP nC nB nR st) (hQ : ∀ (uF : Option Nat) (uS uT uY uM uG uA uL : Int32) (uP : Nat → Option Nat) (uC uB uR uE : AR), Q (oddsA D st a) uF uS uT uY uM uG uA uL uP uC uB uR uE) : m_X11_odds lk fk nF nS nT nY nM nG nA nL nP nC nB nR uF uS uT uY uM uG uA uL uP uC uB uR uE a Q := by
  have hs := h.2.2.1
  have hN := hs.2.1
  have ht : tT st ≤ 999 := h.2.2.2.1
  unfold oddsA at hQ
  refine q_one2 (fun c => ⟨fun z => absurd z (by decide), fun _ => q_trial h (fun P' C' B' R' hW hS x18 e18 x19 e19 x20 e20 => ?_)⟩) (fun c0 c1 => ⟨fun _ => ?_, fun z => absurd rfl z⟩)
  · rw [if_pos c] at hQ
    subst e18
    subst e19
    rcases Nat.eq_zero_or_pos (dN D) with h0 | h0
    · refine ⟨1, ?_⟩
      rw [hS.1, h0] at e20
      unfold m_X11_odds_L41
      rw [e20]
      rw [h0] at hQ
      refine ⟨fun _ => ?_, fun c => absurd (by decide) c⟩
      exact q_lowestC (up := 1) (low := 1) (by omega) (by omega) (by omega) (hQ _ _ _ _ _ _ _ _ _ _ _ _ _)
    · obtain ⟨m, hm⟩ : ∃ m, dN D = m + 1 := ⟨dN D - 1, by omega⟩
      rw [show dN D - 1 = m from by omega] at hQ
      refine ⟨m + 1, ?_⟩
      have e20 : x20 = nI m - 1 := by
        rw [e20, hS.1, hm]
        cases m with
        | zero => decide
        | succ m => rw [m1_pred, show (2 : Int32) = nI 2 from rfl, pk_sub (by omega)]; congr 1
      subst e20
      have hl := hs.2.2.1 m (by omega)
      have key := q_od41 (Q := Q) (a := a) (N := m) (pl := tP st) (one := tP st m) (nC := C') (X := odN (fun b o => rsk D (tT st) b (tP st m) o) (tP st) m 1 (tB st (tP st m))) (nY := nY) (nM := nM) (nA := nA) hW (t := tT st) (by omega) hS.2.1 hl (hS.1.trans (by rw [hm])) (by omega) (fun k hk => ⟨hS.2.2.2.2.1 k (by omega), hs.2.2.1 k (by omega)⟩) (hS.2.2.2.2.1 m (by omega)) hQ m 1 (tB st (tP st m)) B' uE (by omega) (hS.2.2.2.2.2 _ hl) (hs.2.2.2.2.1 _ hl) (Nat.pow_pos (by omega)) rfl
      rw [Nat.sub_self] at key
      exact key
  · rw [if_neg (fun z => z.elim c0 c1)] at hQ
    exact hQ _ _ _ _ _ _ _ _ _ _ _ _ _
theorem q_od38 {D : DT} {nf gap far t N one : Nat} {a : Int32} {s0 f : AR} {pl : Nat → Nat} {X : Nat} {Q : Int64 → Int32 → Int32 → AR → AR → AR → AR → Prop} (ht : t ≤ 5000) (h1 : one < dN D) (hN : N ≤ 6) (hpl : ∀ k, k < N → pl k < dN D) (hf : ∀ k, k < 18 → f k = s0 k)
    (hQ : ∀ (fs fr : Int32) (yb tr : AR), Q (lowA X (100 ^ N) a) fs fr s0 f yb tr) :
    ∀ (m x b : Nat) (fs fr : Int32) (s yb tr : AR), m ≤ N → WM D nf gap far s → Fr s0 s → s 0 = nI t → (∀ k, k < N → s (4 + k) = nI (pl k)) → s (4 + N) = nI one → s (11 + one) = nI b → b ≤ 9 → x ≤ 100 ^ (N - m) → odN (fun b o => rsk D t b one o) pl m x b = X →
      m_X12_odds_L38 (-1) a f (nI N) Q (m + 1) fs fr s yb tr (lN x) (lN (100 ^ (N - m))) (nI m - 1) := by
  have hF : FlatC (-1) 7 := Or.inl ⟨rfl, rfl⟩
  intro m
  induction m with
  | zero =>
    intro x b fs fr s yb tr _ hW hFr h0 hp hpN hb hb9 hx hX
    have hX : x = X := hX
    subst hX
    rw [Nat.sub_zero] at hx
    have hp := pow_le6 (a := N) (b := 0) (by omega)
    have hp0 : 0 < 100 ^ N := Nat.pow_pos (by omega)
    unfold m_X12_odds_L38
    refine ⟨fun _ => q_goesBack (fun s2 b1 b2 => ?_), fun c => absurd (by decide) c⟩
    rw [s_back hf b1 (fun k hk => (b2 k hk).trans (hFr k hk))]
    exact q_lowestM (by omega) (by rw [Nat.sub_zero]; omega) (by rw [Nat.sub_zero]; exact hp0) (by rw [Nat.sub_zero]; exact hQ _ _ _ _)
  | succ m ih =>
    intro x b fs fr s yb tr hm hW hFr h0 hp hpN hb hb9 hx hX
    have hN7 := hW.1.1.1
    have hpm := hpl m (by omega)
    have e4 : ((4 : Int32) + nI m).toNatClampNeg = 4 + m := ixc rfl (by omega)
    have e5 : ((4 : Int32) + nI N).toNatClampNeg = 4 + N := ixc rfl (by omega)
    have v5 : vp_in ((4 : Int32) + nI N) 903 := vpc (k := 4) rfl (by omega) (by decide)
    unfold m_X12_odds_L38
    rw [m1_pred, e4, e5, hp m (by omega), hpN]
    refine ⟨fun c => absurd c (nI_pos (by omega)), fun _ => ⟨v5, vpc (k := 4) rfl (by omega) (by decide), q_looksForLeap hW h0 hb hb9 ht hF h1 hpm (fun yb' tr' x23 e23 x24 e24 => ⟨v5, q_breathDown (by omega) hb hb9 (fun s2 g1 g2 x28 e28 => ?_)⟩)⟩⟩
    have hr : rsk D t b one (pl m) ≤ 100 := Nat.min_le_right _ _
    have e23 : x23 = lN x * (((100 : Int32) - nI (rsk D t b one (pl m))).toInt64) := e23
    rw [r100 hr, lN_mul] at e23
    rw [show (100 : Int64) = lN 100 from rfl, lN_mul] at e24
    rw [add_m1] at e28
    subst e23
    subst e24
    subst e28
    have e : 100 ^ (N - (m + 1)) * 100 = 100 ^ (N - m) := by rw [← Nat.pow_succ]; congr 1; omega
    rw [e]
    have fr2 : Fr s s2 := fun j hj => g2 j (by omega)
    refine ih _ (b - 1) _ _ s2 yb' tr' (by omega) (WM_fr hW fr2) (fun j hj => (fr2 j hj).trans (hFr j hj)) (by rw [g2 0 (by omega)]; exact h0) (fun k hk => by rw [g2 _ (by omega)]; exact hp k hk) (by rw [g2 _ (by omega)]; exact hpN) g1 (by omega) ?_ hX
    rw [← e]
    exact Nat.mul_le_mul hx (by omega)
theorem q_oddsM {D : DT} {nf gap far : Nat} {s fm yb tr : AR} {st : TS} {fs fr a : Int32} {Q : Int64 → Int32 → Int32 → AR → AR → AR → AR → Prop} (h : NowM D nf gap far s st)
    (hQ : ∀ (fs' fr' : Int32) (fm' yb' tr' : AR), Q (oddsA D st a) fs' fr' s fm' yb' tr') : m_X12_odds fs fr (-1) s fm yb tr a Q := by
  obtain ⟨hW, hS, hs, ht, hu⟩ := h
  have hN := hs.2.1
  have c3 : (3 : Int32).toNatClampNeg = 3 := rfl
  unfold oddsA at hQ
  refine q_in01 (fun c => ⟨fun z => absurd z (by decide), fun _ x4 e4 x5 e5 => q_keeps (fun f1 hf1 x9 e9 x10 e10 => ?_)⟩) (fun c0 c1 => ⟨fun _ => ?_, fun z => absurd rfl z⟩)
  · rw [if_pos c] at hQ
    rw [c3, hS.2.2.2.1] at e9
    subst e4
    subst e5
    rcases Nat.eq_zero_or_pos (dN D) with h0 | h0
    · refine ⟨1, ?_⟩
      rw [h0] at e9 hQ
      unfold m_X12_odds_L38
      rw [e10, e9]
      refine ⟨fun _ => q_goesBack (fun s2 b1 b2 => ?_), fun c => absurd (by decide) c⟩
      rw [s_back hf1 b1 b2]
      exact q_lowestM (up := 1) (low := 1) (by omega) (by omega) (by omega) (hQ _ _ _ _ _)
    · obtain ⟨m, hm⟩ : ∃ m, dN D = m + 1 := ⟨dN D - 1, by omega⟩
      rw [show dN D - 1 = m from by omega] at hQ
      rw [hm, m1_pred] at e9
      subst e9
      subst e10
      have hl := hs.2.2.1 m (by omega)
      refine ⟨m + 1, ?_⟩
      have key := q_od38 (Q := Q) (a := a) (N := m) (pl := tP st) (one := tP st m) (s0 := s) (f := f1) (X := odN (fun b o => rsk D (tT st) b (tP st m) o) (tP st) m 1 (tB st (tP st m))) (t := tT st) (by omega) hl (by omega) (fun k hk => hs.2.2.1 k (by omega)) hf1 (fun _ _ _ _ => hQ _ _ _ _ _) m 1 (tB st (tP st m)) fs fr s yb tr (by omega) hW (fun _ _ => rfl) hS.1 (fun k hk => hS.2.2.2.2.1 k (by omega)) (hS.2.2.2.2.1 m (by omega)) (hS.2.2.2.2.2 _ hl) (hs.2.2.2.2.1 _ hl) (Nat.pow_pos (by omega)) rfl
      rw [Nat.sub_self] at key
      exact key
  · rw [if_neg (fun z => z.elim c0 c1)] at hQ
    exact hQ _ _ _ _ _
/-! mean -/
def meanA (D : DT) (gap : Nat) (st : TS) (a : Int32) : Int64 := if (a = 0 ∨ a = 1) ∧ 2 ≤ dN D then lowA (tookN D gap 7 (dN D) st) (dN D - 1) a else (-9223372036854775808 : Int64)
theorem q_meanC {D : DT} {gap far : Nat} {lk : LKT} {fk : FKT} {nF : Option Nat} {nS nT nY nM nG nA nL : Int32} {nP : Nat → Option Nat} {nC nB nR : AR} {uF : Option Nat} {uS uT uY uM uG uA uL : Int32} {uP : Nat → Option Nat} {uC uB uR uE : AR} {st : TS} {a : Int32} {Q : Int64 → Option Nat → Int32 → Int32 → Int32 → Int32 → Int32 → Int32 → Int32 → (Nat → Option Nat) → AR → AR → AR → AR → Prop} (h : NowC D gap far lk fk nF nS nT nY nM nG nA nL nP nC nB nR st) (hQ : ∀ (uF : Option Nat) (uS uT uY uM uG uA uL : Int32) (uP : Nat → Option Nat) (uC uB uR uE : AR), Q (meanA D gap st a) uF uS uT uY uM uG uA uL uP uC uB uR uE) : m_X11_mean lk fk nF nS nT nY nM nG nA nL nP nC nB nR uF uS uT uY uM uG uA uL uP uC uB uR uE a Q := by
  have hs := h.2.2.1
  have hN := hs.2.1
  have ht : tT st ≤ 999 := h.2.2.2.1
  have hz : nS = nI (dN D) := h.2.1.1
  unfold meanA at hQ
  refine q_one2 (fun c => ⟨fun z => absurd z (by decide), fun _ => ⟨fun z => q_trial h (fun P' C' B' R' hW hS => ?_), fun z => ?_⟩⟩) (fun c0 c1 => ⟨fun _ => ?_, fun z => absurd rfl z⟩)
  · rw [hz] at z
    have z2 := (nI_leI (a := 2) (b := dN D) (by omega) (by omega)).mp z
    rw [if_pos ⟨c, z2⟩] at hQ
    obtain ⟨m, hm⟩ : ∃ m, dN D = m + 1 := ⟨dN D - 1, by omega⟩
    have e1 : (nS - 1).toInt64 = lN (dN D - 1) := by rw [hz, hm, m1_pred, nI_l (by omega)]; rfl
    have hto := tookN_le (fl := 7) (WC_WD hW) hs
    refine q_takeTurnC hW hS hs (by omega) (fun t' y' m' p' b' e' hS' => ?_)
    rw [e1, nI_l (by omega)]
    exact q_lowestC (by omega) (by omega) (by omega) (hQ _ _ _ _ _ _ _ _ _ _ _ _ _)
  · rw [if_neg] at hQ
    · exact hQ _ _ _ _ _ _ _ _ _ _ _ _ _
    · intro q
      exact z (by rw [hz]; exact (nI_leI (a := 2) (b := dN D) (by omega) (by omega)).mpr q.2)
  · rw [if_neg (fun z => z.1.elim c0 c1)] at hQ
    exact hQ _ _ _ _ _ _ _ _ _ _ _ _ _
theorem q_meanM {D : DT} {nf gap far : Nat} {s fm yb tr kn : AR} {st : TS} {fs fr g a : Int32} {Q : Int64 → Int32 → Int32 → Int32 → AR → AR → AR → AR → AR → Prop} (h : NowM D nf gap far s st)
    (hQ : ∀ (fs' fr' g' : Int32) (fm' yb' tr' kn' : AR), Q (meanA D gap st a) fs' fr' g' s fm' yb' tr' kn') : m_X12_mean fs fr g (-1) s fm yb tr kn a Q := by
  obtain ⟨hW, hS, hs, ht, hu⟩ := h
  have hN := hs.2.1
  have hF : FlatC (-1) 7 := Or.inl ⟨rfl, rfl⟩
  have c3 : (3 : Int32).toNatClampNeg = 3 := rfl
  unfold meanA at hQ
  unfold m_X12_mean
  rw [c3, hS.2.2.2.1]
  refine q_in01 (fun c => ⟨fun z => absurd z (by decide), fun _ => ⟨fun z => q_begins (fl := 7) hW (fun kn1 hK => q_keeps (fun f1 hf1 => ?_)), fun z => ?_⟩⟩) (fun c0 c1 => ⟨fun _ => ?_, fun z => absurd rfl z⟩)
  · have z2 := (nI_leI (a := 2) (b := dN D) (by omega) (by omega)).mp z
    rw [if_pos ⟨c, z2⟩] at hQ
    have hto := tookN_le (fl := 7) hW.1 hs
    refine q_goesM hW hS hs (by omega) (by omega) hF hW.1.2.2.2.2 hK (fun fs' fr' s' yb' tr' kn' hK' hW' hFr hS' => q_goesBack (fun s2 b1 b2 => ?_))
    rw [s_back hf1 b1 (fun k hk => (b2 k hk).trans (hFr k hk)), hS.2.2.2.1, nI_l (by omega), nI_l (by omega), show (1 : Int64) = lN 1 from rfl, lN_sub (by omega)]
    exact q_lowestM (by omega) (by omega) (by omega) (hQ _ _ _ _ _ _ _)
  · rw [if_neg] at hQ
    · exact hQ _ _ _ _ _ _ _
    · intro q
      exact z ((nI_leI (a := 2) (b := dN D) (by omega) (by omega)).mpr q.2)
  · rw [if_neg (fun z => z.1.elim c0 c1)] at hQ
    exact hQ _ _ _ _ _ _ _
