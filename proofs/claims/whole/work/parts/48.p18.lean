/-! PURE: two at once -/
def eN (L : Nat → Nat → Nat) (pl : Nat → Nat) : Nat → Nat → Nat → (Nat → Nat) → Nat → Nat
  | 0, _, _, e => e
  | m + 1, x, b, e => eN L pl m (x + L b (pl m)) (b - 1) (fun k => if k = m then x + L b (pl m) else e k)
theorem eN_succ {L : Nat → Nat → Nat} {pl : Nat → Nat} {m x b : Nat} {e : Nat → Nat} : eN L pl (m + 1) x b e = eN L pl m (x + L b (pl m)) (b - 1) (fun k => if k = m then x + L b (pl m) else e k) := rfl
def fN (L : Nat → Nat → Nat) (e pl : Nat → Nat) : Nat → Nat → Nat → Nat
  | 0, f, _ => f
  | m + 1, f, b => fN L e pl m (max f (e m) + L b (pl m)) (b - 1)
theorem fN_succ {L : Nat → Nat → Nat} {e pl : Nat → Nat} {m f b : Nat} : fN L e pl (m + 1) f b = fN L e pl m (max f (e m) + L b (pl m)) (b - 1) := rfl
theorem eN_le {L : Nat → Nat → Nat} {pl : Nat → Nat} {X T : Nat} : ∀ (m x b : Nat) (e : Nat → Nat), (∀ b k, k < m → L b (pl k) ≤ 1124) → x + 1124 * m ≤ X → (∀ k, m ≤ k → k < T → e k ≤ X) → ∀ k, k < T → eN L pl m x b e k ≤ X := by
  intro m
  induction m with
  | zero => intro x b e _ _ he k hk; exact he k (by omega) hk
  | succ m ih =>
    intro x b e hL hx he k hk
    have := hL b m (by omega)
    rw [eN_succ]
    refine ih _ _ _ (fun b k hk => hL b k (by omega)) (by omega) (fun j hj hT => ?_) k hk
    show (if j = m then x + L b (pl m) else e j) ≤ X
    split
    · omega
    · exact he j (by omega) hT
theorem nI_max {a b : Nat} (ha : a < 2 ^ 31) (hb : b < 2 ^ 31) : (if nI a < nI b then nI b else nI a) = nI (max a b) := by
  by_cases c : a < b
  · rw [if_pos ((nI_ltI ha hb).mpr c)]; congr 1; omega
  · rw [if_neg (fun z => c ((nI_ltI ha hb).mp z))]; congr 1; omega
theorem q_later {a b : Nat} {Q : Int32 → Prop} (ha : a < 2 ^ 31) (hb : b < 2 ^ 31) (hQ : Q (nI (max a b))) : m_X12_later (nI a) (nI b) Q := by
  refine ⟨fun c => ?_, fun c => ?_⟩
  · have := (nI_leI ha hb).mp c
    rw [show b = max a b from by omega]; exact hQ
  · have : ¬ a ≤ b := fun z => c ((nI_leI ha hb).mpr z)
    rw [show a = max a b from by omega]; exact hQ
theorem nI_m3 (m : Nat) : nI (m + 2) - 3 = nI m - 1 := by
  cases m with
  | zero => decide
  | succ m => rw [m1_pred, show (3 : Int32) = nI 3 from rfl, pk_sub (by omega)]; congr 1
def bentN (D : DT) (gap : Nat) (st : TS) (m : Nat) : Nat := tookF (fun b o => dL D gap 7 (tT st) b (tP st (m + 1)) o) (tP st) (m + 1) (tB st (tP st (m + 1)))
def endsN (D : DT) (gap : Nat) (st : TS) (m : Nat) : Nat → Nat := eN (fun b o => dL D gap 7 (tT st) b (tP st (m + 1)) o) (tP st) (m + 1) 0 (tB st (tP st (m + 1))) (fun _ => 0)
def twoA (D : DT) (gap : Nat) (st : TS) : Int32 := if dN D < 2 then -3 else nI (max (fN (fun b o => dL D gap 7 (tT st) b (tP st (dN D - 2)) o) (endsN D gap st (dN D - 2)) (tP st) (dN D - 2) (endsN D gap st (dN D - 2) (dN D - 2 - 1)) (tB st (tP st (dN D - 2)))) (bentN D gap st (dN D - 2)) + dL D gap 7 (tT st) (tB st (tP st (dN D - 2)) - (dN D - 2)) (tP st (dN D - 2)) (tP st (dN D - 2 + 1)))
theorem q_two108 {D : DT} {gap t bent M last second : Nat} {lk : LKT} {fk : FKT} {field : Option Nat} {gapI flat : Int32} {people : Nat → Option Nat} {rows places ends : AR} {pl e : Nat → Nat} {Q : Int32 → AR → AR → AR → Prop} (hW : WC D gap 7 lk fk field gapI flat people rows) (ht : t ≤ 5000) (hl : last < dN D) (h2 : second < dN D) (hpl : ∀ k, k < M → places k = nI (pl k) ∧ pl k < dN D) (hM : M ≤ 7) (he : ∀ k, k < M → ends k = nI (e k) ∧ e k ≤ 8000) (hb : bent ≤ 8000) :
    ∀ (m f b : Nat) (br se : AR), m ≤ 5 → m ≤ M → f + 1124 * m ≤ 30000 → br second = nI b → b ≤ 9 →
      (∀ br' se' : AR, Q (nI (max (fN (fun b o => dL D gap 7 t b second o) e pl m f b) bent + dL D gap 7 t (b - m) second last)) br' se' ends) →
      m_X5_leapTogether_L108 lk fk field (nI t) gapI flat people places rows ends (nI last) (nI second) (nI bent) Q (m + 1) br se (nI f) (nI m - 1) := by
  obtain ⟨hok, hP, hR, hF, hFd, hsl, hri, rfl, hg⟩ := hW
  intro m
  induction m with
  | zero =>
    intro f b br se _ _ hf hb2 hb9 hQ
    unfold m_X5_leapTogether_L108
    refine ⟨fun _ => q_leapTimeC hok h2 hl hP hR hF hFd hsl (by omega) hg hb2 hb9 (fun se' => ?_), fun c => absurd (by decide) c⟩
    rw [nI_max (by omega) (by omega), nI_add]
    exact hQ br se'
  | succ m ih =>
    intro f b br se hm hmM hf hb2 hb9 hQ
    have hN := hok.1
    obtain ⟨a, ha, -⟩ := hP second h2
    have hem := he m (by omega)
    have hpm := hpl m (by omega)
    unfold m_X5_leapTogether_L108
    rw [m1_pred, nI_clamp (by omega), hpm.1, hem.1]
    refine ⟨fun c => absurd c (nI_pos (by omega)), fun _ => ⟨vp_in_nI (by omega) (by decide), vp_in_nI (by omega) (by decide), q_leapTimeC hok h2 hpm.2 hP hR hF hFd hsl (by omega) hg hb2 hb9 (fun se' x16 e16 => ?_)⟩⟩
    refine q_tireC (by omega) ha hb2 hb9 (fun br' h1 _ x20 e20 => ?_)
    rw [nI_max (by omega) (by omega), nI_add] at e16
    rw [add_m1] at e20
    subst e16
    subst e20
    have hle := leapN_le (fl := 7) (t := t) (b := b) (p := second) (o := pl m) hok h2 hpm.2 hR hsl hg
    refine ih _ (b - 1) br' se' (by omega) (by omega) ?_ h1 (by omega) (fun br2 se2 => ?_)
    · have : max f (e m) ≤ f ∨ max f (e m) ≤ 8000 := by omega
      omega
    · have := hQ br2 se2
      rw [fN_succ, show b - (m + 1) = b - 1 - m from by omega] at this
      exact this
theorem q_two44 {D : DT} {gap t T one : Nat} {lk : LKT} {fk : FKT} {field : Option Nat} {gapI flat size v2 : Int32} {people : Nat → Option Nat} {rows places : AR} {pl : Nat → Nat} {Q : Int32 → AR → AR → AR → Prop} (hW : WC D gap 7 lk fk field gapI flat people rows) (ht : t ≤ 5000) (h1 : one < dN D) (hpl : ∀ k, k < T → places k = nI (pl k) ∧ pl k < dN D) (hT : T ≤ 6) :
    ∀ (m x b : Nat) (br se en : AR) (e : Nat → Nat), m ≤ T → br one = nI b → b ≤ 9 → (∀ k, m ≤ k → k < T → en k = nI (e k)) →
      (∀ br' se' en' : AR, br' one = nI (b - m) → (∀ q, q ≠ one → br' q = br q) → (∀ k, k < T → en' k = nI (eN (fun b o => dL D gap 7 t b one o) pl m x b e k)) →
        vp_in (if (size - (3 : Int32)) < 0 then 0 else (size - (3 : Int32))) 7 ∧ ∀ x7 : Int32, x7 = en' (if (size - (3 : Int32)) < 0 then 0 else (size - (3 : Int32))).toNatClampNeg → ∀ x8 : Int32, x8 = size - (3 : Int32) → (∃ n21 : Nat, m_X5_leapTogether_L108 lk fk field (nI t) gapI flat people places rows en' (nI one) v2 (nI (x + tookF (fun b o => dL D gap 7 t b one o) pl m b)) Q n21 br' se' x7 x8)) →
      m_X5_leapTogether_L44 lk fk field size (nI t) gapI flat people places rows (nI one) v2 Q (m + 1) br se en (nI x) (nI m - 1) := by
  obtain ⟨hok, hP, hR, hF, hFd, hsl, hri, rfl, hg⟩ := hW
  intro m
  induction m with
  | zero =>
    intro x b br se en e _ hb hb9 he hQ
    unfold m_X5_leapTogether_L44
    exact ⟨fun _ => hQ br se en hb (fun _ _ => rfl) (fun k hk => he k (by omega) hk), fun c => absurd (by decide) c⟩
  | succ m ih =>
    intro x b br se en e hm hb hb9 he hQ
    have hN := hok.1
    obtain ⟨a, ha, -⟩ := hP one h1
    have hpm := hpl m (by omega)
    unfold m_X5_leapTogether_L44
    rw [m1_pred, nI_clamp (by omega), hpm.1]
    refine ⟨fun c => absurd c (nI_pos (by omega)), fun _ => ⟨vp_in_nI (by omega) (by decide), q_leapTimeC hok h1 hpm.2 hP hR hF hFd hsl (by omega) hg hb hb9 (fun se' x25 e25 => ?_)⟩⟩
    refine q_tireC (by omega) ha hb hb9 (fun br' g1 g2 => ⟨vp_in_nI (by omega) (by decide), fun y29 e29 x30 e30 => ?_⟩)
    rw [nI_add] at e25
    rw [add_m1] at e30
    subst e25
    subst e30
    refine ih _ (b - 1) br' se' y29 (fun k => if k = m then x + dL D gap 7 t b one (pl m) else e k) (by omega) g1 (by omega) (fun k k1 k2 => ?_) (fun br2 se2 en2 a1 a2 a3 => ?_)
    · show y29 k = nI (if k = m then _ else e k)
      by_cases ek : k = m
      · rw [if_pos ek, e29, ek, pk_us]; rfl
      · rw [if_neg ek, e29, pk_un ek]; exact he k (by omega) k2
    · have := hQ br2 se2 en2 (by rw [a1]; congr 1; omega) (fun q hq => (a2 q hq).trans (g2 q hq)) (fun k hk => by rw [a3 k hk, eN_succ]; rfl)
      rw [tookF_succ, ← Nat.add_assoc] at this
      exact this
theorem q_twoC {D : DT} {gap far : Nat} {lk : LKT} {fk : FKT} {nF : Option Nat} {nS nT nY nM nG nA nL : Int32} {nP : Nat → Option Nat} {nC nB nR : AR} {uF : Option Nat} {uS uT uY uM uG uA uL : Int32} {uP : Nat → Option Nat} {uC uB uR uE : AR} {en : AR} {st : TS} {Q : Int32 → Option Nat → Int32 → Int32 → Int32 → Int32 → Int32 → Int32 → Int32 → (Nat → Option Nat) → AR → AR → AR → AR → AR → Prop} (h : NowC D gap far lk fk nF nS nT nY nM nG nA nL nP nC nB nR st) (hQ : ∀ (uF : Option Nat) (uS uT uY uM uG uA uL : Int32) (uP : Nat → Option Nat) (uC uB uR uE : AR) (en' : AR), Q (twoA D gap st) uF uS uT uY uM uG uA uL uP uC uB uR uE en') : m_X11_two lk fk nF nS nT nY nM nG nA nL nP nC nB nR uF uS uT uY uM uG uA uL uP uC uB uR uE en Q := by
  have hs := h.2.2.1
  have hN := hs.2.1
  have hz : nS = nI (dN D) := h.2.1.1
  unfold twoA at hQ
  refine ⟨fun c => q_trial h (fun P' C' B' R' hW hS => ⟨fun _ => ?_, fun c' => absurd c c'⟩), fun c => ?_⟩
  · rw [hz] at c
    have c2 := (nI_leI (a := 2) (b := dN D) (by omega) (by omega)).mp c
    obtain ⟨m, hm⟩ : ∃ m, dN D = m + 2 := ⟨dN D - 2, by omega⟩
    rw [if_neg (by omega), show dN D - 2 = m from by omega] at hQ
    have ht : tT st ≤ 999 := h.2.2.2.1
    have e1 : nS - 1 = nI (m + 1) := by rw [hz, hm]; exact m1_pred (m + 1)
    have e2 : nS - 2 = nI m := by rw [hz, hm, show (2 : Int32) = nI 2 from rfl, pk_sub (by omega)]; congr 1
    have e3 : nS - 3 = nI m - 1 := by rw [hz, hm]; exact nI_m3 m
    have hl := hs.2.2.1 (m + 1) (by omega)
    have h2 := hs.2.2.1 m (by omega)
    have hne : tP st m ≠ tP st (m + 1) := fun z => by have := hs.2.2.2.1 m (m + 1) (by omega) (by omega) z; omega
    rw [e1, e2, nI_clamp (by omega), nI_clamp (by omega), hS.2.2.2.2.1 (m + 1) (by omega), hS.2.2.2.2.1 m (by omega), hS.2.1]
    refine ⟨vp_in_nI (by omega) (by decide), fun x2 ex2 => ⟨vp_in_nI (by omega) (by decide), fun x3 ex3 x4 ex4 x5 ex5 => ⟨m + 1 + 1, ?_⟩⟩⟩
    subst ex2
    subst ex3
    subst ex4
    subst ex5
    rw [← m1_pred m, show (0 : Int32) = nI 0 from rfl]
    have hW' := hW
    obtain ⟨hok, hP, hR, hF, hFd, hsl, hri, hgg, hg⟩ := hW'
    have hLle : ∀ b k, k < m + 1 → dL D gap 7 (tT st) b (tP st (m + 1)) (tP st k) ≤ 1124 := fun b k hk => leapN_le hok hl (hs.2.2.1 k (by omega)) hR hsl hg
    have hbent : bentN D gap st m ≤ 8000 := by
      have := tookF_le (L := fun b o => dL D gap 7 (tT st) b (tP st (m + 1)) o) (pl := tP st) (X := 1124) (m + 1) (tB st (tP st (m + 1))) hLle
      unfold bentN
      omega
    have hends : ∀ k, k < m + 1 → endsN D gap st m k ≤ 8000 := eN_le (T := m + 1) (m + 1) 0 _ _ hLle (by omega) (fun k k1 k2 => absurd k2 (by omega))
    refine q_two44 (T := m + 1) hW (by omega) hl (fun k hk => ⟨hS.2.2.2.2.1 k (by omega), hs.2.2.1 k (by omega)⟩) (by omega) (m + 1) 0 (tB st (tP st (m + 1))) B' uE en (fun _ => 0) (by omega) (hS.2.2.2.2.2 _ hl) (hs.2.2.2.2.1 _ hl) (fun k k1 k2 => absurd k2 (by omega)) (fun br' se' en' a1 a2 a3 => ?_)
    have ei : (if (nS - (3 : Int32)) < 0 then 0 else (nS - (3 : Int32))) = nI (m - 1) := by
      rw [e3]
      cases m with
      | zero => decide
      | succ m => rw [m1_pred, if_neg (nI_pos (by omega))]; rfl
    rw [ei, nI_clamp (by omega), a3 (m - 1) (by omega), e3, Nat.zero_add]
    refine ⟨vp_in_nI (by omega) (by decide), fun x7 e7 x8 e8 => ⟨m + 1, ?_⟩⟩
    subst e7
    subst e8
    have hq := hends (m - 1) (by omega)
    exact q_two108 (M := m + 1) (e := endsN D gap st m) hW (by omega) hl h2 (fun k hk => ⟨hS.2.2.2.2.1 k (by omega), hs.2.2.1 k (by omega)⟩) (by omega) (fun k hk => ⟨a3 k hk, hends k hk⟩) hbent m (endsN D gap st m (m - 1)) (tB st (tP st m)) br' se' (by omega) (by omega) (by omega) (by rw [a2 _ hne]; exact hS.2.2.2.2.2 _ h2) (hs.2.2.2.2.1 _ h2) (fun br2 se2 => hQ _ _ _ _ _ _ _ _ _ _ _ _ _ _)
  · have c2 : dN D < 2 := by
      rcases Nat.lt_or_ge (dN D) 2 with z | z
      · exact z
      · exact absurd (by rw [hz]; exact (nI_leI (a := 2) (b := dN D) (by omega) (by omega)).mpr z) c
    rw [if_pos c2] at hQ
    exact hQ _ _ _ _ _ _ _ _ _ _ _ _ _ _
/-! the reference's -/
abbrev QmT2 : Type := Int32 → Int32 → Int32 → Int32 → AR → AR → AR → AR → AR → AR → Prop
theorem q_two134 {D : DT} {nf gap far t bent M last second : Nat} {s0 f ended : AR} {pl e : Nat → Nat} {Q : QmT2} (ht : t ≤ 5000) (hl : last < dN D) (h2 : second < dN D) (hf : ∀ k, k < 18 → f k = s0 k) (hpl : ∀ k, k < M → pl k < dN D) (hM : M ≤ 7) (he : ∀ k, k < M → ended k = nI (e k) ∧ e k ≤ 8000) (hb : bent ≤ 8000) :
    ∀ (m x b : Nat) (fs fr : Int32) (s yb tr kn : AR), m ≤ 5 → m ≤ M → x + 1124 * m ≤ 30000 → WM D nf gap far s → Fr s0 s → KnownOk D 7 kn → s 0 = nI t → (∀ k, k < M → s (4 + k) = nI (pl k)) → s (11 + second) = nI b → b ≤ 9 →
      (∀ (fs' fr' : Int32) (yb' tr' kn' : AR), Q (nI (max (fN (fun b o => dL D gap 7 t b second o) e pl m x b) bent + dL D gap 7 t (b - m) second last)) fs' fr' (nI gap) s0 f yb' tr' kn' ended) →
      m_X12_two_L134 (-1) (nI gap) f ended (nI last) (nI second) (nI bent) Q (m + 1) fs fr s yb tr kn (nI x) (nI m - 1) := by
  have hF : FlatC (-1) 7 := Or.inl ⟨rfl, rfl⟩
  intro m
  induction m with
  | zero =>
    intro x b fs fr s yb tr kn _ _ hx hW hFr hK h0 hp hb2 hb9 hQ
    unfold m_X12_two_L134
    refine ⟨fun _ => q_later (by omega) (by omega) (q_leapOf hW h0 hb2 hb9 ht hF hW.1.2.2.2.2 hK h2 hl (fun fs' fr' yb' tr' kn' _ x27 e27 => q_goesBack (fun s2 b1 b2 => ?_))), fun c => absurd (by decide) c⟩
    rw [nI_add] at e27
    subst e27
    rw [s_back hf b1 (fun k hk => (b2 k hk).trans (hFr k hk))]
    exact hQ _ _ _ _ _
  | succ m ih =>
    intro x b fs fr s yb tr kn hm hmM hx hW hFr hK h0 hp hb2 hb9 hQ
    have hN := hW.1.1.1
    have hem := he m (by omega)
    have hpm := hpl m (by omega)
    have e4 : ((4 : Int32) + nI m).toNatClampNeg = 4 + m := ixc rfl (by omega)
    unfold m_X12_two_L134
    rw [m1_pred, nI_clamp (by omega), e4, hem.1, hp m (by omega)]
    refine ⟨fun c => absurd c (nI_pos (by omega)), fun _ => ⟨vp_in_nI (by omega) (by decide), q_later (by omega) (by omega) ⟨vpc (k := 4) rfl (by omega) (by decide), q_leapOf hW h0 hb2 hb9 ht hF hW.1.2.2.2.2 hK h2 hpm (fun fs' fr' yb' tr' kn' hK' x40 e40 => ?_)⟩⟩⟩
    refine q_breathDown (by omega) hb2 hb9 (fun s2 g1 g2 x44 e44 => ?_)
    rw [nI_add] at e40
    rw [add_m1] at e44
    subst e40
    subst e44
    have fr2 : Fr s s2 := fun j hj => g2 j (by omega)
    have hle := dL_le (fl := 7) (t := t) (b := b) (p := second) (o := pl m) hW.1 h2 hpm
    refine ih _ (b - 1) fs' fr' s2 yb' tr' kn' (by omega) (by omega) ?_ (WM_fr hW fr2) (fun j hj => (fr2 j hj).trans (hFr j hj)) hK' (by rw [g2 0 (by omega)]; exact h0) (fun k hk => by rw [g2 _ (by omega)]; exact hp k hk) g1 (by omega) (fun fs2 fr2 yb2 tr2 kn2 => ?_)
    · have : max x (e m) ≤ x ∨ max x (e m) ≤ 8000 := by omega
      omega
    · have := hQ fs2 fr2 yb2 tr2 kn2
      rw [fN_succ, show b - (m + 1) = b - 1 - m from by omega] at this
      exact this
theorem q_two58 {D : DT} {nf gap far t T one : Nat} {s0 f : AR} {pl : Nat → Nat} {v1 v3 : Int32} {Q : QmT2} (ht : t ≤ 5000) (h1 : one < dN D) (hpl : ∀ k, k < T → pl k < dN D) (hT : T ≤ 6) :
    ∀ (m x b : Nat) (fs fr : Int32) (s yb tr kn en : AR) (e : Nat → Nat), m ≤ T → WM D nf gap far s → Fr s0 s → KnownOk D 7 kn → s 0 = nI t → (∀ k, k < T → s (4 + k) = nI (pl k)) → s (11 + one) = nI b → b ≤ 9 → (∀ k, m ≤ k → k < T → en k = nI (e k)) →
      (∀ (fs' fr' : Int32) (s' yb' tr' kn' en' : AR), WM D nf gap far s' → Fr s0 s' → KnownOk D 7 kn' → (∀ j, j ≠ 11 + one → s' j = s j) → (∀ k, k < T → en' k = nI (eN (fun b o => dL D gap 7 t b one o) pl m x b e k)) →
        ((v1 ≤ (1 : Int32) → vp_in (v1 - (1 : Int32)) 7 ∧ m_X12_two_L127 (-1) fs' fr' (nI gap) s' f yb' tr' kn' en' v1 (nI one) v3 (nI (x + tookF (fun b o => dL D gap 7 t b one o) pl m b)) (en' (v1 - (1 : Int32)).toNatClampNeg) Q) ∧ (¬ v1 ≤ (1 : Int32) → vp_in (v1 - (2 : Int32)) 7 ∧ m_X12_two_L127 (-1) fs' fr' (nI gap) s' f yb' tr' kn' en' v1 (nI one) v3 (nI (x + tookF (fun b o => dL D gap 7 t b one o) pl m b)) (en' (v1 - (2 : Int32)).toNatClampNeg) Q))) →
      m_X12_two_L58 (-1) (nI gap) f v1 (nI one) v3 Q (m + 1) fs fr s yb tr kn en (nI x) (nI m - 1) := by
  have hF : FlatC (-1) 7 := Or.inl ⟨rfl, rfl⟩
  intro m
  induction m with
  | zero =>
    intro x b fs fr s yb tr kn en e _ hW hFr hK h0 hp hb hb9 he hQ
    unfold m_X12_two_L58
    exact ⟨fun _ => hQ fs fr s yb tr kn en hW hFr hK (fun _ _ => rfl) (fun k hk => he k (by omega) hk), fun c => absurd (by decide) c⟩
  | succ m ih =>
    intro x b fs fr s yb tr kn en e hm hW hFr hK h0 hp hb hb9 he hQ
    have hN := hW.1.1.1
    have hpm := hpl m (by omega)
    have e4 : ((4 : Int32) + nI m).toNatClampNeg = 4 + m := ixc rfl (by omega)
    unfold m_X12_two_L58
    rw [m1_pred, nI_clamp (by omega), e4, hp m (by omega)]
    refine ⟨fun c => absurd c (nI_pos (by omega)), fun _ => ⟨vpc (k := 4) rfl (by omega) (by decide), q_leapOf hW h0 hb hb9 ht hF hW.1.2.2.2.2 hK h1 hpm (fun fs' fr' yb' tr' kn' hK' x53 e53 => ?_)⟩⟩
    refine q_breathDown (by omega) hb hb9 (fun s2 g1 g2 => ⟨vp_in_nI (by omega) (by decide), fun y57 e57 x58 e58 => ?_⟩)
    rw [nI_add] at e53
    rw [add_m1] at e58
    subst e53
    subst e58
    have fr2 : Fr s s2 := fun j hj => g2 j (by omega)
    refine ih _ (b - 1) fs' fr' s2 yb' tr' kn' y57 (fun k => if k = m then x + dL D gap 7 t b one (pl m) else e k) (by omega) (WM_fr hW fr2) (fun j hj => (fr2 j hj).trans (hFr j hj)) hK' (by rw [g2 0 (by omega)]; exact h0) (fun k hk => by rw [g2 _ (by omega)]; exact hp k hk) g1 (by omega) (fun k k1 k2 => ?_) (fun fs3 fr3 s3 yb3 tr3 kn3 en3 a0 a1 a2 a3 a4 => ?_)
    · show y57 k = nI (if k = m then _ else e k)
      by_cases ek : k = m
      · rw [if_pos ek, e57, ek, pk_us]
      · rw [if_neg ek, e57, pk_un ek]; exact he k (by omega) k2
    · have := hQ fs3 fr3 s3 yb3 tr3 kn3 en3 a0 a1 a2 (fun j hj => (a3 j hj).trans (g2 j hj)) (fun k hk => by rw [a4 k hk, eN_succ])
      rw [tookF_succ, ← Nat.add_assoc] at this
      exact this
theorem q_twoM {D : DT} {nf gap far : Nat} {s fm yb tr kn en : AR} {st : TS} {fs fr g : Int32} {Q : QmT2} (h : NowM D nf gap far s st)
    (hQ : ∀ (fs' fr' g' : Int32) (fm' yb' tr' kn' en' : AR), Q (twoA D gap st) fs' fr' g' s fm' yb' tr' kn' en') : m_X12_two fs fr g (-1) s fm yb tr kn en Q := by
  obtain ⟨hW, hS, hs, ht, hu⟩ := h
  have hN := hs.2.1
  have c3 : (3 : Int32).toNatClampNeg = 3 := rfl
  unfold twoA at hQ
  unfold m_X12_two
  rw [c3, hS.2.2.2.1]
  refine ⟨fun c => q_begins (fl := 7) hW (fun kn1 hK => q_keeps (fun f1 hf1 x9 e9 => ?_)), fun c => ?_⟩
  · have c2 := (nI_leI (a := 2) (b := dN D) (by omega) (by omega)).mp c
    obtain ⟨m, hm⟩ : ∃ m, dN D = m + 2 := ⟨dN D - 2, by omega⟩
    rw [if_neg (by omega), show dN D - 2 = m from by omega] at hQ
    have e9 : x9 = nI (m + 1) := by rw [e9, hm]; exact m1_pred (m + 1)
    subst e9
    have hl := hs.2.2.1 (m + 1) (by omega)
    have h2 := hs.2.2.1 m (by omega)
    have hne : tP st m ≠ tP st (m + 1) := fun z => by have := hs.2.2.2.1 m (m + 1) (by omega) (by omega) z; omega
    have e4 : ((4 : Int32) + nI (m + 1)).toNatClampNeg = 4 + (m + 1) := ixc rfl (by omega)
    have e5' : ((4 : Int32) + nI (m + 1)) - (1 : Int32) = nI (4 + m) := by rw [show (4 : Int32) = nI 4 from rfl, nI_add]; exact m1_pred (4 + m)
    rw [e4, e5', nI_clamp (by omega), hS.2.2.2.2.1 (m + 1) (by omega), hS.2.2.2.2.1 m (by omega)]
    refine ⟨vpc (k := 4) rfl (by omega) (by decide), fun x10 e10 => ⟨vp_in_nI (by omega) (by decide), fun x11 e11 x12 e12 x13 e13 => ⟨m + 1 + 1, ?_⟩⟩⟩
    subst e10
    subst e11
    subst e12
    subst e13
    rw [show (0 : Int32) = nI 0 from rfl]
    have hLle : ∀ b k, k < m + 1 → dL D gap 7 (tT st) b (tP st (m + 1)) (tP st k) ≤ 1124 := fun b k hk => dL_le hW.1 hl (hs.2.2.1 k (by omega))
    have hbent : bentN D gap st m ≤ 8000 := by
      have := tookF_le (L := fun b o => dL D gap 7 (tT st) b (tP st (m + 1)) o) (pl := tP st) (X := 1124) (m + 1) (tB st (tP st (m + 1))) hLle
      unfold bentN
      omega
    have hends : ∀ k, k < m + 1 → endsN D gap st m k ≤ 8000 := eN_le (T := m + 1) (m + 1) 0 _ _ hLle (by omega) (fun k k1 k2 => absurd k2 (by omega))
    refine q_two58 (T := m + 1) (s0 := s) (by omega) hl (fun k hk => hs.2.2.1 k (by omega)) (by omega) (m + 1) 0 (tB st (tP st (m + 1))) fs fr s yb tr kn1 en (fun _ => 0) (by omega) hW (fun _ _ => rfl) hK hS.1 (fun k hk => hS.2.2.2.2.1 k (by omega)) (hS.2.2.2.2.2 _ hl) (hs.2.2.2.2.1 _ hl) (fun k k1 k2 => absurd k2 (by omega)) (fun fs' fr' s' yb' tr' kn' en' a0 a1 a2 a3 a4 => ?_)
    rw [Nat.zero_add]
    have key : m_X12_two_L127 (-1) fs' fr' (nI gap) s' f1 yb' tr' kn' en' (nI (m + 1)) (nI (tP st (m + 1))) (nI (tP st m)) (nI (bentN D gap st m)) (nI (endsN D gap st m (m - 1))) Q := by
      unfold m_X12_two_L127
      intro x16 e16
      have e16 : x16 = nI m - 1 := by
        rw [e16]
        cases m with
        | zero => decide
        | succ m => rw [m1_pred, show (2 : Int32) = nI 2 from rfl, pk_sub (by omega)]; congr 1
      subst e16
      have hq := hends (m - 1) (by omega)
      exact ⟨m + 1, q_two134 (M := m + 1) (e := endsN D gap st m) (by omega) hl h2 hf1 (fun k hk => hs.2.2.1 k (by omega)) (by omega) (fun k hk => ⟨a4 k hk, hends k hk⟩) hbent m (endsN D gap st m (m - 1)) (tB st (tP st m)) fs' fr' s' yb' tr' kn' (by omega) (by omega) (by omega) a0 a1 a2 (by rw [a3 0 (by omega)]; exact hS.1) (fun k hk => by rw [a3 _ (by omega)]; exact hS.2.2.2.2.1 k (by omega)) (by rw [a3 _ (by omega)]; exact hS.2.2.2.2.2 _ h2) (hs.2.2.2.2.1 _ h2) (fun fs2 fr2 yb2 tr2 kn2 => hQ _ _ _ _ _ _ _ _)⟩
    refine ⟨fun z => ?_, fun z => ?_⟩
    · have z0 := (nI_leI (a := m + 1) (b := 1) (by omega) (by omega)).mp z
      rw [m1_pred, nI_clamp (by omega), a4 m (by omega)]
      refine ⟨vp_in_nI (by omega) (by decide), ?_⟩
      have : m = m - 1 := by omega
      have e : endsN D gap st m m = endsN D gap st m (m - 1) := congrArg _ this
      show m_X12_two_L127 (-1) fs' fr' (nI gap) s' f1 yb' tr' kn' en' (nI (m + 1)) (nI (tP st (m + 1))) (nI (tP st m)) (nI (bentN D gap st m)) (nI (endsN D gap st m m)) Q
      rw [e]
      exact key
    · have z0 : ¬ m + 1 ≤ 1 := fun q => z ((nI_leI (a := m + 1) (b := 1) (by omega) (by omega)).mpr q)
      rw [show nI (m + 1) - (2 : Int32) = nI (m - 1) from by rw [show (2 : Int32) = nI 2 from rfl, pk_sub (by omega)]; congr 1, nI_clamp (by omega), a4 (m - 1) (by omega)]
      exact ⟨vp_in_nI (by omega) (by decide), key⟩
  · have c2 : dN D < 2 := by
      rcases Nat.lt_or_ge (dN D) 2 with z | z
      · exact z
      · exact absurd ((nI_leI (a := 2) (b := dN D) (by omega) (by omega)).mpr z) c
    rw [if_pos c2] at hQ
    exact hQ _ _ _ _ _ _ _ _
