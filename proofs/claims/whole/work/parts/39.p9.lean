/-! PURE: the reference's turn, whole; what it keeps and brings back -/
theorem tookF_succ {L : Nat → Nat → Nat} {pl : Nat → Nat} {m b : Nat} : tookF L pl (m + 1) b = L b (pl m) + tookF L pl m (b - 1) := rfl
theorem cntN_succ {pl : Nat → Nat} {m p : Nat} : cntN pl (m + 1) p = (if pl m = p then 1 else 0) + cntN pl m p := rfl
theorem q_goes25 {D : DT} {nf gap0 gap far fl M one t y tm : Nat} {pl : Nat → Nat} {giver : Int32} {Q : Int32 → Int32 → Int32 → (Nat → Int32) → (Nat → Int32) → (Nat → Int32) → (Nat → Int32) → Prop} (hM : M ≤ dN D) (hone : one < dN D) (ht : t ≤ 5000) (hF : FlatC giver fl) (hg : gap ≤ 99) (hpl : ∀ k, k < M → pl k < dN D) (hne : ∀ k, k + 1 < M → pl k ≠ one) :
    ∀ (m x b : Nat) (B : Nat → Nat) (s yb tr kn : Nat → Int32) (fs fr : Int32), m < M → WM D nf gap0 far s → KnownOk D fl kn → s 0 = nI t → s 1 = nI y → s 2 = nI tm → s 3 = nI M → (∀ k, k ≤ m → s (4 + k) = nI (pl k)) → (∀ k, m < k → k < M → s (4 + k) = nI (pl (k - 1))) → s (11 + one) = nI b → b ≤ 9 → (∀ p, p < dN D → p ≠ one → s (11 + p) = nI (B p)) → (∀ p, p < dN D → B p ≤ 9) →
      (∀ (fs' fr' : Int32) (s' yb' tr' kn' : Nat → Int32), KnownOk D fl kn' → Fr s s' → s' 0 = nI (t + 1) → s' 1 = nI (y + gap) → s' 2 = nI (tm + (x + tookF (fun b o => dL D gap fl t b one o) pl m b)) → s' 3 = nI M → s' 4 = nI one → (∀ k, 0 < k → k < M → s' (4 + k) = nI (pl (k - 1))) → s' (11 + one) = nI (b - m) → (∀ p, p < dN D → p ≠ one → s' (11 + p) = nI (min 9 (B p + cntN pl m p))) → Q (nI (x + tookF (fun b o => dL D gap fl t b one o) pl m b)) fs' fr' s' yb' tr' kn') →
      m_X12_goes_L25 (nI gap) giver (nI one) Q (m + 1) fs fr s yb tr kn (nI x) (nI m - 1) := by
  intro m
  induction m with
  | zero =>
    intro x b B s yb tr kn fs fr hm hW hK h0 h1 h2 h3 hp1 hp2 hb hb9 hB hB9 hQ
    have hN := hW.1.1.1
    unfold m_X12_goes_L25
    refine ⟨fun _ y6 e6 y7 e7 y8 e8 y9 e9 => ?_, fun c => absurd (by decide) c⟩
    have c0 : (0 : Int32).toNatClampNeg = 0 := rfl
    have c1 : (1 : Int32).toNatClampNeg = 1 := rfl
    have c2 : (2 : Int32).toNatClampNeg = 2 := rfl
    have c4 : (4 : Int32).toNatClampNeg = 4 := rfl
    rw [c4] at e6
    rw [c2] at e7
    rw [c1] at e8
    rw [c0] at e9
    have g : ∀ j, j = 3 ∨ 4 < j → y9 j = s j := fun j hj => by rw [e9, pk_un (by omega), e8, pk_un (by omega), e7, pk_un (by omega), e6, pk_un (by omega)]
    have g4 : y9 4 = nI one := by rw [e9, pk_un (by omega), e8, pk_un (by omega), e7, pk_un (by omega), e6, pk_us]
    have g2 : y9 2 = nI (tm + x) := by rw [e9, pk_un (by omega), e8, pk_un (by omega), e7, pk_us, e6, pk_un (by omega), h2, nI_add]
    have g1 : y9 1 = nI (y + gap) := by rw [e9, pk_un (by omega), e8, pk_us, e7, pk_un (by omega), e6, pk_un (by omega), h1, nI_add]
    have g0 : y9 0 = nI (t + 1) := by rw [e9, pk_us, e8, pk_un (by omega), e7, pk_un (by omega), e6, pk_un (by omega), h0, nI_1]
    refine hQ fs fr y9 yb tr kn hK (fun j hj => g j (by omega)) g0 g1 g2 ((g 3 (by omega)).trans h3) g4 (fun k k0 kM => ?_) ?_ (fun p hp hpo => ?_)
    · rw [g _ (by omega)]; exact hp2 k k0 kM
    · rw [g _ (by omega)]; exact hb
    · rw [g _ (by omega), hB p hp hpo]
      have := hB9 p hp
      congr 1
      show B p = min 9 (B p + 0)
      omega
  | succ m ih =>
    intro x b B s yb tr kn fs fr hm hW hK h0 h1 h2 h3 hp1 hp2 hb hb9 hB hB9 hQ
    have hN := hW.1.1.1
    unfold m_X12_goes_L25
    rw [m1_pred]
    have e4 : ((4 : Int32) + nI m).toNatClampNeg = 4 + m := ixc rfl (by omega)
    have v4 : vp_in ((4 : Int32) + nI m) 903 := vpc (k := 4) rfl (by omega) (by decide)
    have e5' : ((4 : Int32) + nI m) + (1 : Int32) = nI (5 + m) := by rw [show (4 : Int32) = nI 4 from rfl, nI_add, nI_1]; congr 1; omega
    have e5 : (((4 : Int32) + nI m) + (1 : Int32)).toNatClampNeg = 5 + m := by rw [e5', nI_clamp (by omega)]
    have v5 : vp_in (((4 : Int32) + nI m) + (1 : Int32)) 903 := by rw [e5']; exact vp_in_nI (by omega) (by decide)
    have hpm := hpl m (by omega)
    have hnm := hne m (by omega)
    refine ⟨fun c => absurd c (nI_pos (by omega)), fun _ => ⟨v4, ?_⟩⟩
    rw [e5, e4, hp1 m (by omega)]
    refine q_leapOf hW h0 hb hb9 ht hF hg hK hone hpm (fun fs' fr' yb' tr' kn' hK' x17 e17 => ?_)
    refine q_breathDown (by omega) hb hb9 (fun s1 a1 a2 => ⟨v4, ?_⟩)
    rw [a2 (4 + m) (by omega), hp1 m (by omega)]
    refine q_breathUp (b := B (pl m)) (by omega) (by rw [a2 _ (by omega)]; exact hB _ hpm hnm) (hB9 _ hpm) (fun s2 b1 b2 => ⟨v4, v5, fun y24 e24 x25 e25 => ?_⟩)
    rw [nI_add] at e17
    rw [add_m1] at e25
    rw [b2 (4 + m) (by omega), a2 (4 + m) (by omega), hp1 m (by omega)] at e24
    subst e17
    subst e25
    have hy : ∀ j, j ≠ 5 + m → j ≠ 11 + pl m → j ≠ 11 + one → y24 j = s j := fun j j1 j2 j3 => by rw [e24, pk_un j1, b2 j j2, a2 j j3]
    have fr24 : Fr s y24 := fun j hj => hy j (by omega) (by omega) (by omega)
    have eT : x + tookF (fun b o => dL D gap fl t b one o) pl (m + 1) b = (x + dL D gap fl t b one (pl m)) + tookF (fun b o => dL D gap fl t b one o) pl m (b - 1) := by rw [tookF_succ, Nat.add_assoc]
    rw [eT] at hQ
    refine ih (x + dL D gap fl t b one (pl m)) (b - 1) (fun p => if p = pl m then min 9 (B p + 1) else B p) y24 yb' tr' kn' fs' fr' (by omega) (WM_fr hW fr24) hK' ?_ ?_ ?_ ?_ (fun k hk => ?_) (fun k k1 k2 => ?_) ?_ (by omega) (fun p hp hpo => ?_) (fun p hp => ?_) (fun fs2 fr2 s3 yb3 tr3 kn3 k1 k2 k3 k4 k5 k6 k7 k8 k9 k10 => hQ fs2 fr2 s3 yb3 tr3 kn3 k1 (fun j hj => (k2 j hj).trans (fr24 j hj)) k3 k4 k5 k6 k7 k8 ?_ (fun p hp hpo => ?_))
    · rw [hy 0 (by omega) (by omega) (by omega)]; exact h0
    · rw [hy 1 (by omega) (by omega) (by omega)]; exact h1
    · rw [hy 2 (by omega) (by omega) (by omega)]; exact h2
    · rw [hy 3 (by omega) (by omega) (by omega)]; exact h3
    · rw [hy _ (by omega) (by omega) (by omega)]; exact hp1 k (by omega)
    · by_cases e : k = m + 1
      · rw [e, show 4 + (m + 1) = 5 + m from by omega, e24, pk_us]; rfl
      · rw [hy _ (by omega) (by omega) (by omega)]; exact hp2 k (by omega) k2
    · rw [e24, pk_un (by omega), b2 _ (by omega), a1]
    · show y24 (11 + p) = nI (if p = pl m then min 9 (B p + 1) else B p)
      by_cases e : p = pl m
      · rw [if_pos e, e, e24, pk_un (by omega), b1]
      · rw [if_neg e, hy _ (by omega) (by omega) (by omega)]; exact hB p hp hpo
    · show (if p = pl m then min 9 (B p + 1) else B p) ≤ 9
      have := hB9 p hp
      split <;> omega
    · rw [k9]; congr 1; omega
    · rw [k10 p hp hpo, cntN_succ]
      have := hB9 p hp
      congr 1
      show min 9 ((if p = pl m then min 9 (B p + 1) else B p) + cntN pl m p) = _
      by_cases e : pl m = p
      · rw [if_pos e, if_pos e.symm]; omega
      · rw [if_neg e, if_neg (fun z => e z.symm)]; omega
theorem q_goesM {D : DT} {nf gap0 gap far fl M : Nat} {s yb tr kn : Nat → Int32} {st : TS} {fs fr giver : Int32} {Q : Int32 → Int32 → Int32 → (Nat → Int32) → (Nat → Int32) → (Nat → Int32) → (Nat → Int32) → Prop} (h : WM D nf gap0 far s) (hS : StM (dN D) M s st) (hs : TSok (dN D) M st) (hM0 : 0 < M) (ht : tT st ≤ 5000) (hF : FlatC giver fl) (hg : gap ≤ 99) (hK : KnownOk D fl kn)
    (hQ : ∀ (fs' fr' : Int32) (s' yb' tr' kn' : Nat → Int32), KnownOk D fl kn' → WM D nf gap0 far s' → Fr s s' → StM (dN D) M s' (turnN D gap fl M st) → Q (nI (tookN D gap fl M st)) fs' fr' s' yb' tr' kn') : m_X12_goes fs fr (nI gap) giver s yb tr kn Q := by
  obtain ⟨h0, h1, h2, h3, hp, hb⟩ := hS
  obtain ⟨hM, hN, hpl, hinj, hb9, hy, htm⟩ := hs
  obtain ⟨m, rfl⟩ : ∃ m, M = m + 1 := ⟨M - 1, by omega⟩
  have c3 : (3 : Int32).toNatClampNeg = 3 := rfl
  have e4 : ((4 : Int32) + nI m).toNatClampNeg = 4 + m := ixc rfl (by omega)
  have v4 : vp_in ((4 : Int32) + nI m) 903 := vpc (k := 4) rfl (by omega) (by decide)
  unfold m_X12_goes
  rw [c3, h3, m1_pred]
  intro x1 e1
  subst e1
  rw [e4, hp m (by omega)]
  refine ⟨v4, fun x2 e2 x3 e3 x4 e4' => ⟨m + 1, ?_⟩⟩
  subst e2
  subst e3
  subst e4'
  have hone := hpl m (by omega)
  rw [show (0 : Int32) = nI 0 from rfl]
  have eo : tookN D gap fl (m + 1) st = 0 + tookF (fun b o => dL D gap fl (tT st) b (tP st m) o) (tP st) m (tB st (tP st m)) := by
    unfold tookN
    rw [if_neg (by omega), Nat.zero_add]
    rfl
  rw [eo] at hQ
  refine q_goes25 (pl := tP st) (one := tP st m) (t := tT st) hM hone ht hF hg hpl (fun k hk e => by have := hinj k m (by omega) (by omega) e; omega) m 0 (tB st (tP st m)) (tB st) s yb tr kn fs fr (by omega) h hK h0 h1 h2 h3 (fun k hk => hp k (by omega)) (fun k k1 k2 => absurd k2 (by omega)) (hb _ hone) (hb9 _ hone) (fun p hp' _ => hb p hp') hb9 (fun fs' fr' s' yb' tr' kn' g1 g2 g3 g4 g5 g6 g7 g8 g9 g10 => hQ fs' fr' s' yb' tr' kn' g1 (WM_fr h g2) g2 ?_)
  unfold turnN
  rw [if_neg (by omega), eo]
  refine ⟨g3, g4, g5, g6, fun k hk => ?_, fun p hp' => ?_⟩
  · show s' (4 + k) = nI (nxPl (m + 1) (tP st) k)
    unfold nxPl
    split
    · rename_i e; rw [e]; exact g7
    · exact g8 k (by omega) hk
  · show s' (11 + p) = nI (nxBr (m + 1) (tP st) (tB st) p)
    unfold nxBr
    rw [Nat.add_sub_cancel]
    split
    · rename_i e; rw [e]; exact g9
    · rename_i e; exact g10 p hp' e
theorem q_keepsL {s : Nat → Int32} {Q : (Nat → Int32) → Prop} : ∀ (d i : Nat) (f : Nat → Int32), i + d = 18 → (∀ k, k < i → f k = s k) → (∀ f' : Nat → Int32, (∀ k, k < 18 → f' k = s k) → Q f') → m_X12_keeps_L2 s Q (d + 1) f (nI i) := by
  intro d
  induction d with
  | zero =>
    intro i f hi hf hQ
    unfold m_X12_keeps_L2
    exact ⟨fun _ => hQ f (fun k hk => hf k (by omega)), fun c => absurd ((nI_leI (a := 18) (b := i) (by omega) (by omega)).mpr (by omega)) c⟩
  | succ d ih =>
    intro i f hi hf hQ
    unfold m_X12_keeps_L2
    rw [nI_clamp (by omega)]
    refine ⟨fun c => absurd ((nI_leI (a := 18) (b := i) (by omega) (by omega)).mp c) (by omega), fun _ => ⟨vp_in_nI (by omega) (by decide), vp_in_nI (by omega) (by decide), fun y e x ex => ?_⟩⟩
    rw [nI_1] at ex
    subst ex
    refine ih (i + 1) y (by omega) (fun k hk => ?_) hQ
    by_cases ek : k = i
    · rw [e, ek, pk_us]
    · rw [e, pk_un ek]; exact hf k (by omega)
theorem q_keeps {s f : Nat → Int32} {Q : (Nat → Int32) → Prop} (hQ : ∀ f' : Nat → Int32, (∀ k, k < 18 → f' k = s k) → Q f') : m_X12_keeps s f Q := by
  intro x e
  subst e
  exact ⟨19, q_keepsL 18 0 f rfl (fun k hk => absurd hk (by omega)) hQ⟩
theorem q_backL {f : Nat → Int32} {s0 : Nat → Int32} {Q : (Nat → Int32) → Prop} : ∀ (d i : Nat) (s : Nat → Int32), i + d = 18 → (∀ k, k < i → s k = f k) → (∀ k, 18 ≤ k → s k = s0 k) → (∀ s' : Nat → Int32, (∀ k, k < 18 → s' k = f k) → (∀ k, 18 ≤ k → s' k = s0 k) → Q s') → m_X12_goesBack_L2 f Q (d + 1) s (nI i) := by
  intro d
  induction d with
  | zero =>
    intro i s hi hf hs hQ
    unfold m_X12_goesBack_L2
    exact ⟨fun _ => hQ s (fun k hk => hf k (by omega)) hs, fun c => absurd ((nI_leI (a := 18) (b := i) (by omega) (by omega)).mpr (by omega)) c⟩
  | succ d ih =>
    intro i s hi hf hs hQ
    unfold m_X12_goesBack_L2
    rw [nI_clamp (by omega)]
    refine ⟨fun c => absurd ((nI_leI (a := 18) (b := i) (by omega) (by omega)).mp c) (by omega), fun _ => ⟨vp_in_nI (by omega) (by decide), vp_in_nI (by omega) (by decide), fun y e x ex => ?_⟩⟩
    rw [nI_1] at ex
    subst ex
    refine ih (i + 1) y (by omega) (fun k hk => ?_) (fun k hk => ?_) hQ
    · by_cases ek : k = i
      · rw [e, ek, pk_us]
      · rw [e, pk_un ek]; exact hf k (by omega)
    · rw [e, pk_un (by omega)]; exact hs k hk
theorem q_goesBack {s f : Nat → Int32} {Q : (Nat → Int32) → Prop} (hQ : ∀ s' : Nat → Int32, (∀ k, k < 18 → s' k = f k) → (∀ k, 18 ≤ k → s' k = s k) → Q s') : m_X12_goesBack s f Q := by
  intro x e
  subst e
  exact ⟨19, q_backL 18 0 s rfl (fun k hk => absurd hk (by omega)) (fun _ _ => rfl) hQ⟩
theorem q_beginsL {g : Int32} {Q : Int32 → (Nat → Int32) → Prop} : ∀ (d i : Nat) (f : Nat → Int32), i + d = 1470 → (∀ k, k < i → f k = -1) → (∀ f' : Nat → Int32, (∀ k, k < 1470 → f' k = -1) → Q g f') → m_X12_begins_L14 g Q (d + 1) f (nI i) := by
  intro d
  induction d with
  | zero =>
    intro i f hi hf hQ
    unfold m_X12_begins_L14
    exact ⟨fun _ => hQ f (fun k hk => hf k (by omega)), fun c => absurd ((nI_leI (a := 1470) (b := i) (by omega) (by omega)).mpr (by omega)) c⟩
  | succ d ih =>
    intro i f hi hf hQ
    unfold m_X12_begins_L14
    rw [nI_clamp (by omega)]
    refine ⟨fun c => absurd ((nI_leI (a := 1470) (b := i) (by omega) (by omega)).mp c) (by omega), fun _ => ⟨vp_in_nI (by omega) (by decide), fun y e x ex => ?_⟩⟩
    rw [nI_1] at ex
    subst ex
    refine ih (i + 1) y (by omega) (fun k hk => ?_) hQ
    by_cases ek : k = i
    · rw [e, ek, pk_us]
    · rw [e, pk_un ek]; exact hf k (by omega)
theorem q_begins {D : DT} {nf gap far fl : Nat} {g : Int32} {s kn : Nat → Int32} {Q : Int32 → (Nat → Int32) → Prop} (h : WM D nf gap far s) (hQ : ∀ kn' : Nat → Int32, KnownOk D fl kn' → Q (nI gap) kn') : m_X12_begins g s kn Q := by
  unfold m_X12_begins
  refine q_tellsOf h (fun x e => ⟨1471, ?_⟩)
  subst e
  refine q_beginsL 1470 0 kn rfl (fun k hk => absurd hk (by omega)) (fun f' hf => hQ f' (fun p o b r h1 h2 h3 h4 => Or.inl (hf _ ?_)))
  have := h.1.1.1
  unfold keyN
  omega
