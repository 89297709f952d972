/-! PURE: reading a field: words, clauses -/
theorem mm_ex {n p i : Nat} {t : AR} : ∀ M, ∃ j, j ≤ M ∧ (∀ k, k < j → hT n t (p + k) = sCh i k) ∧ (j < M → ¬ hT n t (p + j) = sCh i j) := by
  intro M
  induction M with
  | zero => exact ⟨0, by omega, fun k hk => absurd hk (by omega), fun h => absurd h (by omega)⟩
  | succ M ih =>
    obtain ⟨j, h1, h2, h3⟩ := ih
    by_cases c : j < M
    · exact ⟨j, by omega, h2, fun _ => h3 c⟩
    · have ej : j = M := by omega
      by_cases d : hT n t (p + M) = sCh i M
      · refine ⟨M + 1, by omega, fun k hk => ?_, fun h => absurd h (by omega)⟩
        by_cases ek : k = M
        · rw [ek]; exact d
        · exact h2 k (by omega)
      · exact ⟨M, by omega, by rw [← ej]; exact h2, fun _ => d⟩
theorem q_takeAll {n p i m j : Nat} {t : AR} {Q : Int32 → Int32 → Prop} (hn : n ≤ 100) (hp : p ≤ n) (hi : i < 10) (hm : sLen i = m) (hm9 : m ≤ 9) (hj : j ≤ m) (hmt : ∀ k, k < j → hT n t (p + k) = sCh i k) (h1 : j = m → Q 1 (nI (p + m))) (h0 : j < m → ¬ hT n t (p + j) = sCh i j) (h0' : j < m → Q 0 (nI (p + j))) : m_X1_takeAll (nI p) (nI n) t i Q := by
  have L : ∀ (d k : Nat), k + d = j → m_X1_takeAll_L2 (nI n) t i Q (d + 1) (nI (p + k)) (nI k) := by
    intro d
    induction d with
    | zero =>
      intro k hk
      have hk : k = j := by omega
      subst hk
      unfold m_X1_takeAll_L2
      rw [hm, nI_clamp (by omega)]
      refine ⟨hi, fun c => ?_, fun c => ⟨hi, ?_⟩⟩
      · have := (nI_leI (by omega) (by omega)).mp c
        have e : k = m := by omega
        rw [e]
        exact h1 e
      · have hlt : k < m := by
          rcases Nat.lt_or_ge k m with z | z
          · exact z
          · exact absurd ((nI_leI (by omega) (by omega)).mpr z) c
        exact ⟨vp_in_nI hlt (by omega), q_take hn (by omega) (fun z => absurd z (h0 hlt)) (fun _ => ⟨fun _ => h0' hlt, fun z => absurd rfl z⟩)⟩
    | succ d ih =>
      intro k hk
      unfold m_X1_takeAll_L2
      rw [hm, nI_clamp (by omega)]
      refine ⟨hi, fun c => absurd ((nI_leI (by omega) (by omega)).mp c) (by omega), fun c => ⟨hi, vp_in_nI (by omega) (by omega), q_take hn (by omega) (fun _ => ⟨fun z => absurd z (by decide), fun _ x ex => ?_⟩) (fun z => absurd (hmt k (by omega)) z)⟩⟩
      rw [nI_1] at ex
      subst ex
      exact ih (k + 1) (by omega)
  intro x e
  subst e
  exact ⟨j + 1, L j 0 (by omega)⟩
theorem spells1 {n p i m : Nat} {s : AR} {Q : Int32 → Int32 → Prop} (hi : i < 10) (hm : sLen i = m) (hm9 : m ≤ 9) (h : Q (nI p) 1) : ∀ (d k : Nat), k + d = m → m_X12_spells_L2 (nI n) s i Q (d + 1) (nI p) 1 (nI k) := by
  intro d
  induction d with
  | zero =>
    intro k hk
    unfold m_X12_spells_L2
    rw [hm]
    exact ⟨hi, fun _ => h, fun c => absurd ((nI_leI (by omega) (by omega)).mpr (by omega)) c⟩
  | succ d ih =>
    intro k hk
    unfold m_X12_spells_L2
    rw [hm]
    refine ⟨hi, fun c => absurd ((nI_leI (by omega) (by omega)).mp c) (by omega), fun _ => ⟨hi, vp_in_nI (by omega) (by omega), q_must1 (fun x ex => ?_)⟩⟩
    rw [nI_1] at ex
    subst ex
    exact ih (k + 1) (by omega)
theorem q_spells {n p i m j : Nat} {t s : AR} {Q : Int32 → Int32 → Prop} (hn : n ≤ 100) (hp : p ≤ n) (hi : i < 10) (hm : sLen i = m) (hm9 : m ≤ 9) (hs : ∀ j, j < n → s (88 + j) = t j) (hj : j ≤ m) (hmt : ∀ k, k < j → hT n t (p + k) = sCh i k) (h1 : j = m → Q (nI (p + m)) 0) (h0 : j < m → ¬ hT n t (p + j) = sCh i j) (h0' : j < m → Q (nI (p + j)) 1) : m_X12_spells (nI p) (nI n) 0 s i Q := by
  have L : ∀ (d k : Nat), k + d = m → k ≤ j → m_X12_spells_L2 (nI n) s i Q (d + 1) (nI (p + k)) 0 (nI k) := by
    intro d
    induction d with
    | zero =>
      intro k hk hkj
      have hk : k = m := by omega
      unfold m_X12_spells_L2
      rw [hm, hk]
      exact ⟨hi, fun _ => h1 (by omega), fun c => absurd ((nI_leI (by omega) (by omega)).mpr (by omega)) c⟩
    | succ d ih =>
      intro k hk hkj
      unfold m_X12_spells_L2
      rw [hm, nI_clamp (by omega)]
      refine ⟨hi, fun c => absurd ((nI_leI (by omega) (by omega)).mp c) (by omega), fun c => ⟨hi, vp_in_nI (by omega) (by omega), q_must hn (by omega) hs (fun z x ex => ?_) (fun z x ex => ?_)⟩⟩
      · rw [nI_1] at ex
        subst ex
        refine ih (k + 1) (by omega) ?_
        rcases Nat.lt_or_ge k j with q | q
        · omega
        · have ek : k = j := by omega
          exact absurd (by rw [← ek]; exact z) (h0 (by omega))
      · have ek : k = j := by
          rcases Nat.lt_or_ge k j with q | q
          · exact absurd (hmt k q) z
          · omega
        rw [nI_1] at ex
        subst ex
        rw [ek]
        exact spells1 hi hm hm9 (h0' (by omega)) d (j + 1) (by omega)
  intro x e
  subst e
  exact ⟨m + 1, L m 0 (by omega) (by omega)⟩
theorem word_len : ∀ w, w < 4 → sLen (w + 4) = sLen w + 1 ∧ sLen w ≤ 5 ∧ 3 ≤ sLen w ∧ sCh (w + 4) (sLen w) = 32 ∧ ∀ k, k < 5 → k < sLen w → sCh (w + 4) k = sCh w k := by decide
theorem word_0 : sCh 4 0 = 103 ∧ sCh 5 0 = 121 ∧ sCh 6 0 = 115 ∧ sCh 7 0 = 114 := by decide
def FraW (act : Nat) (s s' : AR) : Prop := ∀ j, j ≠ 188 + act → j ≠ 193 + act → j ≠ 198 + act → ¬ (203 + 140 * act ≤ j ∧ j < 343 + 140 * act) → s' j = s j
theorem FraW_1 {act : Nat} {s s' : AR} (h : Fra1 act s s') : FraW act s s' := fun j _ _ j3 j4 => h j j3 j4
theorem FraW_t {act : Nat} {s s1 s2 : AR} (h1 : FraW act s s1) (h2 : FraW act s1 s2) : FraW act s s2 := fun j a b c d => (h2 j a b c d).trans (h1 j a b c d)
theorem tape_frW {n act : Nat} {t s s' : AR} (hn : n ≤ 100) (h : ∀ j, j < n → s (88 + j) = t j) (hf : FraW act s s') : ∀ j, j < n → s' (88 + j) = t j := fun j hj => (hf (88 + j) (by omega) (by omega) (by omega) (by omega)).trans (h j hj)
def lenC (k : CLp) : Nat := if k.1 < 2 then 0 else k.2.2.length + 1
def ClM (act cc : Nat) (k : CLp) (s s' : AR) : Prop := s' (198 + act) = nI (cc + lenC k) ∧ s' (188 + act) = (if k.1 = 0 then nI k.2.1 else s (188 + act)) ∧ s' (193 + act) = (if k.1 = 1 then nI k.2.1 else s (193 + act)) ∧ (¬ k.1 < 2 → AtL cM s' (203 + 140 * act + cc) k.2.2 ∧ s' (203 + 140 * act + cc + k.2.2.length) = (if k.1 = 2 then -10 - nI k.2.1 else -200 - nI k.2.1)) ∧ (∀ j, 203 + 140 * act ≤ j → j < 203 + 140 * act + cc → s' j = s j) ∧ FraW act s s'
def OutC (n : Nat) (t : AR) (p r p' : Nat) (k : CLp) : Prop := r ≤ 2 ∧ p ≤ p' ∧ p' ≤ n ∧ (r = 1 → p + 4 ≤ p' ∧ lenC k + p ≤ p' ∧ k.2.2.length + p ≤ p' ∧ ClOk k) ∧ (r = 2 → ∃ d, d ≤ 9 ∧ hT n t p' = nI (48 + d))
abbrev QcT : Type := Int32 → Int32 → Int32 → Int32 → Int32 → Int32 → AR → AR → AR → AR → AR → Prop
def ClaC (n : Nat) (t : AR) (p r p' : Nat) (k : CLp) : Prop := ∀ (c sc : Nat) (cl ga fa : Int32) (st wo nu sa en : AR) (Q : QcT), c < 10 → sc ≤ p → (r = 1 → ∀ st' : AR, ClR sc k.2.2 st st' → Q 1 (nI p') (nI (sc + k.2.2.length)) (nI (c + 1)) (if k.1 = 0 then nI k.2.1 else ga) (if k.1 = 1 then nI k.2.1 else fa) st' (upd wo c (nI k.1)) (upd nu c (nI k.2.1)) (upd sa c (nI sc)) (upd en c (nI (sc + k.2.2.length)))) → (r ≠ 1 → ∀ (a1 a2 a3 a4 : Int32) (b1 b2 b3 b4 b5 : AR), Q 0 (nI p') a1 a2 a3 a4 b1 b2 b3 b4 b5) → m_X1_readClause (nI p) (nI sc) cl ga fa st wo nu sa en (nI n) t (nI c) Q
def RefC (n act : Nat) (t : AR) (p r p' : Nat) (k : CLp) : Prop := ∀ (s : AR) (cc : Nat) (Q : QrT), (∀ j, j < n → s (88 + j) = t j) → s (198 + act) = nI cc → cc ≤ p → (r = 1 → ∀ s' : AR, ClM act cc k s s' → Q (nI p') 0 0 s') → (r = 0 → ∀ (s' : AR) (o' : Int32), FraW act s s' → Q (nI p') 1 o' s') → (r = 2 → ∀ (s' : AR), FraW act s s' → Q (nI p') 0 0 s') → m_X12_clauseHere (nI act) (nI p) (nI n) 0 0 s Q
/-- behind the word and its blank, on the class's side -/
theorem cla_word {n p w j : Nat} {t : AR} (hn : n ≤ 100) (hp : p ≤ n) (hw : w < 4) (h0 : hT n t p = sCh (w + 4) 0) (hj : j ≤ sLen w + 1) (hmt : ∀ k, k < j → hT n t (p + k) = sCh (w + 4) k) (hmm : j < sLen w + 1 → ¬ hT n t (p + j) = sCh (w + 4) j) {c sc : Nat} {cl ga fa : Int32} {st wo nu sa en : AR} {Q : QcT}
    (hbad : j < sLen w + 1 → Q 0 (nI (p + j)) (nI sc) cl ga fa st wo nu sa en)
    (hgo : j = sLen w + 1 → m_X1_readNumber (nI (p + j)) (nI n) t (fun r9 z11 => ((r9 = (-1 : Int32) → Q (0 : Int32) z11 (nI sc) cl ga fa st wo nu sa en) ∧ (¬ r9 = (-1 : Int32) → vp_in (nI c) 10 ∧ ∀ y13 : AR, y13 = upd wo (nI c).toNatClampNeg (nI w) → vp_in (nI c) 10 ∧ ∀ y14 : AR, y14 = upd nu (nI c).toNatClampNeg r9 → vp_in (nI c) 10 ∧ ∀ y15 : AR, y15 = upd sa (nI c).toNatClampNeg (nI sc) → ((nI w = (0 : Int32) → m_X1_readClause_L66 (nI n) t (nI c) z11 (nI sc) cl r9 fa st y13 y14 y15 en (nI w) r9 Q) ∧ (¬ nI w = (0 : Int32) → m_X1_readClause_L66 (nI n) t (nI c) z11 (nI sc) cl ga fa st y13 y14 y15 en (nI w) r9 Q)))))) :
    m_X1_readClause (nI p) (nI sc) cl ga fa st wo nu sa en (nI n) t (nI c) Q := by
  obtain ⟨w1, w2, w3, w4, w5⟩ := word_len w hw
  have key : ∀ K : Int32 → Int32 → Prop, (j < sLen w → K 0 (nI (p + j))) → (sLen w ≤ j → K 1 (nI (p + sLen w))) → m_X1_takeAll (nI p) (nI n) t w K := by
    intro K k0 k1
    refine q_takeAll (j := min j (sLen w)) hn hp (by omega) rfl (by omega) (by omega) (fun k hk => ?_) (fun e => k1 (by omega)) (fun e => ?_) (fun e => ?_)
    · rw [hmt k (by omega)]; exact w5 k (by omega) (by omega)
    · rw [show min j (sLen w) = j from by omega]
      intro z
      exact hmm (by omega) (z.trans (w5 j (by omega) (by omega)).symm)
    · rw [show min j (sLen w) = j from by omega]; exact k0 (by omega)
  have rest : ∀ Q' : Int32 → Int32 → Prop, (j = sLen w → Q' 0 (nI (p + j))) → (j = sLen w + 1 → Q' 1 (nI (p + j))) → sLen w ≤ j → p + sLen w ≤ 200 → m_X1_take (nI (p + sLen w)) (nI n) t 32 Q' := by
    intro Q' g0 g1 hle _
    refine q_take hn (by omega) (fun z => ?_) (fun z => ?_)
    · have : j = sLen w + 1 := by
        rcases Nat.lt_or_ge (sLen w) j with q | q
        · omega
        · have e : j = sLen w := by omega
          exact absurd (by rw [e, w4]; exact z) (hmm (by omega))
      have := g1 this
      rw [show p + sLen w + 1 = p + j from by omega]
      exact this
    · have e : j = sLen w := by
        rcases Nat.lt_or_ge (sLen w) j with q | q
        · have := hmt (sLen w) q
          rw [w4] at this
          exact absurd this z
        · omega
      have := g0 e
      rw [← e]; exact this
  have wne : ¬ nI w = -1 := nI_nm1 (by omega)
  have after : ∀ (r3 : Int32) (z5 : Int32), True := fun _ _ => trivial
  have fin : ∀ Q' : Int32 → Int32 → Prop, (j < sLen w → Q' (-1) (nI (p + j))) → (sLen w ≤ j → Q' (nI w) (nI (p + sLen w))) → m_X1_takeAll (nI p) (nI n) t w (fun r3 z5 => ((r3 = 0 → Q' (-1 : Int32) z5) ∧ (¬ r3 = 0 → Q' (nI w) z5))) := fun Q' g0 g1 => key _ (fun h => ⟨fun _ => g0 h, fun z => absurd rfl z⟩) (fun h => ⟨fun z => absurd z (by decide), fun _ => g1 h⟩)
  have wd : ∀ Q' : Int32 → Int32 → Prop, (j < sLen w → Q' (-1) (nI (p + j))) → (sLen w ≤ j → Q' (nI w) (nI (p + sLen w))) → m_X1_readWord (nI p) (nI n) t Q' := by
    intro Q' g0 g1
    unfold m_X1_readWord
    refine q_atT hn (by omega) ?_
    rw [h0]
    have : w = 0 ∨ w = 1 ∨ w = 2 ∨ w = 3 := by omega
    rcases this with rfl | rfl | rfl | rfl
    · exact ⟨fun _ => fin Q' g0 g1, fun c => absurd c (by decide), fun c => absurd c (by decide), fun c => absurd c (by decide), fun c => absurd (by decide) c⟩
    · exact ⟨fun c => absurd c (by decide), fun c => absurd c (by decide), fun c => absurd c (by decide), fun _ => fin Q' g0 g1, fun _ _ _ c => absurd (by decide) c⟩
    · exact ⟨fun c => absurd c (by decide), fun c => absurd c (by decide), fun _ => fin Q' g0 g1, fun c => absurd c (by decide), fun _ _ c => absurd (by decide) c⟩
    · exact ⟨fun c => absurd c (by decide), fun _ => fin Q' g0 g1, fun c => absurd c (by decide), fun c => absurd c (by decide), fun _ c => absurd (by decide) c⟩
  unfold m_X1_readClause
  refine wd _ (fun h => ⟨fun _ => hbad (by omega), fun z => absurd rfl z⟩) (fun h => ⟨fun z => absurd z wne, fun _ => rest _ (fun e => ⟨fun _ => hbad (by omega), fun z => absurd rfl z⟩) (fun e => ⟨fun z => absurd z (by decide), fun _ => hgo e⟩) h (by omega)⟩)
theorem clause_ex {n act p : Nat} {t : AR} (hn : n ≤ 100) (ha : act ≤ 4) (hp : p ≤ n) : ∃ r p' k, OutC n t p r p' k ∧ ClaC n t p r p' k ∧ RefC n act t p r p' k := by
  obtain ⟨wg, wy, ws, wr⟩ := word_0
  by_cases hword : ∃ w, w < 4 ∧ hT n t p = sCh (w + 4) 0
  · obtain ⟨w, hw, h0⟩ := hword
    obtain ⟨w1, w2, w3, w4, w5⟩ := word_len w hw
    obtain ⟨j, hj, hmt, hmm⟩ := mm_ex (n := n) (p := p) (i := w + 4) (t := t) (sLen w + 1)
    have hpj : p + j ≤ n := by
      cases j with
      | zero => omega
      | succ j =>
        have h := hmt j (by omega)
        have : ∀ w, w < 4 → ∀ k, k < 6 → k < sLen w + 1 → ¬ (-1 : Int32) = sCh (w + 4) k := by decide
        have := hT_in h (this w hw j (by omega) (by omega))
        omega
    -- the reference's way to the word
    have refw : ∀ (s : AR) (Q : QrT), (∀ j, j < n → s (88 + j) = t j) →
        ((w = 0 ∨ w = 1) → m_X12_tellsHere (nI act) (nI p) (nI n) 0 s (if w = 0 then 188 else 193) (w + 4) (fun z5 z6 z7 => Q z5 z6 0 z7)) → (¬ (w = 0 ∨ w = 1) → m_X12_much (nI act) (nI p) (nI n) 0 0 s (if w = 2 then -10 else -200) (w + 4) (fun z11 z12 z13 z14 => Q z11 z12 z13 z14)) → m_X12_clauseHere (nI act) (nI p) (nI n) 0 0 s Q := by
      intro s Q hs g1 g2
      unfold m_X12_clauseHere
      refine q_hereT hn (by omega) hs ?_
      rw [h0]
      have : w = 0 ∨ w = 1 ∨ w = 2 ∨ w = 3 := by omega
      rcases this with rfl | rfl | rfl | rfl
      · exact ⟨fun _ => g1 (Or.inl rfl), fun c => absurd c (by decide), fun c => absurd c (by decide), fun c => absurd c (by decide), fun c => absurd (by decide) c⟩
      · exact ⟨fun c => absurd c (by decide), fun c => absurd c (by decide), fun c => absurd c (by decide), fun _ => g1 (Or.inr rfl), fun _ _ _ c => absurd (by decide) c⟩
      · exact ⟨fun c => absurd c (by decide), fun c => absurd c (by decide), fun _ => g2 (by omega), fun c => absurd c (by decide), fun _ _ c => absurd (by decide) c⟩
      · exact ⟨fun c => absurd c (by decide), fun _ => g2 (by omega), fun c => absurd c (by decide), fun c => absurd c (by decide), fun _ c => absurd (by decide) c⟩
    by_cases hjw : j = sLen w + 1
    · obtain ⟨r1, v, p1, hr2, hv, hpp, hpn', hN1, hN2, hcl, href⟩ := num_ex (t := t) hn (show p + j ≤ n from hpj)
      have spl : ∀ (s : AR) (Q' : Int32 → Int32 → Prop), (∀ j, j < n → s (88 + j) = t j) → Q' (nI (p + j)) 0 → m_X12_spells (nI p) (nI n) 0 s (w + 4) Q' := fun s Q' hs q => q_spells (j := j) hn hp (by omega) w1 (by omega) hs hj hmt (fun e => by rw [← e]; exact q) (fun e => absurd e (by omega)) (fun e => absurd e (by omega))
      have vc : ∀ c, c < 10 → vp_in (nI c) 10 := fun c hc => vp_in_nI hc (by decide)
      by_cases hr1 : r1 = 1
      · have hp1 := hN1 hr1
        have vne : ¬ nI v = -1 := nI_nm1 (by omega)
        by_cases hw2 : w = 0 ∨ w = 1
        · -- gap, yards
          refine ⟨1, p1, (w, v, []), ⟨by omega, by omega, hpn', fun _ => ⟨by omega, by unfold lenC; rw [if_pos (show w < 2 by omega)]; omega, by show 0 + p ≤ p1; omega, by show w ≤ 3; omega, hv, fun h => absurd h (by show ¬ 2 ≤ w; omega), fun _ => rfl⟩, fun z => absurd z (by decide)⟩, fun c sc cl ga fa st wo nu sa en Q hc hsc q1 q0 => ?_, fun s cc Q hs hcnt hcc q1 q0 q2 => ?_⟩
          · refine cla_word hn hp hw h0 hj hmt hmm (fun h => absurd h (by omega)) (fun _ => hcl _ (fun _ => ⟨fun z => absurd z vne, fun _ => ⟨vc c hc, fun y13 e13 => ⟨vc c hc, fun y14 e14 => ⟨vc c hc, fun y15 e15 => ?_⟩⟩⟩⟩) (fun z => absurd hr1 z))
            rw [nI_clamp (by omega)] at e13 e14 e15
            subst e13
            subst e14
            subst e15
            have q := q1 rfl st ⟨trivial, fun _ _ => rfl⟩
            unfold m_X1_readClause_L66 m_X1_readClause_L76 m_X1_readClause_L105
            rw [nI_clamp (by omega), nI_1]
            rcases hw2 with rfl | rfl
            · exact ⟨fun _ => ⟨fun z => absurd z (by decide), fun _ => ⟨fun z => absurd z (by decide), fun _ => ⟨fun z => absurd z (by decide), fun _ => ⟨vc c hc, fun y29 e29 => by rw [e29]; exact q⟩⟩⟩⟩, fun z => absurd rfl z⟩
            · exact ⟨fun z => absurd z (by decide), fun _ => ⟨fun _ => ⟨fun z => absurd z (by decide), fun _ => ⟨fun z => absurd z (by decide), fun _ => ⟨vc c hc, fun y29 e29 => by rw [e29]; exact q⟩⟩⟩, fun z => absurd rfl z⟩⟩
          · refine refw s Q hs (fun _ => ?_) (fun z => absurd hw2 z)
            unfold m_X12_tellsHere
            refine spl s _ hs (href s _ hs (fun _ => ⟨fun _ => ?_, fun z => absurd rfl z⟩) (fun z => absurd (hr1.symm.trans z) (by decide)))
            rcases hw2 with rfl | rfl
            · have e1 : ((188 : Int32) + nI act).toNatClampNeg = 188 + act := ixc rfl (by omega)
              rw [if_pos rfl, e1]
              refine ⟨vpc (k := 188) rfl (by omega) (by decide), fun y10 e10 => q1 rfl y10 ?_⟩
              exact ⟨by rw [e10, pk_un (by omega)]; exact hcnt, by rw [e10, pk_us]; rfl, by rw [e10, pk_un (by omega)]; rfl, fun z => absurd (by show 0 < 2; omega) z, fun j j1 j2 => by rw [e10, pk_un (by omega)], fun j j1 _ _ _ => by rw [e10, pk_un j1]⟩
            · have e1 : ((193 : Int32) + nI act).toNatClampNeg = 193 + act := ixc rfl (by omega)
              rw [if_neg (by decide), e1]
              refine ⟨vpc (k := 193) rfl (by omega) (by decide), fun y10 e10 => q1 rfl y10 ?_⟩
              exact ⟨by rw [e10, pk_un (by omega)]; exact hcnt, by rw [e10, pk_un (by omega)]; rfl, by rw [e10, pk_us]; rfl, fun z => absurd (by show 1 < 2; omega) z, fun j j1 j2 => by rw [e10, pk_un (by omega)], fun j _ j2 _ _ => by rw [e10, pk_un j2]⟩
        · -- slow, risk
          have w2' : w = 2 ∨ w = 3 := by omega
          by_cases h32 : hT n t p1 = 32
          · have hlt := hT_in h32 (by decide)
            obtain ⟨r3, p3, l, ⟨o1, o2, o3, o4, o5⟩, hclE, hrefE⟩ := either_ex (t := t) (act := act) hn ha (show p1 + 1 ≤ n by omega)
            -- the reference, to the E
            have refm : ∀ (s : AR) (Q : QrT), (∀ j, j < n → s (88 + j) = t j) → m_X12_some (nI act) (nI (p1 + 1)) (nI n) 0 0 s (fun z15 z16 z17 z18 => m_X12_emits (nI act) z16 z18 ((if w = 2 then -10 else -200) - nI v) (fun z21 => Q z15 z16 z17 z21)) → m_X12_clauseHere (nI act) (nI p) (nI n) 0 0 s Q := by
              intro s Q hs g
              refine refw s Q hs (fun z => absurd z hw2) (fun _ => ?_)
              unfold m_X12_much
              exact spl s _ hs (href s _ hs (fun _ => q_must hn (by omega) hs (fun _ => g) (fun z => absurd h32 z)) (fun z => absurd (hr1.symm.trans z) (by decide)))
            have clam : ∀ (c sc : Nat) (cl ga fa : Int32) (st wo nu sa en : AR) (Q : QcT), c < 10 → m_X1_readEither (nI (p1 + 1)) (nI sc) st (nI n) t 0 (fun r23 z25 z26 z27 => ((r23 = 0 → Q (0 : Int32) z25 z26 cl ga fa z27 (upd wo c (nI w)) (upd nu c (nI v)) (upd sa c (nI sc)) en) ∧ (¬ r23 = 0 → m_X1_readClause_L105 (nI c) z25 z26 cl ga fa z27 (upd wo c (nI w)) (upd nu c (nI v)) (upd sa c (nI sc)) en Q))) → m_X1_readClause (nI p) (nI sc) cl ga fa st wo nu sa en (nI n) t (nI c) Q := by
              intro c sc cl ga fa st wo nu sa en Q hc g
              refine cla_word hn hp hw h0 hj hmt hmm (fun h => absurd h (by omega)) (fun _ => hcl _ (fun _ => ⟨fun z => absurd z vne, fun _ => ⟨vc c hc, fun y13 e13 => ⟨vc c hc, fun y14 e14 => ⟨vc c hc, fun y15 e15 => ?_⟩⟩⟩⟩) (fun z => absurd hr1 z))
              rw [nI_clamp (by omega)] at e13 e14 e15
              subst e13
              subst e14
              subst e15
              have g86 : m_X1_readClause_L86 (nI n) t (nI c) (nI p1) (nI sc) cl ga fa st (upd wo c (nI w)) (upd nu c (nI v)) (upd sa c (nI sc)) en Q := by
                unfold m_X1_readClause_L86
                exact q_take hn (by omega) (fun _ => ⟨fun z => absurd z (by decide), fun _ => g⟩) (fun z => absurd h32 z)
              unfold m_X1_readClause_L66 m_X1_readClause_L76
              rcases w2' with rfl | rfl
              · exact ⟨fun z => absurd z (by decide), fun _ => ⟨fun z => absurd z (by decide), fun _ => ⟨fun _ => g86, fun z => absurd rfl z⟩⟩⟩
              · exact ⟨fun z => absurd z (by decide), fun _ => ⟨fun z => absurd z (by decide), fun _ => ⟨fun z => absurd z (by decide), fun _ => ⟨fun _ => g86, fun z => absurd rfl z⟩⟩⟩⟩
            by_cases hr3 : r3 = 1
            · obtain ⟨x1, x2, x3, x4, x5⟩ := o4 hr3
              have hgood : GoodE l := ⟨x4, by omega, fun w => x5 w []⟩
              refine ⟨1, p3, (w, v, l), ⟨by omega, by omega, o3, fun _ => ⟨by omega, by unfold lenC; rw [if_neg (show ¬ w < 2 by omega)]; show l.length + 1 + p ≤ p3; omega, by show l.length + p ≤ p3; omega, by show w ≤ 3; omega, hv, fun _ => hgood, fun h => absurd h (by show ¬ w < 2; omega)⟩, fun z => absurd z (by decide)⟩, fun c sc cl ga fa st wo nu sa en Q hc hsc q1 q0 => ?_, fun s cc Q hs hcnt hcc q1 q0 q2 => ?_⟩
              · refine clam c sc cl ga fa st wo nu sa en Q hc (hclE st sc _ (by omega) (fun _ st' a b => ⟨fun z => absurd z (by decide), fun _ => ?_⟩) (fun z => absurd hr3 z))
                unfold m_X1_readClause_L105
                rw [nI_clamp (by omega), nI_1]
                refine ⟨vc c hc, fun y29 e29 => ?_⟩
                have q := q1 rfl st' ⟨a, b⟩
                have n0 : ¬ w = 0 := fun z => hw2 (Or.inl z)
                have n1 : ¬ w = 1 := fun z => hw2 (Or.inr z)
                rw [if_neg (show ¬ (w, v, l).1 = 0 from n0), if_neg (show ¬ (w, v, l).1 = 1 from n1)] at q
                rw [e29]
                exact q
              · refine refm s Q hs (hrefE s cc 0 _ hs hcnt (by omega) (fun _ s1 h1 => q_emit ha (by omega) h1.1 (fun s2 a1 a2 a3 => q1 rfl s2 ?_)) (fun z => absurd (hr3.symm.trans z) (by decide)) (fun z => absurd (hr3.symm.trans z) (by decide)))
                have n0 : ¬ w = 0 := fun z => hw2 (Or.inl z)
                have n1 : ¬ w = 1 := fun z => hw2 (Or.inr z)
                have n2 : ¬ w < 2 := by omega
                obtain ⟨b1, b2, b3, b4⟩ := h1
                have hfr : Fra1 act s s2 := Fra1_t b4 (em_fr (c := cc + l.length) a3 (by omega))
                refine ⟨?_, ?_, ?_, fun _ => ⟨AtL_cg l _ b2 (fun j j1 j2 => a3 j (by omega) (by omega)), ?_⟩, fun j j1 j2 => (a3 j (by omega) (by omega)).trans (b3 j j1 j2), FraW_1 hfr⟩
                · unfold lenC
                  rw [if_neg (show ¬ (w, v, l).1 < 2 from n2), a1]
                  rfl
                · rw [if_neg (show ¬ (w, v, l).1 = 0 from n0)]; exact hfr _ (by omega) (by omega)
                · rw [if_neg (show ¬ (w, v, l).1 = 1 from n1)]; exact hfr _ (by omega) (by omega)
                · rw [Nat.add_assoc]
                  show s2 (203 + 140 * act + (cc + l.length)) = (if w = 2 then -10 - nI v else -200 - nI v)
                  rw [a2]
                  split <;> rfl
            · refine ⟨r3, p3, (0, 0, []), ⟨o1, by omega, o3, fun z => absurd z hr3, o5⟩, ?_, ?_⟩
              · intro c sc cl ga fa st wo nu sa en Q hc hsc q1 q0
                exact clam c sc cl ga fa st wo nu sa en Q hc (hclE st sc _ (by omega) (fun z => absurd z hr3) (fun _ c' st' => ⟨fun _ => q0 hr3 _ _ _ _ _ _ _ _ _, fun z => absurd rfl z⟩))
              · intro s cc Q hs hcnt hcc q1 q0 q2
                refine refm s Q hs (hrefE s cc 0 _ hs hcnt (by omega) (fun z => absurd z hr3) (fun z s1 o' hfr => q_emit1 (q0 z s1 o' (FraW_1 hfr))) (fun z s1 hfr hc' => ?_))
                obtain ⟨c', hc1, hc2⟩ := hc'
                exact q_emit ha (by omega) hc1 (fun s2 a1 a2 a3 => q2 z s2 (FraW_1 (Fra1_t hfr (em_fr (c := c') a3 (by omega)))))
          · refine ⟨0, p1, (0, 0, []), ⟨by omega, by omega, hpn', fun z => absurd z (by decide), fun z => absurd z (by decide)⟩, ?_, ?_⟩
            · intro c sc cl ga fa st wo nu sa en Q hc hsc q1 q0
              refine cla_word hn hp hw h0 hj hmt hmm (fun h => absurd h (by omega)) (fun _ => hcl _ (fun _ => ⟨fun z => absurd z vne, fun _ => ⟨vc c hc, fun y13 e13 => ⟨vc c hc, fun y14 e14 => ⟨vc c hc, fun y15 e15 => ?_⟩⟩⟩⟩) (fun z => absurd hr1 z))
              have g86 : m_X1_readClause_L86 (nI n) t (nI c) (nI p1) (nI sc) cl ga fa st y13 y14 y15 en Q := by
                unfold m_X1_readClause_L86
                exact q_take hn (by omega) (fun z => absurd z h32) (fun _ => ⟨fun _ => q0 (by decide) _ _ _ _ _ _ _ _ _, fun z => absurd rfl z⟩)
              unfold m_X1_readClause_L66 m_X1_readClause_L76
              rcases w2' with rfl | rfl
              · exact ⟨fun z => absurd z (by decide), fun _ => ⟨fun z => absurd z (by decide), fun _ => ⟨fun _ => g86, fun z => absurd rfl z⟩⟩⟩
              · exact ⟨fun z => absurd z (by decide), fun _ => ⟨fun z => absurd z (by decide), fun _ => ⟨fun z => absurd z (by decide), fun _ => ⟨fun _ => g86, fun z => absurd rfl z⟩⟩⟩⟩
            · intro s cc Q hs hcnt hcc q1 q0 q2
              refine refw s Q hs (fun z => absurd z hw2) (fun _ => ?_)
              unfold m_X12_much
              exact spl s _ hs (href s _ hs (fun _ => q_must hn (by omega) hs (fun z => absurd z h32) (fun _ => som1 (e := 21) (q_emit1 (q0 rfl s _ (FraW_1 Fra1_r))))) (fun z => absurd (hr1.symm.trans z) (by decide)))
      · -- no number
        have clan : ∀ (c sc : Nat) (cl ga fa : Int32) (st wo nu sa en : AR) (Q : QcT), (∀ (a1 a2 a3 a4 : Int32) (b1 b2 b3 b4 b5 : AR), Q 0 (nI p1) a1 a2 a3 a4 b1 b2 b3 b4 b5) → m_X1_readClause (nI p) (nI sc) cl ga fa st wo nu sa en (nI n) t (nI c) Q := fun c sc cl ga fa st wo nu sa en Q q0 => cla_word hn hp hw h0 hj hmt hmm (fun h => absurd h (by omega)) (fun _ => hcl _ (fun z => absurd z hr1) (fun _ => ⟨fun _ => q0 _ _ _ _ _ _ _ _ _, fun z => absurd rfl z⟩))
        by_cases hsoft : r1 = 2 ∧ (w = 0 ∨ w = 1)
        · obtain ⟨hr2', hw2⟩ := hsoft
          refine ⟨2, p1, (0, 0, []), ⟨by omega, by omega, hpn', fun z => absurd z (by decide), fun _ => (hN2 hr2').2.2⟩, fun c sc cl ga fa st wo nu sa en Q hc hsc q1 q0 => clan c sc cl ga fa st wo nu sa en Q (q0 (by decide)), fun s cc Q hs hcnt hcc q1 q0 q2 => ?_⟩
          refine refw s Q hs (fun _ => ?_) (fun z => absurd hw2 z)
          unfold m_X12_tellsHere
          refine spl s _ hs (href s _ hs (fun _ => ⟨fun _ => ?_, fun z => absurd rfl z⟩) (fun z => absurd (hr2'.symm.trans z) (by decide)))
          rcases hw2 with rfl | rfl
          · have e1 : ((188 : Int32) + nI act).toNatClampNeg = 188 + act := ixc rfl (by omega)
            rw [if_pos rfl, e1]
            exact ⟨vpc (k := 188) rfl (by omega) (by decide), fun y10 e10 => q2 rfl y10 (fun j j1 _ _ _ => by rw [e10, pk_un j1])⟩
          · have e1 : ((193 : Int32) + nI act).toNatClampNeg = 193 + act := ixc rfl (by omega)
            rw [if_neg (by decide), e1]
            exact ⟨vpc (k := 193) rfl (by omega) (by decide), fun y10 e10 => q2 rfl y10 (fun j _ j2 _ _ => by rw [e10, pk_un j2])⟩
        · refine ⟨0, p1, (0, 0, []), ⟨by omega, by omega, hpn', fun z => absurd z (by decide), fun z => absurd z (by decide)⟩, fun c sc cl ga fa st wo nu sa en Q hc hsc q1 q0 => clan c sc cl ga fa st wo nu sa en Q (q0 (by decide)), fun s cc Q hs hcnt hcc q1 q0 q2 => ?_⟩
          have hq := q0 rfl s 0 (FraW_1 Fra1_r)
          refine refw s Q hs (fun hw2 => ?_) (fun hw2 => ?_)
          · unfold m_X12_tellsHere
            exact spl s _ hs (href s _ hs (fun z => absurd ⟨by omega, hw2⟩ hsoft) (fun _ => ⟨fun z => absurd z (by decide), fun _ => hq⟩))
          · unfold m_X12_much
            refine spl s _ hs (href s _ hs (fun z => ?_) (fun _ => q_must1 (som1 (e := 21) (q_emit1 hq))))
            obtain ⟨-, -, dd, hdd, edd⟩ := hN2 (by omega)
            exact q_must hn (by omega) hs (fun z => absurd (edd.symm.trans z) (dig_ne hdd (Or.inr (Or.inr (Or.inr (Or.inr rfl)))))) (fun _ => som1 (e := 21) (q_emit1 hq))
    · refine ⟨0, p + j, (0, 0, []), ⟨by omega, by omega, hpj, fun z => absurd z (by decide), fun z => absurd z (by decide)⟩, fun c sc cl ga fa st wo nu sa en Q hc hsc q1 q0 => ?_, fun s cc Q hs hcnt hcc q1 q0 q2 => ?_⟩
      · exact cla_word hn hp hw h0 hj hmt hmm (fun _ => q0 (by decide) _ _ _ _ _ _ _ _ _) (fun z => absurd z hjw)
      · have hq := q0 rfl s 0 (FraW_1 Fra1_r)
        have spl : ∀ (Q' : Int32 → Int32 → Prop), Q' (nI (p + j)) 1 → m_X12_spells (nI p) (nI n) 0 s (w + 4) Q' := fun Q' q => q_spells (j := j) hn hp (by omega) w1 (by omega) hs hj hmt (fun e => absurd e hjw) hmm (fun _ => q)
        refine refw s Q hs (fun hw2 => ?_) (fun hw2 => ?_)
        · unfold m_X12_tellsHere
          exact spl _ (q_fig1 ⟨fun z => absurd z (by decide), fun _ => hq⟩)
        · unfold m_X12_much
          exact spl _ (q_fig1 (q_must1 (som1 (e := 21) (q_emit1 hq))))
  · have hno : ∀ w, w < 4 → ¬ hT n t p = sCh (w + 4) 0 := fun w hw z => hword ⟨w, hw, z⟩
    have g0 : ¬ hT n t p = 103 := by rw [← wg]; exact hno 0 (by omega)
    have g1 : ¬ hT n t p = 121 := by rw [← wy]; exact hno 1 (by omega)
    have g2 : ¬ hT n t p = 115 := by rw [← ws]; exact hno 2 (by omega)
    have g3 : ¬ hT n t p = 114 := by rw [← wr]; exact hno 3 (by omega)
    refine ⟨0, p, (0, 0, []), ⟨by omega, by omega, hp, fun z => absurd z (by decide), fun z => absurd z (by decide)⟩, fun c sc cl ga fa st wo nu sa en Q hc hsc q1 q0 => ?_, fun s cc Q hs hcnt hcc q1 q0 q2 => ?_⟩
    · unfold m_X1_readClause m_X1_readWord
      exact q_atT hn (by omega) ⟨fun z => absurd z g0, fun z => absurd z g3, fun z => absurd z g2, fun z => absurd z g1, fun _ _ _ _ => ⟨fun _ => q0 (by decide) _ _ _ _ _ _ _ _ _, fun z => absurd rfl z⟩⟩
    · unfold m_X12_clauseHere
      exact q_hereT hn (by omega) hs ⟨fun z => absurd z g0, fun z => absurd z g3, fun z => absurd z g2, fun z => absurd z g1, fun _ _ _ _ => q0 rfl s _ (FraW_1 Fra1_r)⟩
