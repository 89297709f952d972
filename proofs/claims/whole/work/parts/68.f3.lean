/-! PURE: reading a field: what a factor comes to; tests -/
abbrev FrT : Type := Int32 → Int32 → Int32 → Int32 → Int32 → AR → (Int32 → Int32 → Int32 → AR → Prop) → Prop
abbrev FcT : Type := Int32 → Int32 → AR → Int32 → AR → Int32 → (Int32 → Int32 → Int32 → AR → Prop) → Prop
def Fra1 (act : Nat) (s s' : AR) : Prop := ∀ j, j ≠ 198 + act → ¬ (203 + 140 * act ≤ j ∧ j < 343 + 140 * act) → s' j = s j
theorem Fra1_t {act : Nat} {s s1 s2 : AR} (h1 : Fra1 act s s1) (h2 : Fra1 act s1 s2) : Fra1 act s s2 := fun j a b => (h2 j a b).trans (h1 j a b)
theorem Fra1_r {act : Nat} {s : AR} : Fra1 act s s := fun _ _ _ => rfl
def EmR (act c : Nat) (l : List STp) (s s' : AR) : Prop := s' (198 + act) = nI (c + l.length) ∧ AtL cM s' (203 + 140 * act + c) l ∧ (∀ j, 203 + 140 * act ≤ j → j < 203 + 140 * act + c → s' j = s j) ∧ Fra1 act s s'
/-- r: 1 read (to p', the steps l), 0 a fault at p', 2 a fault at p' that the reference finds later (a figure stands there) -/
def OutP (n : Nat) (t : AR) (p r p' : Nat) (l : List STp) : Prop := r ≤ 2 ∧ p ≤ p' ∧ p' ≤ n ∧ (r = 1 → p + 3 ≤ p' ∧ l.length + p ≤ p' ∧ 4 * nTs l ≤ p' - p + 1 ∧ (∀ e, e ∈ l → STok e) ∧ ∀ (w : Nat → Nat) (st : List Bool), ∃ b, evS w l st = some (b :: st)) ∧ (r = 2 → ∃ d, d ≤ 9 ∧ hT n t p' = nI (48 + d))
def ClaP (n : Nat) (t : AR) (F : FcT) (o p r p' : Nat) (l : List STp) : Prop := ∀ (st : AR) (c : Nat) (Q : Int32 → Int32 → Int32 → AR → Prop), c ≤ p → (r = 1 → ∀ st' : AR, AtL cC st' c l → (∀ j, j < c → st' j = st j) → Q 1 (nI p') (nI (c + l.length)) st') → (r ≠ 1 → ∀ (c' : Int32) (st' : AR), Q 0 (nI p') c' st') → F (nI p) (nI c) st (nI n) t (nI o) Q
def RefP (n act : Nat) (t : AR) (G : FrT) (o p r p' : Nat) (l : List STp) : Prop := ∀ (s : AR) (c g : Nat) (Q : Int32 → Int32 → Int32 → AR → Prop), (∀ j, j < n → s (88 + j) = t j) → s (198 + act) = nI c → c + g ≤ p → (r = 1 → ∀ s' : AR, EmR act c l s s' → Q (nI p') 0 (nI o) s') → (r = 0 → ∀ (s' : AR) (o' : Int32), Fra1 act s s' → Q (nI p') 1 o' s') → (r = 2 → ∀ s' : AR, Fra1 act s s' → (∃ c', s' (198 + act) = nI c' ∧ c' + g ≤ p') → Q (nI p') 0 (nI o) s') → G (nI act) (nI p) (nI n) 0 (nI o) s Q
theorem q_emit {act c : Nat} {s : AR} {x : Int32} {Q : AR → Prop} (ha : act ≤ 4) (hc : c ≤ 130) (hs : s (198 + act) = nI c) (hQ : ∀ s' : AR, s' (198 + act) = nI (c + 1) → s' (203 + 140 * act + c) = x → (∀ j, j ≠ 198 + act → j ≠ 203 + 140 * act + c → s' j = s j) → Q s') : m_X12_emits (nI act) 0 s x Q := by
  have e1 : ((198 : Int32) + nI act).toNatClampNeg = 198 + act := ixc rfl (by omega)
  have v1 : vp_in ((198 : Int32) + nI act) 903 := vpc (k := 198) rfl (by omega) (by decide)
  have e2 : (203 : Int32) + ((140 : Int32) * nI act) + nI c = nI (203 + 140 * act + c) := by rw [show (203 : Int32) = nI 203 from rfl, show (140 : Int32) = nI 140 from rfl, pk_mul, nI_add, nI_add]
  unfold m_X12_emits
  rw [e1, hs, e2, nI_clamp (by omega)]
  refine ⟨fun _ => ⟨v1, vp_in_nI (by omega) (by decide), fun y2 ey2 => ⟨v1, v1, fun y3 ey3 => ?_⟩⟩, fun z => absurd rfl z⟩
  rw [ey2, pk_un (by omega), hs, nI_1] at ey3
  refine hQ y3 (by rw [ey3, pk_us]) (by rw [ey3, pk_un (by omega), pk_us]) (fun j j1 j2 => by rw [ey3, pk_un j1, pk_un j2])
theorem q_emit1 {act : Nat} {s : AR} {x : Int32} {Q : AR → Prop} (hQ : Q s) : m_X12_emits (nI act) 1 s x Q := ⟨fun c => absurd c (by decide), fun _ => hQ⟩
theorem q_must {n p : Nat} {t s : AR} {x : Int32} {Q : Int32 → Int32 → Prop} (hn : n ≤ 100) (hp : p ≤ 200) (hs : ∀ j, j < n → s (88 + j) = t j) (h1 : hT n t p = x → Q (nI (p + 1)) 0) (h0 : ¬ hT n t p = x → Q (nI p) 1) : m_X12_must (nI p) (nI n) 0 s x Q := by
  unfold m_X12_must m_X12_must_L16 m_X12_must_L21 m_X12_must_L41
  refine ⟨fun _ => q_hereT hn (by omega) hs ⟨fun c => ⟨⟨rfl, rfl⟩, fun _ => by rw [nI_1]; exact h1 c, fun z => absurd rfl z⟩, fun c => ⟨⟨rfl, rfl⟩, fun z => absurd z (by decide), fun _ => by rw [show nI p + (0 : Int32) = nI p from nI_add p 0]; exact h0 c⟩⟩, fun c => absurd rfl c⟩
theorem q_must1 {n p : Nat} {s : AR} {x : Int32} {Q : Int32 → Int32 → Prop} (h : Q (nI p) 1) : m_X12_must (nI p) (nI n) 1 s x Q := by
  unfold m_X12_must m_X12_must_L16 m_X12_must_L21 m_X12_must_L41
  exact ⟨fun c => absurd c (by decide), fun _ => ⟨⟨rfl, rfl⟩, fun z => absurd z (by decide), fun _ => by rw [show nI p + (0 : Int32) = nI p from nI_add p 0]; exact h⟩⟩
theorem q_take {n p : Nat} {t : AR} {x : Int32} {Q : Int32 → Int32 → Prop} (hn : n ≤ 100) (hp : p ≤ 200) (h1 : hT n t p = x → Q 1 (nI (p + 1))) (h0 : ¬ hT n t p = x → Q 0 (nI p)) : m_X1_take (nI p) (nI n) t x Q := by
  unfold m_X1_take
  exact q_atT hn (by omega) ⟨fun c => by rw [nI_1]; exact h1 c, h0⟩
theorem q_addStep {c : Nat} {st : AR} {x : Int32} {Q : Int32 → AR → Prop} (hc : c < 100) (hQ : Q (nI (c + 1)) (upd st c x)) : m_X1_addStep (nI c) st x Q := by
  unfold m_X1_addStep
  rw [nI_clamp (by omega), nI_1]
  exact ⟨fun _ => ⟨vp_in_nI hc (by decide), fun y e => by rw [e]; exact hQ⟩, fun z => absurd ((nI_ltI (a := c) (b := 100) (by omega) (by omega)).mpr hc) z⟩
theorem no99 {x a : Int32} {i m : Nat} (h : ∀ k, k < m → ¬ a = sCh i k) (c : x = a) : ∀ k, k < m → ¬ x = sCh i k := fun k hk e => h k hk (c.symm.trans e)
theorem q_subj {x : Int32} {Q : Int32 → Prop} (h : ∀ k, k < 5 → x = sCh 8 k → Q (nI k)) (h0 : (∀ k, k < 5 → ¬ x = sCh 8 k) → Q (-1)) : m_X1_subject x Q := by
  refine ⟨fun c => h 4 (by omega) c, fun c => h0 (no99 (by decide) c), fun c => h0 (no99 (by decide) c), fun c => h0 (no99 (by decide) c), fun c => h0 (no99 (by decide) c), fun c => h0 (no99 (by decide) c), fun c => h 3 (by omega) c, fun c => h0 (no99 (by decide) c), fun c => h0 (no99 (by decide) c), fun c => h 2 (by omega) c, fun c => h0 (no99 (by decide) c), fun c => h0 (no99 (by decide) c), fun c => h0 (no99 (by decide) c), fun c => h 1 (by omega) c, fun c => h 0 (by omega) c, fun c => h0 (fun k hk e => ?_)⟩
  have := (by decide : ∀ k, k < 5 → 98 ≤ (sCh 8 k).toInt ∧ (sCh 8 k).toInt ≤ 112) k hk
  rw [← e] at this
  omega
theorem q_rel {x : Int32} {Q : Int32 → Prop} (h : ∀ k, k < 3 → x = sCh 9 k → Q (nI k)) (h0 : (∀ k, k < 3 → ¬ x = sCh 9 k) → Q (-1)) : m_X1_relation x Q := by
  refine ⟨fun c => h 0 (by omega) c, fun c => h 1 (by omega) c, fun c => h 2 (by omega) c, fun c => h0 (fun k hk e => ?_)⟩
  have := (by decide : ∀ k, k < 3 → 60 ≤ (sCh 9 k).toInt ∧ (sCh 9 k).toInt ≤ 62) k hk
  rw [← e] at this
  omega
theorem ch_ex (x : Int32) (i : Nat) : ∀ m, (∃ k, k < m ∧ x = sCh i k) ∨ ∀ k, k < m → ¬ x = sCh i k := by
  intro m
  induction m with
  | zero => exact Or.inr (fun k hk => absurd hk (by omega))
  | succ m ih =>
    rcases ih with ⟨k, hk, e⟩ | h
    · exact Or.inl ⟨k, by omega, e⟩
    · by_cases c : x = sCh i m
      · exact Or.inl ⟨m, by omega, c⟩
      · exact Or.inr (fun k hk => by
          by_cases ek : k = m
          · rw [ek]; exact c
          · exact h k (by omega))
theorem ch8_inj : ∀ j, j < 5 → ∀ k, k < 5 → sCh 8 j = sCh 8 k → j = k := by decide
theorem ch9_inj : ∀ j, j < 3 → ∀ k, k < 3 → sCh 9 j = sCh 9 k → j = k := by decide
theorem ch8_nm : ∀ k, k < 5 → ¬ (-1 : Int32) = sCh 8 k := by decide
theorem ch9_nm : ∀ k, k < 3 → ¬ (-1 : Int32) = sCh 9 k := by decide
theorem hT_in {n p : Nat} {t : AR} {x : Int32} (h : hT n t p = x) (hx : ¬ (-1 : Int32) = x) : p < n := by
  unfold hT at h
  by_cases c : p < n
  · exact c
  · rw [if_neg c] at h; exact absurd h hx
theorem test_ex {n act p : Nat} {t : AR} (hn : n ≤ 100) (ha : act ≤ 4) (hp : p ≤ n) : ∃ r p' l, OutP n t p r p' l ∧
    (∀ (st : AR) (c : Nat) (Q : Int32 → Int32 → Int32 → AR → Prop), c ≤ p → (r = 1 → ∀ st' : AR, AtL cC st' c l → (∀ j, j < c → st' j = st j) → Q 1 (nI p') (nI (c + l.length)) st') → (r ≠ 1 → ∀ (c' : Int32) (st' : AR), Q 0 (nI p') c' st') → m_X1_readTest (nI p) (nI c) st (nI n) t Q) ∧
    (∀ (F1 F2 F3 : FrT) (o : Nat) (s : AR) (c g : Nat) (Q : Int32 → Int32 → Int32 → AR → Prop), (∀ j, j < n → s (88 + j) = t j) → s (198 + act) = nI c → c + g ≤ p → (r = 1 → ∀ s' : AR, EmR act c l s s' → Q (nI p') 0 (nI o) s') → (r = 0 → ∀ (s' : AR) (o' : Int32), Fra1 act s s' → Q (nI p') 1 o' s') → (r = 2 → ∀ s' : AR, Fra1 act s s' → (∃ c', s' (198 + act) = nI c' ∧ c' + g ≤ p') → Q (nI p') 0 (nI o) s') →
      m_X12_among (nI p) (nI n) s 8 (fun r28 z30 => ((r28 = (-1 : Int32) → m_X12_factor_L130 F1 F2 F3 (nI act) (nI n) z30 0 (nI o) s r28 (1 : Int32) Q) ∧ (¬ r28 = (-1 : Int32) → m_X12_factor_L130 F1 F2 F3 (nI act) (nI n) z30 0 (nI o) s r28 (0 : Int32) Q)))) := by
  rcases ch_ex (hT n t p) 8 5 with ⟨k, hk, e⟩ | hno
  · have hpn := hT_in e (ch8_nm k hk)
    have uk : ∀ j, j < 5 → hT n t p = sCh 8 j → j = k := fun j hj ej => ch8_inj j hj k hk (ej.symm.trans e)
    rcases ch_ex (hT n t (p + 1)) 9 3 with ⟨k2, hk2, e2⟩ | hno2
    · have hpn2 := hT_in e2 (ch9_nm k2 hk2)
      have uk2 : ∀ j, j < 3 → hT n t (p + 1) = sCh 9 j → j = k2 := fun j hj ej => ch9_inj j hj k2 hk2 (ej.symm.trans e2)
      obtain ⟨r, v, p', hr2, hv, hpp, hpn', hN1, hN2, hcl, href⟩ := num_ex (t := t) hn (show p + 2 ≤ n by omega)
      have hokst : STok (0, k, k2, v) := ⟨by show 0 ≤ 3; omega, hk, hk2, by show v < 100; omega⟩
      refine ⟨r, p', [(0, k, k2, v)], ⟨hr2, by omega, hpn', fun h1 => ?_, fun h2 => (hN2 h2).2.2⟩, fun st c Q hc hq hb => ?_, fun F1 F2 F3 o s c g Q hs hcnt hcg q1 q0 q2 => ?_⟩
      · have := hN1 h1
        exact ⟨by omega, by show 1 + p ≤ p'; omega, by show 4 * (1 + 0) ≤ p' - p + 1; omega, fun e he => by rw [List.mem_singleton.mp he]; exact hokst, fun w st => ⟨_, evS_0 rfl⟩⟩
      · unfold m_X1_readTest
        refine q_atT hn (by omega) (q_subj (fun j hj ej => ⟨fun z => absurd z (nI_nm1 (by omega)), fun _ => ?_⟩) (fun h => absurd e (h k hk)))
        rw [nI_1]
        refine q_atT hn (by omega) (q_rel (fun j2 hj2 ej2 => ⟨fun z => absurd z (nI_nm1 (by omega)), fun _ => ?_⟩) (fun h => absurd e2 (h k2 hk2)))
        rw [nI_1, uk j hj ej, uk2 j2 hj2 ej2]
        refine hcl _ (fun h1 => ⟨fun z => absurd z (nI_nm1 (by omega)), fun _ => ?_⟩) (fun h1 => ⟨fun _ => hb h1 _ _, fun z => absurd rfl z⟩)
        refine q_addStep (by omega) ?_
        refine hq h1 _ ⟨?_, trivial⟩ (fun j hj => pk_un (by omega))
        rw [pk_us]
        unfold cC
        rw [if_pos rfl, show (300 : Int32) = nI 300 from rfl, show (100 : Int32) = nI 100 from rfl, pk_mul, pk_mul, nI_add, nI_add]
      · refine q_among (m := 5) hn (by omega) (by decide) (by decide) (by omega) hs (fun j hj ej => ⟨fun z => absurd z (nI_nm1 (by omega)), fun _ => ?_⟩) (fun h => absurd e (h k hk))
        rw [uk j hj ej]
        unfold m_X12_factor_L130
        refine ⟨⟨rfl, rfl⟩, fun _ => q_among (m := 3) hn (by omega) (by decide) (by decide) (by omega) hs (fun j2 hj2 ej2 => ?_) (fun h => absurd e2 (h k2 hk2)), fun z => absurd rfl z⟩
        rw [uk2 j2 hj2 ej2]
        unfold m_X12_factor_L150
        refine ⟨fun _ => ⟨fun z => absurd z (nI_nm1 (by omega)), fun _ => ?_⟩, fun z => absurd rfl z⟩
        unfold m_X12_factor_L169
        refine ⟨⟨rfl, rfl⟩, href s _ hs (fun h0 => ?_) (fun h0 => q_emit1 (q0 h0 s _ Fra1_r))⟩
        refine q_emit ha (by omega) hcnt (fun s' s1 s2 s3 => ?_)
        have hfr : Fra1 act s s' := fun j j1 j2 => s3 j j1 (by omega)
        have : r = 1 ∨ r = 2 := by omega
        rcases this with h1 | h2
        · refine q1 h1 s' ⟨s1, ⟨?_, trivial⟩, fun j j1 j2 => s3 j (by omega) (by omega), hfr⟩
          rw [s2]
          unfold cM
          rw [if_pos rfl, show (8 : Int32) = nI 8 from rfl, show (32 : Int32) = nI 32 from rfl, pk_mul, pk_mul, nI_add, nI_add]
        · have := (hN2 h2).1
          exact q2 h2 s' hfr ⟨c + 1, s1, by omega⟩
    · refine ⟨0, p + 1, [], ⟨by omega, by omega, by omega, fun z => absurd z (by decide), fun z => absurd z (by decide)⟩, fun st c Q hc hq hb => ?_, fun F1 F2 F3 o s c g Q hs hcnt hcg q1 q0 q2 => ?_⟩
      · unfold m_X1_readTest
        refine q_atT hn (by omega) (q_subj (fun j hj ej => ⟨fun z => absurd z (nI_nm1 (by omega)), fun _ => ?_⟩) (fun h => absurd e (h k hk)))
        rw [nI_1]
        exact q_atT hn (by omega) (q_rel (fun j2 hj2 ej2 => absurd ej2 (hno2 j2 hj2)) (fun _ => ⟨fun _ => hb (by decide) _ _, fun z => absurd rfl z⟩))
      · refine q_among (m := 5) hn (by omega) (by decide) (by decide) (by omega) hs (fun j hj ej => ⟨fun z => absurd z (nI_nm1 (by omega)), fun _ => ?_⟩) (fun h => absurd e (h k hk))
        unfold m_X12_factor_L130
        refine ⟨⟨rfl, rfl⟩, fun _ => q_among (m := 3) hn (by omega) (by decide) (by decide) (by omega) hs (fun j2 hj2 ej2 => absurd ej2 (hno2 j2 hj2)) (fun _ => ?_), fun z => absurd rfl z⟩
        unfold m_X12_factor_L150
        refine ⟨fun _ => ⟨fun _ => ?_, fun z => absurd rfl z⟩, fun z => absurd rfl z⟩
        unfold m_X12_factor_L164 m_X12_factor_L169
        exact ⟨⟨rfl, rfl⟩, q_fig1 (q_emit1 (q0 rfl s _ Fra1_r))⟩
  · refine ⟨0, p, [], ⟨by omega, by omega, hp, fun z => absurd z (by decide), fun z => absurd z (by decide)⟩, fun st c Q hc hq hb => ?_, fun F1 F2 F3 o s c g Q hs hcnt hcg q1 q0 q2 => ?_⟩
    · unfold m_X1_readTest
      exact q_atT hn (by omega) (q_subj (fun j hj ej => absurd ej (hno j hj)) (fun _ => ⟨fun _ => hb (by decide) _ _, fun z => absurd rfl z⟩))
    · refine q_among (m := 5) hn (by omega) (by decide) (by decide) (by omega) hs (fun j hj ej => absurd ej (hno j hj)) (fun _ => ⟨fun _ => ?_, fun z => absurd rfl z⟩)
      unfold m_X12_factor_L130
      refine ⟨⟨rfl, rfl⟩, fun z => absurd z (by decide), fun _ => ?_⟩
      unfold m_X12_factor_L150
      refine ⟨fun z => absurd z (by decide), fun _ => ?_⟩
      unfold m_X12_factor_L164 m_X12_factor_L169
      exact ⟨⟨rfl, rfl⟩, q_fig1 (q_emit1 (q0 rfl s _ Fra1_r))⟩
