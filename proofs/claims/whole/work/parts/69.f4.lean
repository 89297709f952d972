/-! PURE: reading a field: factors, Es -/
theorem AtL_app {c : STp → Int32} {f : AR} : ∀ (l1 l2 : List STp) (i : Nat), AtL c f i l1 → AtL c f (i + l1.length) l2 → AtL c f i (l1 ++ l2) := by
  intro l1
  induction l1 with
  | nil => intro l2 i _ h; exact h
  | cons e l ih =>
    intro l2 i h h2
    refine ⟨h.1, ih l2 (i + 1) h.2 ?_⟩
    have e1 : i + 1 + l.length = i + (e :: l).length := by show i + 1 + l.length = i + (l.length + 1); omega
    rw [e1]
    exact h2
theorem AtL_cg {c : STp → Int32} {f f' : AR} : ∀ (l : List STp) (i : Nat), AtL c f i l → (∀ j, i ≤ j → j < i + l.length → f' j = f j) → AtL c f' i l := by
  intro l
  induction l with
  | nil => intro i _ _; trivial
  | cons e l ih =>
    intro i h hj
    have el : (e :: l).length = l.length + 1 := rfl
    rw [el] at hj
    exact ⟨(hj i (by omega) (by omega)).trans h.1, ih (i + 1) h.2 (fun j j1 j2 => hj j (by omega) (by omega))⟩
theorem EmR_tr {act c : Nat} {l1 l2 : List STp} {s s1 s2 : AR} (h1 : EmR act c l1 s s1) (h2 : EmR act (c + l1.length) l2 s1 s2) : EmR act c (l1 ++ l2) s s2 := by
  obtain ⟨a1, a2, a3, a4⟩ := h1
  obtain ⟨b1, b2, b3, b4⟩ := h2
  refine ⟨by rw [b1, List.length_append, Nat.add_assoc], AtL_app l1 l2 _ (AtL_cg l1 _ a2 (fun j j1 j2 => b3 j (by omega) (by omega))) (by rw [Nat.add_assoc]; exact b2), fun j j1 j2 => (b3 j j1 (by omega)).trans (a3 j j1 j2), Fra1_t a4 b4⟩
theorem EmR_1 {act c : Nat} {e : STp} {s s' : AR} (hc : c < 140) (h1 : s' (198 + act) = nI (c + 1)) (h2 : s' (203 + 140 * act + c) = cM e) (ha : act ≤ 4) (h3 : ∀ j, j ≠ 198 + act → j ≠ 203 + 140 * act + c → s' j = s j) : EmR act c [e] s s' :=
  ⟨h1, ⟨h2, trivial⟩, fun j j1 j2 => h3 j (by omega) (by omega), fun j j1 j2 => h3 j j1 (by omega)⟩
theorem EmR_0 {act c : Nat} {s : AR} (h : s (198 + act) = nI c) : EmR act c [] s s := ⟨h, trivial, fun _ _ _ => rfl, Fra1_r⟩
def ClR (c : Nat) (l : List STp) (st st' : AR) : Prop := AtL cC st' c l ∧ ∀ j, j < c → st' j = st j
theorem ClR_tr {c : Nat} {l1 l2 : List STp} {s s1 s2 : AR} (h1 : ClR c l1 s s1) (h2 : ClR (c + l1.length) l2 s1 s2) : ClR c (l1 ++ l2) s s2 :=
  ⟨AtL_app l1 l2 _ (AtL_cg l1 _ h1.1 (fun j _ j2 => h2.2 j (by omega))) h2.1, fun j hj => (h2.2 j (by omega)).trans (h1.2 j hj)⟩
theorem ClR_1 {c : Nat} {e : STp} {s : AR} : ClR c [e] s (upd s c (cC e)) := ⟨⟨pk_us, trivial⟩, fun j hj => pk_un (by omega)⟩
theorem nTs_app : ∀ l1 l2 : List STp, nTs (l1 ++ l2) = nTs l1 + nTs l2 := by
  intro l1
  induction l1 with
  | nil => intro l2; show nTs l2 = 0 + nTs l2; omega
  | cons e l ih =>
    intro l2
    show (if e.1 = 0 then 1 else 0) + nTs (l ++ l2) = (if e.1 = 0 then 1 else 0) + nTs l + nTs l2
    rw [ih]
    omega
theorem evS_app (w : Nat → Nat) : ∀ (l1 l2 : List STp) (st st1 : List Bool), evS w l1 st = some st1 → evS w (l1 ++ l2) st = evS w l2 st1 := by
  intro l1
  induction l1 with
  | nil =>
    intro l2 st st1 h
    have h : st = st1 := Option.some.inj h
    rw [h]; rfl
  | cons e l ih =>
    intro l2 st st1 h
    show evS w (e :: (l ++ l2)) st = _
    by_cases t0 : e.1 = 0
    · rw [evS_0 t0] at h ⊢; exact ih l2 _ _ h
    · cases st with
      | nil => rw [evS_n t0] at h; cases h
      | cons b r =>
        by_cases t1 : e.1 = 1
        · rw [evS_1 t1] at h ⊢; exact ih l2 _ _ h
        · cases r with
          | nil => rw [evS_n2 t0 t1] at h; cases h
          | cons a r =>
            by_cases t2 : e.1 = 2
            · rw [evS_2 t2] at h ⊢; exact ih l2 _ _ h
            · rw [evS_3 t0 t1 t2] at h ⊢; exact ih l2 _ _ h
def eNot : STp := (1, 0, 0, 0)
def eAnd : STp := (2, 0, 0, 0)
def eOr : STp := (3, 0, 0, 0)
def pusF (f : Nat) (x : Bool) (st : List Bool) : List Bool := if f = 1 then x :: st else st
def tl1 (f : Nat) (e : STp) : List STp := if f = 1 then [e] else []
def FacP (n act : Nat) (t : AR) (k : Nat) : Prop := ∀ o p, o + k = 5 → p ≤ n → ∃ r p' l, OutP n t p r p' l ∧ (∀ d, 2 * k + 1 ≤ d → ClaP n t (mR_A d).2 o p r p' l) ∧ (∀ e, 3 * k + 4 ≤ e → RefP n act t (mR_B e).2.2 o p r p' l)
def EitP (n act : Nat) (t : AR) (k : Nat) : Prop := ∀ o p, o + k = 5 → p ≤ n → ∃ r p' l, OutP n t p r p' l ∧ (∀ d, 2 * k + 2 ≤ d → ClaP n t (mR_A d).1 o p r p' l) ∧ (∀ e, 3 * k + 6 ≤ e → RefP n act t (mR_B e).1 o p r p' l)
abbrev QrT : Type := Int32 → Int32 → Int32 → AR → Prop
def kO (E1 act n fo f2 : Nat) (Q : QrT) (z3 z4 z5 : Int32) (z6 : AR) : Prop := (fo = 1 → m_X12_emits (nI act) z4 z6 (-3) (fun z19 => m_X12_some_L4 (mR_B (E1 + 1)).1 (mR_B (E1 + 1)).2.1 (mR_B (E1 + 1)).2.2 (nI act) (nI n) Q f2 z3 z4 z5 z19)) ∧ (fo ≠ 1 → ∃ n20, m_X12_some_L4 (mR_B (E1 + 1)).1 (mR_B (E1 + 1)).2.1 (mR_B (E1 + 1)).2.2 (nI act) (nI n) Q n20 z3 z4 z5 z6)
def kE (E1 act n fa f1 : Nat) (Q : QrT) (z3 z4 z5 : Int32) (z6 : AR) : Prop := (fa = 1 → m_X12_emits (nI act) z4 z6 (-2) (fun z19 => m_X12_every_L4 (mR_B E1).1 (mR_B E1).2.1 (mR_B E1).2.2 (nI act) (nI n) Q f1 z3 z4 z5 z19)) ∧ (fa ≠ 1 → ∃ n20, m_X12_every_L4 (mR_B E1).1 (mR_B E1).2.1 (mR_B E1).2.2 (nI act) (nI n) Q n20 z3 z4 z5 z6)
theorem every1 {F1 F2 F3 : FrT} {act n f : Nat} {p o : Int32} {s : AR} {Q : QrT} (h : Q p 1 o s) : m_X12_every_L4 F1 F2 F3 (nI act) (nI n) Q (f + 1) p 1 o s := by
  unfold m_X12_every_L4
  exact ⟨fun c => absurd c (by decide), fun _ => h⟩
theorem some1 {F1 F2 F3 : FrT} {act n f : Nat} {p o : Int32} {s : AR} {Q : QrT} (h : Q p 1 o s) : m_X12_some_L4 F1 F2 F3 (nI act) (nI n) Q (f + 1) p 1 o s := by
  unfold m_X12_some_L4
  exact ⟨fun c => absurd c (by decide), fun _ => h⟩
theorem dig_ne {d : Nat} {x : Int32} (hd : d ≤ 9) (hx : x = 38 ∨ x = 124 ∨ x = 41 ∨ x = 59 ∨ x = 32) : ¬ nI (48 + d) = x := by
  intro c
  have h1 := dig_lo hd
  have h2 := dig_hi hd
  rw [c] at h1 h2
  rcases hx with rfl | rfl | rfl | rfl | rfl
  · exact h1 (by decide)
  · exact h2 (by decide)
  · exact h1 (by decide)
  · exact h2 (by decide)
  · exact h1 (by decide)
def OutE (n : Nat) (t : AR) (fa fo p r p' : Nat) (l : List STp) : Prop := r ≤ 2 ∧ p ≤ p' ∧ p' ≤ n ∧ (r = 1 → p + 3 ≤ p' ∧ l.length + p ≤ p' + fa + fo ∧ 4 * nTs l ≤ p' - p + 1 ∧ (∀ e, e ∈ l → STok e) ∧ ∀ (w : Nat → Nat) (xa xo : Bool) (st : List Bool), ∃ b, evS w l (pusF fa xa (pusF fo xo st)) = some (b :: st)) ∧ (r = 2 → ∃ d, d ≤ 9 ∧ hT n t p' = nI (48 + d))
def ClaE (n : Nat) (t : AR) (k o fa fo p r p' : Nat) (l : List STp) : Prop := ∀ (d F i c : Nat) (F1 : FcT) (st : AR) (Q : Int32 → Int32 → Int32 → AR → Prop), 2 * k + 1 ≤ d → n + 2 ≤ F + p → 4 * i ≤ p → c + fa + fo ≤ p → (r = 1 → ∀ st' : AR, ClR c l st st' → Q 1 (nI p') (nI (c + l.length)) st') → (r ≠ 1 → ∀ (c' : Int32) (st' : AR), Q 0 (nI p') c' st') → m_X1_readEither_L7 F1 (mR_A d).2 (nI n) t (nI o) Q F (nI p) (nI c) st (nI fa) (nI fo) (nI i)
def RefE (n act : Nat) (t : AR) (k o fa fo p r p' : Nat) (l : List STp) : Prop := ∀ (E1 f1 f2 c g : Nat) (KE KO Q : QrT) (s : AR), 3 * k + 4 ≤ E1 → n + 2 ≤ f1 + p → n + 2 ≤ f2 + p → (∀ j, j < n → s (88 + j) = t j) → s (198 + act) = nI c → c + g + fa + fo ≤ p → (∀ z3 z4 z5 z6, kO E1 act n fo f2 Q z3 z4 z5 z6 → KO z3 z4 z5 z6) → (∀ z3 z4 z5 z6, kE E1 act n fa f1 KO z3 z4 z5 z6 → KE z3 z4 z5 z6) → (r = 1 → ∀ s' : AR, EmR act c l s s' → Q (nI p') 0 (nI o) s') → (r = 0 → ∀ (s' : AR) (o' : Int32), Fra1 act s s' → Q (nI p') 1 o' s') → (r = 2 → ∀ s' : AR, Fra1 act s s' → (∃ c', s' (198 + act) = nI c' ∧ c' + g ≤ p') → Q (nI p') 0 (nI o) s') → (mR_B E1).2.2 (nI act) (nI p) (nI n) 0 (nI o) s KE
theorem ok_and {w : Nat → Nat} {xa : Bool} {f : Nat} {b : Bool} {st : List Bool} : ∃ b2, evS w (tl1 f eAnd) (b :: pusF f xa st) = some (b2 :: st) := by
  unfold tl1 pusF
  by_cases c : f = 1
  · rw [if_pos c, if_pos c, evS_2 rfl]; exact ⟨_, rfl⟩
  · rw [if_neg c, if_neg c]; exact ⟨_, rfl⟩
theorem ok_or {w : Nat → Nat} {xa : Bool} {f : Nat} {b : Bool} {st : List Bool} : ∃ b2, evS w (tl1 f eOr) (b :: pusF f xa st) = some (b2 :: st) := by
  unfold tl1 pusF
  by_cases c : f = 1
  · rw [if_pos c, if_pos c, evS_3 (by decide) (by decide) (by decide)]; exact ⟨_, rfl⟩
  · rw [if_neg c, if_neg c]; exact ⟨_, rfl⟩
theorem tl1_len {f : Nat} {e : STp} (h : f ≤ 1) : (tl1 f e).length = f := by
  unfold tl1
  by_cases c : f = 1
  · rw [if_pos c, c]; rfl
  · rw [if_neg c]; show 0 = f; omega
theorem tl1_n {f : Nat} {e : STp} (h : ¬ e.1 = 0) : nTs (tl1 f e) = 0 := by
  unfold tl1
  split
  · show (if e.1 = 0 then 1 else 0) + 0 = 0; rw [if_neg h]
  · rfl
theorem tl1_ok {f : Nat} {e : STp} (h : STok e) : ∀ e', e' ∈ tl1 f e → STok e' := by
  intro e' he
  unfold tl1 at he
  split at he
  · rw [List.mem_singleton.mp he]; exact h
  · exact absurd he List.not_mem_nil
theorem sk (a b : Nat) (h : a = 2 ∨ a = 3 ∨ a = 1) : STok (a, 0, 0, 0) := ⟨by show a ≤ 3; omega, by show 0 < 5; omega, by show 0 < 3; omega, by show 0 < 100; omega⟩
theorem tape_fr {n act : Nat} {t s s' : AR} (hn : n ≤ 100) (h : ∀ j, j < n → s (88 + j) = t j) (hf : Fra1 act s s') : ∀ j, j < n → s' (88 + j) = t j := fun j hj => (hf (88 + j) (by omega) (by omega)).trans (h j hj)
theorem every0 {F1 F2 F3 : FrT} {act n f p : Nat} {t s : AR} {o : Int32} {Q : QrT} (hn : n ≤ 100) (hp : p ≤ n) (hs : ∀ j, j < n → s (88 + j) = t j) (hne : ¬ hT n t p = 38) (h : Q (nI p) 0 o s) : m_X12_every_L4 F1 F2 F3 (nI act) (nI n) Q (f + 1) (nI p) 0 o s := by
  unfold m_X12_every_L4
  exact ⟨fun _ => q_hereT hn (by omega) hs ⟨fun c => absurd c hne, fun _ => h⟩, fun c => absurd rfl c⟩
theorem some0 {F1 F2 F3 : FrT} {act n f p : Nat} {t s : AR} {o : Int32} {Q : QrT} (hn : n ≤ 100) (hp : p ≤ n) (hs : ∀ j, j < n → s (88 + j) = t j) (hne : ¬ hT n t p = 124) (h : Q (nI p) 0 o s) : m_X12_some_L4 F1 F2 F3 (nI act) (nI n) Q (f + 1) (nI p) 0 o s := by
  unfold m_X12_some_L4
  exact ⟨fun _ => q_hereT hn (by omega) hs ⟨fun c => absurd c hne, fun _ => h⟩, fun c => absurd rfl c⟩
theorem em_fr {act c : Nat} {s s' : AR} (h : ∀ j, j ≠ 198 + act → j ≠ 203 + 140 * act + c → s' j = s j) (hc : c < 140) : Fra1 act s s' := fun j j1 j2 => h j j1 (by omega)
theorem fail_ex {n act k o p fa fo r1 p1 : Nat} {l1 : List STp} {t : AR} (hn : n ≤ 100) (ha : act ≤ 4) (hp : p ≤ n) (hfa : fa ≤ 1) (hfo : fo ≤ 1) (hout : OutP n t p r1 p1 l1) (hr : r1 ≠ 1) (hcl : ∀ d, 2 * k + 1 ≤ d → ClaP n t (mR_A d).2 o p r1 p1 l1) (href : ∀ e, 3 * k + 4 ≤ e → RefP n act t (mR_B e).2.2 o p r1 p1 l1) :
    OutE n t fa fo p r1 p1 [] ∧ ClaE n t k o fa fo p r1 p1 [] ∧ RefE n act t k o fa fo p r1 p1 [] := by
  obtain ⟨o1, o2, o3, o4, o5⟩ := hout
  refine ⟨⟨o1, o2, o3, fun c => absurd c hr, o5⟩, ?_, ?_⟩
  · intro d F i c F1 st Q hd hFu hi hc q1 q0
    obtain ⟨F, rfl⟩ : ∃ F', F = F' + 1 := ⟨F - 1, by omega⟩
    unfold m_X1_readEither_L7
    exact ⟨fun z => absurd ((nI_leI (a := 100) (b := i) (by omega) (by omega)).mp z) (by omega), fun _ => hcl d hd st c _ (by omega) (fun z => absurd z hr) (fun _ c' st' => ⟨fun _ => q0 hr c' st', fun z => absurd rfl z⟩)⟩
  · intro E1 f1 f2 c g KE KO Q s hE hf1 hf2 hs hcnt hcg hKO hKE q1 q0 q2
    obtain ⟨f1, rfl⟩ : ∃ f', f1 = f' + 1 := ⟨f1 - 1, by omega⟩
    obtain ⟨f2, rfl⟩ : ∃ f', f2 = f' + 1 := ⟨f2 - 1, by omega⟩
    refine href E1 hE s c (g + fa + fo) KE hs hcnt (by omega) (fun z => absurd z hr) (fun h0 s' o' hfr => hKE _ _ _ _ ?_) (fun h2 s' hfr hc' => hKE _ _ _ _ ?_)
    · have hQ := q0 h0 s' o' hfr
      have hk : KO (nI p1) 1 o' s' := hKO _ _ _ _ ⟨fun _ => q_emit1 (some1 hQ), fun _ => ⟨1, some1 hQ⟩⟩
      exact ⟨fun _ => q_emit1 (every1 hk), fun _ => ⟨1, every1 hk⟩⟩
    · obtain ⟨c', hc1, hc2⟩ := hc'
      obtain ⟨dd, hdd, edd⟩ := o5 h2
      have n38 : ¬ hT n t p1 = 38 := by rw [edd]; exact dig_ne hdd (Or.inl rfl)
      have n124 : ¬ hT n t p1 = 124 := by rw [edd]; exact dig_ne hdd (Or.inr (Or.inl rfl))
      have hk : ∀ (s2 : AR) (c2 : Nat), Fra1 act s s2 → s2 (198 + act) = nI c2 → c2 + g + fo ≤ p1 → KO (nI p1) 0 (nI o) s2 := by
        intro s2 c2 hfr2 hcc hle
        refine hKO _ _ _ _ ⟨fun e1 => q_emit ha (by omega) hcc (fun s3 a1 a2 a3 => ?_), fun e1 => ⟨1, ?_⟩⟩
        · have hfr3 := Fra1_t hfr2 (em_fr a3 (by omega))
          exact some0 hn o3 (tape_fr hn hs hfr3) n124 (q2 h2 s3 hfr3 ⟨c2 + 1, a1, by omega⟩)
        · exact some0 hn o3 (tape_fr hn hs hfr2) n124 (q2 h2 s2 hfr2 ⟨c2, hcc, by omega⟩)
      refine ⟨fun e1 => q_emit ha (by omega) hc1 (fun s3 a1 a2 a3 => ?_), fun e1 => ⟨1, ?_⟩⟩
      · have hfr3 := Fra1_t hfr (em_fr a3 (by omega))
        exact every0 hn o3 (tape_fr hn hs hfr3) n38 (hk s3 (c' + 1) hfr3 a1 (by omega))
      · exact every0 hn o3 (tape_fr hn hs hfr) n38 (hk s' c' hfr hc1 (by omega))
theorem tl1_1 {e : STp} : tl1 1 e = [e] := rfl
theorem tl1_0 {f : Nat} {e : STp} (h : f ≠ 1) : tl1 f e = [] := if_neg h
theorem cla_after {n c i p1 fa fo o : Nat} {t st st1 : AR} {l1 : List STp} {F1 F2 : FcT} {K : Int32 → Int32 → AR → Int32 → Int32 → Int32 → Prop} {Q : Int32 → Int32 → Int32 → AR → Prop} (hn : n ≤ 100) (hp1 : p1 ≤ n) (hfa : fa ≤ 1) (hfo : fo ≤ 1) (hc : c + l1.length + fa + fo ≤ 100) (h1 : ClR c l1 st st1)
    (hAnd : hT n t p1 = 38 → ∀ st2, ClR c (l1 ++ tl1 fa eAnd) st st2 → K (nI (p1 + 1)) (nI (c + (l1 ++ tl1 fa eAnd).length)) st2 1 (nI fo) (nI (i + 1)))
    (hOr : ¬ hT n t p1 = 38 → hT n t p1 = 124 → ∀ st3, ClR c (l1 ++ tl1 fa eAnd ++ tl1 fo eOr) st st3 → K (nI (p1 + 1)) (nI (c + (l1 ++ tl1 fa eAnd ++ tl1 fo eOr).length)) st3 0 1 (nI (i + 1)))
    (hEnd : ¬ hT n t p1 = 38 → ¬ hT n t p1 = 124 → ∀ st3, ClR c (l1 ++ tl1 fa eAnd ++ tl1 fo eOr) st st3 → Q 1 (nI p1) (nI (c + (l1 ++ tl1 fa eAnd ++ tl1 fo eOr).length)) st3) :
    (nI fa = 0 → m_X1_readEither_L34 F1 F2 (nI n) t (nI o) (nI p1) (nI (c + l1.length)) st1 (nI fo) (nI i) K Q) ∧ (¬ nI fa = 0 → m_X1_addStep (nI (c + l1.length)) st1 (-2) (fun z28 z29 => m_X1_readEither_L34 F1 F2 (nI n) t (nI o) (nI p1) z28 z29 (nI fo) (nI i) K Q)) := by
  have key : ∀ (st2 : AR), ClR c (l1 ++ tl1 fa eAnd) st st2 → m_X1_readEither_L34 F1 F2 (nI n) t (nI o) (nI p1) (nI (c + (l1 ++ tl1 fa eAnd).length)) st2 (nI fo) (nI i) K Q := by
    intro st2 h2
    have el : (l1 ++ tl1 fa eAnd).length = l1.length + fa := by rw [List.length_append, tl1_len hfa]
    have key2 : ¬ hT n t p1 = 38 → ∀ (st3 : AR), ClR c (l1 ++ tl1 fa eAnd ++ tl1 fo eOr) st st3 → m_X1_readEither_L55 F1 F2 (nI n) t (nI o) (nI p1) (nI (c + (l1 ++ tl1 fa eAnd ++ tl1 fo eOr).length)) st3 0 (nI i) K Q := by
      intro n38 st3 h3
      unfold m_X1_readEither_L55 m_X1_readEither_L68
      refine q_take hn (by omega) (fun c1 => ⟨fun z => absurd z (by decide), fun _ x ex => ?_⟩) (fun c0 => ⟨fun _ => hEnd n38 c0 st3 h3, fun z => absurd rfl z⟩)
      rw [nI_1] at ex
      subst ex
      exact hOr n38 c1 st3 h3
    unfold m_X1_readEither_L34 m_X1_readEither_L68
    refine q_take hn (by omega) (fun c1 => ⟨fun z => absurd z (by decide), fun _ x ex => ?_⟩) (fun c0 => ⟨fun _ => ⟨fun z => ?_, fun z => ?_⟩, fun z => absurd rfl z⟩)
    · rw [nI_1] at ex
      subst ex
      exact hAnd c1 st2 h2
    · have f0 := (nI_eq (a := fo) (b := 0) (by omega) (by omega)).mp z
      have := key2 c0 st2 (by rw [tl1_0 (f := fo) (by omega), List.append_nil]; exact h2)
      rw [tl1_0 (f := fo) (by omega), List.append_nil] at this
      exact this
    · have f1 : fo = 1 := by
        rcases Nat.eq_zero_or_pos fo with q | q
        · exact absurd (by rw [q]; rfl) z
        · omega
      subst f1
      refine q_addStep (x := -3) (by omega) ?_
      have := key2 c0 (upd st2 (c + (l1 ++ tl1 fa eAnd).length) (cC eOr)) (ClR_tr h2 ClR_1)
      have e2 : c + (l1 ++ tl1 fa eAnd).length + 1 = c + (l1 ++ tl1 fa eAnd ++ tl1 1 eOr).length := by rw [List.length_append (as := l1 ++ tl1 fa eAnd)]; rfl
      rw [e2]
      exact this
  refine ⟨fun z => ?_, fun z => ?_⟩
  · have f0 := (nI_eq (a := fa) (b := 0) (by omega) (by omega)).mp z
    have := key st1 (by rw [tl1_0 (by omega), List.append_nil]; exact h1)
    rw [tl1_0 (f := fa) (by omega), List.append_nil] at this
    exact this
  · have f1 : fa = 1 := by
      rcases Nat.eq_zero_or_pos fa with q | q
      · exact absurd (by rw [q]; rfl) z
      · omega
    subst f1
    refine q_addStep (x := -2) (by omega) ?_
    have := key (upd st1 (c + l1.length) (cC eAnd)) (ClR_tr h1 ClR_1)
    have e2 : c + l1.length + 1 = c + (l1 ++ tl1 1 eAnd).length := by rw [List.length_append]; rfl
    rw [e2]
    exact this
theorem ref_after {n act p p1 c fa fo o E1 f1 f2 : Nat} {t s s1 : AR} {l1 : List STp} {KE KO Q : QrT} (hn : n ≤ 100) (ha : act ≤ 4) (hp : p ≤ p1) (hp1 : p1 ≤ n) (hfa : fa ≤ 1) (hfo : fo ≤ 1) (hc : c + l1.length + fa + fo ≤ 100) (hf1 : n + 2 ≤ f1 + p) (hf2 : n + 2 ≤ f2 + p) (hs : ∀ j, j < n → s (88 + j) = t j) (h1 : EmR act c l1 s s1)
    (hKO : ∀ z3 z4 z5 z6, kO E1 act n fo f2 Q z3 z4 z5 z6 → KO z3 z4 z5 z6) (hKE : ∀ z3 z4 z5 z6, kE E1 act n fa f1 KO z3 z4 z5 z6 → KE z3 z4 z5 z6)
    (hAnd : hT n t p1 = 38 → ∀ (s2 : AR) (f : Nat), n + 2 ≤ f + (p1 + 1) → EmR act c (l1 ++ tl1 fa eAnd) s s2 → (mR_B E1).2.2 (nI act) (nI (p1 + 1)) (nI n) 0 (nI o) s2 (fun z13 z14 z15 z16 => m_X12_emits (nI act) z14 z16 (-2) (fun z19 => m_X12_every_L4 (mR_B E1).1 (mR_B E1).2.1 (mR_B E1).2.2 (nI act) (nI n) KO f z13 z14 z15 z19)))
    (hOr : ¬ hT n t p1 = 38 → hT n t p1 = 124 → ∀ (s3 : AR) (f : Nat), n + 2 ≤ f + (p1 + 1) → EmR act c (l1 ++ tl1 fa eAnd ++ tl1 fo eOr) s s3 → (mR_B (E1 + 1)).2.1 (nI act) (nI (p1 + 1)) (nI n) 0 (nI o) s3 (fun z13 z14 z15 z16 => m_X12_emits (nI act) z14 z16 (-3) (fun z19 => m_X12_some_L4 (mR_B (E1 + 1)).1 (mR_B (E1 + 1)).2.1 (mR_B (E1 + 1)).2.2 (nI act) (nI n) Q f z13 z14 z15 z19)))
    (hEnd : ¬ hT n t p1 = 38 → ¬ hT n t p1 = 124 → ∀ s3 : AR, EmR act c (l1 ++ tl1 fa eAnd ++ tl1 fo eOr) s s3 → Q (nI p1) 0 (nI o) s3) :
    KE (nI p1) 0 (nI o) s1 := by
  have kso : ¬ hT n t p1 = 38 → ∀ (f : Nat) (s3 : AR), n + 2 ≤ f + p1 → EmR act c (l1 ++ tl1 fa eAnd ++ tl1 fo eOr) s s3 → m_X12_some_L4 (mR_B (E1 + 1)).1 (mR_B (E1 + 1)).2.1 (mR_B (E1 + 1)).2.2 (nI act) (nI n) Q f (nI p1) 0 (nI o) s3 := by
    intro n38 f s3 hf h3
    obtain ⟨f, rfl⟩ : ∃ f', f = f' + 1 := ⟨f - 1, by omega⟩
    unfold m_X12_some_L4
    refine ⟨fun _ => q_hereT hn (by omega) (tape_fr hn hs h3.2.2.2) ⟨fun c1 => ?_, fun c0 => hEnd n38 c0 s3 h3⟩, fun z => absurd rfl z⟩
    rw [nI_1]
    exact hOr n38 c1 s3 f (by omega) h3
  have kko : ¬ hT n t p1 = 38 → ∀ s2 : AR, EmR act c (l1 ++ tl1 fa eAnd) s s2 → KO (nI p1) 0 (nI o) s2 := by
    intro n38 s2 h2
    have el : (l1 ++ tl1 fa eAnd).length = l1.length + fa := by rw [List.length_append, tl1_len hfa]
    refine hKO _ _ _ _ ⟨fun e1 => q_emit ha (by omega) h2.1 (fun s3 a1 a2 a3 => kso n38 f2 s3 (by omega) ?_), fun e1 => ⟨n + 2, kso n38 _ s2 (by omega) ?_⟩⟩
    · subst e1
      exact EmR_tr h2 (EmR_1 (by omega) a1 a2 ha a3)
    · rw [tl1_0 e1, List.append_nil]; exact h2
  have kev : ∀ (f : Nat) (s2 : AR), n + 2 ≤ f + p1 → EmR act c (l1 ++ tl1 fa eAnd) s s2 → m_X12_every_L4 (mR_B E1).1 (mR_B E1).2.1 (mR_B E1).2.2 (nI act) (nI n) KO f (nI p1) 0 (nI o) s2 := by
    intro f s2 hf h2
    obtain ⟨f, rfl⟩ : ∃ f', f = f' + 1 := ⟨f - 1, by omega⟩
    unfold m_X12_every_L4
    refine ⟨fun _ => q_hereT hn (by omega) (tape_fr hn hs h2.2.2.2) ⟨fun c1 => ?_, fun c0 => kko c0 s2 h2⟩, fun z => absurd rfl z⟩
    rw [nI_1]
    exact hAnd c1 s2 f (by omega) h2
  refine hKE _ _ _ _ ⟨fun e1 => q_emit ha (by omega) h1.1 (fun s2 a1 a2 a3 => kev f1 s2 (by omega) ?_), fun e1 => ⟨n + 2, kev _ s1 (by omega) ?_⟩⟩
  · subst e1
    exact EmR_tr h1 (EmR_1 (by omega) a1 a2 ha a3)
  · rw [tl1_0 e1, List.append_nil]; exact h1
