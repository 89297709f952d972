/-! PURE: reading a field: the loop of an E, factors by what is still to be opened -/
theorem app3_n (l1 l2 l3 : List STp) : nTs (l1 ++ l2 ++ l3) = nTs l1 + nTs l2 + nTs l3 := by rw [nTs_app, nTs_app]
theorem ev3 {w : Nat → Nat} {fa fo : Nat} {xa xo : Bool} {st : List Bool} {l1 : List STp} (h : ∀ (w : Nat → Nat) (st : List Bool), ∃ b, evS w l1 st = some (b :: st)) : (∃ b, evS w (l1 ++ tl1 fa eAnd) (pusF fa xa (pusF fo xo st)) = some (b :: pusF fo xo st)) ∧ ∃ b, evS w (l1 ++ tl1 fa eAnd ++ tl1 fo eOr) (pusF fa xa (pusF fo xo st)) = some (b :: st) := by
  obtain ⟨b, hb⟩ := h w (pusF fa xa (pusF fo xo st))
  obtain ⟨b2, hb2⟩ := ok_and (w := w) (xa := xa) (f := fa) (b := b) (st := pusF fo xo st)
  obtain ⟨b3, hb3⟩ := ok_or (w := w) (xa := xo) (f := fo) (b := b2) (st := st)
  have e1 : evS w (l1 ++ tl1 fa eAnd) (pusF fa xa (pusF fo xo st)) = some (b2 :: pusF fo xo st) := (evS_app w l1 _ _ _ hb).trans hb2
  exact ⟨⟨b2, e1⟩, b3, (evS_app w _ _ _ _ e1).trans hb3⟩
theorem loop_ex {n act k o : Nat} {t : AR} (hn : n ≤ 100) (ha : act ≤ 4) (hF : FacP n act t k) (hok : o + k = 5) :
    ∀ (m p fa fo : Nat), n ≤ p + m → p ≤ n → fa ≤ 1 → fo ≤ 1 → ∃ r p' l, OutE n t fa fo p r p' l ∧ ClaE n t k o fa fo p r p' l ∧ RefE n act t k o fa fo p r p' l := by
  have skA : STok eAnd := sk 2 0 (Or.inl rfl)
  have skO : STok eOr := sk 3 0 (Or.inr (Or.inl rfl))
  have nA : ∀ f, nTs (tl1 f eAnd) = 0 := fun f => tl1_n (by decide)
  have nO : ∀ f, nTs (tl1 f eOr) = 0 := fun f => tl1_n (by decide)
  intro m
  induction m with
  | zero =>
    intro p fa fo hm hp hfa hfo
    obtain ⟨r1, p1, l1, hout, hcl, href⟩ := hF o p hok hp
    have hr : r1 ≠ 1 := fun c => by have := (hout.2.2.2.1 c).1; have := hout.2.2.1; omega
    exact ⟨r1, p1, [], fail_ex hn ha hp hfa hfo hout hr hcl href⟩
  | succ m ih =>
    intro p fa fo hm hp hfa hfo
    obtain ⟨r1, p1, l1, hout, hcl, href⟩ := hF o p hok hp
    by_cases hr : r1 = 1
    · subst hr
      obtain ⟨o1, o2, o3, o4, -⟩ := hout
      obtain ⟨x1, x2, x3, x4, x5⟩ := o4 rfl
      have elA : (l1 ++ tl1 fa eAnd).length = l1.length + fa := by rw [List.length_append, tl1_len hfa]
      have elO : (l1 ++ tl1 fa eAnd ++ tl1 fo eOr).length = l1.length + fa + fo := by rw [List.length_append, elA, tl1_len hfo]
      have okA : ∀ e, e ∈ l1 ++ tl1 fa eAnd → STok e := fun e he => by
        rcases List.mem_append.mp he with h | h
        · exact x4 e h
        · exact tl1_ok skA e h
      have okO : ∀ e, e ∈ l1 ++ tl1 fa eAnd ++ tl1 fo eOr → STok e := fun e he => by
        rcases List.mem_append.mp he with h | h
        · exact okA e h
        · exact tl1_ok skO e h
      by_cases c38 : hT n t p1 = 38
      · have hlt := hT_in c38 (by decide)
        obtain ⟨r2, p2, l2, ⟨y1, y2, y3, y4, y5⟩, hcl2, href2⟩ := ih (p1 + 1) 1 fo (by omega) (by omega) (by omega) hfo
        refine ⟨r2, p2, (l1 ++ tl1 fa eAnd) ++ l2, ⟨y1, by omega, y3, fun h1 => ?_, y5⟩, ?_, ?_⟩
        · obtain ⟨z1, z2, z3, z4, z5⟩ := y4 h1
          refine ⟨by omega, by rw [List.length_append, elA]; omega, by rw [nTs_app, nTs_app, nA]; omega, fun e he => ?_, fun w xa xo st => ?_⟩
          · rcases List.mem_append.mp he with h | h
            · exact okA e h
            · exact z4 e h
          · obtain ⟨⟨b, hb⟩, -⟩ := ev3 (w := w) (fa := fa) (fo := fo) (xa := xa) (xo := xo) (st := st) x5
            obtain ⟨b2, hb2⟩ := z5 w b xo st
            exact ⟨b2, (evS_app w _ _ _ _ hb).trans hb2⟩
        · intro d F i c F1 st Q hd hFu hi hc q1 q0
          obtain ⟨F, rfl⟩ : ∃ F', F = F' + 1 := ⟨F - 1, by omega⟩
          unfold m_X1_readEither_L7
          refine ⟨fun z => absurd ((nI_leI (a := 100) (b := i) (by omega) (by omega)).mp z) (by omega), fun _ => hcl d hd st c _ (by omega) (fun _ st1 a1 a2 => ⟨fun z => absurd z (by decide), fun _ => ?_⟩) (fun z => absurd rfl z)⟩
          refine cla_after hn o3 hfa hfo (by omega) ⟨a1, a2⟩ (fun _ st2 h2 => ?_) (fun n38 => absurd c38 n38) (fun n38 => absurd c38 n38)
          refine hcl2 d F (i + 1) _ F1 st2 Q hd (by omega) (by omega) (by omega) (fun h1 st' h' => ?_) q0
          have := q1 h1 st' (ClR_tr h2 h')
          rw [List.length_append (as := l1 ++ tl1 fa eAnd), ← Nat.add_assoc] at this
          exact this
        · intro E1 f1 f2 c g KE KO Q s hE hf1 hf2 hs hcnt hcg hKO hKE q1 q0 q2
          refine href E1 hE s c (g + fa + fo) KE hs hcnt (by omega) (fun _ s1 h1 => ?_) (fun z => absurd z (by decide)) (fun z => absurd z (by decide))
          refine ref_after (p := p) (l1 := l1) hn ha o2 o3 hfa hfo (by omega) hf1 hf2 hs h1 hKO hKE (fun _ s2 f hf h2 => ?_) (fun n38 => absurd c38 n38) (fun n38 => absurd c38 n38)
          refine href2 E1 f f2 (c + (l1 ++ tl1 fa eAnd).length) g _ KO Q s2 hE (by omega) (by omega) (tape_fr hn hs h2.2.2.2) h2.1 (by omega) hKO (fun z3 z4 z5 z6 hk => hk.1 rfl) (fun e1 s' h' => q1 e1 s' (EmR_tr h2 h')) (fun e1 s' o' hfr => q0 e1 s' o' (Fra1_t h2.2.2.2 hfr)) (fun e1 s' hfr hc' => q2 e1 s' (Fra1_t h2.2.2.2 hfr) hc')
      · by_cases c124 : hT n t p1 = 124
        · have hlt := hT_in c124 (by decide)
          obtain ⟨r2, p2, l2, ⟨y1, y2, y3, y4, y5⟩, hcl2, href2⟩ := ih (p1 + 1) 0 1 (by omega) (by omega) (by omega) (by omega)
          refine ⟨r2, p2, (l1 ++ tl1 fa eAnd ++ tl1 fo eOr) ++ l2, ⟨y1, by omega, y3, fun h1 => ?_, y5⟩, ?_, ?_⟩
          · obtain ⟨z1, z2, z3, z4, z5⟩ := y4 h1
            refine ⟨by omega, by rw [List.length_append, elO]; omega, by rw [nTs_app, app3_n, nA, nO]; omega, fun e he => ?_, fun w xa xo st => ?_⟩
            · rcases List.mem_append.mp he with h | h
              · exact okO e h
              · exact z4 e h
            · obtain ⟨-, b, hb⟩ := ev3 (w := w) (fa := fa) (fo := fo) (xa := xa) (xo := xo) (st := st) x5
              obtain ⟨b2, hb2⟩ := z5 w false b st
              exact ⟨b2, (evS_app w _ _ _ _ hb).trans hb2⟩
          · intro d F i c F1 st Q hd hFu hi hc q1 q0
            obtain ⟨F, rfl⟩ : ∃ F', F = F' + 1 := ⟨F - 1, by omega⟩
            unfold m_X1_readEither_L7
            refine ⟨fun z => absurd ((nI_leI (a := 100) (b := i) (by omega) (by omega)).mp z) (by omega), fun _ => hcl d hd st c _ (by omega) (fun _ st1 a1 a2 => ⟨fun z => absurd z (by decide), fun _ => ?_⟩) (fun z => absurd rfl z)⟩
            refine cla_after hn o3 hfa hfo (by omega) ⟨a1, a2⟩ (fun h38 => absurd h38 c38) (fun _ _ st3 h3 => ?_) (fun _ n124 => absurd c124 n124)
            refine hcl2 d F (i + 1) _ F1 st3 Q hd (by omega) (by omega) (by omega) (fun h1 st' h' => ?_) q0
            have := q1 h1 st' (ClR_tr h3 h')
            rw [List.length_append (as := l1 ++ tl1 fa eAnd ++ tl1 fo eOr), ← Nat.add_assoc] at this
            exact this
          · intro E1 f1 f2 c g KE KO Q s hE hf1 hf2 hs hcnt hcg hKO hKE q1 q0 q2
            refine href E1 hE s c (g + fa + fo) KE hs hcnt (by omega) (fun _ s1 h1 => ?_) (fun z => absurd z (by decide)) (fun z => absurd z (by decide))
            refine ref_after (p := p) (l1 := l1) hn ha o2 o3 hfa hfo (by omega) hf1 hf2 hs h1 hKO hKE (fun h38 => absurd h38 c38) (fun _ _ s3 f hf h3 => ?_) (fun _ n124 => absurd c124 n124)
            show mB_X12_every (mR_B E1).1 (mR_B E1).2.1 (mR_B E1).2.2 (nI act) (nI (p1 + 1)) (nI n) 0 (nI o) s3 _
            unfold mB_X12_every
            refine href2 E1 (n + 2) f (c + (l1 ++ tl1 fa eAnd ++ tl1 fo eOr).length) g _ _ Q s3 hE (by omega) (by omega) (tape_fr hn hs h3.2.2.2) h3.1 (by omega) (fun z3 z4 z5 z6 hk => hk.1 rfl) (fun z3 z4 z5 z6 hk => hk.2 (by decide)) (fun e1 s' h' => q1 e1 s' (EmR_tr h3 h')) (fun e1 s' o' hfr => q0 e1 s' o' (Fra1_t h3.2.2.2 hfr)) (fun e1 s' hfr hc' => q2 e1 s' (Fra1_t h3.2.2.2 hfr) hc')
        · refine ⟨1, p1, l1 ++ tl1 fa eAnd ++ tl1 fo eOr, ⟨by omega, o2, o3, fun _ => ⟨x1, by rw [elO]; omega, by rw [app3_n, nA, nO]; omega, okO, fun w xa xo st => (ev3 x5).2⟩, fun z => absurd z (by decide)⟩, ?_, ?_⟩
          · intro d F i c F1 st Q hd hFu hi hc q1 q0
            obtain ⟨F, rfl⟩ : ∃ F', F = F' + 1 := ⟨F - 1, by omega⟩
            unfold m_X1_readEither_L7
            refine ⟨fun z => absurd ((nI_leI (a := 100) (b := i) (by omega) (by omega)).mp z) (by omega), fun _ => hcl d hd st c _ (by omega) (fun _ st1 a1 a2 => ⟨fun z => absurd z (by decide), fun _ => ?_⟩) (fun z => absurd rfl z)⟩
            exact cla_after hn o3 hfa hfo (by omega) ⟨a1, a2⟩ (fun h38 => absurd h38 c38) (fun _ h124 => absurd h124 c124) (fun _ _ st3 h3 => q1 rfl st3 h3)
          · intro E1 f1 f2 c g KE KO Q s hE hf1 hf2 hs hcnt hcg hKO hKE q1 q0 q2
            refine href E1 hE s c (g + fa + fo) KE hs hcnt (by omega) (fun _ s1 h1 => ?_) (fun z => absurd z (by decide)) (fun z => absurd z (by decide))
            exact ref_after (p := p) (l1 := l1) hn ha o2 o3 hfa hfo (by omega) hf1 hf2 hs h1 hKO hKE (fun h38 => absurd h38 c38) (fun _ h124 => absurd h124 c124) (fun _ _ s3 h3 => q1 rfl s3 h3)
    · exact ⟨r1, p1, [], fail_ex hn ha hp hfa hfo hout hr hcl href⟩
theorem eit_of {n act k : Nat} {t : AR} (hn : n ≤ 100) (ha : act ≤ 4) (hF : FacP n act t k) : EitP n act t k := by
  intro o p hok hp
  obtain ⟨r, p', l, ⟨o1, o2, o3, o4, o5⟩, hcl, href⟩ := loop_ex hn ha hF hok n p 0 0 (by omega) hp (by omega) (by omega)
  refine ⟨r, p', l, ⟨o1, o2, o3, fun h1 => ?_, o5⟩, fun d hd st c Q hc q1 q0 => ?_, fun e he s c g Q hs hcnt hcg q1 q0 q2 => ?_⟩
  · obtain ⟨x1, x2, x3, x4, x5⟩ := o4 h1
    exact ⟨x1, by omega, x3, x4, fun w st => x5 w false false st⟩
  · obtain ⟨d, rfl⟩ : ∃ d', d = d' + 1 := ⟨d - 1, by omega⟩
    show mB_X1_readEither (mR_A d).1 (mR_A d).2 (nI p) (nI c) st (nI n) t (nI o) Q
    intro x1 e1 x2 e2 x3 e3
    subst e1
    subst e2
    subst e3
    exact ⟨n + 2, hcl d (n + 2) 0 c _ st Q (by omega) (by omega) (by omega) (by omega) (fun h1 st' h' => q1 h1 st' h'.1 h'.2) q0⟩
  · obtain ⟨E1, rfl⟩ : ∃ d', e = d' + 2 := ⟨e - 2, by omega⟩
    show mB_X12_some (mR_B (E1 + 1)).1 (mR_B (E1 + 1)).2.1 (mR_B (E1 + 1)).2.2 (nI act) (nI p) (nI n) 0 (nI o) s Q
    unfold mB_X12_some
    show mB_X12_every (mR_B E1).1 (mR_B E1).2.1 (mR_B E1).2.2 (nI act) (nI p) (nI n) 0 (nI o) s _
    unfold mB_X12_every
    exact href E1 (n + 2) (n + 2) c g _ _ Q s (by omega) (by omega) (by omega) hs hcnt (by omega) (fun z3 z4 z5 z6 hk => hk.2 (by decide)) (fun z3 z4 z5 z6 hk => hk.2 (by decide)) q1 q0 q2
theorem fac1 {e act n : Nat} {p o : Int32} {s : AR} {Q : QrT} (h : Q p 1 o s) : (mR_B (e + 1)).2.2 (nI act) p (nI n) 1 o s Q :=
  ⟨fun c => absurd c (by decide), fun _ => h⟩
theorem som1 {e act n : Nat} {p o : Int32} {s : AR} {Q : QrT} (h : Q p 1 o s) : (mR_B (e + 3)).1 (nI act) p (nI n) 1 o s Q :=
  fac1 (e := e) ⟨1, every1 ⟨1, some1 h⟩⟩
theorem p0 (p : Nat) : nI p + (0 : Int32) = nI p := nI_add p 0
theorem fac_0 {n act : Nat} {t : AR} (hn : n ≤ 100) (ha : act ≤ 4) : FacP n act t 0 := by
  intro o p hok hp
  have ho : o = 5 := by omega
  subst ho
  have refs : ∀ (e : Nat) (v : Int32) (s : AR) (Q : QrT), 3 ≤ e → (∀ o' : Int32, Q (nI p) 1 o' s) → m_X12_factor_L25 (mR_B e).1 (mR_B e).2.1 (mR_B e).2.2 (nI act) (nI n) (nI p) 0 (nI 5) s v Q := by
    intro e v s Q he hq
    obtain ⟨e, rfl⟩ : ∃ e', e = e' + 3 := ⟨e - 3, by omega⟩
    unfold m_X12_factor_L25 m_X12_factor_L39 m_X12_factor_L69 m_X12_factor_L101
    rw [p0]
    refine ⟨fun _ => ⟨⟨rfl, rfl⟩, fun z => absurd z (by decide), fun _ => ⟨fun _ => fac1 (e := e + 2) (q_emit1 (hq _)), fun _ => som1 (q_must1 (hq _))⟩⟩, fun z => absurd rfl z⟩
  by_cases c33 : hT n t p = 33
  · refine ⟨0, p, [], ⟨by omega, by omega, hp, fun z => absurd z (by decide), fun z => absurd z (by decide)⟩, fun d hd st c Q hc q1 q0 => ?_, fun e he s c g Q hs hcnt hcg q1 q0 q2 => ?_⟩
    · obtain ⟨d, rfl⟩ : ∃ d', d = d' + 1 := ⟨d - 1, by omega⟩
      show mB_X1_readFactor (mR_A d).1 (mR_A d).2 (nI p) (nI c) st (nI n) t (nI 5) Q
      unfold mB_X1_readFactor
      refine q_atT hn (by omega) ⟨fun _ => ?_, fun z => absurd c33 z⟩
      unfold m_X1_readFactor_L29
      exact ⟨fun z => absurd z (by decide), fun _ => q0 (by decide) _ _⟩
    · obtain ⟨e, rfl⟩ : ∃ d', e = d' + 1 := ⟨e - 1, by omega⟩
      exact ⟨fun _ => q_hereT hn (by omega) hs ⟨fun _ => refs e _ s Q (by omega) (fun o' => q0 rfl s o' Fra1_r), fun z => absurd c33 z⟩, fun z => absurd rfl z⟩
  · by_cases c40 : hT n t p = 40
    · refine ⟨0, p, [], ⟨by omega, by omega, hp, fun z => absurd z (by decide), fun z => absurd z (by decide)⟩, fun d hd st c Q hc q1 q0 => ?_, fun e he s c g Q hs hcnt hcg q1 q0 q2 => ?_⟩
      · obtain ⟨d, rfl⟩ : ∃ d', d = d' + 1 := ⟨d - 1, by omega⟩
        show mB_X1_readFactor (mR_A d).1 (mR_A d).2 (nI p) (nI c) st (nI n) t (nI 5) Q
        unfold mB_X1_readFactor
        refine q_atT hn (by omega) ⟨fun z => absurd z c33, fun _ => ⟨fun _ => ?_, fun z => absurd c40 z⟩⟩
        unfold m_X1_readFactor_L29
        exact ⟨fun z => absurd z (by decide), fun _ => q0 (by decide) _ _⟩
      · obtain ⟨e, rfl⟩ : ∃ d', e = d' + 1 := ⟨e - 1, by omega⟩
        exact ⟨fun _ => q_hereT hn (by omega) hs ⟨fun z => absurd z c33, fun _ => ⟨fun _ => refs e _ s Q (by omega) (fun o' => q0 rfl s o' Fra1_r), fun z => absurd c40 z⟩⟩, fun z => absurd rfl z⟩
    · obtain ⟨r, p', l, hout, hcl, href⟩ := test_ex (t := t) hn ha hp
      refine ⟨r, p', l, hout, fun d hd st c Q hc q1 q0 => ?_, fun e he s c g Q hs hcnt hcg q1 q0 q2 => ?_⟩
      · obtain ⟨d, rfl⟩ : ∃ d', d = d' + 1 := ⟨d - 1, by omega⟩
        show mB_X1_readFactor (mR_A d).1 (mR_A d).2 (nI p) (nI c) st (nI n) t (nI 5) Q
        unfold mB_X1_readFactor
        exact q_atT hn (by omega) ⟨fun z => absurd z c33, fun _ => ⟨fun z => absurd z c40, fun _ => hcl st c _ hc (fun h1 st' a b => ⟨rfl, q1 h1 st' a b⟩) (fun h1 c' st' => ⟨rfl, q0 h1 c' st'⟩)⟩⟩
      · obtain ⟨e, rfl⟩ : ∃ d', e = d' + 1 := ⟨e - 1, by omega⟩
        exact ⟨fun _ => q_hereT hn (by omega) hs ⟨fun z => absurd z c33, fun _ => ⟨fun z => absurd z c40, fun _ => href _ _ _ 5 s c g Q hs hcnt hcg q1 q0 q2⟩⟩, fun z => absurd rfl z⟩
theorem fac_S {n act k : Nat} {t : AR} (hn : n ≤ 100) (ha : act ≤ 4) (hF : FacP n act t k) : FacP n act t (k + 1) := by
  intro o p hok hp
  have mN : cM eNot = -1 := by decide
  have cN : cC eNot = -1 := by decide
  have o5 : ¬ nI o = 5 := fun c => by have := (nI_eq (a := o) (b := 5) (by omega) (by omega)).mp c; omega
  have o5' : nI o < 5 := (nI_ltI (a := o) (b := 5) (by omega) (by omega)).mpr (by omega)
  have om : nI (o + 1) - (1 : Int32) = nI o := m1_pred o
  by_cases c33 : hT n t p = 33
  · have hlt := hT_in c33 (by decide)
    obtain ⟨r, p', l, ⟨y1, y2, y3, y4, y5⟩, hcl, href⟩ := hF (o + 1) (p + 1) (by omega) (by omega)
    refine ⟨r, p', l ++ [eNot], ⟨y1, by omega, y3, fun h1 => ?_, y5⟩, fun d hd st c Q hc q1 q0 => ?_, fun e he s c g Q hs hcnt hcg q1 q0 q2 => ?_⟩
    · obtain ⟨z1, z2, z3, z4, z5⟩ := y4 h1
      refine ⟨by omega, by rw [List.length_append]; show l.length + 1 + p ≤ p'; omega, by rw [nTs_app]; show 4 * (nTs l + 0) ≤ p' - p + 1; omega, fun e he => ?_, fun w st => ?_⟩
      · rcases List.mem_append.mp he with h | h
        · exact z4 e h
        · rw [List.mem_singleton.mp h]; exact sk 1 0 (Or.inr (Or.inr rfl))
      · obtain ⟨b, hb⟩ := z5 w st
        refine ⟨!b, (evS_app w _ _ _ _ hb).trans ?_⟩
        rw [evS_1 rfl]; rfl
    · obtain ⟨d, rfl⟩ : ∃ d', d = d' + 1 := ⟨d - 1, by omega⟩
      show mB_X1_readFactor (mR_A d).1 (mR_A d).2 (nI p) (nI c) st (nI n) t (nI o) Q
      unfold mB_X1_readFactor
      refine q_atT hn (by omega) ⟨fun _ => ?_, fun z => absurd c33 z⟩
      unfold m_X1_readFactor_L29
      rw [c33, nI_1, nI_1]
      refine ⟨fun _ => ⟨fun z => absurd z (by decide), fun _ => hcl d (by omega) st c _ (by omega) (fun h1 st' a b => ⟨fun z => absurd z (by decide), fun _ => ?_⟩) (fun h1 c' st' => ⟨fun _ => q0 h1 c' st', fun z => absurd rfl z⟩)⟩, fun z => absurd o5' z⟩
      obtain ⟨z1, z2, -⟩ := y4 h1
      refine q_addStep (x := -1) (by omega) ?_
      have hr : ClR c (l ++ [eNot]) st (upd st' (c + l.length) (cC eNot)) := ClR_tr ⟨a, b⟩ ClR_1
      have := q1 h1 _ hr.1 hr.2
      rw [List.length_append, ← Nat.add_assoc] at this
      exact this
    · obtain ⟨e, rfl⟩ : ∃ d', e = d' + 1 := ⟨e - 1, by omega⟩
      refine ⟨fun _ => q_hereT hn (by omega) hs ⟨fun _ => ?_, fun z => absurd c33 z⟩, fun z => absurd rfl z⟩
      unfold m_X12_factor_L25 m_X12_factor_L39 m_X12_factor_L69 m_X12_factor_L101
      rw [c33, nI_1, nI_1]
      refine ⟨fun z => absurd z o5, fun _ => ⟨⟨rfl, rfl⟩, fun _ => ⟨fun _ => ?_, fun z => absurd rfl z⟩, fun z => absurd rfl z⟩⟩
      refine href e (by omega) s c (g + 1) _ hs hcnt (by omega) (fun h1 s1 hr => ?_) (fun h0 s1 o' hfr => q_emit1 (q0 h0 s1 _ hfr)) (fun h2 s1 hfr hc' => ?_)
      · obtain ⟨z1, z2, -⟩ := y4 h1
        refine q_emit ha (by omega) hr.1 (fun s2 a1 a2 a3 => ?_)
        rw [om]
        exact q1 h1 s2 (EmR_tr hr (EmR_1 (by omega) a1 a2 ha a3))
      · obtain ⟨c', hc1, hc2⟩ := hc'
        refine q_emit ha (by omega) hc1 (fun s2 a1 a2 a3 => ?_)
        rw [om]
        exact q2 h2 s2 (Fra1_t hfr (em_fr a3 (by omega))) ⟨c' + 1, a1, by omega⟩
  · by_cases c40 : hT n t p = 40
    · have hlt := hT_in c40 (by decide)
      obtain ⟨r, p', l, ⟨y1, y2, y3, y4, y5⟩, hcl, href⟩ := eit_of hn ha hF (o + 1) (p + 1) (by omega) (by omega)
      -- the class: behind the opened E
      have claB : ∀ (r2 p2 : Nat) (l2 : List STp), (∀ (st : AR) (c : Nat) (Q : Int32 → Int32 → Int32 → AR → Prop), c ≤ p → (r2 = 1 → ∀ st' : AR, AtL cC st' c l2 → (∀ j, j < c → st' j = st j) → Q 1 (nI p2) (nI (c + l2.length)) st') → (r2 ≠ 1 → ∀ (c' : Int32) (st' : AR), Q 0 (nI p2) c' st') → ∀ d, 2 * k + 2 ≤ d → (mR_A d).1 (nI (p + 1)) (nI c) st (nI n) t (nI (o + 1)) (fun r16 z18 z19 z20 => ((r16 = 0 → Q (0 : Int32) z18 z19 z20) ∧ (¬ r16 = 0 → m_X1_take z18 (nI n) t (41 : Int32) (fun r22 z24 => ((r22 = 0 → Q (0 : Int32) z24 z19 z20) ∧ (¬ r22 = 0 → Q (1 : Int32) z24 z19 z20))))))) → ∀ d, 2 * (k + 1) + 1 ≤ d → ClaP n t (mR_A d).2 o p r2 p2 l2 := by
        intro r2 p2 l2 h d hd st c Q hc q1 q0
        obtain ⟨d, rfl⟩ : ∃ d', d = d' + 1 := ⟨d - 1, by omega⟩
        show mB_X1_readFactor (mR_A d).1 (mR_A d).2 (nI p) (nI c) st (nI n) t (nI o) Q
        unfold mB_X1_readFactor
        refine q_atT hn (by omega) ⟨fun z => absurd z c33, fun _ => ⟨fun _ => ?_, fun z => absurd c40 z⟩⟩
        unfold m_X1_readFactor_L29
        rw [c40, nI_1, nI_1]
        exact ⟨fun _ => ⟨fun _ => h st c Q hc q1 q0 d (by omega), fun z => absurd rfl z⟩, fun z => absurd o5' z⟩
      have refB : ∀ (r2 p2 : Nat) (l2 : List STp), (∀ (s : AR) (c g : Nat) (Q : QrT), (∀ j, j < n → s (88 + j) = t j) → s (198 + act) = nI c → c + g ≤ p → (r2 = 1 → ∀ s' : AR, EmR act c l2 s s' → Q (nI p2) 0 (nI o) s') → (r2 = 0 → ∀ (s' : AR) (o' : Int32), Fra1 act s s' → Q (nI p2) 1 o' s') → (r2 = 2 → ∀ s' : AR, Fra1 act s s' → (∃ c', s' (198 + act) = nI c' ∧ c' + g ≤ p2) → Q (nI p2) 0 (nI o) s') → ∀ e, 3 * k + 6 ≤ e → (mR_B e).1 (nI act) (nI (p + 1)) (nI n) 0 (nI (o + 1)) s (fun z10 z11 z12 z13 => m_X12_must z10 (nI n) z11 z13 (41 : Int32) (fun z16 z17 => Q z16 z17 (z12 - (1 : Int32)) z13))) → ∀ e, 3 * (k + 1) + 4 ≤ e → RefP n act t (mR_B e).2.2 o p r2 p2 l2 := by
        intro r2 p2 l2 h e he s c g Q hs hcnt hcg q1 q0 q2
        obtain ⟨e, rfl⟩ : ∃ d', e = d' + 1 := ⟨e - 1, by omega⟩
        refine ⟨fun _ => q_hereT hn (by omega) hs ⟨fun z => absurd z c33, fun _ => ⟨fun _ => ?_, fun z => absurd c40 z⟩⟩, fun z => absurd rfl z⟩
        unfold m_X12_factor_L25 m_X12_factor_L39 m_X12_factor_L69 m_X12_factor_L101
        rw [c40, nI_1, nI_1]
        exact ⟨fun z => absurd z o5, fun _ => ⟨⟨rfl, rfl⟩, fun _ => ⟨fun z => absurd z (by decide), fun _ => h s c g Q hs hcnt hcg q1 q0 q2 e (by omega)⟩, fun z => absurd rfl z⟩⟩
      by_cases hr : r = 1
      · obtain ⟨z1, z2, z3, z4, z5⟩ := y4 hr
        by_cases c41 : hT n t p' = 41
        · have hlt2 := hT_in c41 (by decide)
          refine ⟨1, p' + 1, l, ⟨by omega, by omega, by omega, fun _ => ⟨by omega, by omega, by omega, z4, z5⟩, fun z => absurd z (by decide)⟩, claB 1 (p' + 1) l (fun st c Q hc q1 q0 d hd => ?_), refB 1 (p' + 1) l (fun s c g Q hs hcnt hcg q1 q0 q2 e he => ?_)⟩
          · exact hcl d hd st c _ (by omega) (fun _ st' a b => ⟨fun z => absurd z (by decide), fun _ => q_take hn (by omega) (fun _ => ⟨fun z => absurd z (by decide), fun _ => q1 rfl st' a b⟩) (fun z => absurd c41 z)⟩) (fun z => absurd hr z)
          · refine href e he s c g _ hs hcnt (by omega) (fun _ s1 h1 => q_must hn (by omega) (tape_fr hn hs h1.2.2.2) (fun _ => ?_) (fun z => absurd c41 z)) (fun z => absurd (hr.symm.trans z) (by decide)) (fun z => absurd (hr.symm.trans z) (by decide))
            rw [om]
            exact q1 rfl s1 h1
        · refine ⟨0, p', [], ⟨by omega, by omega, y3, fun z => absurd z (by decide), fun z => absurd z (by decide)⟩, claB 0 p' [] (fun st c Q hc q1 q0 d hd => ?_), refB 0 p' [] (fun s c g Q hs hcnt hcg q1 q0 q2 e he => ?_)⟩
          · exact hcl d hd st c _ (by omega) (fun _ st' a b => ⟨fun z => absurd z (by decide), fun _ => q_take hn (by omega) (fun z => absurd z c41) (fun _ => ⟨fun _ => q0 (by decide) _ _, fun z => absurd rfl z⟩)⟩) (fun z => absurd hr z)
          · exact href e he s c g _ hs hcnt (by omega) (fun _ s1 h1 => q_must hn (by omega) (tape_fr hn hs h1.2.2.2) (fun z => absurd z c41) (fun _ => q0 rfl s1 _ h1.2.2.2)) (fun z => absurd (hr.symm.trans z) (by decide)) (fun z => absurd (hr.symm.trans z) (by decide))
      · refine ⟨0, p', [], ⟨by omega, by omega, y3, fun z => absurd z (by decide), fun z => absurd z (by decide)⟩, claB 0 p' [] (fun st c Q hc q1 q0 d hd => ?_), refB 0 p' [] (fun s c g Q hs hcnt hcg q1 q0 q2 e he => ?_)⟩
        · exact hcl d hd st c _ (by omega) (fun z => absurd z hr) (fun _ c' st' => ⟨fun _ => q0 (by decide) _ _, fun z => absurd rfl z⟩)
        · refine href e he s c g _ hs hcnt (by omega) (fun z => absurd z hr) (fun _ s1 o' hfr => q_must1 (q0 rfl s1 _ hfr)) (fun h2 s1 hfr _ => ?_)
          obtain ⟨dd, hdd, edd⟩ := y5 h2
          exact q_must hn (by omega) (tape_fr hn hs hfr) (fun z => absurd (edd.symm.trans z) (dig_ne hdd (Or.inr (Or.inr (Or.inl rfl))))) (fun _ => q0 rfl s1 _ hfr)
    · obtain ⟨r, p', l, hout, hcl, href⟩ := test_ex (t := t) hn ha hp
      refine ⟨r, p', l, hout, fun d hd st c Q hc q1 q0 => ?_, fun e he s c g Q hs hcnt hcg q1 q0 q2 => ?_⟩
      · obtain ⟨d, rfl⟩ : ∃ d', d = d' + 1 := ⟨d - 1, by omega⟩
        show mB_X1_readFactor (mR_A d).1 (mR_A d).2 (nI p) (nI c) st (nI n) t (nI o) Q
        unfold mB_X1_readFactor
        exact q_atT hn (by omega) ⟨fun z => absurd z c33, fun _ => ⟨fun z => absurd z c40, fun _ => hcl st c _ hc (fun h1 st' a b => ⟨rfl, q1 h1 st' a b⟩) (fun h1 c' st' => ⟨rfl, q0 h1 c' st'⟩)⟩⟩
      · obtain ⟨e, rfl⟩ : ∃ d', e = d' + 1 := ⟨e - 1, by omega⟩
        exact ⟨fun _ => q_hereT hn (by omega) hs ⟨fun z => absurd z c33, fun _ => ⟨fun z => absurd z c40, fun _ => href _ _ _ o s c g Q hs hcnt hcg q1 q0 q2⟩⟩, fun z => absurd rfl z⟩
theorem fac_all {n act : Nat} {t : AR} (hn : n ≤ 100) (ha : act ≤ 4) : ∀ k, FacP n act t k := by
  intro k
  induction k with
  | zero => exact fac_0 hn ha
  | succ k ih => exact fac_S hn ha ih
/-- an E from the start: no bracket open -/
theorem either_ex {n act p : Nat} {t : AR} (hn : n ≤ 100) (ha : act ≤ 4) (hp : p ≤ n) : ∃ r p' l, OutP n t p r p' l ∧ ClaP n t m_X1_readEither 0 p r p' l ∧ RefP n act t m_X12_some 0 p r p' l := by
  obtain ⟨r, p', l, hout, hcl, href⟩ := eit_of hn ha (fac_all (t := t) hn ha 5) 0 p rfl hp
  exact ⟨r, p', l, hout, hcl 16 (by omega), href 24 (by omega)⟩
