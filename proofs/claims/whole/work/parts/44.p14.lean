/-! PURE: the reference's on; looked -/
theorem q_goesOnL {D : DT} {nf gap far n : Nat} {Q : Int32 → Int32 → AR → AR → AR → AR → AR → Prop} {L : Nat → Nat} {E : TS} (hn : n ≤ 60) :
    ∀ (d i : Nat) (fs fr : Int32) (s yb tr kn lt : AR) (st : TS) (c : Nat → Nat), i + d = n → WM D nf gap far s → StM (dN D) (dN D) s st → TSok (dN D) (dN D) st → tT st + d ≤ 4000 → KnownOk D 7 kn → itN D gap 7 (dN D) d st = E → (∀ p, p < dN D → lt p = nI (c p) ∧ c p + lpN D gap 7 (dN D) d st p = L p) →
      (∀ (fs' fr' : Int32) (s' yb' tr' kn' lt' : AR), Fr s s' → StM (dN D) (dN D) s' E → (∀ p, p < dN D → lt' p = nI (L p)) → Q fs' fr' s' yb' tr' kn' lt') →
      m_X12_goesOn_L23 (nI gap) (-1) (nI n) Q (d + 1) fs fr s yb tr kn lt (nI i) := by
  have hF : FlatC (-1) 7 := Or.inl ⟨rfl, rfl⟩
  have c3 : (3 : Int32).toNatClampNeg = 3 := rfl
  intro d
  induction d with
  | zero =>
    intro i fs fr s yb tr kn lt st c hi hW hS hs ht hK he hc hQ
    have he : st = E := he
    subst he
    unfold m_X12_goesOn_L23
    refine ⟨fun _ => hQ _ _ _ _ _ _ _ (fun _ _ => rfl) hS (fun p hp => ?_), fun z => absurd ((nI_leI (by omega) (by omega)).mpr (by omega)) z⟩
    rw [(hc p hp).1]
    exact congrArg nI (hc p hp).2
  | succ d ih =>
    intro i fs fr s yb tr kn lt st c hi hW hS hs ht hK he hc hQ
    have hN := hs.2.1
    unfold m_X12_goesOn_L23
    rw [c3, hS.2.2.2.1]
    refine ⟨fun z => absurd ((nI_leI (by omega) (by omega)).mp z) (by omega), fun _ => ⟨fun z => ?_, fun z => ?_⟩⟩
    · have z0 := (nI_leI (a := dN D) (b := 0) (by omega) (by omega)).mp z
      have z0 : dN D = 0 := by omega
      refine hQ _ _ _ _ _ _ _ (fun _ _ => rfl) ?_ (fun p hp => absurd hp (by omega))
      rw [← he]
      rw [z0] at hS ⊢
      rw [itN_0]
      exact hS
    · have z0 : 0 < dN D := by
        rcases Nat.eq_zero_or_pos (dN D) with w | w
        · exact absurd (by rw [w]; exact (nI_leI (a := 0) (b := 0) (by omega) (by omega)).mpr (Nat.le_refl 0)) z
        · exact w
      obtain ⟨m, hm⟩ : ∃ m, dN D = m + 1 := ⟨dN D - 1, by omega⟩
      have hl := hs.2.2.1 m (by omega)
      have e4' : ((4 : Int32) + nI (dN D)) - (1 : Int32) = nI (4 + m) := by rw [hm, show (4 : Int32) = nI 4 from rfl, nI_add, show 4 + (m + 1) = (4 + m) + 1 from rfl, m1_pred]
      rw [e4', nI_clamp (by omega), hS.2.2.2.2.1 m (by omega), nI_clamp (by omega), (hc _ hl).1, nI_1]
      refine ⟨vp_in_nI (by omega) (by decide), vp_in_nI (by omega) (by decide), vp_in_nI (by omega) (by decide), fun y6 e6 => ?_⟩
      refine q_goesM hW hS hs z0 (by omega) hF hW.1.2.2.2.2 hK (fun fs' fr' s' yb' tr' kn' hK' hW' hFr hS' x e => ?_)
      rw [nI_1] at e
      subst e
      have := turn_T (D := D) (gap := gap) (fl := 7) (M := dN D) (s := st)
      refine ih (i + 1) fs' fr' s' yb' tr' kn' y6 _ (fun p => if tP st m = p then c p + 1 else c p) (by omega) hW' hS' (turn_ok hW.1 hs) (by omega) hK' he (fun p hp => ?_) (fun fs2 fr2 s2 yb2 tr2 kn2 lt2 a b c => hQ fs2 fr2 s2 yb2 tr2 kn2 lt2 (fun j hj => (a j hj).trans (hFr j hj)) b c)
      have hcp := hc p hp
      rw [lpN_succ, show dN D - 1 = m from by omega] at hcp
      show y6 p = nI (if tP st m = p then c p + 1 else c p) ∧ (if tP st m = p then c p + 1 else c p) + _ = L p
      by_cases e : tP st m = p
      · rw [if_pos e] at hcp ⊢
        refine ⟨by rw [e6, ← e, pk_us], ?_⟩
        rw [← hcp.2]; omega
      · rw [if_neg e] at hcp ⊢
        refine ⟨by rw [e6, pk_un (fun z => e z.symm)]; exact hcp.1, ?_⟩
        rw [← hcp.2, Nat.zero_add]
theorem q_goesOnZ {f : (Nat → Int32) → Prop} {gap a1 fs fr : Int32} {s yb tr kn : AR} {Q : Int32 → Int32 → AR → AR → AR → AR → AR → Prop}
    (hf : ∀ lt : AR, (∀ k, k < 7 → lt k = 0) → ∀ x : Int32, x = 0 → ∃ n, m_X12_goesOn_L23 gap (-1) a1 Q n fs fr s yb tr kn lt x) :
    ∀ (d i : Nat) (lt : AR), i + d = 7 → (∀ k, k < i → lt k = 0) → m_X12_goesOn_L2 gap (-1) a1 fs fr s yb tr kn Q (d + 1) lt (nI i) := by
  intro d
  induction d with
  | zero =>
    intro i lt hi h
    unfold m_X12_goesOn_L2
    exact ⟨fun _ x e => hf lt (fun k hk => h k (by omega)) x e, fun c => absurd ((nI_leI (a := 7) (b := i) (by omega) (by omega)).mpr (by omega)) c⟩
  | succ d ih =>
    intro i lt hi h
    unfold m_X12_goesOn_L2
    rw [nI_clamp (by omega)]
    refine ⟨fun c => absurd ((nI_leI (a := 7) (b := i) (by omega) (by omega)).mp c) (by omega), fun _ => ⟨vp_in_nI (by omega) (by decide), fun y e x ex => ?_⟩⟩
    rw [nI_1] at ex
    subst ex
    refine ih (i + 1) y (by omega) (fun k hk => ?_)
    by_cases ek : k = i
    · rw [e, ek, pk_us]
    · rw [e, pk_un ek]; exact h k (by omega)
theorem q_goesOn {D : DT} {nf gap far n : Nat} {fs fr : Int32} {s yb tr kn lt : AR} {st : TS} {Q : Int32 → Int32 → AR → AR → AR → AR → AR → Prop} (hn : n ≤ 60) (hW : WM D nf gap far s) (hS : StM (dN D) (dN D) s st) (hs : TSok (dN D) (dN D) st) (ht : tT st ≤ 2000) (hK : KnownOk D 7 kn)
    (hQ : ∀ (fs' fr' : Int32) (s' yb' tr' kn' lt' : AR), Fr s s' → StM (dN D) (dN D) s' (itN D gap 7 (dN D) n st) → (∀ p, p < dN D → lt' p = nI (lpN D gap 7 (dN D) n st p)) → Q fs' fr' s' yb' tr' kn' lt') :
    m_X12_goesOn fs fr (nI gap) (-1) s yb tr kn lt (nI n) Q := by
  intro x e
  subst e
  refine ⟨8, q_goesOnZ (f := fun _ => True) (fun lt1 h1 x e => ⟨n + 1, ?_⟩) 7 0 lt rfl (fun k hk => absurd hk (by omega))⟩
  subst e
  have hN := hs.2.1
  exact q_goesOnL hn n 0 fs fr s yb tr kn lt1 st (fun _ => 0) (by omega) hW hS hs (by omega) hK rfl (fun p hp => ⟨h1 p (by omega), Nat.zero_add _⟩) hQ
theorem q_onM {D : DT} {nf gap far : Nat} {s fm yb tr kn lt : AR} {st : TS} {fs fr g a1 a2 : Int32} {Q : Int32 → Int32 → Int32 → Int32 → AR → AR → AR → AR → AR → AR → Prop} (h : NowM D nf gap far s st)
    (hQ : ∀ (fs' fr' g' : Int32) (fm' yb' tr' kn' lt' : AR), Q (onA D gap st a1 a2) fs' fr' g' s fm' yb' tr' kn' lt') : m_X12_on fs fr g (-1) s fm yb tr kn lt a1 a2 Q := by
  obtain ⟨hW, hS, hs, ht, -⟩ := h
  have hN := hs.2.1
  have key : ¬ (idx 3 a2 = none ∧ idx (dN D) (a2 - 10) = none) → m_X12_on_L22 (-1) a1 a2 fs fr g s fm yb tr kn lt Q := by
    intro hv
    unfold onA at hQ
    rw [if_neg hv] at hQ
    unfold m_X12_on_L22
    refine q_inIdx 60 rfl (by decide) (fun k hk e ei => ⟨fun c => absurd c (by decide), fun _ => ?_⟩) (fun ei => ⟨fun _ => ?_, fun c => absurd rfl c⟩)
    · subst e
      rw [ei] at hQ
      refine q_begins (fl := 7) hW (fun kn1 hK => q_keeps (fun f1 hf1 => q_goesOn hk hW hS hs (by omega) hK (fun fs' fr' s' yb' tr' kn' lt' hFr hS' hl => ?_)))
      have back : ∀ w : Int32, w = onV D gap st k a2 → m_X12_on_L121 fs' fr' (nI gap) s' f1 yb' tr' kn' lt' w Q := by
        intro w ew
        subst ew
        unfold m_X12_on_L121
        refine q_goesBack (fun s2 a b => ?_)
        rw [s_back hf1 a (fun k hk => (b k hk).trans (hFr k hk))]
        exact hQ _ _ _ _ _ _ _ _
      have c1 : (1 : Int32).toNatClampNeg = 1 := rfl
      have c2 : (2 : Int32).toNatClampNeg = 2 := rfl
      have c3 : (3 : Int32).toNatClampNeg = 3 := rfl
      rw [c1, c2, c3]
      unfold onV at back
      refine ⟨fun c => back _ ?_, fun c0 => ⟨fun c => back _ ?_, fun c1 => ⟨fun c => ⟨fun z => back _ ?_, fun z => ?_⟩, fun c => ?_⟩⟩⟩
      · rw [if_pos c, hS'.2.2.1]
      · rw [if_neg (by rw [c]; decide), if_pos c, hS'.2.1]
      · have e2 : a2 = 2 := by
          rcases idx_cs a2 (show 3 < 2 ^ 31 by omega) with ⟨p, hp, e, -⟩ | ⟨n3, e⟩
          · have : p = 0 ∨ p = 1 ∨ p = 2 := by omega
            rcases this with rfl | rfl | rfl
            · exact absurd e c0
            · exact absurd e c1
            · exact e
          · rcases idx_cs (a2 - 10) (show dN D < 2 ^ 31 by omega) with ⟨p, hp, e', -⟩ | ⟨-, e'⟩
            · rw [sub10 e'] at c
              have := (nI_leI (a := p + 10) (b := 2) (by omega) (by omega)).mp c
              omega
            · exact absurd ⟨e, e'⟩ hv
        rw [hS'.2.2.2.1] at z
        rw [if_neg c0, if_neg c1, if_pos e2, if_pos ((nI_eq (a := dN D) (b := 0) (by omega) (by omega)).mp z)]
      · have e2 : a2 = 2 := by
          rcases idx_cs a2 (show 3 < 2 ^ 31 by omega) with ⟨p, hp, e, -⟩ | ⟨n3, e⟩
          · have : p = 0 ∨ p = 1 ∨ p = 2 := by omega
            rcases this with rfl | rfl | rfl
            · exact absurd e c0
            · exact absurd e c1
            · exact e
          · rcases idx_cs (a2 - 10) (show dN D < 2 ^ 31 by omega) with ⟨p, hp, e', -⟩ | ⟨-, e'⟩
            · rw [sub10 e'] at c
              have := (nI_leI (a := p + 10) (b := 2) (by omega) (by omega)).mp c
              omega
            · exact absurd ⟨e, e'⟩ hv
        rw [hS'.2.2.2.1] at z ⊢
        have h0 : ¬ dN D = 0 := fun q => z (by rw [q]; rfl)
        obtain ⟨m, hm⟩ : ∃ m, dN D = m + 1 := ⟨dN D - 1, by omega⟩
        have e4' : ((4 : Int32) + nI (dN D)) - (1 : Int32) = nI (4 + m) := by rw [hm, show (4 : Int32) = nI 4 from rfl, nI_add, show 4 + (m + 1) = (4 + m) + 1 from rfl, m1_pred]
        rw [e4', nI_clamp (by omega), hS'.2.2.2.2.1 m (by omega)]
        refine ⟨vp_in_nI (by omega) (by decide), back _ ?_⟩
        rw [if_neg c0, if_neg c1, if_pos e2, if_neg h0, show dN D - 1 = m from by omega]
      · have n2 : ¬ a2 = 2 := fun e => c (by rw [e]; exact (nI_leI (a := 2) (b := 2) (by omega) (by omega)).mpr (Nat.le_refl 2))
        rcases idx_cs (a2 - 10) (show dN D < 2 ^ 31 by omega) with ⟨p, hp, e', -⟩ | ⟨-, e'⟩
        · rw [e'] at back ⊢
          rw [nI_clamp (by omega), hl p hp]
          refine ⟨vp_in_nI (by omega) (by decide), back _ ?_⟩
          rw [if_neg c0, if_neg c1, if_neg n2, nI_clamp (by omega)]
        · refine absurd ⟨idx_none (fun p hp e => ?_), e'⟩ hv
          have : p = 0 ∨ p = 1 ∨ p = 2 := by omega
          rcases this with rfl | rfl | rfl
          · exact c0 e
          · exact c1 e
          · exact n2 e
    · rw [ei] at hQ
      exact hQ _ _ _ _ _ _ _ _
  unfold m_X12_on
  refine q_inIdx 2 rfl (by decide) (fun k hk e ei => ⟨fun c => absurd c (by decide), fun _ => key (fun z => by rw [ei] at z; cases z.1)⟩) (fun ei => ⟨fun _ => ?_, fun c => absurd rfl c⟩)
  refine q_isPersonM hN hW.2.1.1 (fun p hp e ej => ⟨fun c => absurd c (by decide), fun _ => key (fun z => by rw [ej] at z; cases z.2)⟩) (fun ej => ⟨fun _ => ?_, fun c => absurd rfl c⟩)
  unfold onA at hQ
  rw [if_pos ⟨ei, ej⟩] at hQ
  exact hQ _ _ _ _ _ _ _ _
