/-! PURE: order, the reference's -/
def moInv (N : Nat) (b : Option (List Nat × Nat)) (lt : Int32) (bo : AR) : Prop := (b = none ∧ lt = -5 ∧ ∀ k, k < 5 → bo k = -5) ∨ ∃ (o : List Nat) (l : Nat), b = some (o, l) ∧ lt = nI l ∧ l < 2 ^ 30 ∧ (∀ k, k < N → bo k = nI (oPl N o k)) ∧ ∀ k, N ≤ k → k < 5 → bo k = -5
theorem toL_get {N k : Nat} {f : Nat → Nat} (h : k < N) : (toL N f).getD k 0 = f k := by
  unfold toL
  rw [List.getD_eq_getElem?_getD, List.getElem?_map, List.getElem?_range h]
  rfl
theorem toL_pl {N k : Nat} {f : Nat → Nat} (h : k < N) : oPl N (toL N f) k = f k := by
  unfold oPl
  rw [if_pos h]
  exact toL_get h
abbrev QtT : Type := Int32 → Int32 → Int32 → Int32 → AR → AR → AR → AR → AR → Prop
theorem q_tries62 {N : Nat} {trying : AR} {fs fr tu le : Int32} {s yb tr kn : AR} {Q : QtT} {bo0 : AR} (hN : N ≤ 5) (hQ : ∀ bo : AR, (∀ k, k < N → bo k = trying k) → (∀ k, N ≤ k → bo k = bo0 k) → Q fs fr tu le s yb tr kn bo) :
    ∀ (d i : Nat) (bo : AR), i + d = N → (∀ k, k < i → bo k = trying k) → (∀ k, N ≤ k → bo k = bo0 k) → m_X12_triesOrder_L62 trying (nI N) fs fr tu le s yb tr kn Q (d + 1) bo (nI i) := by
  intro d
  induction d with
  | zero =>
    intro i bo hi h h2
    unfold m_X12_triesOrder_L62
    exact ⟨fun _ => hQ bo (fun k hk => h k (by omega)) h2, fun c => absurd ((nI_leI (by omega) (by omega)).mpr (by omega)) c⟩
  | succ d ih =>
    intro i bo hi h h2
    unfold m_X12_triesOrder_L62
    rw [nI_clamp (by omega)]
    refine ⟨fun c => absurd ((nI_leI (by omega) (by omega)).mp c) (by omega), fun _ => ⟨vp_in_nI (by omega) (by decide), vp_in_nI (by omega) (by decide), fun y e x ex => ?_⟩⟩
    rw [nI_1] at ex
    subst ex
    refine ih (i + 1) y (by omega) (fun k hk => ?_) (fun k hk => ?_)
    · by_cases ek : k = i
      · rw [e, ek, pk_us]
      · rw [e, pk_un ek]; exact h k (by omega)
    · rw [e, pk_un (by omega)]; exact h2 k hk
theorem q_tries {D : DT} {nf gap far : Nat} {s f yb tr kn trying bo : AR} {st : TS} {fs fr tu lt : Int32} {pre : Nat → Nat} {b : Option (List Nat × Nat)} {Q : QtT} (h : NowM D nf gap far s st) (hN5 : dN D ≤ 5) (hf : ∀ k, k < 18 → f k = s k) (hK : KnownOk D 7 kn) (hok : okB (dN D) (toL (dN D) pre) = true) (htr : ∀ k, k < dN D → trying k = nI (pre k)) (hi : moInv (dN D) b lt bo)
    (hQ : ∀ (fs' fr' tu' lt' : Int32) (yb' tr' kn' bo' : AR), KnownOk D 7 kn' → moInv (dN D) (pick b (toL (dN D) pre) (acN D gap 7 (dN D) far (ordTS (dN D) st (toL (dN D) pre)))) lt' bo' → Q fs' fr' tu' lt' s yb' tr' kn' bo') :
    m_X12_triesOrder fs fr (nI gap) (-1) tu lt s f yb tr kn trying bo (nI (dN D)) Q := by
  obtain ⟨hW, hS, hs, ht, hu⟩ := h
  have hN := hs.2.1
  have hF : FlatC (-1) 7 := Or.inl ⟨rfl, rfl⟩
  have L : ∀ (d i : Nat) (s1 : AR), i + d = dN D → (∀ k, k < i → s1 (4 + k) = nI (pre k)) → (∀ j, j < 4 ∨ 4 + dN D ≤ j → s1 j = s j) → m_X12_triesOrder_L2 (nI gap) (-1) f trying (nI (dN D)) fs fr tu lt yb tr kn bo Q (d + 1) s1 (nI i) := by
    intro d
    induction d with
    | zero =>
      intro i s1 hi' h1 h2
      unfold m_X12_triesOrder_L2
      have fr1 : Fr s s1 := fun j hj => h2 j (by omega)
      have hS2 : StM (dN D) (dN D) s1 (ordTS (dN D) st (toL (dN D) pre)) := by
        refine ⟨(h2 0 (by omega)).trans hS.1, (h2 1 (by omega)).trans hS.2.1, (h2 2 (by omega)).trans hS.2.2.1, (h2 3 (by omega)).trans hS.2.2.2.1, fun k hk => ?_, fun p hp => (h2 _ (by omega)).trans (hS.2.2.2.2.2 p hp)⟩
        rw [h1 k (by omega)]
        show nI (pre k) = nI (oPl (dN D) (toL (dN D) pre) k)
        rw [toL_pl hk]
      have put : ∀ (fs fr tu w : Nat → Int32) , True := fun _ _ _ _ => trivial
      have put55 : ∀ (w : Nat), w < 2 ^ 30 → pick b (toL (dN D) pre) (acN D gap 7 (dN D) far (ordTS (dN D) st (toL (dN D) pre))) = some (toL (dN D) pre, w) → (∀ k, dN D ≤ k → k < 5 → bo k = -5) → ∀ (fs' fr' tu' : Int32) (yb' tr' kn' : AR), KnownOk D 7 kn' → m_X12_triesOrder_L55 trying (nI (dN D)) fs' fr' tu' lt s yb' tr' kn' bo (nI w) Q := by
        intro w hw ep hb5 fs' fr' tu' yb' tr' kn' hk'
        unfold m_X12_triesOrder_L55
        intro x e
        subst e
        refine ⟨dN D + 1, q_tries62 (bo0 := bo) hN5 (fun bo' b1 b2 => hQ fs' fr' tu' _ yb' tr' kn' bo' hk' ?_) (dN D) 0 bo (by omega) (fun k hk => absurd hk (by omega)) (fun _ _ => rfl)⟩
        rw [ep]
        exact Or.inr ⟨_, w, rfl, rfl, hw, fun k hk => by rw [b1 k hk, htr k hk, toL_pl hk], fun k k1 k2 => (b2 k k1).trans (hb5 k k1 k2)⟩
      refine ⟨fun _ => q_triedA (s := s) (WM_fr hW fr1) hS2 (ord_ok hs hok) (by show tT st ≤ 2000; omega) hF hW.1.2.2.2.2 hK hf fr1 (fun e fs' fr' tu' yb' tr' kn' hk' => ⟨fun _ => hQ _ _ _ _ _ _ _ _ hk' (by rw [e, pick_none]; exact hi), fun z => absurd rfl z⟩) (fun w e hw fs' fr' tu' yb' tr' kn' hk' => ⟨fun z => absurd z (nI_nm5 (by omega)), fun _ => ?_⟩), fun c => absurd ((nI_leI (by omega) (by omega)).mpr (by omega)) c⟩
      rcases hi with ⟨rfl, rfl, h5⟩ | ⟨o, l, rfl, rfl, hl, hb1, hb2⟩
      · exact ⟨fun _ => put55 w hw (by rw [e, pick_lt (by show w < 2147483647; omega)]) (fun k _ k2 => h5 k k2) _ _ _ _ _ _ hk', fun z => absurd rfl z⟩
      · refine ⟨fun z => absurd z (nI_nm5 (by omega)), fun _ => ?_⟩
        rw [nI_leI (by omega) (by omega)]
        refine ⟨fun z => hQ _ _ _ _ _ _ _ _ hk' (by rw [e, pick_ge (show ¬ w < l by omega)]; exact Or.inr ⟨o, l, rfl, rfl, hl, hb1, hb2⟩), fun z => put55 w hw (by rw [e, pick_lt (show w < l by omega)]) hb2 _ _ _ _ _ _ hk'⟩
    | succ d ih =>
      intro i s1 hi' h1 h2
      unfold m_X12_triesOrder_L2
      have e4 : ((4 : Int32) + nI i).toNatClampNeg = 4 + i := ixc rfl (by omega)
      rw [e4, nI_clamp (by omega), htr i (by omega)]
      refine ⟨fun c => absurd ((nI_leI (by omega) (by omega)).mp c) (by omega), fun _ => ⟨vp_in_nI (by omega) (by decide), vpc (k := 4) rfl (by omega) (by decide), fun y e x ex => ?_⟩⟩
      rw [nI_1] at ex
      subst ex
      refine ih (i + 1) y (by omega) (fun k hk => ?_) (fun j hj => ?_)
      · by_cases ek : k = i
        · rw [e, ek, pk_us]
        · rw [e, pk_un (by omega)]; exact h1 k (by omega)
      · rw [e, pk_un (by omega)]; exact h2 j hj
  intro x e
  subst e
  exact ⟨dN D + 1, L (dN D) 0 s (by omega) (fun k hk => absurd hk (by omega)) (fun _ _ => rfl)⟩
/-! the bits that tell who stands already -/
theorem bits_ask : ∀ u, u < 32 → ∀ p, p < 5 → ((nI u >>> (nI p &&& 31)) &&& 1 = 0 ↔ (u / 2 ^ p) % 2 = 0) := by decide +kernel
theorem bits_put : ∀ u, u < 32 → ∀ p, p < 5 → (u / 2 ^ p) % 2 = 0 → (nI u ||| ((1 : Int32) <<< (nI p &&& 31)) = nI (u + 2 ^ p) ∧ u + 2 ^ p < 32) := by decide +kernel
abbrev QfT : Type := Int32 → Int32 → Int32 → Int32 → AR → AR → AR → AR → AR → AR → Prop
theorem q_ordersFrom {D : DT} {nf gap far : Nat} {s f : AR} {st : TS} (h : NowM D nf gap far s st) (hN5 : dN D ≤ 5) (hf : ∀ k, k < 18 → f k = s k) :
    ∀ (d e k u : Nat) (pre : Nat → Nat) (fs fr tu lt : Int32) (yb tr kn trying bo : AR) (b : Option (List Nat × Nat)) (Q : QfT), d + 1 ≤ e → k + d = dN D → u < 32 → KnownOk D 7 kn → (∀ j, j < k → trying j = nI (pre j)) → moInv (dN D) b lt bo → (∀ o, o ∈ prmT (dN D) d k pre u → okB (dN D) o = true) →
      (∀ (fs' fr' tu' lt' : Int32) (yb' tr' kn' trying' bo' : AR), KnownOk D 7 kn' → (∀ j, j < k → trying' j = nI (pre j)) → moInv (dN D) (ordB D gap far st (prmT (dN D) d k pre u) b) lt' bo' → Q fs' fr' tu' lt' s yb' tr' kn' trying' bo') →
      mR_C e fs fr (nI gap) (-1) tu lt s f yb tr kn trying bo (nI k) (nI u) Q := by
  have hN := h.2.2.1.2.1
  have h18 := h.1.2.1.1
  have c18 : (18 : Int32).toNatClampNeg = 18 := rfl
  intro d
  induction d with
  | zero =>
    intro e k u pre fs fr tu lt yb tr kn trying bo b Q he hk hu hK htr hi hok hQ
    obtain ⟨e, rfl⟩ : ∃ e', e = e' + 1 := ⟨e - 1, by omega⟩
    have hkN : k = dN D := by omega
    subst hkN
    show mB_X12_ordersFrom (mR_C e) fs fr (nI gap) (-1) tu lt s f yb tr kn trying bo (nI (dN D)) (nI u) Q
    unfold mB_X12_ordersFrom
    rw [c18, h18]
    refine ⟨fun _ => q_tries h hN5 hf hK (hok _ (List.mem_cons_self ..)) htr hi (fun fs' fr' tu' lt' yb' tr' kn' bo' hk' hi' => hQ fs' fr' tu' lt' yb' tr' kn' trying bo' hk' htr hi'), fun c => absurd rfl c⟩
  | succ d ih =>
    intro e k u pre fs fr tu lt yb tr kn trying bo b Q he hk hu hK htr hi hok hQ
    obtain ⟨e, rfl⟩ : ∃ e', e = e' + 1 := ⟨e - 1, by omega⟩
    show mB_X12_ordersFrom (mR_C e) fs fr (nI gap) (-1) tu lt s f yb tr kn trying bo (nI k) (nI u) Q
    unfold mB_X12_ordersFrom
    rw [c18, h18]
    refine ⟨fun c => absurd ((nI_eq (by omega) (by omega)).mp c) (by omega), fun _ x ex => ⟨dN D + 1, ?_⟩⟩
    subst ex
    have L : ∀ (m i : Nat) (fs fr tu lt : Int32) (yb tr kn trying bo : AR) (b : Option (List Nat × Nat)), i + m = dN D → KnownOk D 7 kn → (∀ j, j < k → trying j = nI (pre j)) → moInv (dN D) b lt bo → (∀ o, o ∈ prmP (fun p => if (u / 2 ^ p) % 2 = 0 then prmT (dN D) d (k + 1) (fun j => if j = k then p else pre j) (u + 2 ^ p) else []) m i → okB (dN D) o = true) → 
        (∀ (fs' fr' tu' lt' : Int32) (yb' tr' kn' trying' bo' : AR), KnownOk D 7 kn' → (∀ j, j < k → trying' j = nI (pre j)) → moInv (dN D) (ordB D gap far st (prmP (fun p => if (u / 2 ^ p) % 2 = 0 then prmT (dN D) d (k + 1) (fun j => if j = k then p else pre j) (u + 2 ^ p) else []) m i) b) lt' bo' → Q fs' fr' tu' lt' s yb' tr' kn' trying' bo') →
        m_X12_ordersFrom_L19 (mR_C e) (nI gap) (-1) f (nI k) (nI u) Q (m + 1) fs fr tu lt s yb tr kn trying bo (nI i) := by
      intro m
      induction m with
      | zero =>
        intro i fs fr tu lt yb tr kn trying bo b hm hK htr hi hok hQ
        unfold m_X12_ordersFrom_L19
        rw [c18, h18]
        exact ⟨fun _ => hQ _ _ _ _ _ _ _ _ _ hK htr hi, fun c => absurd ((nI_leI (by omega) (by omega)).mpr (by omega)) c⟩
      | succ m ihm =>
        intro i fs fr tu lt yb tr kn trying bo b hm hK htr hi hok hQ
        have hp : i < 5 := by omega
        have hmem : ∀ o, o ∈ (if (u / 2 ^ i) % 2 = 0 then prmT (dN D) d (k + 1) (fun j => if j = k then i else pre j) (u + 2 ^ i) else []) → okB (dN D) o = true := fun o ho => hok o (List.mem_append_left _ ho)
        have hmem2 : ∀ o, o ∈ prmP (fun p => if (u / 2 ^ p) % 2 = 0 then prmT (dN D) d (k + 1) (fun j => if j = k then p else pre j) (u + 2 ^ p) else []) m (i + 1) → okB (dN D) o = true := fun o ho => hok o (List.mem_append_right _ ho)
        have eapp : ordB D gap far st (prmP (fun p => if (u / 2 ^ p) % 2 = 0 then prmT (dN D) d (k + 1) (fun j => if j = k then p else pre j) (u + 2 ^ p) else []) (m + 1) i) b = ordB D gap far st (prmP (fun p => if (u / 2 ^ p) % 2 = 0 then prmT (dN D) d (k + 1) (fun j => if j = k then p else pre j) (u + 2 ^ p) else []) m (i + 1)) (ordB D gap far st (if (u / 2 ^ i) % 2 = 0 then prmT (dN D) d (k + 1) (fun j => if j = k then i else pre j) (u + 2 ^ i) else []) b) := ordB_app _ _ b
        rw [eapp] at hQ
        unfold m_X12_ordersFrom_L19
        rw [c18, h18, bits_ask u hu i hp]
        refine ⟨fun c => absurd ((nI_leI (by omega) (by omega)).mp c) (by omega), fun _ => ⟨fun c => ⟨vp_in_nI (by omega) (by decide), fun y6 e6 => ?_⟩, fun c => ?_⟩⟩
        · obtain ⟨hb1, hb2⟩ := bits_put u hu i hp c
          rw [if_pos c] at hmem hQ
          rw [hb1, nI_1]
          refine ih e (k + 1) (u + 2 ^ i) (fun j => if j = k then i else pre j) fs fr tu lt yb tr kn y6 bo b _ (by omega) (by omega) hb2 hK (fun j hj => ?_) hi hmem (fun fs' fr' tu' lt' yb' tr' kn' trying' bo' hk' ht' hi' => ?_)
          · rw [nI_clamp (by omega)] at e6
            show y6 j = nI (if j = k then i else pre j)
            by_cases ej : j = k
            · rw [if_pos ej, e6, ej, pk_us]
            · rw [if_neg ej, e6, pk_un ej]; exact htr j (by omega)
          · unfold m_X12_ordersFrom_L57
            intro x5 e5
            rw [nI_1] at e5
            subst e5
            refine ihm (i + 1) fs' fr' tu' lt' yb' tr' kn' trying' bo' _ (by omega) hk' (fun j hj => ?_) hi' hmem2 hQ
            rw [ht' j (by omega), if_neg (by omega)]
        · rw [if_neg c] at hQ
          unfold m_X12_ordersFrom_L57
          intro x5 e5
          rw [nI_1] at e5
          subst e5
          exact ihm (i + 1) fs fr tu lt yb tr kn trying bo b (by omega) hK htr hi hmem2 hQ
    exact L (dN D) 0 fs fr tu lt yb tr kn trying bo b (by omega) hK htr hi hok hQ
theorem q_inM1 {a : Int32} {Q : Int32 → Prop} (h1 : a = -1 ∨ (∃ k, k < 5 ∧ a = nI k) → Q 1) (h0 : (if a = -1 then some 5 else idx 5 a) = none → Q 0) : m_X12_in a (-1) 4 Q := by
  refine q_in (fun c d => h1 ?_) (fun c => h0 ?_)
  · rcases pk_ix a (n := 5) (by omega) with q | q | ⟨j, hj, e⟩
    · refine Or.inl (Int32.toInt_inj.mp ?_)
      rw [Int32.lt_iff_toInt_lt] at c q
      rw [show (-1 : Int32).toInt = -1 from by decide] at c ⊢
      rw [show (0 : Int32).toInt = 0 from rfl] at q
      omega
    · refine absurd ?_ d
      rw [Int32.le_iff_toInt_le, nI_toInt (by omega)] at q
      rw [Int32.lt_iff_toInt_lt, show (4 : Int32).toInt = 4 from rfl]
      omega
    · exact Or.inr ⟨j, hj, e⟩
  · have n1 : ¬ a = -1 := by
      intro e
      rw [e] at c
      rcases c with c | c
      · exact absurd c (by decide)
      · exact absurd c (by decide)
    rw [if_neg n1]
    refine idx_none (fun k hk e => ?_)
    rw [e] at c
    rcases c with c | c
    · rw [Int32.lt_iff_toInt_lt, nI_toInt (by omega), show (-1 : Int32).toInt = -1 from by decide] at c
      omega
    · have := (nI_ltI (a := 4) (b := k) (by omega) (by omega)).mp c
      omega
theorem q_orderM {D : DT} {nf gap far : Nat} {s fm yb tr kn trying bo : AR} {st : TS} {fs fr g tu lt a : Int32} {Q : Int32 → Int32 → Int32 → Int32 → Int32 → Int32 → AR → AR → AR → AR → AR → AR → AR → Prop} (h : NowM D nf gap far s st)
    (hQ : ∀ (fs' fr' g' tu' lt' : Int32) (fm' yb' tr' kn' trying' bo' : AR), Q (orderA D gap far st a) fs' fr' g' tu' lt' s fm' yb' tr' kn' trying' bo') : m_X12_order fs fr g (-1) tu lt s fm yb tr kn trying bo a Q := by
  have hN := h.2.2.1.2.1
  have c18 : (18 : Int32).toNatClampNeg = 18 := rfl
  unfold orderA at hQ
  unfold m_X12_order
  rw [c18, h.1.2.1.1]
  refine q_inM1 (fun hc => ⟨fun z => absurd z (by decide), fun _ => ⟨fun c5 x ex => ⟨6, ?_⟩, fun c5 => ?_⟩⟩) (fun e => ⟨fun _ => ?_, fun z => absurd rfl z⟩)
  · have hN5 := (nI_leI (a := dN D) (b := 5) (by omega) (by omega)).mp c5
    subst ex
    have L : ∀ (d i : Nat) (bo : AR), i + d = 5 → (∀ k, k < i → bo k = -5) → m_X12_order_L27 (-1) a fs fr g tu lt s fm yb tr kn trying Q (d + 1) bo (nI i) := by
      intro d
      induction d with
      | zero =>
        intro i bo hi hbo
        unfold m_X12_order_L27
        refine ⟨fun _ => q_begins (fl := 7) h.1 (fun kn1 hK => q_keeps (fun f1 hf1 => ?_)), fun c => absurd ((nI_leI (a := 5) (b := i) (by omega) (by omega)).mpr (by omega)) c⟩
        unfold m_X12_ordersFrom
        refine q_ordersFrom h hN5 hf1 (dN D) 8 0 0 (fun _ => 0) fs fr tu (-5) yb tr kn1 trying bo none _ (by omega) (by omega) (by omega) hK (fun j hj => absurd hj (by omega)) (Or.inl ⟨rfl, rfl, fun k hk => hbo k (by omega)⟩) (perms_ok hN5) (fun fs' fr' tu' lt' yb' tr' kn' trying' bo' hk' _ hi' => ?_)
        have hi' : moInv (dN D) (ordB D gap far st (perms (dN D)) none) lt' bo' := hi'
        rcases hi' with ⟨eb, el, h5⟩ | ⟨o, l, eb, el, hl, hb1, hb2⟩
        · rw [eb] at hQ
          rcases hc with rfl | ⟨k, hk, rfl⟩
          · rw [if_pos rfl] at hQ
            dsimp only at hQ
            rw [if_neg (by omega)] at hQ
            rw [el]
            exact ⟨fun _ => hQ _ _ _ _ _ _ _ _ _ _ _, fun z => absurd rfl z⟩
          · rw [if_neg (nI_nm1 (by omega)), idx_some hk (by omega)] at hQ
            dsimp only at hQ
            rw [if_neg (by omega)] at hQ
            rw [nI_clamp (by omega), h5 k hk]
            exact ⟨fun z => absurd z (nI_nm1 (by omega)), fun _ => ⟨vp_in_nI hk (by decide), hQ _ _ _ _ _ _ _ _ _ _ _⟩⟩
        · rw [eb] at hQ
          rcases hc with rfl | ⟨k, hk, rfl⟩
          · rw [if_pos rfl] at hQ
            dsimp only at hQ
            rw [if_neg (by omega), if_pos rfl] at hQ
            rw [el]
            exact ⟨fun _ => hQ _ _ _ _ _ _ _ _ _ _ _, fun z => absurd rfl z⟩
          · rw [if_neg (nI_nm1 (by omega)), idx_some hk (by omega)] at hQ
            dsimp only at hQ
            rw [if_neg (by omega), if_neg (by omega)] at hQ
            rw [nI_clamp (by omega)]
            refine ⟨fun z => absurd z (nI_nm1 (by omega)), fun _ => ⟨vp_in_nI hk (by decide), ?_⟩⟩
            by_cases c : k < dN D
            · rw [if_pos c] at hQ
              rw [hb1 k c]
              exact hQ _ _ _ _ _ _ _ _ _ _ _
            · rw [if_neg c] at hQ
              rw [hb2 k (by omega) hk]
              exact hQ _ _ _ _ _ _ _ _ _ _ _
      | succ d ih =>
        intro i bo hi hbo
        unfold m_X12_order_L27
        rw [nI_clamp (by omega)]
        refine ⟨fun c => absurd ((nI_leI (a := 5) (b := i) (by omega) (by omega)).mp c) (by omega), fun _ => ⟨vp_in_nI (by omega) (by decide), fun y e x ex => ?_⟩⟩
        rw [nI_1] at ex
        subst ex
        refine ih (i + 1) y (by omega) (fun k hk => ?_)
        by_cases ek : k = i
        · rw [e, ek, pk_us]
        · rw [e, pk_un ek]; exact hbo k (by omega)
    exact L 5 0 bo rfl (fun k hk => absurd hk (by omega))
  · have hN5 : ¬ dN D ≤ 5 := fun q => c5 ((nI_leI (a := dN D) (b := 5) (by omega) (by omega)).mpr q)
    rcases hc with rfl | ⟨k, hk, rfl⟩
    · rw [if_pos rfl] at hQ
      dsimp only at hQ
      rw [if_pos (by omega)] at hQ
      exact hQ _ _ _ _ _ _ _ _ _ _ _
    · rw [if_neg (nI_nm1 (by omega)), idx_some hk (by omega)] at hQ
      dsimp only at hQ
      rw [if_pos (by omega)] at hQ
      exact hQ _ _ _ _ _ _ _ _ _ _ _
  · rw [e] at hQ
    exact hQ _ _ _ _ _ _ _ _ _ _ _
