/-! the law's world: the two objects' cells, and behind them what is only read -/
section OBLAW
variable {D : va_G} {A0 : Nat → Prop} {F Lm wc wr G : va_W} {H0 H : Heap} {locs : List Loc} {cI : ClassId}
theorem ob_getL1 {k : Nat} {q : Nat × va_E} (h : F[k]? = some q) : (F ++ Lm)[k]? = some q := (List.getElem?_append_left (List.getElem?_eq_some_iff.mp h).1).trans h
theorem ob_getL2 {k : Nat} {q : Nat × va_E} (h : Lm[k]? = some q) : (F ++ Lm)[F.length + k]? = some q := by rw [List.getElem?_append_right (Nat.le_add_right _ _), Nat.add_sub_cancel_left]; exact h
theorem ob_apart (hD : va_D A0 (F ++ Lm)) {i j : Nat} {x y : Nat × va_E} (hx : F[i]? = some x) (hy : Lm[j]? = some y) : x.1 ≠ y.1 := by
  intro e
  have := hD.1 i (F.length + j) x y (ob_getL1 hx) (ob_getL2 hy) e
  have hl := (List.getElem?_eq_some_iff.mp hx).1
  omega
theorem ob_DF (hD : va_D A0 (F ++ Lm)) : va_D (fun q => A0 q ∧ ¬ ∃ (k : Nat) (e : va_E), Lm[k]? = some (q, e)) F := by
  refine ⟨fun i j p q hp hq e => hD.1 i j p q (ob_getL1 hp) (ob_getL1 hq) e, fun k q hk => ⟨hD.2 k q (ob_getL1 hk), ?_⟩⟩
  rintro ⟨j, e, h⟩
  exact ob_apart hD hk h rfl
theorem ob_cutL {im : obIM} {s : State} (hP : va_P D vwCl (F ++ im.1) H) (hD : va_D A0 (F ++ im.1)) (hS : va_S A0 H0 H locs) (hA : ∀ q, H0.size ≤ q → A0 q) (hT : obT im A0 s H0) (isC : List Nat) (hC : isC.map (fun i => F[i]?) = wc.map some) (hn : va_nd isC = true) :
    (va_P D vwCl wc H ∧ va_D (fun _ => True) wc ∧ ∀ q, va_A wc H.size q → A0 q ∧ ¬ ∃ (k : Nat) (e : va_E), im.1[k]? = some (q, e)) ∧ obI D im (va_A wc H.size) s H := by
  have hPF : va_P D vwCl F H := fun k q hk => hP k q (ob_getL1 hk)
  have hDF := ob_DF hD
  have hPL : va_P D vwCl im.1 H := fun k q hk => hP (F.length + k) q (ob_getL2 hk)
  have hDF0 : va_D A0 F := hDF.weaken (fun _ _ _ h => h.1)
  have hcut := ob_cut hPF hDF0 hS hA isC hC hn
  have hno : ∀ q, va_A wc H.size q → ¬ ∃ (k : Nat) (e : va_E), im.1[k]? = some (q, e) := by
    intro q hq
    rintro ⟨j, e, hj⟩
    rcases hq with ⟨k, e2, h⟩ | h
    · have h1 : (isC.map (fun i => F[i]?))[k]? = some (some (q, e2)) := by rw [hC, List.getElem?_map, h]; rfl
      rw [List.getElem?_map] at h1
      cases hi : isC[k]? with
      | none => rw [hi] at h1; cases h1
      | some i =>
        rw [hi] at h1
        exact ob_apart hD (Option.some.inj h1) hj rfl
    · exact absurd (hPL j _ hj).lt (Nat.not_lt.mpr h)
  refine ⟨⟨hcut.1, hcut.2.1, fun q hq => ⟨hcut.2.2 q hq, hno q hq⟩⟩, hPL, fun k q hk hq => hno q.1 hq ⟨k, q.2, hk⟩, (hT.kept hS.2.1).narrow hcut.2.2⟩
theorem ob_joinL {w1 : va_W} {H1 : Heap} (hP : va_P D vwCl (F ++ Lm) H) (hD : va_D A0 (F ++ Lm)) (isC isR : List Nat) (hC : isC.map (fun i => F[i]?) = wc.map some) (hR : isR.map (fun i => F[i]?) = wr.map some) (hn : va_nd isR = true) (hdis : ∀ i ∈ isR, i ∉ isC)
    (hk : ∀ q : Nat, q < H.size → ¬ va_A wc H.size q → H1[q]? = H[q]?) (hF : ∀ q, va_A wc H.size q → A0 q ∧ ¬ ∃ (k : Nat) (e : va_E), Lm[k]? = some (q, e)) (hP1 : va_P D vwCl w1 H1) (hD1 : va_D (va_A wc H.size) w1) : va_P D vwCl ((wr ++ w1) ++ Lm) H1 ∧ va_D A0 ((wr ++ w1) ++ Lm) := by
  have hPF : va_P D vwCl F H := fun k q hk => hP k q (ob_getL1 hk)
  have hPL : va_P D vwCl Lm H := fun k q hk => hP (F.length + k) q (ob_getL2 hk)
  obtain ⟨hP2, hD2⟩ := va_join (wr := wr) (w1 := w1) hPF (ob_DF hD) isC isR hC hR hn hdis hk hF hP1 hD1
  have hDL : va_D A0 Lm := ⟨fun i j p q hp hq e => by have := hD.1 (F.length + i) (F.length + j) p q (ob_getL2 hp) (ob_getL2 hq) e; omega, fun k q hk => hD.2 _ q (ob_getL2 hk)⟩
  refine ⟨va_P.app hP2 (hPL.kept fun k q hq => hk q.1 (hPL k q hq).lt (fun z => (hF q.1 z).2 ⟨k, q.2, hq⟩)), va_D.app (hD2.weaken fun _ _ _ h => h.1) hDL (fun i j x y hx hy e => ?_)⟩
  exact (hD2.2 i x hx).2 ⟨j, y.2, by rw [e]; exact hy⟩
theorem ob_permL {G' : va_W} (hP : va_P D vwCl (G ++ Lm) H) (hD : va_D A0 (G ++ Lm)) (is : List Nat) (hs : is.map (fun i => G[i]?) = G'.map some) (hn : va_nd is = true) : va_P D vwCl (G' ++ Lm) H ∧ va_D A0 (G' ++ Lm) := by
  have at' : ∀ (k : Nat) (q : Nat × va_E), G'[k]? = some q → ∃ i, is[k]? = some i ∧ G[i]? = some q := by
    intro k q hq
    have h1 : (is.map (fun i => G[i]?))[k]? = some (some q) := by rw [hs, List.getElem?_map, hq]; rfl
    rw [List.getElem?_map] at h1
    cases hi : is[k]? with
    | none => rw [hi] at h1; cases h1
    | some i => rw [hi] at h1; exact ⟨i, rfl, Option.some.inj h1⟩
  have hPG : va_P D vwCl G H := fun k q hk => hP k q (ob_getL1 hk)
  have hPL : va_P D vwCl Lm H := fun k q hk => hP (G.length + k) q (ob_getL2 hk)
  have hDG : va_D A0 G := (ob_DF hD).weaken (fun _ _ _ h => h.1)
  have hDL : va_D A0 Lm := ⟨fun i j p q hp hq e => by have := hD.1 (G.length + i) (G.length + j) p q (ob_getL2 hp) (ob_getL2 hq) e; omega, fun k q hk => hD.2 _ q (ob_getL2 hk)⟩
  refine ⟨va_P.app (fun k q hq => ?_) hPL, va_D.app (hDG.sub is hn hs) hDL (fun i j x y hx hy e => ?_)⟩
  · obtain ⟨i, -, h2⟩ := at' k q hq
    exact hPG i q h2
  · obtain ⟨i', -, h2⟩ := at' i x hx
    exact ob_apart hD h2 hy e
theorem ob_perm2 {G' wr w1 N : va_W} (hP : va_P D vwCl ((wr ++ (w1 ++ N)) ++ Lm) H) (hD : va_D A0 ((wr ++ (w1 ++ N)) ++ Lm)) (is : List Nat) (hs : is.map (fun i => (wr ++ w1)[i]?) = G'.map some) (hn : va_nd is = true) : va_P D vwCl (G' ++ (N ++ Lm)) H ∧ va_D A0 (G' ++ (N ++ Lm)) := by
  have e : (wr ++ (w1 ++ N)) ++ Lm = (wr ++ w1) ++ (N ++ Lm) := by simp [List.append_assoc]
  rw [e] at hP hD
  exact ob_permL hP hD is hs hn
end OBLAW
section OBLAW2
variable {p : Program} {l : Launch} {e : Env} {R : Room} {s : State} {m : MethodId} {args : Array Value} {below : List Frame} {meth : Method} {c : Code} {H H0 : Heap} {locs : List Loc} {cells slots mc ms : Nat} {Q : State → Prop} {rest st0 : List Value} {pc : Nat} {ls : Array Slot} {D : va_G} {F Lm wc wr : va_W} {A0 : Nat → Prop} {av : Array Value} {St : Type} {w1 : St → va_W}
theorem ob_iL {post : Int32 → St → Prop} (hr : va_Run p l e R s m args below meth c H locs cells slots mc ms (F0 m pc ls st0) rest (va_Qi post (obB D (va_A wc H.size) w1) (va_A wc H.size) av) (va_A wc H.size))
    (hP : va_P D vwCl (F ++ Lm) H) (hD : va_D A0 (F ++ Lm)) (hS : va_S A0 H0 H locs) (hcut : va_P D vwCl wc H ∧ va_D (fun _ => True) wc ∧ ∀ q, va_A wc H.size q → A0 q ∧ ¬ ∃ (k : Nat) (e : va_E), Lm[k]? = some (q, e)) (isC isR : List Nat) (hC : isC.map (fun i => F[i]?) = wc.map some) (hR : isR.map (fun i => F[i]?) = wr.map some) (hn : va_nd isR = true) (hdis : ∀ i ∈ isR, i ∉ isC)
    (kk : ∀ (r : Int32) (u : St) (H1 : Heap) (locs1 : List Loc), post r u → va_P D vwCl ((wr ++ w1 u) ++ Lm) H1 → va_D A0 ((wr ++ w1 u) ++ Lm) → va_S A0 H0 H1 locs1 → W p l e R s m args below meth c H1 locs1 (cells + mc) (slots + ms) Q (F0 m (pc + 3) ls (.int r :: rest))) : W p l e R s m args below meth c H locs cells slots Q (F0 m pc ls st0) := by
  refine va_calli hr hS (fun q _ h => (hcut.2.2 q h).1) (fun q h => (hcut.2.2 q h).1) (fun r u t H1 locs ht hvm hw hB hz1 hk1 hS => ?_)
  obtain ⟨hP1, hD1⟩ := hB
  rw [ht] at hP1
  obtain ⟨hP2, hD2⟩ := ob_joinL (wr := wr) (w1 := w1 u) hP hD isC isR hC hR hn hdis hk1 hcut.2.2 hP1 hD1
  exact kk r u H1 locs hw hP2 hD2 hS
theorem ob_lL {post : Int64 → St → Prop} (hr : va_Run p l e R s m args below meth c H locs cells slots mc ms (F0 m pc ls st0) rest (va_Ql post (obB D (va_A wc H.size) w1) (va_A wc H.size) av) (va_A wc H.size))
    (hP : va_P D vwCl (F ++ Lm) H) (hD : va_D A0 (F ++ Lm)) (hS : va_S A0 H0 H locs) (hcut : va_P D vwCl wc H ∧ va_D (fun _ => True) wc ∧ ∀ q, va_A wc H.size q → A0 q ∧ ¬ ∃ (k : Nat) (e : va_E), Lm[k]? = some (q, e)) (isC isR : List Nat) (hC : isC.map (fun i => F[i]?) = wc.map some) (hR : isR.map (fun i => F[i]?) = wr.map some) (hn : va_nd isR = true) (hdis : ∀ i ∈ isR, i ∉ isC)
    (kk : ∀ (r : Int64) (u : St) (H1 : Heap) (locs1 : List Loc), post r u → va_P D vwCl ((wr ++ w1 u) ++ Lm) H1 → va_D A0 ((wr ++ w1 u) ++ Lm) → va_S A0 H0 H1 locs1 → W p l e R s m args below meth c H1 locs1 (cells + mc) (slots + ms) Q (F0 m (pc + 3) ls (.long r :: rest))) : W p l e R s m args below meth c H locs cells slots Q (F0 m pc ls st0) := by
  refine va_calll hr hS (fun q _ h => (hcut.2.2 q h).1) (fun q h => (hcut.2.2 q h).1) (fun r u t H1 locs ht hvm hw hB hz1 hk1 hS => ?_)
  obtain ⟨hP1, hD1⟩ := hB
  rw [ht] at hP1
  obtain ⟨hP2, hD2⟩ := ob_joinL (wr := wr) (w1 := w1 u) hP hD isC isR hC hR hn hdis hk1 hcut.2.2 hP1 hD1
  exact kk r u H1 locs hw hP2 hD2 hS
end OBLAW2
section OBLAW3
variable {N Lm : va_W} {aK : (Nat → Nat) × (Nat → Nat)} {lk : Nat → Option (Nat × Int32 × Int32 × Int32)} {fk : Nat → Option ((Nat → Int32) × (Nat → Int32) × (Nat → Int32) × (Nat → Int32) × (Nat → Int32) × Int32)} {cI : ClassId}
theorem obLK_app (h : obLK (Lm, aK) lk) : obLK (N ++ Lm, aK) lk := by
  intro a ci n v t e
  obtain ⟨h1, k, hk⟩ := h a ci n v t e
  exact ⟨h1, N.length + k, ob_getL2 hk⟩
theorem obFK_app (h : obFK cI (Lm, aK) fk) : obFK cI (N ++ Lm, aK) fk := by
  intro a st wo nu sa en cl e
  obtain ⟨q0, q1, q2, q3, q4, q5, pl, sc, ga, fa, k0, k1, k2, k3, k4, k5, h0, h1, h2, h3, h4, h5⟩ := h a st wo nu sa en cl e
  exact ⟨q0, q1, q2, q3, q4, q5, pl, sc, ga, fa, N.length + k0, N.length + k1, N.length + k2, N.length + k3, N.length + k4, N.length + k5, ob_getL2 h0, ob_getL2 h1, ob_getL2 h2, ob_getL2 h3, ob_getL2 h4, ob_getL2 h5⟩
theorem obLK_new {z : Option obNLT} (hz : obNLok z) (h : obLK (Lm, aK) lk) : obLK (obNL z ++ Lm, aK) (lkNew lk z) := by
  cases z with
  | none => exact h
  | some x =>
    obtain ⟨b, ci, n, v, t⟩ := x
    intro a c x0 x1 x2 e
    change lkUp lk b (ci, n, v, t) a = _ at e
    unfold lkUp at e
    by_cases hab : a = b
    · rw [if_pos hab] at e
      cases e
      subst hab
      exact ⟨hz, 0, rfl⟩
    · rw [if_neg hab] at e
      obtain ⟨h1, k, hk⟩ := h _ _ _ _ _ e
      exact ⟨h1, 1 + k, ob_getL2 (F := obNL (some (b, ci, n, v, t))) hk⟩
theorem obFK_new {t : Nat} {z : Option obNFT} (h : obFK cI (Lm, aK) fk) : obFK cI (obNF cI t z ++ Lm, aK) (fkNew fk z) := by
  cases z with
  | none => exact h
  | some x =>
    obtain ⟨⟨a, q1, q2, q3, q4, q5⟩, ⟨pl, sc, cl, ga, fa⟩, ⟨st, wo, nu, sa, en⟩⟩ := x
    intro b st' wo' nu' sa' en' cl' e
    change (if b = a then some (st, wo, nu, sa, en, cl) else fk b) = _ at e
    by_cases hab : b = a
    · rw [if_pos hab] at e
      cases e
      subst hab
      exact ⟨t, q1, q2, q3, q4, q5, pl, sc, ga, fa, 0, 1, 2, 3, 4, 5, rfl, rfl, rfl, rfl, rfl, rfl⟩
    · rw [if_neg hab] at e
      exact obFK_app (N := obNF cI t (some ((a, q1, q2, q3, q4, q5), (pl, sc, cl, ga, fa), (st, wo, nu, sa, en)))) h b st' wo' nu' sa' en' cl' e
end OBLAW3
theorem next_i {i0 x : Int32} {k : Nat} (h : i0 = nI (4 * k)) (e : x = i0 + 4) : x = nI (4 * (k + 1)) := by
  rw [e, h, show (4 : Int32) = nI 4 from rfl, nI_add]
  rfl
theorem law_bound {L k : Nat} {i0 : Int32} (hL : L ≤ 2048) (hk : k ≤ 512) (h : i0 = nI (4 * k)) (c : ¬ nI L - 4 < i0) : 4 * k + 4 ≤ L := by
  rw [h] at c
  rw [show (4 : Int32) = nI 4 from rfl, Int32.lt_iff_toInt_lt, pk_sub_toInt (by omega) (by omega), nI_toInt (by omega)] at c
  omega
