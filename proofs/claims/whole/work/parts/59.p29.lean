/-! PURE: image, undo, count -/
theorem q_become7 {cap n : Nat} {z0 c0 : Int32} {i0 : AR} {z : Int32} {it : AR} {Q : Int32 → Int32 → AR → Prop} (hz : z = nI n) (hn : n ≤ cap) (hc : cap < 2 ^ 20) (hQ : ∀ it' : AR, (∀ k, k < n → it' k = it k) → Q (nI n) (nI n) it') : m_X7_become cap cap z0 c0 i0 z it Q := by
  subst hz
  have L : ∀ (d i : Nat) (it' : AR), i + d = n → (∀ k, k < i → it' k = it k) → m_X7_become_L6 cap cap (nI n) it Q (d + 1) (nI i) (nI i) it' (nI i) := by
    intro d
    induction d with
    | zero =>
      intro i it' hi h
      unfold m_X7_become_L6
      refine ⟨fun _ => ?_, fun c => absurd ((nI_leI (by omega) (by omega)).mpr (by omega)) c⟩
      rw [show i = n from by omega]
      exact hQ it' (fun k hk => h k (by omega))
    | succ d ih =>
      intro i it' hi h
      unfold m_X7_become_L6
      rw [nI_clamp (by omega)]
      refine ⟨fun c => absurd ((nI_leI (by omega) (by omega)).mp c) (by omega), fun _ => ⟨vp_in_nI (by omega) (by omega), ?_⟩⟩
      unfold m_X7_add
      rw [nI_clamp (by omega), nI_1]
      refine ⟨fun _ => ⟨vp_in_nI (by omega) (by omega), fun y e x ex => ?_⟩, fun c => absurd ((nI_ltI (by omega) (by omega)).mpr (by omega)) c⟩
      subst ex
      refine ih (i + 1) y (by omega) (fun k hk => ?_)
      by_cases ek : k = i
      · rw [e, ek, pk_us]
      · rw [e, pk_un ek]; exact h k (by omega)
  intro x e
  subst e
  exact ⟨n + 1, L n 0 i0 (by omega) (fun k hk => absurd hk (by omega))⟩
theorem q_becomeS {lk : LKT} {fk : FKT} {nfI : Int32} {nF : Option Nat} {nS nT nY nM nG nA nL : Int32} {nP : Nat → Option Nat} {nC nB nR : AR} {tz : Int32} {ti : AR} {kz : Int32} {ki : AR} {bz : Int32} {bi : AR} {cz : Int32} {ci s : AR} {f0 : Int32} {uF : Option Nat} {uS uT uY uM uG uA uL : Int32} {uP : Nat → Option Nat} {uC uB uR : AR} {a1 a2 b1 b2 c1 c2 d1 d2 : Int32} {a3 b3 c3 d3 : AR} {Q : Int32 → Option Nat → Int32 → Int32 → Int32 → Int32 → Int32 → Int32 → Int32 → (Nat → Option Nat) → AR → AR → AR → Int32 → Int32 → AR → Int32 → Int32 → AR → Int32 → Int32 → AR → Int32 → Int32 → AR → Prop} (h : RelS lk fk nfI nF nS nT nY nM nG nA nL nP nC nB nR tz ti kz ki bz bi cz ci s)
    (hQ : ∀ (P : Nat → Option Nat) (C B R : AR) (e1 e2 e3 e4 : Int32) (ti' ki' bi' ci' : AR), RelS lk fk nfI nF nS nT nY nM nG nA nL P C B R tz ti' kz ki' bz bi' cz ci' s → Q nfI nF nS nT nY nM nG nA nL P C B R tz e1 ti' kz e2 ki' bz e3 bi' cz e4 ci') :
    m_X9_become lk f0 uF uS uT uY uM uG uA uL uP uC uB uR a1 a2 a3 b1 b2 b3 c1 c2 c3 d1 d2 d3 nfI nF nS nT nY nM nG nA nL nP nC nB nR tz ti kz ki bz bi cz ci Q := by
  obtain ⟨D, st, nf, gap, far, nt, nk, nb, tk, bt, bm, hC, hM, hf, ⟨t1, t2, t3, t4⟩, ⟨k1, k2, k3, k4⟩, ⟨b1', b2', b3', b4', b5'⟩⟩ := h
  have hC0 := hC
  obtain ⟨q1, q2, q3, q4, q5, q6, q7, q8, q9, q10⟩ := hC
  have hN := q3.2.1
  unfold m_X9_become
  subst t1
  subst k1
  subst b1'
  subst b2'
  refine q_become q8 (fun P C B R p1 p2 p3 p4 => q_become7 rfl t3 (by decide) (fun ti' hti => q_become7 rfl k3.1 (by decide) (fun ki' hki => q_become7 rfl b4'.1 (by decide) (fun bi' hbi => q_become7 rfl b4'.1 (by decide) (fun ci' hci => ?_)))))
  exact hQ P C B R _ _ _ _ ti' ki' bi' ci' ⟨D, st, nf, gap, far, nt, nk, nb, tk, bt, bm, ⟨WC_cp q1 p1 p4, StC_cp q2 hN hN p2 p3, q3, q4, q5, q6, q7, fun k hk b hb => q8 k hk b ((p1 k hk).symm.trans hb), q9, fun k hk hk7 => (p1 k hk7).trans (q10 k hk hk7)⟩, hM, hf, ⟨rfl, t2, t3, fun k hk => by rw [hti k hk]; exact t4 k hk⟩, ⟨rfl, k2, k3, fun k hk => by rw [hki k hk]; exact k4 k hk⟩, ⟨rfl, rfl, b3', b4', fun k hk => by rw [hbi k hk, hci k hk]; exact b5' k hk⟩⟩
theorem RelS_row {lk : LKT} {fk : FKT} {nfI : Int32} {nF : Option Nat} {nS nT nY nM nG nA nL : Int32} {nP : Nat → Option Nat} {nC nB nR : AR} {tz : Int32} {ti : AR} {kz : Int32} {ki : AR} {bz : Int32} {bi : AR} {cz : Int32} {ci s s' : AR} (h : RelS lk fk nfI nF nS nT nY nM nG nA nL nP nC nB nR tz ti kz ki bz bi cz ci s) (hs : ∀ k, k < 903 → s' k = s k) : RelS lk fk nfI nF nS nT nY nM nG nA nL nP nC nB nR tz ti kz ki bz bi cz ci s' := by
  obtain ⟨D, st, nf, gap, far, nt, nk, nb, tk, bt, bm, hC, hM, hf, hT, hK, hB⟩ := h
  exact ⟨D, st, nf, gap, far, nt, nk, nb, tk, bt, bm, hC, NowM_ch hM (fun j hj => hs j (by omega)), hf, TapeR_ch hT (fun j hj => hs j (by omega)), TakR_ch hK (fun j hj => hs j (by omega)), BookR_ch hB (fun j hj => hs j (by omega))⟩
theorem RelS_18 {lk : LKT} {fk : FKT} {nfI : Int32} {nF : Option Nat} {nS nT nY nM nG nA nL : Int32} {nP : Nat → Option Nat} {nC nB nR : AR} {tz : Int32} {ti : AR} {kz : Int32} {ki : AR} {bz : Int32} {bi : AR} {cz : Int32} {ci s : AR} (h : RelS lk fk nfI nF nS nT nY nM nG nA nL nP nC nB nR tz ti kz ki bz bi cz ci s) : nS = s 18 := by
  obtain ⟨D, st, nf, gap, far, nt, nk, nb, tk, bt, bm, hC, hM, hf, hT, hK, hB⟩ := h
  rw [hC.2.1.1, hM.1.2.1.1]
theorem q_imageM {hi : Int32} {s im : AR} {Q : Int32 → Int32 → AR → Prop} (hQ : ∀ im' : AR, (∀ k, k < 903 → im' k = s k) → Q (s 18) 1 im') : m_X12_image hi s im Q := by
  have L : ∀ (d i : Nat) (im' : AR), i + d = 903 → (∀ k, k < i → im' k = s k) → m_X12_image_L2 s hi Q (d + 1) im' (nI i) := by
    intro d
    induction d with
    | zero =>
      intro i im' hi' h
      unfold m_X12_image_L2
      exact ⟨fun _ => hQ im' (fun k hk => h k (by omega)), fun c => absurd ((nI_leI (a := 903) (b := i) (by omega) (by omega)).mpr (by omega)) c⟩
    | succ d ih =>
      intro i im' hi' h
      unfold m_X12_image_L2
      rw [nI_clamp (by omega)]
      refine ⟨fun c => absurd ((nI_leI (a := 903) (b := i) (by omega) (by omega)).mp c) (by omega), fun _ => ⟨vp_in_nI (by omega) (by decide), vp_in_nI (by omega) (by decide), fun y e x ex => ?_⟩⟩
      rw [nI_1] at ex
      subst ex
      refine ih (i + 1) y (by omega) (fun k hk => ?_)
      by_cases ek : k = i
      · rw [e, ek, pk_us]
      · rw [e, pk_un ek]; exact h k (by omega)
  intro x e
  subst e
  exact ⟨904, L 903 0 im rfl (fun k hk => absurd hk (by omega))⟩
theorem q_undoM {hi : Int32} {s im : AR} {Q : Int32 → AR → Prop} (h0 : hi = 0 → Q (-3) s) (hQ : ¬ hi = 0 → ∀ s' : AR, (∀ k, k < 903 → s' k = im k) → Q (im 18) s') : m_X12_undo hi s im Q := by
  refine ⟨h0, fun hn x e => ⟨904, ?_⟩⟩
  have L : ∀ (d i : Nat) (s' : AR), i + d = 903 → (∀ k, k < i → s' k = im k) → m_X12_undo_L12 im Q (d + 1) s' (nI i) := by
    intro d
    induction d with
    | zero =>
      intro i s' hi' h
      unfold m_X12_undo_L12
      have e18 : s' (18 : Int32).toNatClampNeg = im 18 := h 18 (by omega)
      rw [e18]
      exact ⟨fun _ => hQ hn s' (fun k hk => h k (by omega)), fun c => absurd ((nI_leI (a := 903) (b := i) (by omega) (by omega)).mpr (by omega)) c⟩
    | succ d ih =>
      intro i s' hi' h
      unfold m_X12_undo_L12
      rw [nI_clamp (by omega)]
      refine ⟨fun c => absurd ((nI_leI (a := 903) (b := i) (by omega) (by omega)).mp c) (by omega), fun _ => ⟨vp_in_nI (by omega) (by decide), vp_in_nI (by omega) (by decide), fun y e x ex => ?_⟩⟩
      rw [nI_1] at ex
      subst ex
      refine ih (i + 1) y (by omega) (fun k hk => ?_)
      by_cases ek : k = i
      · rw [e, ek, pk_us]
      · rw [e, pk_un ek]; exact h k (by omega)
  subst e
  exact L 903 0 s rfl (fun k hk => absurd hk (by omega))
def couA (N nf nk nb nt c : Nat) (a : Int32) : Int32 := if a = 0 then nI N else if a = 1 then nI nf else if a = 2 then nI nk else if a = 3 then nI nb else if a = 4 then nI nt else if a = 5 then nI c else -1
theorem q_countC {N nf nk nb nt c : Nat} {a : Int32} {Q : Int32 → Prop} (hQ : Q (couA N nf nk nb nt c a)) : m_X11_count (nI nf) (nI N) (nI nt) (nI nk) (nI nb) (nI c) a Q := by
  unfold couA at hQ
  refine ⟨fun c => ?_, fun c => ?_, fun c => ?_, fun c => ?_, fun c => ?_, fun c => ?_, fun c => ?_⟩
  · subst c; exact hQ
  · subst c; exact hQ
  · subst c; exact hQ
  · subst c; exact hQ
  · subst c; exact hQ
  · subst c; exact hQ
  · have n0 : ∀ k, k < 6 → ¬ a = nI k := fun k hk e => by rw [e, nI_toInt (by omega)] at c; omega
    rw [if_neg (show ¬ a = 0 from n0 0 (by omega)), if_neg (show ¬ a = 1 from n0 1 (by omega)), if_neg (show ¬ a = 2 from n0 2 (by omega)), if_neg (show ¬ a = 3 from n0 3 (by omega)), if_neg (show ¬ a = 4 from n0 4 (by omega)), if_neg (show ¬ a = 5 from n0 5 (by omega))] at hQ
    exact hQ
theorem q_countM {N nf nk nb nt c : Nat} {a : Int32} {s : AR} {Q : Int32 → Prop} (h18 : s 18 = nI N) (h19 : s 19 = nI nf) (h20 : s 20 = nI nk) (h21 : s 21 = nI nb) (h22 : s 22 = nI nt) (hQ : Q (couA N nf nk nb nt c a)) : m_X12_count (nI c) s a Q := by
  unfold couA at hQ
  refine ⟨fun c => ?_, fun c5 => ?_⟩
  · subst c; exact hQ
  · refine q_inIdx 4 rfl (by decide) (fun k hk e ei => ⟨fun z => absurd z (by decide), fun _ => ?_⟩) (fun ei => ⟨fun _ => ?_, fun z => absurd rfl z⟩)
    · subst e
      have e18 : ((18 : Int32) + nI k).toNatClampNeg = 18 + k := ixc rfl (by omega)
      rw [e18]
      refine ⟨vpc (k := 18) rfl (by omega) (by decide), ?_⟩
      have : k = 0 ∨ k = 1 ∨ k = 2 ∨ k = 3 ∨ k = 4 := by omega
      rcases this with rfl | rfl | rfl | rfl | rfl
      · rw [h18]; exact hQ
      · rw [h19]; exact hQ
      · rw [h20]; exact hQ
      · rw [h21]; exact hQ
      · rw [h22]; exact hQ
    · have n0 : ∀ k, k < 5 → ¬ a = nI k := fun k hk e => by rw [e, idx_some hk (by omega)] at ei; cases ei
      rw [if_neg (show ¬ a = 0 from n0 0 (by omega)), if_neg (show ¬ a = 1 from n0 1 (by omega)), if_neg (show ¬ a = 2 from n0 2 (by omega)), if_neg (show ¬ a = 3 from n0 3 (by omega)), if_neg (show ¬ a = 4 from n0 4 (by omega)), if_neg c5] at hQ
      exact hQ
