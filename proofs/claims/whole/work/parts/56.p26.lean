/-! PURE: the relation of a state and the reference's row; feed, took, book -/
def TapeR (nt : Nat) (tz : Int32) (ti s : AR) : Prop := tz = nI nt ∧ s 22 = nI nt ∧ nt ≤ 100 ∧ ∀ k, k < nt → ti k = s (88 + k) ∧ ∃ c : Nat, c ≤ 127 ∧ s (88 + k) = nI c
def TakR (nk : Nat) (tk : Nat → Nat) (kz : Int32) (ki s : AR) : Prop := kz = nI nk ∧ s 20 = nI nk ∧ TkOk nk tk ∧ ∀ k, k < nk → ki k = nI (tk k) ∧ s (66 + k) = nI (tk k)
def BookR (nb : Nat) (bt bm : Nat → Nat) (bz : Int32) (bi : AR) (cz : Int32) (ci s : AR) : Prop := bz = nI nb ∧ cz = nI nb ∧ s 21 = nI nb ∧ BkOk nb bt bm ∧ ∀ k, k < nb → (bi k = nI (bt k) ∧ ci k = nI (bm k)) ∧ (s (72 + k) = nI (bt k) ∧ s (80 + k) = nI (bm k))
def RelS (lk : LKT) (fk : FKT) (nfI : Int32) (nF : Option Nat) (nS nT nY nM nG nA nL : Int32) (nP : Nat → Option Nat) (nC nB nR : AR) (tz : Int32) (ti : AR) (kz : Int32) (ki : AR) (bz : Int32) (bi : AR) (cz : Int32) (ci : AR) (s : AR) : Prop := ∃ (D : DT) (st : TS) (nf gap far nt nk nb : Nat) (tk bt bm : Nat → Nat), NowC D gap far lk fk nF nS nT nY nM nG nA nL nP nC nB nR st ∧ NowM D nf gap far s st ∧ nfI = nI nf ∧ TapeR nt tz ti s ∧ TakR nk tk kz ki s ∧ BookR nb bt bm bz bi cz ci s
theorem WM_ch {D : DT} {nf gap far : Nat} {s s' : AR} (h : WM D nf gap far s) (hf : ∀ j, (j = 18 ∨ j = 19 ∨ (23 ≤ j ∧ j < 66) ∨ (188 ≤ j ∧ j < 903)) → s' j = s j) : WM D nf gap far s' := by
  obtain ⟨h1, ⟨h2, h3, h4⟩, h5, h6, h7, h7b, h8, h9⟩ := h
  have hN := h1.1.1
  refine ⟨h1, ⟨?_, fun p hp => ?_, fun j hj => ?_⟩, fun s2 hs2 => h5 s2 (fun j hj => (hs2 j hj).trans (hf j ?_)), h6, h7, h7b, ?_, ?_⟩
  · rw [hf _ (by omega)]; exact h2
  · rw [hf _ (by omega), hf _ (by omega), hf _ (by omega)]; exact h3 p hp
  · rw [hf _ (by omega)]; exact h4 j hj
  · unfold InF at hj; omega
  · rw [hf _ (by omega)]; exact h8
  · rcases h9 with ⟨a, b, c⟩ | ⟨a, b, c, d⟩
    · exact Or.inl ⟨a, by rw [hf _ (by omega)]; exact b, c⟩
    · exact Or.inr ⟨a, by rw [hf _ (by omega)]; exact b, by rw [hf _ (by omega)]; exact c, by rw [hf _ (by omega)]; exact d⟩
theorem StM_ch {N M : Nat} {s s' : AR} {st : TS} (h : StM N M s st) (hN : N ≤ 7) (hM : M ≤ 7) (hf : ∀ j, j < 18 → s' j = s j) : StM N M s' st := by
  obtain ⟨a, b, c, d, e, f⟩ := h
  exact ⟨(hf 0 (by omega)).trans a, (hf 1 (by omega)).trans b, (hf 2 (by omega)).trans c, (hf 3 (by omega)).trans d, fun k hk => (hf _ (by omega)).trans (e k hk), fun p hp => (hf _ (by omega)).trans (f p hp)⟩
theorem NowM_ch {D : DT} {nf gap far : Nat} {s s' : AR} {st : TS} (h : NowM D nf gap far s st) (hf : ∀ j, (j < 20 ∨ (23 ≤ j ∧ j < 66) ∨ (188 ≤ j ∧ j < 903)) → s' j = s j) : NowM D nf gap far s' st := by
  obtain ⟨h1, h2, h3, h4, h5⟩ := h
  exact ⟨WM_ch h1 (fun j hj => hf j (by omega)), StM_ch h2 h3.2.1 h3.2.1 (fun j hj => hf j (by omega)), h3, h4, h5⟩
theorem TapeR_ch {nt : Nat} {tz : Int32} {ti s s' : AR} (h : TapeR nt tz ti s) (hf : ∀ j, (j = 22 ∨ (88 ≤ j ∧ j < 188)) → s' j = s j) : TapeR nt tz ti s' := by
  obtain ⟨a, b, c, d⟩ := h
  refine ⟨a, (hf _ (by omega)).trans b, c, fun k hk => ?_⟩
  rw [hf _ (by omega)]
  exact d k hk
theorem TakR_ch {nk : Nat} {tk : Nat → Nat} {kz : Int32} {ki s s' : AR} (h : TakR nk tk kz ki s) (hf : ∀ j, (j = 20 ∨ (66 ≤ j ∧ j < 72)) → s' j = s j) : TakR nk tk kz ki s' := by
  obtain ⟨a, b, c, d⟩ := h
  have := c.1
  refine ⟨a, (hf _ (by omega)).trans b, c, fun k hk => ?_⟩
  rw [hf _ (by omega)]
  exact d k hk
theorem BookR_ch {nb : Nat} {bt bm : Nat → Nat} {bz cz : Int32} {bi ci s s' : AR} (h : BookR nb bt bm bz bi cz ci s) (hf : ∀ j, (j = 21 ∨ (72 ≤ j ∧ j < 88)) → s' j = s j) : BookR nb bt bm bz bi cz ci s' := by
  obtain ⟨a, a2, b, c, d⟩ := h
  have := c.1
  refine ⟨a, a2, (hf _ (by omega)).trans b, c, fun k hk => ?_⟩
  rw [hf (72 + k) (by omega), hf (80 + k) (by omega)]
  exact d k hk
theorem q_rng {a hi : Int32} {X Y : Prop} (n : Nat) (hh : hi = nI n) (hn : n < 2 ^ 20) (h0 : idx (n + 1) a = none → X) (h1 : ∀ k, k ≤ n → a = nI k → idx (n + 1) a = some k → Y) : (a < 0 → X) ∧ (¬ a < 0 → (a ≤ hi → Y) ∧ (¬ a ≤ hi → X)) := by
  subst hh
  rcases idx_cs (n := n + 1) a (by omega) with ⟨k, hk, e, ei⟩ | ⟨hn', ei⟩
  · subst e
    exact ⟨fun c => absurd c (nI_pos (by omega)), fun _ => ⟨fun _ => h1 k (by omega) rfl ei, fun c => absurd ((nI_leI (by omega) (by omega)).mpr (by omega)) c⟩⟩
  · refine ⟨fun _ => h0 ei, fun c => ⟨fun d => ?_, fun _ => h0 ei⟩⟩
    rcases pk_ix a (n := n + 1) (by omega) with q | q | ⟨k, hk, e⟩
    · exact absurd q c
    · rw [Int32.le_iff_toInt_le, nI_toInt (by omega)] at q d
      omega
    · exact absurd e (hn' k hk)
theorem q_rng2 {a hi : Int32} {X Y : Prop} (n : Nat) (hh : hi = nI n) (hn : n < 2 ^ 20) (h0 : idx (n + 1) a = none → X) (h1 : ∀ k, k ≤ n → a = nI k → idx (n + 1) a = some k → Y) : (a < 0 → X) ∧ (¬ a < 0 → (hi < a → X) ∧ (¬ hi < a → Y)) := by
  have h := q_rng (a := a) n hh hn h0 h1
  refine ⟨h.1, fun c => ⟨fun d => (h.2 c).2 (fun e => ?_), fun d => (h.2 c).1 ?_⟩⟩
  · rw [Int32.lt_iff_toInt_lt] at d
    rw [Int32.le_iff_toInt_le] at e
    omega
  · rw [Int32.lt_iff_toInt_lt] at d
    rw [Int32.le_iff_toInt_le]
    omega
theorem q_add {cap n : Nat} {z cm x : Int32} {it : AR} {Q : Int32 → Int32 → Int32 → AR → Prop} (hz : z = nI n) (hn : n ≤ cap) (hc : cap < 2 ^ 20) (h1 : n < cap → ∀ cm, Q 1 (nI (n + 1)) cm (upd it n x)) (h0 : n = cap → ∀ cm, Q 0 (nI n) cm it) : m_X7_add cap z cm it x Q := by
  subst hz
  unfold m_X7_add
  rw [nI_clamp (by omega), nI_1]
  refine ⟨fun c => ?_, fun c => ?_⟩
  · have := (nI_ltI (by omega) (by omega)).mp c
    exact ⟨vp_in_nI this (by omega), fun y e => by rw [e]; exact h1 this _⟩
  · have : ¬ n < cap := fun q => c ((nI_ltI (by omega) (by omega)).mpr q)
    exact h0 (by omega) _
/-! feed -/
def feedA (nt : Nat) (a : Int32) : Int32 := match idx 128 a with | none => -2 | some _ => if nt = 100 then -4 else nI (nt + 1)
def feedN (nt : Nat) (a : Int32) : Nat := match idx 128 a with | none => nt | some _ => if nt = 100 then nt else nt + 1
def feedI (nt : Nat) (a : Int32) (ti : AR) : AR := match idx 128 a with | none => ti | some c => if nt = 100 then ti else upd ti nt (nI c)
def feedS (nt : Nat) (a : Int32) (s : AR) : AR := match idx 128 a with | none => s | some c => if nt = 100 then s else upd (upd s (88 + nt) (nI c)) 22 (nI (nt + 1))
theorem q_feedC {nt : Nat} {tz tcm a : Int32} {ti s : AR} {Q : Int32 → Int32 → Int32 → AR → Prop} (h : TapeR nt tz ti s) (hQ : ∀ cm, Q (feedA nt a) (nI (feedN nt a)) cm (feedI nt a ti)) : m_X11_feed tz tcm ti a Q := by
  obtain ⟨hz, -, hn, -⟩ := h
  unfold feedA feedN feedI at hQ
  refine q_rng 127 rfl (by decide) (fun e => ?_) (fun k hk e ei => q_add hz hn (by decide) (fun c cm => ?_) (fun c cm => ?_))
  · rw [e] at hQ; rw [hz]; exact hQ _
  · rw [ei] at hQ
    dsimp only at hQ
    rw [if_neg (by omega), if_neg (by omega), if_neg (by omega)] at hQ
    rw [e]
    exact ⟨fun z => absurd z (by decide), fun _ => hQ _⟩
  · rw [ei] at hQ
    dsimp only at hQ
    rw [if_pos c, if_pos c, if_pos c] at hQ
    exact ⟨fun _ => hQ _, fun z => absurd rfl z⟩
theorem q_feedM {nt : Nat} {tz a : Int32} {ti s : AR} {Q : Int32 → AR → Prop} (h : TapeR nt tz ti s) (hQ : Q (feedA nt a) (feedS nt a s)) : m_X12_feed s a Q := by
  obtain ⟨-, h22, hn, -⟩ := h
  unfold feedA feedS at hQ
  have c22 : (22 : Int32).toNatClampNeg = 22 := rfl
  refine q_inIdx 127 rfl (by decide) (fun k hk e ei => ⟨fun c => absurd c (by decide), fun _ => ?_⟩) (fun ei => ⟨fun _ => by rw [ei] at hQ; exact hQ, fun z => absurd rfl z⟩)
  rw [ei] at hQ
  dsimp only at hQ
  have e88 : ((88 : Int32) + nI nt).toNatClampNeg = 88 + nt := ixc rfl (by omega)
  rw [c22, h22, e88, show nI nt = 100 ↔ nt = 100 from nI_eq (a := nt) (b := 100) (by omega) (by omega)]
  refine ⟨fun c => by rw [if_pos c, if_pos c] at hQ; exact hQ, fun c => ⟨vpc (k := 88) rfl (by omega) (by decide), fun y5 e5 y6 e6 => ?_⟩⟩
  rw [if_neg c, if_neg c] at hQ
  rw [e5, pk_un (by omega), h22, nI_1, e] at e6
  rw [e6, pk_us]
  exact hQ
theorem rel_feed {nt : Nat} {tz a : Int32} {ti s : AR} (h : TapeR nt tz ti s) : TapeR (feedN nt a) (nI (feedN nt a)) (feedI nt a ti) (feedS nt a s) ∧ ∀ j, j ≠ 22 → ¬ (88 ≤ j ∧ j < 188) → feedS nt a s j = s j := by
  obtain ⟨hz, h22, hn, ht⟩ := h
  unfold feedN feedI feedS
  rcases idx_cs (n := 128) a (by omega) with ⟨c, hc, e, ei⟩ | ⟨-, ei⟩
  · rw [ei]
    dsimp only
    by_cases q : nt = 100
    · rw [if_pos q, if_pos q, if_pos q]
      exact ⟨⟨rfl, h22, hn, ht⟩, fun _ _ _ => rfl⟩
    · rw [if_neg q, if_neg q, if_neg q]
      refine ⟨⟨rfl, by rw [pk_us], by omega, fun k hk => ?_⟩, fun j j1 j2 => ?_⟩
      · rw [pk_un (show 88 + k ≠ 22 by omega)]
        by_cases ek : k = nt
        · rw [ek, pk_us, pk_us]; exact ⟨rfl, c, by omega, rfl⟩
        · rw [pk_un ek, pk_un (show 88 + k ≠ 88 + nt by omega)]; exact ht k (by omega)
      · rw [pk_un j1, pk_un (by omega)]
  · rw [ei]
    exact ⟨⟨rfl, h22, hn, ht⟩, fun _ _ _ => rfl⟩
/-! took -/
def tookA (nk : Nat) (a : Int32) : Int32 := if a = -1 then 0 else match idx 10000 a with | none => -2 | some _ => if nk = 6 then -4 else nI (nk + 1)
def tookK (nk : Nat) (a : Int32) : Nat := if a = -1 then 0 else match idx 10000 a with | none => nk | some _ => if nk = 6 then nk else nk + 1
def tookI (nk : Nat) (a : Int32) (ki : AR) : AR := if a = -1 then ki else match idx 10000 a with | none => ki | some c => if nk = 6 then ki else upd ki nk (nI c)
def tookT (nk : Nat) (a : Int32) (tk : Nat → Nat) : Nat → Nat := if a = -1 then tk else match idx 10000 a with | none => tk | some c => if nk = 6 then tk else fun k => if k = nk then c else tk k
def tookS (nk : Nat) (a : Int32) (s : AR) : AR := if a = -1 then upd s 20 0 else match idx 10000 a with | none => s | some c => if nk = 6 then s else upd (upd s (66 + nk) (nI c)) 20 (nI (nk + 1))
theorem q_tookC {nk : Nat} {tk : Nat → Nat} {kz kcm a : Int32} {ki s : AR} {Q : Int32 → Int32 → Int32 → AR → Prop} (h : TakR nk tk kz ki s) (hQ : ∀ cm, Q (tookA nk a) (nI (tookK nk a)) cm (tookI nk a ki)) : m_X11_took kz kcm ki a Q := by
  obtain ⟨hz, -, hn, -⟩ := h
  unfold tookA tookK tookI at hQ
  refine ⟨fun c => ?_, fun c => ?_⟩
  · rw [if_pos c, if_pos c, if_pos c] at hQ; exact hQ _
  · rw [if_neg c, if_neg c, if_neg c] at hQ
    refine q_rng 9999 rfl (by decide) (fun e => ?_) (fun k hk e ei => q_add hz hn.1 (by decide) (fun c cm => ?_) (fun c cm => ?_))
    · rw [e] at hQ; rw [hz]; exact hQ _
    · rw [ei] at hQ
      dsimp only at hQ
      rw [if_neg (by omega), if_neg (by omega), if_neg (by omega)] at hQ
      rw [e]
      exact ⟨fun z => absurd z (by decide), fun _ => hQ _⟩
    · rw [ei] at hQ
      dsimp only at hQ
      rw [if_pos c, if_pos c, if_pos c] at hQ
      exact ⟨fun _ => hQ _, fun z => absurd rfl z⟩
theorem q_tookM {nk : Nat} {tk : Nat → Nat} {kz a : Int32} {ki s : AR} {Q : Int32 → AR → Prop} (h : TakR nk tk kz ki s) (hQ : Q (tookA nk a) (tookS nk a s)) : m_X12_took s a Q := by
  obtain ⟨-, h20, hn, -⟩ := h
  have hn6 := hn.1
  unfold tookA tookS at hQ
  have c20 : (20 : Int32).toNatClampNeg = 20 := rfl
  refine ⟨fun c y e => ?_, fun c => ?_⟩
  · rw [if_pos c, if_pos c] at hQ; rw [e]; exact hQ
  · rw [if_neg c, if_neg c] at hQ
    refine q_inIdx 9999 rfl (by decide) (fun k hk e ei => ⟨fun c => absurd c (by decide), fun _ => ?_⟩) (fun ei => ⟨fun _ => by rw [ei] at hQ; exact hQ, fun z => absurd rfl z⟩)
    rw [ei] at hQ
    dsimp only at hQ
    have e66 : ((66 : Int32) + nI nk).toNatClampNeg = 66 + nk := ixc rfl (by omega)
    rw [c20, h20, e66, show nI nk = 6 ↔ nk = 6 from nI_eq (a := nk) (b := 6) (by omega) (by omega)]
    refine ⟨fun c => by rw [if_pos c, if_pos c] at hQ; exact hQ, fun c => ⟨vpc (k := 66) rfl (by omega) (by decide), fun y5 e5 y6 e6 => ?_⟩⟩
    rw [if_neg c, if_neg c] at hQ
    rw [e5, pk_un (by omega), h20, nI_1, e] at e6
    rw [e6, pk_us]
    exact hQ
theorem rel_took {nk : Nat} {tk : Nat → Nat} {kz a : Int32} {ki s : AR} (h : TakR nk tk kz ki s) : TakR (tookK nk a) (tookT nk a tk) (nI (tookK nk a)) (tookI nk a ki) (tookS nk a s) ∧ ∀ j, j ≠ 20 → ¬ (66 ≤ j ∧ j < 72) → tookS nk a s j = s j := by
  obtain ⟨hz, h20, hn, ht⟩ := h
  unfold tookK tookI tookS tookT
  by_cases c1 : a = -1
  · rw [if_pos c1, if_pos c1, if_pos c1, if_pos c1]
    exact ⟨⟨rfl, pk_us, ⟨by omega, fun k hk => absurd hk (by omega)⟩, fun k hk => absurd hk (by omega)⟩, fun j j1 _ => pk_un j1⟩
  · rw [if_neg c1, if_neg c1, if_neg c1, if_neg c1]
    rcases idx_cs (n := 10000) a (by omega) with ⟨c, hc, e, ei⟩ | ⟨-, ei⟩
    · rw [ei]
      dsimp only
      by_cases q : nk = 6
      · rw [if_pos q, if_pos q, if_pos q, if_pos q]
        exact ⟨⟨rfl, h20, hn, ht⟩, fun _ _ _ => rfl⟩
      · rw [if_neg q, if_neg q, if_neg q, if_neg q]
        have hn6 := hn.1
        refine ⟨⟨rfl, by rw [pk_us], ⟨by omega, fun k hk => ?_⟩, fun k hk => ?_⟩, fun j j1 j2 => ?_⟩
        · show (if k = nk then c else tk k) ≤ 9999
          split
          · omega
          · exact hn.2 k (by omega)
        · show upd ki nk (nI c) k = nI (if k = nk then c else tk k) ∧ _ = nI (if k = nk then c else tk k)
          rw [pk_un (show 66 + k ≠ 20 by omega)]
          by_cases ek : k = nk
          · rw [if_pos ek, ek, pk_us, pk_us]; exact ⟨rfl, rfl⟩
          · rw [if_neg ek, pk_un ek, pk_un (by omega)]; exact ht k (by omega)
        · rw [pk_un j1, pk_un (by omega)]
    · rw [ei]
      exact ⟨⟨rfl, h20, hn, ht⟩, fun _ _ _ => rfl⟩
/-! book -/
def bookA (nb : Nat) (a b : Int32) : Int32 := if a = -1 then 0 else match idx 61 a, idx 100000 b with | some _, some _ => if nb = 8 then -4 else nI (nb + 1) | _, _ => -2
def bookN (nb : Nat) (a b : Int32) : Nat := if a = -1 then 0 else match idx 61 a, idx 100000 b with | some _, some _ => if nb = 8 then nb else nb + 1 | _, _ => nb
def bookI (nb : Nat) (a b : Int32) (bi : AR) : AR := if a = -1 then bi else match idx 61 a, idx 100000 b with | some x, some _ => if nb = 8 then bi else upd bi nb (nI x) | _, _ => bi
def bookJ (nb : Nat) (a b : Int32) (ci : AR) : AR := if a = -1 then ci else match idx 61 a, idx 100000 b with | some _, some y => if nb = 8 then ci else upd ci nb (nI y) | _, _ => ci
def bookT (nb : Nat) (a b : Int32) (bt : Nat → Nat) : Nat → Nat := if a = -1 then bt else match idx 61 a, idx 100000 b with | some x, some _ => if nb = 8 then bt else (fun k => if k = nb then x else bt k) | _, _ => bt
def bookU (nb : Nat) (a b : Int32) (bm : Nat → Nat) : Nat → Nat := if a = -1 then bm else match idx 61 a, idx 100000 b with | some _, some y => if nb = 8 then bm else (fun k => if k = nb then y else bm k) | _, _ => bm
def bookS (nb : Nat) (a b : Int32) (s : AR) : AR := if a = -1 then upd s 21 0 else match idx 61 a, idx 100000 b with | some x, some y => if nb = 8 then s else upd (upd (upd s (72 + nb) (nI x)) (80 + nb) (nI y)) 21 (nI (nb + 1)) | _, _ => s
theorem q_bookC {nb : Nat} {bt bm : Nat → Nat} {bz bcm cz ccm a b : Int32} {bi ci s : AR} {Q : Int32 → Int32 → Int32 → AR → Int32 → Int32 → AR → Prop} (h : BookR nb bt bm bz bi cz ci s) (hQ : ∀ cm cm', Q (bookA nb a b) (nI (bookN nb a b)) cm (bookI nb a b bi) (nI (bookN nb a b)) cm' (bookJ nb a b ci)) : m_X11_book bz bcm bi cz ccm ci a b Q := by
  obtain ⟨hz, hz2, -, hn, -⟩ := h
  unfold bookA bookN bookI bookJ at hQ
  refine ⟨fun c => ?_, fun c => ?_⟩
  · rw [if_pos c, if_pos c, if_pos c, if_pos c] at hQ; exact hQ _ _
  · rw [if_neg c, if_neg c, if_neg c, if_neg c] at hQ
    refine q_rng2 60 rfl (by decide) (fun e => ?_) (fun x hx e ei => q_rng 99999 rfl (by decide) (fun e' => ?_) (fun y hy e' ei' => q_add hz hn.1 (by decide) (fun c cm => ?_) (fun c cm => ?_)))
    · rw [e] at hQ; rw [hz, hz2]; exact hQ _ _
    · rw [ei, e'] at hQ; rw [hz, hz2]; exact hQ _ _
    · rw [ei, ei'] at hQ
      dsimp only at hQ
      rw [if_neg (by omega), if_neg (by omega), if_neg (by omega), if_neg (by omega)] at hQ
      rw [e, e']
      exact ⟨fun z => absurd z (by decide), fun _ => q_add hz2 hn.1 (by decide) (fun c cm => hQ _ _) (fun c => absurd c (by omega))⟩
    · rw [ei, ei'] at hQ
      dsimp only at hQ
      rw [if_pos c, if_pos c, if_pos c, if_pos c] at hQ
      rw [hz2]
      exact ⟨fun _ => hQ _ _, fun z => absurd rfl z⟩
theorem q_bookM {nb : Nat} {bt bm : Nat → Nat} {bz cz a b : Int32} {bi ci s : AR} {Q : Int32 → AR → Prop} (h : BookR nb bt bm bz bi cz ci s) (hQ : Q (bookA nb a b) (bookS nb a b s)) : m_X12_book s a b Q := by
  obtain ⟨-, -, h21, hn, -⟩ := h
  have hn8 := hn.1
  unfold bookA bookS at hQ
  have c21 : (21 : Int32).toNatClampNeg = 21 := rfl
  refine ⟨fun c y e => ?_, fun c => ?_⟩
  · rw [if_pos c, if_pos c] at hQ; rw [e]; exact hQ
  · rw [if_neg c, if_neg c] at hQ
    refine q_inIdx 60 rfl (by decide) (fun x hx e ei => ⟨fun c => absurd c (by decide), fun _ => ?_⟩) (fun ei => ⟨fun _ => by rw [ei] at hQ; exact hQ, fun z => absurd rfl z⟩)
    refine q_inIdx 99999 rfl (by decide) (fun y hy e' ei' => ⟨fun c => absurd c (by decide), fun _ => ?_⟩) (fun ei' => ⟨fun _ => by rw [ei, ei'] at hQ; exact hQ, fun z => absurd rfl z⟩)
    rw [ei, ei'] at hQ
    dsimp only at hQ
    have e72 : ((72 : Int32) + nI nb).toNatClampNeg = 72 + nb := ixc rfl (by omega)
    have e80 : ((80 : Int32) + nI nb).toNatClampNeg = 80 + nb := ixc rfl (by omega)
    rw [c21, h21, e72, show nI nb = 8 ↔ nb = 8 from nI_eq (a := nb) (b := 8) (by omega) (by omega)]
    refine ⟨fun c => by rw [if_pos c, if_pos c] at hQ; exact hQ, fun c => ⟨vpc (k := 72) rfl (by omega) (by decide), fun y9 e9 => ?_⟩⟩
    rw [if_neg c, if_neg c] at hQ
    have h9 : y9 21 = nI nb := by rw [e9, pk_un (by omega)]; exact h21
    rw [h9, e80]
    refine ⟨vpc (k := 80) rfl (by omega) (by decide), fun y10 e10 y11 e11 => ?_⟩
    rw [e10, pk_un (by omega), h9, nI_1, e', e9, e] at e11
    rw [e11, pk_us]
    exact hQ
theorem rel_book {nb : Nat} {bt bm : Nat → Nat} {bz cz a b : Int32} {bi ci s : AR} (h : BookR nb bt bm bz bi cz ci s) : BookR (bookN nb a b) (bookT nb a b bt) (bookU nb a b bm) (nI (bookN nb a b)) (bookI nb a b bi) (nI (bookN nb a b)) (bookJ nb a b ci) (bookS nb a b s) ∧ ∀ j, j ≠ 21 → ¬ (72 ≤ j ∧ j < 88) → bookS nb a b s j = s j := by
  obtain ⟨hz, hz2, h21, hn, ht⟩ := h
  unfold bookN bookI bookJ bookS bookT bookU
  by_cases c1 : a = -1
  · rw [if_pos c1, if_pos c1, if_pos c1, if_pos c1, if_pos c1, if_pos c1]
    exact ⟨⟨rfl, rfl, pk_us, ⟨by omega, fun k hk => absurd hk (by omega)⟩, fun k hk => absurd hk (by omega)⟩, fun j j1 _ => pk_un j1⟩
  · rw [if_neg c1, if_neg c1, if_neg c1, if_neg c1, if_neg c1, if_neg c1]
    rcases idx_cs (n := 61) a (by omega) with ⟨x, hx, e, ei⟩ | ⟨-, ei⟩
    · rcases idx_cs (n := 100000) b (by omega) with ⟨y, hy, e', ei'⟩ | ⟨-, ei'⟩
      · rw [ei, ei']
        dsimp only
        by_cases q : nb = 8
        · rw [if_pos q, if_pos q, if_pos q, if_pos q, if_pos q, if_pos q]
          exact ⟨⟨rfl, rfl, h21, hn, ht⟩, fun _ _ _ => rfl⟩
        · rw [if_neg q, if_neg q, if_neg q, if_neg q, if_neg q, if_neg q]
          have hn8 := hn.1
          refine ⟨⟨rfl, rfl, by rw [pk_us], ⟨by omega, fun k hk => ?_⟩, fun k hk => ?_⟩, fun j j1 j2 => ?_⟩
          · show (if k = nb then x else bt k) ≤ 60 ∧ (if k = nb then y else bm k) ≤ 99999
            split
            · omega
            · exact hn.2 k (by omega)
          · show (upd bi nb (nI x) k = nI (if k = nb then x else bt k) ∧ upd ci nb (nI y) k = nI (if k = nb then y else bm k)) ∧ (_ = nI (if k = nb then x else bt k) ∧ _ = nI (if k = nb then y else bm k))
            rw [pk_un (show 72 + k ≠ 21 by omega), pk_un (show 80 + k ≠ 21 by omega), pk_un (show 72 + k ≠ 80 + nb by omega)]
            by_cases ek : k = nb
            · rw [if_pos ek, if_pos ek, ek, pk_us, pk_us, pk_us, pk_us]; exact ⟨⟨rfl, rfl⟩, rfl, rfl⟩
            · rw [if_neg ek, if_neg ek, pk_un ek, pk_un ek, pk_un (show 72 + k ≠ 72 + nb by omega), pk_un (show 80 + k ≠ 80 + nb by omega), pk_un (show 80 + k ≠ 72 + nb by omega)]; exact ht k (by omega)
          · rw [pk_un j1, pk_un (by omega), pk_un (by omega)]
      · rw [ei, ei']
        exact ⟨⟨rfl, rfl, h21, hn, ht⟩, fun _ _ _ => rfl⟩
    · rw [ei]
      exact ⟨⟨rfl, rfl, h21, hn, ht⟩, fun _ _ _ => rfl⟩
