/-! PURE: acts, the trace -/
def appL : List Int32 → Nat → AR → AR
  | [], _, f => f
  | a :: t, c, f => appL t (c + 1) (upd f c a)
theorem q_add20 {c : Nat} {it : AR} {x : Int32} {Q : Int32 → Int32 → Int32 → AR → Prop} (hc : c < 20) (hQ : Q 1 (nI (c + 1)) (nI (c + 1)) (upd it c x)) : m_X7_add 20 (nI c) (nI c) it x Q := by
  unfold m_X7_add
  rw [nI_clamp (by omega), nI_1]
  exact ⟨fun _ => ⟨vp_in_nI hc (by decide), fun y e => by rw [e]; exact hQ⟩, fun z => absurd ((nI_ltI (by omega) (by omega)).mpr hc) z⟩
theorem q_ran {c : Nat} {bo : AR} {x : Int32} {Q : Int32 → AR → Prop} (hc : c < 20) (hQ : Q (nI (c + 1)) (upd bo c x)) : m_X12_ranBody (nI c) bo x Q := by
  unfold m_X12_ranBody m_X12_ranBody_L19
  rw [nI_clamp (by omega), nI_1]
  exact ⟨fun z => absurd ((nI_leI (a := 20) (b := c) (by omega) (by omega)).mp z) (by omega), fun _ => ⟨vp_in_nI hc (by decide), fun y e => by rw [e]; exact hQ⟩⟩
def runA (ki : Nat) (p x : Int32) : Int32 := if ki = 1 ∨ ki = 4 then x * 3 + p else if ki = 5 then (x + p) ^^^ p else x + p
def runL (ki : Nat) : List Int32 := if ki = 1 ∨ ki = 4 then [11, 1] else if ki = 5 then [51, 1] else [1]
def lepA (ki : Nat) (p v x : Int32) : Int32 := if ki = 2 ∨ ki = 5 then -(runA ki p x - v) else if ki = 6 then runA ki p x - v + v else runA ki p x - v
def lepL (ki : Nat) : List Int32 := if ki = 2 ∨ ki = 5 then 21 :: 2 :: runL ki else if ki = 6 then 61 :: 2 :: runL ki else 2 :: runL ki
def telA (ki : Nat) (p v x : Int32) : Int32 := if ki = 3 ∨ ki = 6 then (lepA ki p v x * 2) ^^^ 7 else if ki = 4 then lepA ki p v (x - 1) * 2 + runA ki p 2 else lepA ki p v x * 2
def telL (ki : Nat) : List Int32 := if ki = 3 ∨ ki = 6 then 31 :: 3 :: lepL ki else if ki = 4 then 41 :: 3 :: (lepL ki ++ runL ki) else 3 :: lepL ki
abbrev QaT : Type := Int32 → Int32 → Int32 → AR → Prop
section
variable {lk : LKT} {a : Nat} {p v h : Int32} {c : Nat} {it : AR} {x : Int32} {Q : QaT}
theorem q_r4 {ci : Nat} (hl : lk a = some (ci, p, v, h)) (hc : c + 1 ≤ 20) (hQ : Q (x + p) (nI (c + 1)) (nI (c + 1)) (upd it c 1)) : m_X4_runs lk 20 (nI c) (nI c) it a x Q :=
  q_add20 (by omega) ⟨_, _, _, _, hl, hQ⟩
theorem q_r6 {ci : Nat} (hl : lk a = some (ci, p, v, h)) (hc : c + 2 ≤ 20) (hQ : Q (x * 3 + p) (nI (c + 2)) (nI (c + 2)) (upd (upd it c 11) (c + 1) 1)) : m_X6_runs lk 20 (nI c) (nI c) it a x Q :=
  q_add20 (by omega) ⟨_, _, _, _, hl, q_r4 hl (by omega) hQ⟩
theorem q_runsV {ki : Nat} (hl : lk a = some (obCi (nI ki), p, v, h)) (hki : ki ≤ 6) (hc : c + 2 ≤ 20) (hQ : Q (runA ki p x) (nI (c + (runL ki).length)) (nI (c + (runL ki).length)) (appL (runL ki) c it)) : m_V_runs lk 20 (nI c) (nI c) it a x Q := by
  refine ⟨_, _, _, _, hl, ?_⟩
  rcases ki_cases hki with rfl | rfl | rfl | rfl | rfl | rfl | rfl
  · exact ⟨fun c => absurd c (by decide), fun c => absurd c (by decide), fun c => absurd c (by decide), fun _ => q_r4 hl (by omega) hQ, fun c => absurd c (by decide), fun c => absurd c (by decide), fun c => absurd c (by decide)⟩
  · exact ⟨fun c => absurd c (by decide), fun c => absurd c (by decide), fun c => absurd c (by decide), fun c => absurd c (by decide), fun _ => q_r6 hl hc hQ, fun c => absurd c (by decide), fun c => absurd c (by decide)⟩
  · exact ⟨fun c => absurd c (by decide), fun c => absurd c (by decide), fun _ => q_r4 hl (by omega) hQ, fun c => absurd c (by decide), fun c => absurd c (by decide), fun c => absurd c (by decide), fun c => absurd c (by decide)⟩
  · exact ⟨fun _ => q_r4 hl (by omega) hQ, fun c => absurd c (by decide), fun c => absurd c (by decide), fun c => absurd c (by decide), fun c => absurd c (by decide), fun c => absurd c (by decide), fun c => absurd c (by decide)⟩
  · exact ⟨fun c => absurd c (by decide), fun c => absurd c (by decide), fun c => absurd c (by decide), fun c => absurd c (by decide), fun c => absurd c (by decide), fun _ => q_r6 hl hc hQ, fun c => absurd c (by decide)⟩
  · exact ⟨fun c => absurd c (by decide), fun _ => q_add20 (by omega) ⟨_, _, _, _, hl, q_r4 hl (by omega) ⟨_, _, _, _, hl, hQ⟩⟩, fun c => absurd c (by decide), fun c => absurd c (by decide), fun c => absurd c (by decide), fun c => absurd c (by decide), fun c => absurd c (by decide)⟩
  · exact ⟨fun c => absurd c (by decide), fun c => absurd c (by decide), fun c => absurd c (by decide), fun c => absurd c (by decide), fun c => absurd c (by decide), fun c => absurd c (by decide), fun _ => q_r4 hl (by omega) hQ⟩
theorem runL_len (ki : Nat) : (runL ki).length ≤ 2 := by
  unfold runL
  split
  · exact Nat.le_refl 2
  · split
    · exact Nat.le_refl 2
    · exact Nat.le_succ 1
theorem lepL_len (ki : Nat) : (lepL ki).length ≤ 4 := by
  have := runL_len ki
  unfold lepL
  split
  · show (runL ki).length + 1 + 1 ≤ 4; omega
  · split
    · show (runL ki).length + 1 + 1 ≤ 4; omega
    · show (runL ki).length + 1 ≤ 4; omega
theorem q_l4 {ki : Nat} (hl : lk a = some (obCi (nI ki), p, v, h)) (hki : ki ≤ 6) (hc : c + 3 ≤ 20) (hQ : Q (runA ki p x - v) (nI (c + 1 + (runL ki).length)) (nI (c + 1 + (runL ki).length)) (appL (runL ki) (c + 1) (upd it c 2))) : m_X4_leaps lk 20 (nI c) (nI c) it a x Q :=
  q_add20 (by omega) (q_runsV hl hki (by omega) ⟨_, _, _, _, hl, hQ⟩)
theorem len2 {n m c : Nat} (h : n = m + 2) : c + n = c + 1 + 1 + m := by omega
theorem q_leapsV {ki : Nat} (hl : lk a = some (obCi (nI ki), p, v, h)) (hki : ki ≤ 6) (hc : c + 4 ≤ 20) (hQ : Q (lepA ki p v x) (nI (c + (lepL ki).length)) (nI (c + (lepL ki).length)) (appL (lepL ki) c it)) : m_V_leaps lk 20 (nI c) (nI c) it a x Q := by
  refine ⟨_, _, _, _, hl, ?_⟩
  rcases ki_cases hki with rfl | rfl | rfl | rfl | rfl | rfl | rfl
  · exact ⟨fun c => absurd c (by decide), fun c => absurd c (by decide), fun c => absurd c (by decide), fun _ => q_l4 hl (by omega) (by omega) hQ, fun c => absurd c (by decide), fun c => absurd c (by decide), fun c => absurd c (by decide)⟩
  · exact ⟨fun c => absurd c (by decide), fun c => absurd c (by decide), fun c => absurd c (by decide), fun c => absurd c (by decide), fun _ => q_l4 hl (by omega) (by omega) hQ, fun c => absurd c (by decide), fun c => absurd c (by decide)⟩
  · exact ⟨fun c => absurd c (by decide), fun c => absurd c (by decide), fun _ => q_add20 (by omega) ⟨_, _, _, _, hl, q_l4 hl (by omega) (by omega) hQ⟩, fun c => absurd c (by decide), fun c => absurd c (by decide), fun c => absurd c (by decide), fun c => absurd c (by decide)⟩
  · exact ⟨fun _ => q_l4 hl (by omega) (by omega) hQ, fun c => absurd c (by decide), fun c => absurd c (by decide), fun c => absurd c (by decide), fun c => absurd c (by decide), fun c => absurd c (by decide), fun c => absurd c (by decide)⟩
  · exact ⟨fun c => absurd c (by decide), fun c => absurd c (by decide), fun c => absurd c (by decide), fun c => absurd c (by decide), fun c => absurd c (by decide), fun _ => q_l4 hl (by omega) (by omega) hQ, fun c => absurd c (by decide)⟩
  · exact ⟨fun c => absurd c (by decide), fun _ => q_add20 (by omega) ⟨_, _, _, _, hl, q_l4 hl (by omega) (by omega) hQ⟩, fun c => absurd c (by decide), fun c => absurd c (by decide), fun c => absurd c (by decide), fun c => absurd c (by decide), fun c => absurd c (by decide)⟩
  · exact ⟨fun c => absurd c (by decide), fun c => absurd c (by decide), fun c => absurd c (by decide), fun c => absurd c (by decide), fun c => absurd c (by decide), fun c => absurd c (by decide), fun _ => q_add20 (by omega) ⟨_, _, _, _, hl, q_l4 hl (by omega) (by omega) ⟨_, _, _, _, hl, hQ⟩⟩⟩
theorem q_t4 {ki : Nat} (hl : lk a = some (obCi (nI ki), p, v, h)) (hki : ki ≤ 6) (hc : c + 5 ≤ 20) (hQ : Q (lepA ki p v x * 2) (nI (c + 1 + (lepL ki).length)) (nI (c + 1 + (lepL ki).length)) (appL (lepL ki) (c + 1) (upd it c 3))) : m_X4_tells lk 20 (nI c) (nI c) it a x Q :=
  q_add20 (by omega) (q_leapsV hl hki (by omega) hQ)
theorem q_tellsV {ki : Nat} (hl : lk a = some (obCi (nI ki), p, v, h)) (hki : ki ≤ 6) (hc : c + 8 ≤ 20) (hQ : Q (telA ki p v x) (nI (c + (telL ki).length)) (nI (c + (telL ki).length)) (appL (telL ki) c it)) : m_V_tells lk 20 (nI c) (nI c) it a x Q := by
  refine ⟨_, _, _, _, hl, ?_⟩
  rcases ki_cases hki with rfl | rfl | rfl | rfl | rfl | rfl | rfl
  · exact ⟨fun c => absurd c (by decide), fun c => absurd c (by decide), fun c => absurd c (by decide), fun _ => q_t4 hl (by omega) (by omega) hQ, fun c => absurd c (by decide), fun c => absurd c (by decide), fun c => absurd c (by decide)⟩
  · exact ⟨fun c => absurd c (by decide), fun c => absurd c (by decide), fun c => absurd c (by decide), fun c => absurd c (by decide), fun _ => q_t4 hl (by omega) (by omega) hQ, fun c => absurd c (by decide), fun c => absurd c (by decide)⟩
  · exact ⟨fun c => absurd c (by decide), fun c => absurd c (by decide), fun _ => q_t4 hl (by omega) (by omega) hQ, fun c => absurd c (by decide), fun c => absurd c (by decide), fun c => absurd c (by decide), fun c => absurd c (by decide)⟩
  · exact ⟨fun _ => q_add20 (by omega) ⟨_, _, _, _, hl, q_t4 hl (by omega) (by omega) hQ⟩, fun c => absurd c (by decide), fun c => absurd c (by decide), fun c => absurd c (by decide), fun c => absurd c (by decide), fun c => absurd c (by decide), fun c => absurd c (by decide)⟩
  · exact ⟨fun c => absurd c (by decide), fun c => absurd c (by decide), fun c => absurd c (by decide), fun c => absurd c (by decide), fun c => absurd c (by decide), fun _ => q_add20 (by omega) ⟨_, _, _, _, hl, q_t4 hl (by omega) (by omega) ⟨_, _, _, _, hl, rfl, q_r6 (c := c + 1 + 1 + 3) hl (by omega) hQ⟩⟩, fun c => absurd c (by decide)⟩
  · exact ⟨fun c => absurd c (by decide), fun _ => q_t4 hl (by omega) (by omega) hQ, fun c => absurd c (by decide), fun c => absurd c (by decide), fun c => absurd c (by decide), fun c => absurd c (by decide), fun c => absurd c (by decide)⟩
  · exact ⟨fun c => absurd c (by decide), fun c => absurd c (by decide), fun c => absurd c (by decide), fun c => absurd c (by decide), fun c => absurd c (by decide), fun c => absurd c (by decide), fun _ => q_add20 (by omega) ⟨_, _, _, _, hl, q_t4 hl (by omega) (by omega) hQ⟩⟩
end
/-! the reference's -/
theorem q_runsM {ki c : Nat} {p x : Int32} {bo : AR} {Q : Int32 → Int32 → AR → Prop} (hki : ki ≤ 6) (hc : c + 2 ≤ 20) (hQ : Q (runA ki p x) (nI (c + (runL ki).length)) (appL (runL ki) c bo)) : m_X12_runsActs (nI c) (nI ki) p bo x Q := by
  unfold m_X12_runsActs
  have e5 : nI ki = 5 ↔ ki = 5 := nI_eq (a := ki) (b := 5) (by omega) (by omega)
  rw [e5]
  refine q_isUnderM (k := 1) hki (by omega) (fun u => ⟨fun z => absurd z (by decide), fun _ => ?_⟩) (fun u => ⟨fun _ => ⟨fun z => ?_, fun z => ?_⟩, fun z => absurd rfl z⟩)
  · unfold isU at u
    have : ki = 1 ∨ ki = 4 := by omega
    rcases this with rfl | rfl
    · exact q_ran (by omega) (q_ran (by omega) hQ)
    · exact q_ran (by omega) (q_ran (by omega) hQ)
  · subst z
    exact q_ran (by omega) (q_ran (by omega) hQ)
  · unfold isU at u
    have n1 : ¬ (ki = 1 ∨ ki = 4) := by omega
    unfold runA runL at hQ
    rw [if_neg n1, if_neg n1, if_neg z, if_neg z] at hQ
    exact q_ran (by omega) hQ
theorem q_plM {ki c : Nat} {p v x : Int32} {bo : AR} {Q : Int32 → Int32 → AR → Prop} (hki : ki ≤ 6) (hc : c + 3 ≤ 20) (hQ : Q (runA ki p x - v) (nI (c + 1 + (runL ki).length)) (appL (runL ki) (c + 1) (upd bo c 2))) : m_X12_plainLeaps (nI c) (nI ki) p v bo x Q :=
  q_ran (by omega) (q_runsM hki (by omega) hQ)
theorem q_leapsM {ki c : Nat} {p v x : Int32} {bo : AR} {Q : Int32 → Int32 → AR → Prop} (hki : ki ≤ 6) (hc : c + 4 ≤ 20) (hQ : Q (lepA ki p v x) (nI (c + (lepL ki).length)) (appL (lepL ki) c bo)) : m_X12_leapsActs (nI c) (nI ki) p v bo x Q := by
  unfold m_X12_leapsActs
  have e6 : nI ki = 6 ↔ ki = 6 := nI_eq (a := ki) (b := 6) (by omega) (by omega)
  rw [e6]
  refine q_isUnderM (k := 2) hki (by omega) (fun u => ⟨fun z => absurd z (by decide), fun _ => ?_⟩) (fun u => ⟨fun _ => ⟨fun z => ?_, fun z => ?_⟩, fun z => absurd rfl z⟩)
  · unfold isU at u
    have : ki = 2 ∨ ki = 5 := by omega
    rcases this with rfl | rfl
    · exact q_ran (by omega) (q_plM (by omega) (by omega) hQ)
    · exact q_ran (by omega) (q_plM (by omega) (by omega) hQ)
  · subst z
    exact q_ran (by omega) (q_plM (by omega) (by omega) hQ)
  · unfold isU at u
    have n1 : ¬ (ki = 2 ∨ ki = 5) := by omega
    unfold lepA lepL at hQ
    rw [if_neg n1, if_neg n1, if_neg z, if_neg z] at hQ
    refine q_plM hki (by omega) ?_
    rw [show c + 1 + (runL ki).length = c + (2 :: runL ki).length from by rw [List.length_cons]; omega]
    exact hQ
theorem q_ptM {ki c : Nat} {p v x : Int32} {bo : AR} {Q : Int32 → Int32 → AR → Prop} (hki : ki ≤ 6) (hc : c + 5 ≤ 20) (hQ : Q (lepA ki p v x * 2) (nI (c + 1 + (lepL ki).length)) (appL (lepL ki) (c + 1) (upd bo c 3))) : m_X12_plainTells (nI c) (nI ki) p v bo x Q :=
  q_ran (by omega) (q_leapsM hki (by omega) hQ)
theorem q_tellsM {ki c : Nat} {p v x : Int32} {bo : AR} {Q : Int32 → Int32 → AR → Prop} (hki : ki ≤ 6) (hc : c + 8 ≤ 20) (hQ : Q (telA ki p v x) (nI (c + (telL ki).length)) (appL (telL ki) c bo)) : m_X12_tellsActs (nI c) (nI ki) p v bo x Q := by
  unfold m_X12_tellsActs
  have e4 : nI ki = 4 ↔ ki = 4 := nI_eq (a := ki) (b := 4) (by omega) (by omega)
  rw [e4]
  refine q_isUnderM (k := 3) hki (by omega) (fun u => ⟨fun z => absurd z (by decide), fun _ => ?_⟩) (fun u => ⟨fun _ => ⟨fun z => ?_, fun z => ?_⟩, fun z => absurd rfl z⟩)
  · unfold isU at u
    have : ki = 3 ∨ ki = 6 := by omega
    rcases this with rfl | rfl
    · exact q_ran (by omega) (q_ptM (by omega) (by omega) hQ)
    · exact q_ran (by omega) (q_ptM (by omega) (by omega) hQ)
  · subst z
    exact q_ran (by omega) (q_ptM (by omega) (by omega) (q_runsM (c := c + 1 + 1 + 3) (ki := 4) (by omega) (by omega) hQ))
  · unfold isU at u
    have n1 : ¬ (ki = 3 ∨ ki = 6) := by omega
    unfold telA telL at hQ
    rw [if_neg n1, if_neg n1, if_neg z, if_neg z] at hQ
    refine q_ptM hki (by omega) ?_
    rw [show c + 1 + (lepL ki).length = c + (3 :: lepL ki).length from by rw [List.length_cons]; omega]
    exact hQ
/-! act, both -/
def actA (D : DT) (a b x : Int32) : Int32 := match idx (dN D) a, idx 3 b with
  | some p, some k => if k = 0 then runA (dK D p) (nI p) x else if k = 1 then lepA (dK D p) (nI p) (nI (dV D p)) x else telA (dK D p) (nI p) (nI (dV D p)) x
  | _, _ => 0
def actL (D : DT) (a b : Int32) : List Int32 := match idx (dN D) a, idx 3 b with
  | some p, some k => if k = 0 then runL (dK D p) else if k = 1 then lepL (dK D p) else telL (dK D p)
  | _, _ => []
theorem q_actC {D : DT} {gap far : Nat} {lk : LKT} {fk : FKT} {nF : Option Nat} {nS nT nY nM nG nA nL : Int32} {nP : Nat → Option Nat} {nC nB nR : AR} {st : TS} {tz tc a b x : Int32} {it : AR} {Q : Int32 → Int32 → Int32 → AR → Prop} (h : NowC D gap far lk fk nF nS nT nY nM nG nA nL nP nC nB nR st) (hQ : Q (actA D a b x) (nI (actL D a b).length) (nI (actL D a b).length) (appL (actL D a b) 0 it)) : m_X11_act lk nP tz tc it a b x Q := by
  unfold actA actL at hQ
  have z0 : ∀ l : List Int32, nI (0 + l.length) = nI l.length := fun l => by rw [Nat.zero_add]
  unfold m_X11_act m_X7_clear
  refine q_findC h (fun p ad hp e ei hb hl => ⟨fun c => (by cases c), fun b3 eb => ?_⟩) (fun e => ⟨fun _ => by rw [e] at hQ; exact hQ, fun b4 c => (by cases c)⟩)
  cases eb
  have hk6 := (h.1.1.2 p hp).1
  rw [ei] at hQ
  refine ⟨fun c => ?_, fun c => ?_, fun c => ?_, fun c => ?_⟩
  · rw [c, show idx 3 0 = some 0 from idx_some (p := 0) (by omega) (by omega)] at hQ
    exact q_runsV (c := 0) hl hk6 (by omega) (by rw [z0]; exact hQ)
  · rw [c, show idx 3 1 = some 1 from idx_some (p := 1) (by omega) (by omega)] at hQ
    exact q_leapsV (c := 0) hl hk6 (by omega) (by rw [z0]; exact hQ)
  · rw [c, show idx 3 2 = some 2 from idx_some (p := 2) (by omega) (by omega)] at hQ
    exact q_tellsV (c := 0) hl hk6 (by omega) (by rw [z0]; exact hQ)
  · rw [show idx 3 b = none from idx_none (fun k hk e => by rw [e, nI_toInt (by omega)] at c; omega)] at hQ
    exact hQ
theorem q_actM {D : DT} {nf gap far : Nat} {s bo : AR} {st : TS} {ra k0 n0 v0 a b x : Int32} {Q : Int32 → Int32 → Int32 → Int32 → Int32 → AR → Prop} (h : NowM D nf gap far s st) (hQ : ∀ k1 n1 v1 : Int32, Q (actA D a b x) (nI (actL D a b).length) k1 n1 v1 (appL (actL D a b) 0 bo)) : m_X12_act ra k0 n0 v0 s bo a b x Q := by
  obtain ⟨hW, hS, hs, ht, hu⟩ := h
  have hN := hs.2.1
  unfold actA actL at hQ
  have z0 : ∀ l : List Int32, nI (0 + l.length) = nI l.length := fun l => by rw [Nat.zero_add]
  refine q_isPersonM hN hW.2.1.1 (fun p hp e ei => ⟨fun c => absurd c (by decide), fun _ => ?_⟩) (fun ei => ⟨fun _ => by rw [ei] at hQ; exact hQ _ _ _, fun c => absurd rfl c⟩)
  rw [ei] at hQ
  subst e
  obtain ⟨hk', hv, hh⟩ := hW.2.1.2.1 p hp
  have hk6 := (hW.1.1.2 p hp).1
  have e24 : ((24 : Int32) + nI p).toNatClampNeg = 24 + p := ixc rfl (by omega)
  have e31 : ((31 : Int32) + nI p).toNatClampNeg = 31 + p := ixc rfl (by omega)
  rw [e24, e31, hk', hv]
  have v24 : vp_in ((24 : Int32) + nI p) 903 := vpc (k := 24) rfl (by omega) (by decide)
  have v31 : vp_in ((31 : Int32) + nI p) 903 := vpc (k := 31) rfl (by omega) (by decide)
  refine q_inIdx 2 rfl (by decide) (fun k hk e ek => ⟨fun c => absurd c (by decide), fun _ => ⟨v24, v31, ?_⟩⟩) (fun ek => ⟨fun _ => by rw [ek] at hQ; exact hQ _ _ _, fun c => absurd rfl c⟩)
  rw [ek] at hQ
  subst e
  rw [show nI k = 0 ↔ k = 0 from nI_eq (a := k) (b := 0) (by omega) (by omega), show nI k = 1 ↔ k = 1 from nI_eq (a := k) (b := 1) (by omega) (by omega)]
  dsimp only at hQ
  refine ⟨fun c => ?_, fun c => ⟨fun d => ?_, fun d => ?_⟩⟩
  · rw [if_pos c, if_pos c] at hQ
    exact q_runsM (c := 0) hk6 (by omega) (by rw [z0]; exact hQ _ _ _)
  · rw [if_neg c, if_neg c, if_pos d, if_pos d] at hQ
    exact q_leapsM (c := 0) hk6 (by omega) (by rw [z0]; exact hQ _ _ _)
  · rw [if_neg c, if_neg c, if_neg d, if_neg d] at hQ
    exact q_tellsM (c := 0) hk6 (by omega) (by rw [z0]; exact hQ _ _ _)
theorem actL_len {D : DT} {a b : Int32} : (actL D a b).length ≤ 20 := by
  unfold actL
  split
  · rename_i p k _ _
    have h1 := runL_len (dK D p)
    have h2 := lepL_len (dK D p)
    split
    · omega
    · split
      · omega
      · unfold telL
        split
        · show (lepL (dK D p)).length + 1 + 1 ≤ 20; omega
        · split
          · show (lepL (dK D p) ++ runL (dK D p)).length + 1 + 1 ≤ 20
            rw [List.length_append]; omega
          · show (lepL (dK D p)).length + 1 ≤ 20; omega
  · exact Nat.zero_le _
theorem appL_eq {l : List Int32} : ∀ (c : Nat) (f g : AR), (∀ k, k < c → f k = g k) → ∀ k, k < c + l.length → appL l c f k = appL l c g k := by
  induction l with
  | nil => intro c f g h k hk; exact h k hk
  | cons x t ih =>
    intro c f g h k hk
    have hk : k < c + (t.length + 1) := hk
    refine ih (c + 1) _ _ (fun j hj => ?_) k (by omega)
    by_cases ej : j = c
    · rw [ej, pk_us, pk_us]
    · rw [pk_un ej, pk_un ej]; exact h j (by omega)
/-- the trace beside the bodies -/
def TraR (c : Nat) (tz tc ra : Int32) (it bo : AR) : Prop := c ≤ 20 ∧ tz = nI c ∧ tc = nI c ∧ ra = nI c ∧ ∀ k, k < c → it k = bo k
theorem tra_act {D : DT} {a b : Int32} {it bo : AR} : TraR (actL D a b).length (nI (actL D a b).length) (nI (actL D a b).length) (nI (actL D a b).length) (appL (actL D a b) 0 it) (appL (actL D a b) 0 bo) :=
  ⟨actL_len, rfl, rfl, rfl, fun k hk => appL_eq 0 it bo (fun j hj => absurd hj (by omega)) k (by omega)⟩
def traA (c : Nat) (it : AR) (a : Int32) : Int32 := match idx c a with
  | none => -1
  | some k => it k
theorem q_traceC {c : Nat} {tz tc ra a : Int32} {it bo : AR} {Q : Int32 → Prop} (h : TraR c tz tc ra it bo) (hQ : Q (traA c it a)) : m_X11_trace tz it a Q := by
  obtain ⟨hc, rfl, -, -, -⟩ := h
  unfold traA at hQ
  unfold m_X11_trace m_X7_at
  rcases idx_cs (n := c) a (by omega) with ⟨k, hk, e, ei⟩ | ⟨hn, ei⟩
  · rw [ei] at hQ
    subst e
    rw [nI_clamp (by omega)]
    exact ⟨fun z => absurd z (nI_pos (by omega)), fun _ => ⟨fun z => absurd z (nI_ge hk (by omega)), fun _ => ⟨vp_in_nI (by omega) (by decide), hQ⟩⟩⟩
  · rw [ei] at hQ
    refine ⟨fun _ => hQ, fun z => ⟨fun _ => hQ, fun y => ?_⟩⟩
    rcases pk_ix a (n := c) (by omega) with q | q | ⟨k, hk, e⟩
    · exact absurd q z
    · exact absurd q y
    · exact absurd e (hn k hk)
theorem q_traceM {c : Nat} {tz tc ra a : Int32} {it bo : AR} {Q : Int32 → Prop} (h : TraR c tz tc ra it bo) (hQ : Q (traA c it a)) : m_X12_trace ra bo a Q := by
  obtain ⟨hc, -, -, rfl, hi⟩ := h
  unfold traA at hQ
  have key : m_X12_trace_L20 bo a a 0 (nI c) Q := by
    unfold m_X12_trace_L20
    refine q_inPm (by omega) (fun k hk e ei => ⟨fun z => absurd z (by decide), fun _ => ?_⟩) (fun ei => ⟨fun _ => by rw [ei] at hQ; exact hQ, fun z => absurd rfl z⟩)
    rw [ei] at hQ
    subst e
    rw [nI_clamp (by omega), ← hi k hk]
    exact ⟨vp_in_nI (by omega) (by decide), hQ⟩
  unfold m_X12_trace
  refine ⟨fun z => ?_, fun _ => key⟩
  have := (nI_leI (a := 20) (b := c) (by omega) (by omega)).mp z
  have e : c = 20 := by omega
  subst e
  exact key
