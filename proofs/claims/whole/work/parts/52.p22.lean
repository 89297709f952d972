/-! PURE: order, the class's -/
abbrev QoT : Type := Int32 → Option Nat → Int32 → Int32 → Int32 → Int32 → Int32 → Int32 → Int32 → (Nat → Option Nat) → AR → AR → AR → AR → AR → AR → Prop
def oInv (N : Nat) (b : Option (List Nat × Nat)) (v2 : Int32) (be : AR) : Prop := ∃ (o : List Nat) (l : Nat), b = some (o, l) ∧ v2 = nI l ∧ l < 2 ^ 30 ∧ ∀ k, k < N → be k = nI (oPl N o k)
def oFin (N : Nat) (Q : QoT) (b : Option (List Nat × Nat)) : Prop := ∀ (o : List Nat) (l : Nat), b = some (o, l) → l < 2 ^ 30 → ∀ (uF : Option Nat) (uS uT uY uM uG uA uL : Int32) (uP : Nat → Option Nat) (uC uB uR uE : AR) (tr be : AR), (∀ k, k < N → be k = nI (oPl N o k)) → Q (nI l) uF uS uT uY uM uG uA uL uP uC uB uR uE tr be
theorem rO_lt {N : Nat} {o : List Nat} (hN : N ≤ 5) (h : okB N o = true) : ∀ k, k < 5 → rO N o k < 100 := by
  intro k hk
  unfold okB at h
  rw [List.all_eq_true] at h
  unfold rO
  split
  · rename_i c
    have := h k (List.mem_range.mpr c)
    rw [Bool.and_eq_true, decide_eq_true_eq] at this
    omega
  · omega
theorem q_best107 {D : DT} {lk : LKT} {fk : FKT} {nF : Option Nat} {nS nT nY nM nG nA nL : Int32} {nP : Nat → Option Nat} {nC nB nR : AR} {uF : Option Nat} {uS uT uY uM uG uA uL : Int32} {uP : Nat → Option Nat} {uC uB uR uE : AR} {v1 v2 v4 : Int32} {tr : AR} {K : Option Nat → Int32 → Int32 → Int32 → Int32 → Int32 → Int32 → Int32 → (Nat → Option Nat) → AR → AR → AR → AR → AR → AR → Int32 → Int32 → Int32 → Prop} {Q : QoT} (hQ : ∀ be' : AR, (∀ k, k < 5 → be' k = tr k) → m_X11_seekOrder_L133 lk fk nF nS nT nY nM nG nA nL nP nC nB nR v1 uF uS uT uY uM uG uA uL uP uC uB uR uE tr be' v2 v4 K Q) :
    ∀ (d i : Nat) (be : AR), i + d = 5 → (∀ k, k < i → be k = tr k) → m_X11_seekOrder_L107 lk fk nF nS nT nY nM nG nA nL nP nC nB nR v1 uF uS uT uY uM uG uA uL uP uC uB uR uE tr v2 v4 K Q (d + 1) be (nI i) := by
  intro d
  induction d with
  | zero =>
    intro i be hi h
    unfold m_X11_seekOrder_L107
    exact ⟨fun _ => hQ be (fun k hk => h k (by omega)), fun c => absurd ((nI_leI (a := 5) (b := i) (by omega) (by omega)).mpr (by omega)) c⟩
  | succ d ih =>
    intro i be hi h
    unfold m_X11_seekOrder_L107
    rw [nI_clamp (by omega)]
    refine ⟨fun c => absurd ((nI_leI (a := 5) (b := i) (by omega) (by omega)).mp c) (by omega), fun _ => ⟨vp_in_nI (by omega) (by decide), vp_in_nI (by omega) (by decide), fun y e x ex => ?_⟩⟩
    rw [nI_1] at ex
    subst ex
    refine ih (i + 1) y (by omega) (fun k hk => ?_)
    by_cases ek : k = i
    · rw [e, ek, pk_us]
    · rw [e, pk_un ek]; exact h k (by omega)
theorem q_seekBody {D : DT} {gap far F : Nat} {lk : LKT} {fk : FKT} {nF : Option Nat} {nS nT nY nM nG nA nL : Int32} {nP : Nat → Option Nat} {nC nB nR : AR} {uF : Option Nat} {uS uT uY uM uG uA uL : Int32} {uP : Nat → Option Nat} {uC uB uR uE : AR} {st : TS} {Q : QoT} {o : List Nat} {t : List (List Nat)} {n : Nat} {tr be : AR} {v2 : Int32} {b : Option (List Nat × Nat)} (h : NowC D gap far lk fk nF nS nT nY nM nG nA nL nP nC nB nR st) (hN5 : dN D ≤ 5) (hQ0 : acN D gap 7 (dN D) far st = none → ∀ (uF : Option Nat) (uS uT uY uM uG uA uL : Int32) (uP : Nat → Option Nat) (uC uB uR uE : AR) (tr be : AR), Q (-5) uF uS uT uY uM uG uA uL uP uC uB uR uE tr be) (hok : okB (dN D) o = true) (hn : n < 120) (htr : ∀ k, k < 5 → tr k = nI (rO (dN D) o k)) (hb : (b = none ∧ v2 = nI 2147483647) ∨ oInv (dN D) b v2 be) (hfin : oFin (dN D) Q (ordB D gap far st (o :: t) b))
    (key : ∀ (uF : Option Nat) (uS uT uY uM uG uA uL : Int32) (uP : Nat → Option Nat) (uC uB uR uE : AR) (be' : AR) (v2' : Int32) (b' : Option (List Nat × Nat)), oInv (dN D) b' v2' be' → oFin (dN D) Q (ordB D gap far st t b') → m_X11_seekOrder_L133 lk fk nF nS nT nY nM nG nA nL nP nC nB nR nS uF uS uT uY uM uG uA uL uP uC uB uR uE tr be' v2' (nI n) (m_X11_seekOrder_L39 lk fk nF nS nT nY nM nG nA nL nP nC nB nR nS Q F) Q) :
    m_X11_seekOrder_L39 lk fk nF nS nT nY nM nG nA nL nP nC nB nR nS Q (F + 1) uF uS uT uY uM uG uA uL uP uC uB uR uE tr be v2 1 (nI n) := by
  have hs := h.2.2.1
  unfold m_X11_seekOrder_L39
  refine ⟨fun c => absurd ((nI_leI (a := 120) (b := n) (by omega) (by omega)).mp c) (by omega), fun _ => ⟨fun c => absurd c (by decide), fun _ => q_trial h (fun P' C' B' R' hW hS => q_standAs hS.1 hN5 (fun C2 hC2 => ?_))⟩⟩
  have hok2 := ord_ok hs hok
  have hS2 : StC (dN D) (dN D) nS nT nY nM C2 B' (ordTS (dN D) st o) := by
    refine ⟨hS.1, hS.2.1, hS.2.2.1, hS.2.2.2.1, fun k hk => ?_, hS.2.2.2.2.2⟩
    rw [hC2 k hk, htr k (by omega)]
    show nI (rO (dN D) o k) = nI (oPl (dN D) o k)
    unfold rO oPl
    rw [if_pos hk, if_pos hk]
  have hv : v2 = nI (lstN b) ∧ lstN b < 2 ^ 31 := by
    rcases hb with ⟨rfl, e⟩ | ⟨o', l, rfl, e, hl, -⟩
    · exact ⟨e, by show 2147483647 < 2 ^ 31; omega⟩
    · exact ⟨e, by show l < 2 ^ 31; omega⟩
  rw [hv.1]
  have hl := hv.2
  refine q_goAcross hl hW hS2 hok2 (by have := h.2.2.2.1; show tT st ≤ 2000; omega) h.2.2.2.2.1 h.2.2.2.2.2.1 (fun e t' y' m' p' b' s' => ⟨fun _ => hQ0 (ac_none (st2 := st) e rfl) _ _ _ _ _ _ _ _ _ _ _ _ _ _ _, fun z => absurd rfl z⟩) (fun w e r t' y' m' p' b' s' hr hr9 => ⟨fun z => absurd z (nI_nm5 (by omega)), fun _ => ⟨fun z => ?_, fun z x ex => ⟨6, ?_⟩⟩⟩)
  · have hL := (nI_leI (by omega) (by omega)).mp z
    have hw : lstN b ≤ w := by
      rcases hr with rfl | ⟨-, hr⟩
      · exact hL
      · exact hr
    rcases hb with ⟨rfl, -⟩ | hb
    · have hL : 2147483647 ≤ r := hL
      omega
    · refine key _ _ _ _ _ _ _ _ _ _ _ _ _ be _ b (by rw [← hv.1]; exact hb) ?_
      have : ordB D gap far st (o :: t) b = ordB D gap far st t b := by
        show ordB D gap far st t (pick b o (acN D gap 7 (dN D) far (ordTS (dN D) st o))) = _
        rw [e, pick_ge (by omega)]
      rw [← this]
      exact hfin
  · have hL : ¬ lstN b ≤ r := fun q => z ((nI_leI (by omega) (by omega)).mpr q)
    have hw : r = w := by
      rcases hr with q | ⟨q, -⟩
      · exact q
      · exact absurd q hL
    subst hw
    subst ex
    refine q_best107 (D := D) (fun be' hbe => key _ _ _ _ _ _ _ _ _ _ _ _ _ be' _ (some (o, r)) ⟨o, r, rfl, rfl, hr9, fun k hk => ?_⟩ ?_) 5 0 be rfl (fun k hk => absurd hk (by omega))
    · rw [hbe k (by omega), htr k (by omega)]
      unfold rO oPl
      rw [if_pos hk, if_pos hk]
    · have : ordB D gap far st (o :: t) b = ordB D gap far st t (some (o, r)) := by
        show ordB D gap far st t (pick b o (acN D gap 7 (dN D) far (ordTS (dN D) st o))) = _
        rw [e, pick_lt (by omega)]
      rw [← this]
      exact hfin
theorem q_seek39 {D : DT} {gap far : Nat} {lk : LKT} {fk : FKT} {nF : Option Nat} {nS nT nY nM nG nA nL : Int32} {nP : Nat → Option Nat} {nC nB nR : AR} {st : TS} {Q : QoT} (h : NowC D gap far lk fk nF nS nT nY nM nG nA nL nP nC nB nR st) (hN5 : dN D ≤ 5) (hQ0 : acN D gap 7 (dN D) far st = none → ∀ (uF : Option Nat) (uS uT uY uM uG uA uL : Int32) (uP : Nat → Option Nat) (uC uB uR uE : AR) (tr be : AR), Q (-5) uF uS uT uY uM uG uA uL uP uC uB uR uE tr be) :
    ∀ (t : List (List Nat)) (o : List Nat) (n : Nat) (uF : Option Nat) (uS uT uY uM uG uA uL : Int32) (uP : Nat → Option Nat) (uC uB uR uE : AR) (tr be : AR) (v2 : Int32) (b : Option (List Nat × Nat)), chainB (dN D) (o :: t) = true → (∀ o', o' ∈ o :: t → okB (dN D) o' = true) → n + (t.length + 1) ≤ 120 → (∀ k, k < 5 → tr k = nI (rO (dN D) o k)) → ((b = none ∧ v2 = nI 2147483647) ∨ oInv (dN D) b v2 be) → oFin (dN D) Q (ordB D gap far st (o :: t) b) → m_X11_seekOrder_L39 lk fk nF nS nT nY nM nG nA nL nP nC nB nR nS Q (t.length + 2) uF uS uT uY uM uG uA uL uP uC uB uR uE tr be v2 1 (nI n) := by
  have hz : nS = nI (dN D) := h.2.1.1
  have e5 : (if (5 : Int32) < nS then 5 else nS) = nI (dN D) := by
    rw [if_neg]
    · exact hz
    · intro c
      rw [hz] at c
      have := (nI_ltI (a := 5) (b := dN D) (by omega) (by omega)).mp c
      omega
  intro t
  induction t with
  | nil =>
    intro o n uF uS uT uY uM uG uA uL uP uC uB uR uE tr be v2 b hc hok hn htr hb hfin
    have ho := hok o (List.mem_cons_self ..)
    unfold chainB at hc
    rw [Bool.and_eq_true] at hc
    have hc1 := hc.1
    refine q_seekBody (t := []) h hN5 hQ0 ho (by omega) htr hb hfin (fun uF' uS' uT' uY' uM' uG' uA' uL' uP' uC' uB' uR' uE' be' v2' b' hi hf => ?_)
    unfold m_X11_seekOrder_L133
    rw [e5]
    obtain ⟨o', l, e, e2, hl, hbe⟩ := hi
    subst e2
    refine q_next hN5 htr (rO_lt hN5 ho) (fun _ x ex => ?_) (fun f ef => ?_)
    · show m_X11_seekOrder_L39 lk fk nF nS nT nY nM nG nA nL nP nC nB nR nS Q 1 _ _ _ _ _ _ _ _ _ _ _ _ _ _ _ _ _ _
      unfold m_X11_seekOrder_L39
      exact ⟨fun _ => hf o' l e hl _ _ _ _ _ _ _ _ _ _ _ _ _ _ _ hbe, fun _ => ⟨fun _ => hf o' l e hl _ _ _ _ _ _ _ _ _ _ _ _ _ _ _ hbe, fun z => absurd rfl z⟩⟩
    · unfold nextB at hc1
      rw [ef] at hc1
      cases hc1
  | cons o2 t ih =>
    intro o n uF uS uT uY uM uG uA uL uP uC uB uR uE tr be v2 b hc hok hn htr hb hfin
    have ho := hok o (List.mem_cons_self ..)
    unfold chainB at hc
    rw [Bool.and_eq_true] at hc
    have hc1 := hc.1
    have hn2 : n + (t.length + 1 + 1) ≤ 120 := hn
    refine q_seekBody (t := o2 :: t) h hN5 hQ0 ho (by omega) htr hb hfin (fun uF' uS' uT' uY' uM' uG' uA' uL' uP' uC' uB' uR' uE' be' v2' b' hi hf => ?_)
    unfold m_X11_seekOrder_L133
    rw [e5]
    refine q_next hN5 htr (rO_lt hN5 ho) (fun ef => ?_) (fun f ef arr' harr x ex => ?_)
    · unfold nextB at hc1
      rw [ef] at hc1
      cases hc1
    · unfold nextB at hc1
      rw [ef] at hc1
      have he5 := eq5_iff hc1
      rw [nI_1] at ex
      subst ex
      exact ih o2 (n + 1) _ _ _ _ _ _ _ _ _ _ _ _ _ arr' be' v2' b' hc.2 (fun o' ho' => hok o' (List.mem_cons_of_mem _ ho')) (by omega) (fun k hk => by rw [harr k hk, he5 k hk]) (Or.inr hi) hf
theorem q_seekC {D : DT} {gap far : Nat} {lk : LKT} {fk : FKT} {nF : Option Nat} {nS nT nY nM nG nA nL : Int32} {nP : Nat → Option Nat} {nC nB nR : AR} {uF : Option Nat} {uS uT uY uM uG uA uL : Int32} {uP : Nat → Option Nat} {uC uB uR uE : AR} {st : TS} {tr be : AR} {Q : QoT} (h : NowC D gap far lk fk nF nS nT nY nM nG nA nL nP nC nB nR st) (hN5 : dN D ≤ 5) (hQ0 : acN D gap 7 (dN D) far st = none → ∀ (uF : Option Nat) (uS uT uY uM uG uA uL : Int32) (uP : Nat → Option Nat) (uC uB uR uE : AR) (tr be : AR), Q (-5) uF uS uT uY uM uG uA uL uP uC uB uR uE tr be) (hfin : oFin (dN D) Q (ordB D gap far st (perms (dN D)) none)) : m_X11_seekOrder lk fk nF nS nT nY nM nG nA nL nP nC nB nR uF uS uT uY uM uG uA uL uP uC uB uR uE tr be Q := by
  have hall := allB_ok (dN D) (by omega)
  unfold allB at hall
  rw [Bool.and_eq_true, Bool.and_eq_true, Bool.and_eq_true, decide_eq_true_eq, List.all_eq_true] at hall
  obtain ⟨hch, hok, hlen, hhead⟩ := hall
  have L : ∀ (d i : Nat) (tr : AR), i + d = 5 → (∀ k, k < i → tr k = nI k) → m_X11_seekOrder_L13 lk fk nF nS nT nY nM nG nA nL nP nC nB nR uF uS uT uY uM uG uA uL uP uC uB uR uE be nS Q (d + 1) tr (nI i) := by
    intro d
    induction d with
    | zero =>
      intro i tr hi htr
      unfold m_X11_seekOrder_L13
      refine ⟨fun _ x3 e3 x4 e4 x5 e5 => ?_, fun c => absurd ((nI_leI (a := 5) (b := i) (by omega) (by omega)).mpr (by omega)) c⟩
      subst e3
      subst e4
      subst e5
      generalize hp : perms (dN D) = P at hch hok hlen hhead hfin
      cases P with
      | nil => cases hhead
      | cons o t =>
        have hhead : eq5 (rO (dN D) o) (fun k => k) = true := hhead
        have he5 := eq5_iff hhead
        have hlen : t.length + 1 ≤ 120 := hlen
        exact ⟨t.length + 2, q_seek39 h hN5 hQ0 t o 0 _ _ _ _ _ _ _ _ _ _ _ _ _ tr be _ none hch hok (by omega) (fun k hk => by rw [htr k (by omega), he5 k hk]) (Or.inl ⟨rfl, rfl⟩) hfin⟩
    | succ d ih =>
      intro i tr hi htr
      unfold m_X11_seekOrder_L13
      rw [nI_clamp (by omega)]
      refine ⟨fun c => absurd ((nI_leI (a := 5) (b := i) (by omega) (by omega)).mp c) (by omega), fun _ => ⟨vp_in_nI (by omega) (by decide), fun y e x ex => ?_⟩⟩
      rw [nI_1] at ex
      subst ex
      refine ih (i + 1) y (by omega) (fun k hk => ?_)
      by_cases ek : k = i
      · rw [e, ek, pk_us]
      · rw [e, pk_un ek]; exact htr k (by omega)
  intro x e
  subst e
  exact ⟨6, L 5 0 tr rfl (fun k hk => absurd hk (by omega))⟩
theorem ordB_none {D : DT} {gap far : Nat} {st : TS} (hn : acN D gap 7 (dN D) far st = none) : ∀ (l : List (List Nat)) (b : Option (List Nat × Nat)), ordB D gap far st l b = b := by
  intro l
  induction l with
  | nil => intro b; rfl
  | cons o t ih =>
    intro b
    show ordB D gap far st t (pick b o (acN D gap 7 (dN D) far (ordTS (dN D) st o))) = b
    rw [ac_none (st2 := ordTS (dN D) st o) hn rfl, pick_none]
    exact ih b
theorem perms_ne {N : Nat} (h : N ≤ 5) : perms N ≠ [] := by
  have hall := allB_ok N (by omega)
  unfold allB at hall
  rw [Bool.and_eq_true, Bool.and_eq_true, Bool.and_eq_true] at hall
  intro z
  rw [z] at hall
  cases hall.2.2.2
theorem perms_ok {N : Nat} (h : N ≤ 5) : ∀ o, o ∈ perms N → okB N o = true := by
  have hall := allB_ok N (by omega)
  unfold allB at hall
  rw [Bool.and_eq_true, Bool.and_eq_true, List.all_eq_true] at hall
  exact hall.2.1
theorem q_orderC {D : DT} {gap far : Nat} {lk : LKT} {fk : FKT} {nF : Option Nat} {nS nT nY nM nG nA nL : Int32} {nP : Nat → Option Nat} {nC nB nR : AR} {uF : Option Nat} {uS uT uY uM uG uA uL : Int32} {uP : Nat → Option Nat} {uC uB uR uE : AR} {st : TS} {a : Int32} {tr be : AR} {Q : QoT} (h : NowC D gap far lk fk nF nS nT nY nM nG nA nL nP nC nB nR st) (hQ : ∀ (uF : Option Nat) (uS uT uY uM uG uA uL : Int32) (uP : Nat → Option Nat) (uC uB uR uE : AR) (tr be : AR), Q (orderA D gap far st a) uF uS uT uY uM uG uA uL uP uC uB uR uE tr be) : m_X11_order lk fk nF nS nT nY nM nG nA nL nP nC nB nR uF uS uT uY uM uG uA uL uP uC uB uR uE tr be a Q := by
  have hs := h.2.2.1
  have hN := hs.2.1
  have hz : nS = nI (dN D) := h.2.1.1
  unfold orderA at hQ
  have bad : (¬ a = -1) → (∀ k, k < 5 → ¬ a = nI k) → ∀ (uF : Option Nat) (uS uT uY uM uG uA uL : Int32) (uP : Nat → Option Nat) (uC uB uR uE : AR) (tr be : AR), Q (-1) uF uS uT uY uM uG uA uL uP uC uB uR uE tr be := fun c1 c2 => by
    rw [if_neg c1, idx_none c2] at hQ
    exact hQ
  unfold m_X11_order
  refine ⟨fun c => bad (fun e => by rw [e] at c; exact absurd c (by decide)) (fun k hk e => ?_) _ _ _ _ _ _ _ _ _ _ _ _ _ _ _, fun c => ⟨fun d => ?_, fun d => bad (fun e => d (by rw [e]; decide)) (fun k hk e => d (by rw [e]; exact (nI_ltI (a := k) (b := 5) (by omega) (by omega)).mpr hk)) _ _ _ _ _ _ _ _ _ _ _ _ _ _ _⟩⟩
  · rw [e, Int32.lt_iff_toInt_lt, nI_toInt (by omega), show (-1 : Int32).toInt = -1 from by decide] at c
    omega
  · have hc : a = -1 ∨ ∃ k, k < 5 ∧ a = nI k := by
      rcases pk_ix a (n := 5) (by omega) with q | q | ⟨j, hj, e⟩
      · refine Or.inl ?_
        rw [Int32.lt_iff_toInt_lt] at c q
        rw [show (-1 : Int32).toInt = -1 from by decide] at c
        rw [show (0 : Int32).toInt = 0 from rfl] at q
        refine Int32.toInt_inj.mp ?_
        rw [show (-1 : Int32).toInt = -1 from by decide]
        omega
      · refine absurd d ?_
        intro d
        rw [Int32.lt_iff_toInt_lt] at d
        rw [Int32.le_iff_toInt_le, nI_toInt (by omega)] at q
        rw [show (5 : Int32).toInt = 5 from rfl] at d
        omega
      · exact Or.inr ⟨j, hj, e⟩
    refine ⟨fun c5 => ?_, fun c5 => ?_⟩
    · have hN5 : dN D ≤ 5 := by
        rw [hz] at c5
        exact (nI_leI (a := dN D) (b := 5) (by omega) (by omega)).mp c5
      refine q_seekC h hN5 (fun hn uF' uS' uT' uY' uM' uG' uA' uL' uP' uC' uB' uR' uE' tr' be' => ?_) (fun o l eo hl uF' uS' uT' uY' uM' uG' uA' uL' uP' uC' uB' uR' uE' tr' be' hbe => ?_)
      · rw [ordB_none hn] at hQ
        rcases hc with rfl | ⟨k, hk, rfl⟩
        · rw [if_pos rfl] at hQ
          dsimp only at hQ
          rw [if_neg (by omega)] at hQ
          exact ⟨fun _ => hQ _ _ _ _ _ _ _ _ _ _ _ _ _ _ _, fun z => absurd rfl z⟩
        · rw [if_neg (nI_nm1 (by omega)), idx_some hk (by omega)] at hQ
          dsimp only at hQ
          rw [if_neg (by omega)] at hQ
          exact ⟨fun z => absurd z (nI_nm1 (by omega)), fun _ => ⟨fun _ => hQ _ _ _ _ _ _ _ _ _ _ _ _ _ _ _, fun z => absurd rfl z⟩⟩
      · rw [eo] at hQ
        rcases hc with rfl | ⟨k, hk, rfl⟩
        · rw [if_pos rfl] at hQ
          dsimp only at hQ
          rw [if_neg (by omega), if_pos rfl] at hQ
          exact ⟨fun _ => hQ _ _ _ _ _ _ _ _ _ _ _ _ _ _ _, fun z => absurd rfl z⟩
        · rw [if_neg (nI_nm1 (by omega)), idx_some hk (by omega)] at hQ
          dsimp only at hQ
          rw [if_neg (by omega), if_neg (by omega)] at hQ
          refine ⟨fun z => absurd z (nI_nm1 (by omega)), fun _ => ⟨fun z => absurd z (nI_nm5 (by omega)), fun _ => ⟨fun z => ?_, fun z => ?_⟩⟩⟩
          · rw [hz] at z
            rw [if_neg (by have := (nI_leI (by omega) (by omega)).mp z; omega)] at hQ
            exact hQ _ _ _ _ _ _ _ _ _ _ _ _ _ _ _
          · rw [hz] at z
            have : ¬ dN D ≤ k := fun q => z ((nI_leI (by omega) (by omega)).mpr q)
            rw [if_pos (by omega)] at hQ
            rw [nI_clamp (by omega), hbe k (by omega)]
            exact ⟨vp_in_nI hk (by decide), hQ _ _ _ _ _ _ _ _ _ _ _ _ _ _ _⟩
    · have hN5 : ¬ dN D ≤ 5 := fun q => c5 (by rw [hz]; exact (nI_leI (a := dN D) (b := 5) (by omega) (by omega)).mpr q)
      rcases hc with rfl | ⟨k, hk, rfl⟩
      · rw [if_pos rfl] at hQ
        dsimp only at hQ
        rw [if_pos (by omega)] at hQ
        exact hQ _ _ _ _ _ _ _ _ _ _ _ _ _ _ _
      · rw [if_neg (nI_nm1 (by omega)), idx_some hk (by omega)] at hQ
        dsimp only at hQ
        rw [if_pos (by omega)] at hQ
        exact hQ _ _ _ _ _ _ _ _ _ _ _ _ _ _ _
