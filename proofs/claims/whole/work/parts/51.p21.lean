/-! PURE: order: the orders as lists; the class's -/
def toL (N : Nat) (f : Nat → Nat) : List Nat := (List.range N).map f
def prmP (G : Nat → List (List Nat)) : Nat → Nat → List (List Nat)
  | 0, _ => []
  | e + 1, i => G i ++ prmP G e (i + 1)
def prmT (N : Nat) : Nat → Nat → (Nat → Nat) → Nat → List (List Nat)
  | 0, _, pre, _ => [toL N pre]
  | d + 1, k, pre, u => prmP (fun p => if (u / 2 ^ p) % 2 = 0 then prmT N d (k + 1) (fun j => if j = k then p else pre j) (u + 2 ^ p) else []) N 0
def perms (N : Nat) : List (List Nat) := prmT N N 0 (fun _ => 0) 0
def oPl (N : Nat) (o : List Nat) : Nat → Nat := fun k => if k < N then o.getD k 0 else 0
def rO (N : Nat) (o : List Nat) : Nat → Nat := fun k => if k < N then o.getD k 0 else k
def nkF (r : Nat → Nat) : Nat → Nat
  | 0 => 0
  | m + 1 => if r (m + 1) < r m then nkF r m else m + 1
def ngF (r : Nat → Nat) (k : Nat) : Nat → Nat
  | 0 => 0
  | g + 1 => if k + 1 < g + 1 ∧ r (g + 1) < r k then ngF r k g else g + 1
def swF (r : Nat → Nat) (i j : Nat) : Nat → Nat := fun x => if x = j then r i else if x = i then r j else r x
def revF : Nat → Nat → Nat → (Nat → Nat) → (Nat → Nat)
  | 0, _, _, r => r
  | c + 1, l, t, r => if l < t then revF c (l + 1) (t - 1) (swF r l t) else r
def nextF (r : Nat → Nat) (N : Nat) : Option (Nat → Nat) := match nkF r (N - 1) with
  | 0 => none
  | k + 1 => some (revF 5 (k + 1) (N - 1) (swF r k (ngF r k (N - 1))))
def eq5 (f g : Nat → Nat) : Bool := f 0 == g 0 && (f 1 == g 1 && (f 2 == g 2 && (f 3 == g 3 && f 4 == g 4)))
def nextB (N : Nat) (o : List Nat) (t : List (List Nat)) : Bool := match nextF (rO N o) N, t with
  | none, [] => true
  | some f, o' :: _ => eq5 f (rO N o')
  | _, _ => false
def chainB (N : Nat) : List (List Nat) → Bool
  | [] => true
  | o :: t => nextB N o t && chainB N t
def okB (N : Nat) (o : List Nat) : Bool := (List.range N).all (fun i => decide (o.getD i 0 < N) && (List.range N).all (fun j => decide (o.getD i 0 = o.getD j 0 → i = j)))
def headB (N : Nat) : List (List Nat) → Bool
  | [] => false
  | o :: _ => eq5 (rO N o) (fun k => k)
def allB (N : Nat) : Bool := chainB N (perms N) && ((perms N).all (okB N) && (decide ((perms N).length ≤ 120) && headB N (perms N)))
theorem allB_ok : ∀ N, N < 6 → allB N = true := by decide +kernel
theorem eq5_iff {f g : Nat → Nat} (h : eq5 f g = true) : ∀ k, k < 5 → f k = g k := by
  unfold eq5 at h
  rw [Bool.and_eq_true, Bool.and_eq_true, Bool.and_eq_true, Bool.and_eq_true, beq_iff_eq, beq_iff_eq, beq_iff_eq, beq_iff_eq, beq_iff_eq] at h
  obtain ⟨h0, h1, h2, h3, h4⟩ := h
  intro k hk
  have : k = 0 ∨ k = 1 ∨ k = 2 ∨ k = 3 ∨ k = 4 := by omega
  rcases this with rfl | rfl | rfl | rfl | rfl
  · exact h0
  · exact h1
  · exact h2
  · exact h3
  · exact h4
def ordTS (N : Nat) (st : TS) (o : List Nat) : TS := (oPl N o, st.2)
theorem ord_ok {N : Nat} {st : TS} {o : List Nat} (hs : TSok N N st) (h : okB N o = true) : TSok N N (ordTS N st o) := by
  obtain ⟨hM, hN, hpl, hinj, hr⟩ := hs
  unfold okB at h
  rw [List.all_eq_true] at h
  have e : ∀ k, k < N → oPl N o k = o.getD k 0 := fun k hk => if_pos hk
  refine ⟨hM, hN, fun k hk => ?_, fun i j hi hj eq => ?_, hr⟩
  · have := h k (List.mem_range.mpr hk)
    rw [Bool.and_eq_true, decide_eq_true_eq] at this
    show oPl N o k < N
    rw [e k hk]
    exact this.1
  · have := h i (List.mem_range.mpr hi)
    rw [Bool.and_eq_true, decide_eq_true_eq, List.all_eq_true] at this
    have h2 := this.2 j (List.mem_range.mpr hj)
    rw [decide_eq_true_eq] at h2
    have eq : oPl N o i = oPl N o j := eq
    rw [e i hi, e j hj] at eq
    exact h2 eq
def ordB (D : DT) (gap far : Nat) (st : TS) : List (List Nat) → Option (List Nat × Nat) → Option (List Nat × Nat)
  | [], b => b
  | o :: t, b => ordB D gap far st t (pick b o (acN D gap 7 (dN D) far (ordTS (dN D) st o)))
theorem ordB_app {D : DT} {gap far : Nat} {st : TS} : ∀ (l1 l2 : List (List Nat)) (b : Option (List Nat × Nat)), ordB D gap far st (l1 ++ l2) b = ordB D gap far st l2 (ordB D gap far st l1 b) := by
  intro l1
  induction l1 with
  | nil => intro l2 b; rfl
  | cons o t ih => intro l2 b; exact ih l2 _
def orderA (D : DT) (gap far : Nat) (st : TS) (a : Int32) : Int32 := match (if a = -1 then some 5 else idx 5 a) with
  | none => -1
  | some k => if 5 < dN D then -9 else match ordB D gap far st (perms (dN D)) none with
    | none => -5
    | some (o, l) => if k = 5 then nI l else if k < dN D then nI (oPl (dN D) o k) else -5
/-! the next order, in an array -/
theorem q_exAt {arr : AR} {r : Nat → Nat} {i j : Nat} {Q : AR → Prop} (hi : i < 5) (hj : j < 5) (h : ∀ k, k < 5 → arr k = nI (r k)) (hQ : ∀ arr' : AR, (∀ k, k < 5 → arr' k = nI (swF r i j k)) → Q arr') : m_X11_exchangeAt 5 arr (nI i) (nI j) Q := by
  unfold m_X11_exchangeAt
  rw [nI_clamp (by omega), nI_clamp (by omega), h i hi, h j hj]
  refine ⟨vp_in_nI hi (by decide), fun x1 e1 => ⟨vp_in_nI hj (by decide), vp_in_nI hi (by decide), fun y2 e2 => ⟨vp_in_nI hj (by decide), fun y3 e3 => hQ y3 (fun k hk => ?_)⟩⟩⟩
  subst e1
  unfold swF
  by_cases ej : k = j
  · rw [e3, ej, pk_us, if_pos rfl]
  · by_cases ei : k = i
    · rw [e3, pk_un ej, e2, ei, pk_us, if_neg (by rw [← ei]; exact ej), if_pos rfl]
    · rw [e3, pk_un ej, e2, pk_un ei, if_neg ej, if_neg ei]; exact h k hk
theorem sw_lt {r : Nat → Nat} {i j : Nat} (hi : i < 5) (hj : j < 5) (h : ∀ k, k < 5 → r k < 100) : ∀ k, k < 5 → swF r i j k < 100 := by
  intro k hk
  unfold swF
  split
  · exact h i hi
  · split
    · exact h j hj
    · exact h k hk
theorem q_next73 {Q : Int32 → AR → Prop} : ∀ (c l t : Nat) (arr : AR) (r : Nat → Nat), t < 5 → l ≤ 5 → t ≤ l + 2 * c → (∀ k, k < 5 → arr k = nI (r k)) → (∀ arr' : AR, (∀ k, k < 5 → arr' k = nI (revF c l t r k)) → Q 1 arr') → m_X11_toNextOrder_L73 5 Q (c + 1) arr (nI l) (nI t) := by
  intro c
  induction c with
  | zero =>
    intro l t arr r ht hl hc h hQ
    unfold m_X11_toNextOrder_L73
    exact ⟨fun _ => hQ arr h, fun z => absurd ((nI_leI (by omega) (by omega)).mpr (by omega)) z⟩
  | succ c ih =>
    intro l t arr r ht hl hc h hQ
    unfold m_X11_toNextOrder_L73
    unfold revF at hQ
    refine ⟨fun z => ?_, fun z => ?_⟩
    · have := (nI_leI (by omega) (by omega)).mp z
      rw [if_neg (by omega)] at hQ
      exact hQ arr h
    · have : ¬ t ≤ l := fun y => z ((nI_leI (by omega) (by omega)).mpr y)
      rw [if_pos (by omega)] at hQ
      obtain ⟨t', rfl⟩ : ∃ t', t = t' + 1 := ⟨t - 1, by omega⟩
      refine q_exAt (by omega) ht h (fun arr' h' x ex y ey => ?_)
      rw [nI_1] at ex
      rw [add_m1, m1_pred] at ey
      subst ex
      subst ey
      exact ih (l + 1) t' arr' _ (by omega) (by omega) (by omega) h' hQ
theorem q_next57 {N k g : Nat} {arr : AR} {r : Nat → Nat} {Q : Int32 → AR → Prop} (hN : N ≤ 5) (hk : k + 1 < N) (hg : g < N) (h : ∀ k, k < 5 → arr k = nI (r k)) (hQ : ∀ arr' : AR, (∀ j, j < 5 → arr' j = nI (revF 5 (k + 1) (N - 1) (swF r k g) j)) → Q 1 arr') : m_X11_toNextOrder_L57 5 (nI N) arr (nI k) (nI g) Q := by
  obtain ⟨n, rfl⟩ : ∃ n, N = n + 1 := ⟨N - 1, by omega⟩
  unfold m_X11_toNextOrder_L57
  refine q_exAt (by omega) (by omega) h (fun arr' h' x ex y ey => ⟨6, ?_⟩)
  rw [nI_1] at ex
  rw [m1_pred] at ey
  subst ex
  subst ey
  exact q_next73 5 (k + 1) n arr' _ (by omega) (by omega) (by omega) h' hQ
theorem ngF_succ {r : Nat → Nat} {k g : Nat} : ngF r k (g + 1) = if k + 1 < g + 1 ∧ r (g + 1) < r k then ngF r k g else g + 1 := rfl
theorem q_next35 {N k : Nat} {arr : AR} {r : Nat → Nat} {Q : Int32 → AR → Prop} (hN : N ≤ 5) (hk : k + 1 < N) (h : ∀ k, k < 5 → arr k = nI (r k)) (hr : ∀ k, k < 5 → r k < 100) (hQ : ∀ arr' : AR, (∀ j, j < 5 → arr' j = nI (revF 5 (k + 1) (N - 1) (swF r k (ngF r k (N - 1))) j)) → Q 1 arr') :
    ∀ g, k + 1 ≤ g → g < N → ngF r k g = ngF r k (N - 1) → m_X11_toNextOrder_L35 5 (nI N) arr (nI k) Q (g + 1) (nI g) := by
  intro g
  induction g with
  | zero => intro hg; omega
  | succ g ih =>
    intro hg hgN e
    have hrk := hr k (by omega)
    have hrg := hr (g + 1) (by omega)
    rw [ngF_succ] at e
    unfold m_X11_toNextOrder_L35
    rw [nI_1, nI_clamp (by omega), nI_clamp (by omega), h k (by omega), h (g + 1) (by omega)]
    refine ⟨fun z => ?_, fun z => ⟨vp_in_nI (by omega) (by decide), vp_in_nI (by omega) (by decide), fun y => ?_, fun y x ex => ?_⟩⟩
    · have := (nI_leI (by omega) (by omega)).mp z
      rw [if_neg (by omega)] at e
      rw [← e] at hQ
      exact q_next57 hN hk hgN h hQ
    · have := (nI_leI (by omega) (by omega)).mp y
      rw [if_neg (by omega)] at e
      rw [← e] at hQ
      exact q_next57 hN hk hgN h hQ
    · have z1 : ¬ g + 1 ≤ k + 1 := fun q => z ((nI_leI (by omega) (by omega)).mpr q)
      have y1 : ¬ r k ≤ r (g + 1) := fun q => y ((nI_leI (by omega) (by omega)).mpr q)
      rw [if_pos (by omega)] at e
      rw [add_m1, m1_pred] at ex
      subst ex
      exact ih (by omega) (by omega) e
theorem nkF_succ {r : Nat → Nat} {m : Nat} : nkF r (m + 1) = if r (m + 1) < r m then nkF r m else m + 1 := rfl
theorem q_next4 {N : Nat} {arr : AR} {r : Nat → Nat} {Q : Int32 → AR → Prop} (hN : N ≤ 5) (h : ∀ k, k < 5 → arr k = nI (r k)) (hr : ∀ k, k < 5 → r k < 100) (h0 : nextF r N = none → Q 0 arr) (h1 : ∀ f, nextF r N = some f → ∀ arr' : AR, (∀ j, j < 5 → arr' j = nI (f j)) → Q 1 arr') :
    ∀ m, m < N → nkF r m = nkF r (N - 1) → m_X11_toNextOrder_L4 5 (nI N) arr Q (m + 1) (nI m - 1) := by
  intro m
  induction m with
  | zero =>
    intro hm e
    unfold m_X11_toNextOrder_L4
    refine ⟨fun _ => ⟨fun c => absurd c (by decide), fun _ => h0 ?_⟩, fun c => absurd (by decide) c⟩
    unfold nextF
    rw [← e]
    rfl
  | succ m ih =>
    intro hm e
    have hr1 := hr m (by omega)
    have hr2 := hr (m + 1) (by omega)
    rw [nkF_succ] at e
    unfold m_X11_toNextOrder_L4
    rw [m1_pred, nI_1, nI_clamp (by omega), nI_clamp (by omega), h m (by omega), h (m + 1) (by omega)]
    refine ⟨fun c => absurd c (nI_pos (by omega)), fun _ => ⟨vp_in_nI (by omega) (by decide), vp_in_nI (by omega) (by decide), fun y => ⟨fun _ x ex => ?_, fun c => absurd (nI_pos' (by omega)) c⟩, fun y x ex => ?_⟩⟩
    · have y1 := (nI_leI (by omega) (by omega)).mp y
      rw [if_neg (by omega)] at e
      have hs : nextF r N = some (revF 5 (m + 1) (N - 1) (swF r m (ngF r m (N - 1)))) := by
        unfold nextF
        rw [← e]
      obtain ⟨n, rfl⟩ : ∃ n, N = n + 1 := ⟨N - 1, by omega⟩
      rw [m1_pred] at ex
      subst ex
      exact ⟨n + 1, q_next35 hN (by omega) h hr (h1 _ hs) n (by omega) (by omega) rfl⟩
    · have y1 : ¬ r m ≤ r (m + 1) := fun q => y ((nI_leI (by omega) (by omega)).mpr q)
      rw [if_pos (by omega)] at e
      rw [add_m1] at ex
      subst ex
      exact ih (by omega) e
theorem q_next {N : Nat} {arr : AR} {r : Nat → Nat} {Q : Int32 → AR → Prop} (hN : N ≤ 5) (h : ∀ k, k < 5 → arr k = nI (r k)) (hr : ∀ k, k < 5 → r k < 100) (h0 : nextF r N = none → Q 0 arr) (h1 : ∀ f, nextF r N = some f → ∀ arr' : AR, (∀ j, j < 5 → arr' j = nI (f j)) → Q 1 arr') : m_X11_toNextOrder 5 arr (nI N) Q := by
  intro x e
  rcases Nat.eq_zero_or_pos N with z | z
  · subst z
    refine ⟨1, ?_⟩
    unfold m_X11_toNextOrder_L4
    rw [e]
    exact ⟨fun _ => ⟨fun c => absurd c (by decide), fun _ => h0 rfl⟩, fun c => absurd (by decide) c⟩
  · obtain ⟨m, rfl⟩ : ∃ m, N = m + 1 := ⟨N - 1, by omega⟩
    have e : x = nI m - 1 := by
      rw [e]
      cases m with
      | zero => decide
      | succ m => rw [m1_pred, show (2 : Int32) = nI 2 from rfl, pk_sub (by omega)]; congr 1
    subst e
    exact ⟨m + 1, q_next4 hN h hr h0 h1 m (by omega) rfl⟩
theorem q_standAs {M : Nat} {size : Int32} {places r1 : AR} {Q : AR → Prop} (hz : size = nI M) (hM : M ≤ 5) (hQ : ∀ C' : AR, (∀ k, k < M → C' k = r1 k) → Q C') : m_X5_standAs 5 size places r1 Q := by
  subst hz
  have L : ∀ (d i : Nat) (C : AR), i + d = M → (∀ k, k < i → C k = r1 k) → m_X5_standAs_L2 5 (nI M) r1 Q (d + 1) C (nI i) := by
    intro d
    induction d with
    | zero =>
      intro i C hi h
      unfold m_X5_standAs_L2
      exact ⟨fun _ => hQ C (fun k hk => h k (by omega)), fun c => absurd ((nI_leI (by omega) (by omega)).mpr (by omega)) c⟩
    | succ d ih =>
      intro i C hi h
      unfold m_X5_standAs_L2
      rw [nI_clamp (by omega)]
      refine ⟨fun c => absurd ((nI_leI (by omega) (by omega)).mp c) (by omega), fun _ => ⟨fun c => absurd ((nI_leI (by omega) (by omega)).mp c) (by omega), fun _ => ⟨vp_in_nI (by omega) (by decide), vp_in_nI (by omega) (by decide), fun y e x ex => ?_⟩⟩⟩
      rw [nI_1] at ex
      subst ex
      refine ih (i + 1) y (by omega) (fun k hk => ?_)
      by_cases ek : k = i
      · rw [e, ek, pk_us]
      · rw [e, pk_un ek]; exact h k (by omega)
  intro x e
  subst e
  exact ⟨M + 1, L M 0 places (by omega) (fun k hk => absurd hk (by omega))⟩
