/-! PURE: reading a field: all clauses -/
def gapI : List CLp → Int32 → Int32
  | [], g => g
  | k :: t, g => gapI t (if k.1 = 0 then nI k.2.1 else g)
def farI : List CLp → Int32 → Int32
  | [], g => g
  | k :: t, g => farI t (if k.1 = 1 then nI k.2.1 else g)
theorem gap_ex : ∀ (cls : List CLp) (g : Nat), (∀ k, k ∈ cls → ClOk k) → g ≤ 99 → ∃ v, v ≤ 99 ∧ gapI cls (nI g) = nI v := by
  intro cls
  induction cls with
  | nil => intro g _ hg; exact ⟨g, hg, rfl⟩
  | cons k t ih =>
    intro g h hg
    have hk := (h k (List.mem_cons_self ..)).2.1
    show ∃ v, v ≤ 99 ∧ gapI t (if k.1 = 0 then nI k.2.1 else nI g) = nI v
    split
    · exact ih _ (fun k' h' => h k' (List.mem_cons_of_mem _ h')) hk
    · exact ih _ (fun k' h' => h k' (List.mem_cons_of_mem _ h')) hg
theorem far_ex : ∀ (cls : List CLp) (g : Nat), (∀ k, k ∈ cls → ClOk k) → g ≤ 99 → ∃ v, v ≤ 99 ∧ farI cls (nI g) = nI v := by
  intro cls
  induction cls with
  | nil => intro g _ hg; exact ⟨g, hg, rfl⟩
  | cons k t ih =>
    intro g h hg
    have hk := (h k (List.mem_cons_self ..)).2.1
    show ∃ v, v ≤ 99 ∧ farI t (if k.1 = 1 then nI k.2.1 else nI g) = nI v
    split
    · exact ih _ (fun k' h' => h k' (List.mem_cons_of_mem _ h')) hk
    · exact ih _ (fun k' h' => h k' (List.mem_cons_of_mem _ h')) hg
theorem FAtM_cg {f f' : AR} : ∀ (cls : List CLp) (i : Nat), FAtM f i cls → (∀ j, i ≤ j → j < i + lenM cls → f' j = f j) → FAtM f' i cls := by
  intro cls
  induction cls with
  | nil => intro i _ _; trivial
  | cons k t ih =>
    intro i h hj
    have h : (if k.1 < 2 then FAtM f i t else AtL cM f i k.2.2 ∧ f (i + k.2.2.length) = (if k.1 = 2 then -10 - nI k.2.1 else -200 - nI k.2.1) ∧ FAtM f (i + k.2.2.length + 1) t) := h
    have hj : ∀ j, i ≤ j → j < i + ((if k.1 < 2 then 0 else k.2.2.length + 1) + lenM t) → f' j = f j := hj
    show (if k.1 < 2 then FAtM f' i t else AtL cM f' i k.2.2 ∧ f' (i + k.2.2.length) = (if k.1 = 2 then -10 - nI k.2.1 else -200 - nI k.2.1) ∧ FAtM f' (i + k.2.2.length + 1) t)
    by_cases c : k.1 < 2
    · rw [if_pos c] at h hj ⊢
      exact ih i h (fun j j1 j2 => hj j j1 (by omega))
    · rw [if_neg c] at h hj ⊢
      obtain ⟨h1, h2, h3⟩ := h
      exact ⟨AtL_cg _ i h1 (fun j j1 j2 => hj j j1 (by omega)), (hj _ (by omega) (by omega)).trans h2, ih _ h3 (fun j j1 j2 => hj j (by omega) (by omega))⟩
def FMs (act cc : Nat) (cls : List CLp) (s s' : AR) : Prop := s' (198 + act) = nI (cc + lenM cls) ∧ s' (188 + act) = gapI cls (s (188 + act)) ∧ s' (193 + act) = farI cls (s (193 + act)) ∧ FAtM s' (203 + 140 * act + cc) cls ∧ (∀ j, 203 + 140 * act ≤ j → j < 203 + 140 * act + cc → s' j = s j) ∧ FraW act s s'
theorem FMs_cons {act cc : Nat} {k : CLp} {t : List CLp} {s s1 s2 : AR} (h1 : ClM act cc k s s1) (h2 : FMs act (cc + lenC k) t s1 s2) : FMs act cc (k :: t) s s2 := by
  obtain ⟨a1, a2, a3, a4, a5, a6⟩ := h1
  obtain ⟨b1, b2, b3, b4, b5, b6⟩ := h2
  refine ⟨?_, ?_, ?_, ?_, fun j j1 j2 => (b5 j j1 (by omega)).trans (a5 j j1 j2), FraW_t a6 b6⟩
  · show s2 (198 + act) = nI (cc + ((if k.1 < 2 then 0 else k.2.2.length + 1) + lenM t))
    rw [b1, Nat.add_assoc]; rfl
  · rw [b2, a2]; rfl
  · rw [b3, a3]; rfl
  · show (if k.1 < 2 then FAtM s2 (203 + 140 * act + cc) t else AtL cM s2 (203 + 140 * act + cc) k.2.2 ∧ s2 (203 + 140 * act + cc + k.2.2.length) = (if k.1 = 2 then -10 - nI k.2.1 else -200 - nI k.2.1) ∧ FAtM s2 (203 + 140 * act + cc + k.2.2.length + 1) t)
    by_cases c : k.1 < 2
    · have el : lenC k = 0 := by unfold lenC; rw [if_pos c]
      rw [el] at b4
      rw [if_pos c]; exact b4
    · have el : lenC k = k.2.2.length + 1 := by unfold lenC; rw [if_neg c]
      rw [el] at b4 b5
      rw [if_neg c]
      obtain ⟨c1, c2⟩ := a4 c
      exact ⟨AtL_cg _ _ c1 (fun j j1 j2 => b5 j (by omega) (by omega)), (b5 _ (by omega) (by omega)).trans c2, by rw [show 203 + 140 * act + cc + k.2.2.length + 1 = 203 + 140 * act + (cc + (k.2.2.length + 1)) from by omega]; exact b4⟩
def OutL (n p m r p' : Nat) (cls : List CLp) : Prop := p' ≤ n ∧ (r = 1 → p' = n ∧ cls.length ≤ m ∧ (∀ k, k ∈ cls → ClOk k) ∧ lenM cls + p ≤ n)
def ClaL (n : Nat) (t : AR) (c m p r p' : Nat) (cls : List CLp) : Prop := ∀ (F sc : Nat) (cl ga fa : Int32) (st wo nu sa en : AR) (Q : QcT), m ≤ F → sc ≤ p → (r = 1 → ∀ (sc' : Int32) (st' wo' nu' sa' en' : AR), FAtC st' wo' nu' sa' en' c cls → (∀ j, j < sc → st' j = st j) → (∀ j, j < c → wo' j = wo j ∧ nu' j = nu j ∧ sa' j = sa j ∧ en' j = en j) → Q 1 (nI n) sc' (nI (c + cls.length)) (gapI cls ga) (farI cls fa) st' wo' nu' sa' en') → (r ≠ 1 → ∀ (a1 a2 a3 a4 : Int32) (b1 b2 b3 b4 b5 : AR), Q 0 (nI p') a1 a2 a3 a4 b1 b2 b3 b4 b5) → m_X1_readAll_L2 (nI n) t Q F (nI p) (nI sc) cl ga fa st wo nu sa en (nI c)
abbrev QfdT : Type := Int32 → Int32 → Int32 → Int32 → Int32 → Int32 → AR → Prop
def RefL (n act : Nat) (t : AR) (c m p r p' : Nat) (cls : List CLp) : Prop := ∀ (F cc : Nat) (s : AR) (KC : QrT) (Q : QfdT), m ≤ F → (∀ j, j < n → s (88 + j) = t j) → s (198 + act) = nI cc → cc ≤ p → (∀ z1 z2 z3 z4, m_X12_field_L108 (nI act) (nI n) Q F z1 z2 z3 z4 (nI (c + 1)) → KC z1 z2 z3 z4) → (r = 1 → ∀ s' : AR, FMs act cc cls s s' → m_X12_field_L150 (nI act) (nI n) (nI n) 0 0 s' Q) → (r ≠ 1 → ∀ (w o' : Int32) (s' : AR), FraW act s s' → Q ((-10 : Int32) - nI p') (nI act) (nI p') (nI n) w o' s') → m_X12_clauseHere (nI act) (nI p) (nI n) 0 0 s KC
theorem q_150 {act n p : Nat} {w o : Int32} {s : AR} {Q : QfdT} (hn : n ≤ 100) (hp : p ≤ 200) (h : w = 0 → p ≠ n) (hQ : Q ((-10 : Int32) - nI p) (nI act) (nI p) (nI n) w o s) : m_X12_field_L150 (nI act) (nI p) (nI n) w o s Q := by
  unfold m_X12_field_L150
  exact ⟨fun c => ⟨fun z => absurd ((nI_eq (by omega) (by omega)).mp z) (h c), fun _ => hQ⟩, fun _ => hQ⟩
theorem loopC_ex {n act : Nat} {t : AR} (hn : n ≤ 100) (ha : act ≤ 4) : ∀ (m c p : Nat), c + m = 10 → 0 < m → p ≤ n → ∃ r p' cls, OutL n p m r p' cls ∧ ClaL n t c m p r p' cls ∧ RefL n act t c m p r p' cls := by
  intro m
  induction m with
  | zero => intro c p _ h; omega
  | succ m ih =>
    intro c p hcm _ hp
    obtain ⟨r1, p1, k, ⟨o1, o2, o3, o4, o5⟩, hcl, href⟩ := clause_ex (t := t) (act := act) hn ha hp
    have c10 : ¬ (10 : Int32) ≤ nI c := fun z => by have := (nI_leI (a := 10) (b := c) (by omega) (by omega)).mp z; omega
    by_cases hr : r1 = 1
    · obtain ⟨x1, x2, x3, x4⟩ := o4 hr
      -- the class behind a good clause
      have claG : ∀ (F sc : Nat) (cl ga fa : Int32) (st wo nu sa en : AR) (Q : QcT), sc ≤ p →
          (∀ st1 : AR, ClR sc k.2.2 st st1 → ((nI p1 < nI n → ((nI c = (9 : Int32) → Q (0 : Int32) (nI p1) (nI (sc + k.2.2.length)) (nI (c + 1)) (if k.1 = 0 then nI k.2.1 else ga) (if k.1 = 1 then nI k.2.1 else fa) st1 (upd wo c (nI k.1)) (upd nu c (nI k.2.1)) (upd sa c (nI sc)) (upd en c (nI (sc + k.2.2.length)))) ∧ (¬ nI c = (9 : Int32) → m_X1_take (nI p1) (nI n) t (59 : Int32) (fun r18 z20 => ((r18 = 0 → Q (0 : Int32) z20 (nI (sc + k.2.2.length)) (nI (c + 1)) (if k.1 = 0 then nI k.2.1 else ga) (if k.1 = 1 then nI k.2.1 else fa) st1 (upd wo c (nI k.1)) (upd nu c (nI k.2.1)) (upd sa c (nI sc)) (upd en c (nI (sc + k.2.2.length)))) ∧ (¬ r18 = 0 → ∀ x22 : Int32, x22 = nI c + 1 → m_X1_readAll_L2 (nI n) t Q F z20 (nI (sc + k.2.2.length)) (nI (c + 1)) (if k.1 = 0 then nI k.2.1 else ga) (if k.1 = 1 then nI k.2.1 else fa) st1 (upd wo c (nI k.1)) (upd nu c (nI k.2.1)) (upd sa c (nI sc)) (upd en c (nI (sc + k.2.2.length))) x22)))))) ∧ (¬ nI p1 < nI n → Q (1 : Int32) (nI p1) (nI (sc + k.2.2.length)) (nI (c + 1)) (if k.1 = 0 then nI k.2.1 else ga) (if k.1 = 1 then nI k.2.1 else fa) st1 (upd wo c (nI k.1)) (upd nu c (nI k.2.1)) (upd sa c (nI sc)) (upd en c (nI (sc + k.2.2.length)))))) →
          m_X1_readAll_L2 (nI n) t Q (F + 1) (nI p) (nI sc) cl ga fa st wo nu sa en (nI c) := by
        intro F sc cl ga fa st wo nu sa en Q hsc g
        unfold m_X1_readAll_L2
        exact ⟨fun z => absurd z c10, fun _ => hcl c sc cl ga fa st wo nu sa en _ (by omega) hsc (fun _ st1 h1 => ⟨fun z => absurd z (by decide), fun _ => g st1 h1⟩) (fun z => absurd hr z)⟩
      have refG : ∀ (F cc : Nat) (s : AR) (KC : QrT) (Q : QfdT), (∀ j, j < n → s (88 + j) = t j) → s (198 + act) = nI cc → cc ≤ p → (∀ z1 z2 z3 z4, m_X12_field_L108 (nI act) (nI n) Q (F + 1) z1 z2 z3 z4 (nI (c + 1)) → KC z1 z2 z3 z4) → (∀ s1 : AR, ClM act cc k s s1 → (((10 : Int32) ≤ nI (c + 1) → m_X12_field_L150 (nI act) (nI p1) (nI n) 0 0 s1 Q) ∧ (¬ (10 : Int32) ≤ nI (c + 1) → m_X12_here (nI p1) (nI n) s1 (fun r19 => ((r19 = (59 : Int32) → m_X12_clauseHere (nI act) (nI p1 + (1 : Int32)) (nI n) 0 0 s1 (fun z24 z25 z26 z27 => ∀ x28 : Int32, x28 = nI (c + 1) + 1 → (m_X12_field_L108 (nI act) (nI n) Q F) z24 z25 z26 z27 x28)) ∧ (¬ r19 = (59 : Int32) → m_X12_field_L150 (nI act) (nI p1) (nI n) 0 0 s1 Q)))))) → m_X12_clauseHere (nI act) (nI p) (nI n) 0 0 s KC := by
        intro F cc s KC Q hs hcnt hcc hKC g
        refine href s cc KC hs hcnt hcc (fun _ s1 h1 => hKC _ _ _ _ ?_) (fun z => absurd (hr.symm.trans z) (by decide)) (fun z => absurd (hr.symm.trans z) (by decide))
        unfold m_X12_field_L108
        exact ⟨fun _ => g s1 h1, fun z => absurd rfl z⟩
      by_cases hend : p1 = n
      · refine ⟨1, n, [k], ⟨by omega, fun _ => ⟨rfl, by show 1 ≤ m + 1; omega, fun k' h' => by rw [List.mem_singleton.mp h']; exact x4, by show (if k.1 < 2 then 0 else k.2.2.length + 1) + 0 + p ≤ n; unfold lenC at x2; omega⟩⟩, ?_, ?_⟩
        · intro F sc cl ga fa st wo nu sa en Q hF hsc q1 q0
          obtain ⟨F, rfl⟩ : ∃ F', F = F' + 1 := ⟨F - 1, by omega⟩
          refine claG F sc cl ga fa st wo nu sa en Q hsc (fun st1 h1 => ⟨fun z => absurd ((nI_ltI (by omega) (by omega)).mp z) (by omega), fun _ => ?_⟩)
          rw [hend]
          exact q1 rfl _ st1 _ _ _ _ ⟨⟨pk_us, pk_us, sc, pk_us, pk_us, by omega, h1.1⟩, trivial⟩ h1.2 (fun j hj => ⟨pk_un (by omega), pk_un (by omega), pk_un (by omega), pk_un (by omega)⟩)
        · intro F cc s KC Q hF hs hcnt hcc hKC q1 q0
          obtain ⟨F, rfl⟩ : ∃ F', F = F' + 1 := ⟨F - 1, by omega⟩
          refine refG F cc s KC Q hs hcnt hcc hKC (fun s1 h1 => ?_)
          have hq : m_X12_field_L150 (nI act) (nI p1) (nI n) 0 0 s1 Q := by
            rw [hend]
            refine q1 rfl s1 (FMs_cons h1 ⟨?_, rfl, rfl, trivial, fun _ _ _ => rfl, fun _ _ _ _ _ => rfl⟩)
            rw [h1.1]; rfl
          refine ⟨fun _ => hq, fun _ => q_hereT hn (by omega) (tape_frW hn hs h1.2.2.2.2.2) ⟨fun z => ?_, fun _ => hq⟩⟩
          have := hT_in z (by decide)
          omega
      · have hlt : p1 < n := by omega
        by_cases h59 : c < 9 ∧ hT n t p1 = 59
        · obtain ⟨c9, h59⟩ := h59
          obtain ⟨r2, p2, cls, ⟨y1, y2⟩, hcl2, href2⟩ := ih (c + 1) (p1 + 1) (by omega) (by omega) (by omega)
          refine ⟨r2, p2, k :: cls, ⟨y1, fun h1 => ?_⟩, ?_, ?_⟩
          · obtain ⟨z1, z2, z3, z4⟩ := y2 h1
            refine ⟨z1, by show cls.length + 1 ≤ m + 1; omega, fun k' h' => ?_, by show (if k.1 < 2 then 0 else k.2.2.length + 1) + lenM cls + p ≤ n; unfold lenC at x2; omega⟩
            rcases List.mem_cons.mp h' with e | e
            · rw [e]; exact x4
            · exact z3 k' e
          · intro F sc cl ga fa st wo nu sa en Q hF hsc q1 q0
            obtain ⟨F, rfl⟩ : ∃ F', F = F' + 1 := ⟨F - 1, by omega⟩
            refine claG F sc cl ga fa st wo nu sa en Q hsc (fun st1 h1 => ⟨fun _ => ⟨fun z => absurd ((nI_eq (a := c) (b := 9) (by omega) (by omega)).mp z) (by omega), fun _ => q_take hn (by omega) (fun _ => ⟨fun z => absurd z (by decide), fun _ x22 e22 => ?_⟩) (fun z => absurd h59 z)⟩, fun z => absurd ((nI_ltI (by omega) (by omega)).mpr hlt) z⟩)
            rw [nI_1] at e22
            subst e22
            refine hcl2 F (sc + k.2.2.length) _ _ _ st1 _ _ _ _ Q (by omega) (by omega) (fun e1 sc' st' wo' nu' sa' en' g1 g2 g3 => ?_) q0
            obtain ⟨w1, w2, w3, w4⟩ := g3 c (by omega)
            rw [show c + 1 + cls.length = c + (k :: cls).length from by show c + 1 + cls.length = c + (cls.length + 1); omega] at *
            exact q1 e1 sc' st' wo' nu' sa' en' ⟨⟨by rw [w1, pk_us], by rw [w2, pk_us], sc, by rw [w3, pk_us], by rw [w4, pk_us], by omega, AtL_cg _ _ h1.1 (fun j j1 j2 => g2 j (by omega))⟩, g1⟩ (fun j hj => (g2 j (by omega)).trans (h1.2 j hj)) (fun j hj => by
              obtain ⟨w1, w2, w3, w4⟩ := g3 j (by omega)
              rw [w1, w2, w3, w4, pk_un (by omega), pk_un (by omega), pk_un (by omega), pk_un (by omega)]
              exact ⟨rfl, rfl, rfl, rfl⟩)
          · intro F cc s KC Q hF hs hcnt hcc hKC q1 q0
            obtain ⟨F, rfl⟩ : ∃ F', F = F' + 1 := ⟨F - 1, by omega⟩
            refine refG F cc s KC Q hs hcnt hcc hKC (fun s1 h1 => ⟨fun z => absurd ((nI_leI (a := 10) (b := c + 1) (by omega) (by omega)).mp z) (by omega), fun _ => q_hereT hn (by omega) (tape_frW hn hs h1.2.2.2.2.2) ⟨fun _ => ?_, fun z => absurd h59 z⟩⟩)
            rw [nI_1, nI_1]
            exact href2 F (cc + lenC k) s1 _ Q (by omega) (tape_frW hn hs h1.2.2.2.2.2) h1.1 (by omega) (fun z1 z2 z3 z4 h x e => by subst e; exact h) (fun e1 s' h' => q1 e1 s' (FMs_cons h1 h')) (fun e1 w o' s' hfr => q0 e1 w o' s' (FraW_t h1.2.2.2.2.2 hfr))
        · refine ⟨0, p1, [], ⟨o3, fun z => absurd z (by decide)⟩, ?_, ?_⟩
          · intro F sc cl ga fa st wo nu sa en Q hF hsc q1 q0
            obtain ⟨F, rfl⟩ : ∃ F', F = F' + 1 := ⟨F - 1, by omega⟩
            refine claG F sc cl ga fa st wo nu sa en Q hsc (fun st1 h1 => ⟨fun _ => ⟨fun _ => q0 (by decide) _ _ _ _ _ _ _ _ _, fun z => q_take hn (by omega) (fun q => absurd ⟨?_, q⟩ h59) (fun _ => ⟨fun _ => q0 (by decide) _ _ _ _ _ _ _ _ _, fun z => absurd rfl z⟩)⟩, fun z => absurd ((nI_ltI (by omega) (by omega)).mpr hlt) z⟩)
            rcases Nat.lt_or_ge c 9 with y | y
            · exact y
            · exact absurd (by rw [show c = 9 from by omega]; rfl) z
          · intro F cc s KC Q hF hs hcnt hcc hKC q1 q0
            obtain ⟨F, rfl⟩ : ∃ F', F = F' + 1 := ⟨F - 1, by omega⟩
            refine refG F cc s KC Q hs hcnt hcc hKC (fun s1 h1 => ?_)
            have hq : m_X12_field_L150 (nI act) (nI p1) (nI n) 0 0 s1 Q := q_150 hn (by omega) (fun _ => hend) (q0 (by decide) _ _ s1 h1.2.2.2.2.2)
            refine ⟨fun _ => hq, fun y => q_hereT hn (by omega) (tape_frW hn hs h1.2.2.2.2.2) ⟨fun z => absurd ⟨?_, z⟩ h59, fun _ => hq⟩⟩
            rcases Nat.lt_or_ge c 9 with u | u
            · exact u
            · exact absurd ((nI_leI (a := 10) (b := c + 1) (by omega) (by omega)).mpr (by omega)) y
    · refine ⟨0, p1, [], ⟨o3, fun z => absurd z (by decide)⟩, ?_, ?_⟩
      · intro F sc cl ga fa st wo nu sa en Q hF hsc q1 q0
        obtain ⟨F, rfl⟩ : ∃ F', F = F' + 1 := ⟨F - 1, by omega⟩
        unfold m_X1_readAll_L2
        exact ⟨fun z => absurd z c10, fun _ => hcl c sc cl ga fa st wo nu sa en _ (by omega) hsc (fun z => absurd z hr) (fun _ a1 a2 a3 a4 b1 b2 b3 b4 b5 => ⟨fun _ => q0 (by decide) _ _ _ _ _ _ _ _ _, fun z => absurd rfl z⟩)⟩
      · intro F cc s KC Q hF hs hcnt hcc hKC q1 q0
        obtain ⟨F, rfl⟩ : ∃ F', F = F' + 1 := ⟨F - 1, by omega⟩
        refine href s cc KC hs hcnt hcc (fun z => absurd z hr) (fun h0 s1 o' hfr => hKC _ _ _ _ ?_) (fun h2 s1 hfr => hKC _ _ _ _ ?_)
        · unfold m_X12_field_L108
          exact ⟨fun z => absurd z (by decide), fun _ => q_150 hn (by omega) (fun z => absurd z (by decide)) (q0 (by decide) _ _ s1 hfr)⟩
        · obtain ⟨dd, hdd, edd⟩ := o5 h2
          have hlt := hT_dig edd hdd
          have hq : m_X12_field_L150 (nI act) (nI p1) (nI n) 0 0 s1 Q := q_150 hn (by omega) (fun _ => by omega) (q0 (by decide) _ _ s1 hfr)
          unfold m_X12_field_L108
          exact ⟨fun _ => ⟨fun _ => hq, fun _ => q_hereT hn (by omega) (tape_frW hn hs hfr) ⟨fun z => absurd (edd.symm.trans z) (dig_ne hdd (Or.inr (Or.inr (Or.inr (Or.inl rfl))))), fun _ => hq⟩⟩, fun z => absurd rfl z⟩
