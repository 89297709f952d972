/-! PURE: the reference's looks -/
def TrS (tr : AR) : List Bool → Prop
  | [] => True
  | b :: s => tr s.length = nI b.toNat ∧ TrS tr s
theorem TrS_up {tr : AR} {k : Nat} {x : Int32} : ∀ st : List Bool, TrS tr st → st.length ≤ k → TrS (upd tr k x) st := by
  intro st
  induction st with
  | nil => intro _ _; trivial
  | cons b s ih =>
    intro h hk
    have hk : s.length + 1 ≤ k := hk
    exact ⟨(pk_un (by omega)).trans h.1, ih h.2 (by omega)⟩
def FAtM (f : AR) : Nat → List CLp → Prop
  | _, [] => True
  | i, k :: t => if k.1 < 2 then FAtM f i t else AtL cM f i k.2.2 ∧ f (i + k.2.2.length) = (if k.1 = 2 then -10 - nI k.2.1 else -200 - nI k.2.1) ∧ FAtM f (i + k.2.2.length + 1) t
def lenM : List CLp → Nat
  | [] => 0
  | k :: t => (if k.1 < 2 then 0 else k.2.2.length + 1) + lenM t
theorem cM_1 {e : STp} (h : e.1 = 1) : cM e = -1 := by unfold cM; rw [if_neg (by omega), if_pos h]
theorem cM_2 {e : STp} (h : e.1 = 2) : cM e = -2 := by unfold cM; rw [if_neg (by omega), if_neg (by omega), if_pos h]
theorem cM_3 {e : STp} (h0 : ¬ e.1 = 0) (h1 : ¬ e.1 = 1) (h : ¬ e.1 = 2) : cM e = -3 := by unfold cM; rw [if_neg h0, if_neg h1, if_neg h]
theorem nar_b (b : Bool) : vp_nar .boolean (nI b.toNat) = nI b.toNat := by cases b <;> rfl
abbrev QlT : Type := Int32 → Int32 → AR → AR → Prop
theorem q_lookS {w : Nat → Nat} {s yb : AR} {v5 v6 : Int32} {en F : Nat} {fs fr : Int32} {Q : QlT} (hE : v6 + v5 = nI en) (hen : en ≤ 903) (hb : ∀ j, j < 5 → yb j = nI (w j) ∧ w j ≤ 20) :
    ∀ (l : List STp) (i : Nat) (st st' : List Bool) (tr : AR), evS w l st = some st' → AtL cM s i l → (∀ e, e ∈ l → STok e) → i + l.length ≤ en → TrS tr st → st.length + nTs l ≤ 60 →
      (∀ tr' : AR, TrS tr' st' → m_X12_looks_L88 s yb v5 v6 Q F fs fr tr' (nI st'.length) (nI (i + l.length))) →
      m_X12_looks_L88 s yb v5 v6 Q (F + l.length) fs fr tr (nI st.length) (nI i) := by
  intro l
  induction l with
  | nil =>
    intro i st st' tr hev _ _ _ htr _ hQ
    have hev : st = st' := Option.some.inj hev
    subst hev
    exact hQ tr htr
  | cons e l ih =>
    intro i st st' tr hev ha hok hi htr hlen hQ
    have hi : i + (l.length + 1) ≤ en := hi
    obtain ⟨ha1, ha2⟩ := ha
    have hoke := hok e (List.mem_cons_self ..)
    have hokl : ∀ e', e' ∈ l → STok e' := fun e' h' => hok e' (List.mem_cons_of_mem _ h')
    have hlen : st.length + ((if e.1 = 0 then 1 else 0) + nTs l) ≤ 60 := hlen
    have hQ : ∀ tr' : AR, TrS tr' st' → m_X12_looks_L88 s yb v5 v6 Q F fs fr tr' (nI st'.length) (nI (i + 1 + l.length)) := fun tr' h' => by
      have := hQ tr' h'
      rw [show i + 1 + l.length = i + (e :: l).length from by show i + 1 + l.length = i + (l.length + 1); omega]
      exact this
    show m_X12_looks_L88 s yb v5 v6 Q ((F + l.length) + 1) fs fr tr (nI st.length) (nI i)
    unfold m_X12_looks_L88
    rw [hE, nI_clamp (n := i) (by omega), ha1]
    refine ⟨fun c => absurd ((nI_leI (by omega) (by omega)).mp c) (by omega), fun _ => ⟨vp_in_nI (by omega) (by decide), fun x12 e12 => ?_⟩⟩
    subst e12
    have step : ∀ (st2 : List Bool) (tr2 : AR), evS w l st2 = some st' → TrS tr2 st2 → st2.length + nTs l ≤ 60 → m_X12_looks_L401 s yb v5 v6 fs fr tr2 (nI st2.length) (nI i) (m_X12_looks_L88 s yb v5 v6 Q (F + l.length)) Q := by
      intro st2 tr2 h1 h2 h3
      unfold m_X12_looks_L401
      intro x ex
      rw [nI_1] at ex
      subst ex
      exact ih (i + 1) st2 st' tr2 h1 ha2 hokl (by omega) h2 h3 hQ
    by_cases t0 : e.1 = 0
    · rw [if_pos t0] at hlen
      rw [evS_0 t0] at hev
      obtain ⟨-, g1, g2, g3⟩ := hoke
      have hV : e.2.1 + 8 * e.2.2.1 + 32 * e.2.2.2 < 2 ^ 31 := by omega
      have ec : cM e = nI (e.2.1 + 8 * e.2.2.1 + 32 * e.2.2.2) := by unfold cM; rw [if_pos t0]
      have ew := hb e.2.1 g1
      rw [ec]
      have d1 : nI (e.2.1 + 8 * e.2.2.1 + 32 * e.2.2.2) - nI (e.2.1 + 8 * e.2.2.1 + 32 * e.2.2.2) / (8 : Int32) * (8 : Int32) = nI e.2.1 := by
        rw [show (8 : Int32) = nI 8 from rfl, pk_rem hV (by decide) (by decide)]
        congr 1
        omega
      have d2 : nI (e.2.1 + 8 * e.2.2.1 + 32 * e.2.2.2) / (8 : Int32) - nI (e.2.1 + 8 * e.2.2.1 + 32 * e.2.2.2) / (8 : Int32) / (4 : Int32) * (4 : Int32) = nI e.2.2.1 := by
        rw [show (8 : Int32) = nI 8 from rfl, show (4 : Int32) = nI 4 from rfl, pk_div hV (by decide) (by decide), pk_rem (by omega) (by decide) (by decide)]
        congr 1
        omega
      have d3 : nI (e.2.1 + 8 * e.2.2.1 + 32 * e.2.2.2) / (32 : Int32) = nI e.2.2.2 := by
        rw [show (32 : Int32) = nI 32 from rfl, pk_div hV (by decide) (by decide)]
        congr 1
        omega
      rw [d1, d2, d3, nI_clamp (n := e.2.1) (by omega), ew.1]
      refine ⟨fun c => absurd c (nI_pos hV), fun _ => ⟨vp_in_nI g1 (by decide), fun x32 e32 x33 e33 x34 e34 => ?_⟩⟩
      subst e32
      subst e33
      subst e34
      have put : ∀ b : Bool, tstN w e = b → m_X12_looks_L199 s yb v5 v6 fs fr tr (nI st.length) (nI i) (nI st.length) (nI b.toNat) (m_X12_looks_L88 s yb v5 v6 Q (F + l.length)) Q := by
        intro b eb
        unfold m_X12_looks_L199
        rw [nar_b, nI_clamp (n := st.length) (by omega)]
        refine ⟨vp_in_nI (by omega) (by decide), fun y38 e38 x39 e39 => ?_⟩
        rw [nI_1] at e39
        subst e39
        rw [eb] at hev
        exact step (b :: st) y38 hev ⟨by rw [e38, pk_us], by rw [e38]; exact TrS_up st htr (Nat.le_refl _)⟩ (by show st.length + 1 + nTs l ≤ 60; omega)
      unfold tstN at put
      rw [show nI e.2.2.1 = 0 ↔ e.2.2.1 = 0 from nI_eq (a := e.2.2.1) (b := 0) (by omega) (by omega), show nI e.2.2.1 = 1 ↔ e.2.2.1 = 1 from nI_eq (a := e.2.2.1) (b := 1) (by omega) (by omega), nI_leI (by omega) (by omega), nI_leI (by omega) (by omega), nI_eq (by omega) (by omega)]
      refine ⟨fun c => ⟨fun d => put false ?_, fun d => put true ?_⟩, fun c => ⟨fun c1 => ⟨fun d => put true ?_, fun d => put false ?_⟩, fun c1 => ⟨fun d => put false ?_, fun d => put true ?_⟩⟩⟩
      · rw [if_pos c]; exact decide_eq_false (by omega)
      · rw [if_pos c]; exact decide_eq_true (by omega)
      · rw [if_neg c, if_pos c1]; exact decide_eq_true d
      · rw [if_neg c, if_pos c1]; exact decide_eq_false d
      · rw [if_neg c, if_neg c1]; exact decide_eq_false (by omega)
      · rw [if_neg c, if_neg c1]; exact decide_eq_true (by omega)
    · rw [if_neg t0] at hlen
      cases st with
      | nil => rw [evS_n t0] at hev; cases hev
      | cons b r =>
        have hlen : r.length + 1 + (0 + nTs l) ≤ 60 := hlen
        have elen : nI (b :: r).length = nI (r.length + 1) := rfl
        rw [elen]
        by_cases t1 : e.1 = 1
        · rw [cM_1 t1]
          rw [evS_1 t1] at hev
          rw [m1_pred, nI_clamp (n := r.length) (by omega), htr.1]
          have put : ∀ b2 : Bool, (!b) = b2 → m_X12_looks_L237 s yb v5 v6 fs fr tr (nI (r.length + 1)) (nI i) (nI r.length) (nI b2.toNat) (m_X12_looks_L88 s yb v5 v6 Q (F + l.length)) Q := by
            intro b2 eb
            unfold m_X12_looks_L237
            rw [nar_b, nI_clamp (n := r.length) (by omega)]
            refine ⟨vp_in_nI (by omega) (by decide), fun y e31 => ?_⟩
            rw [eb] at hev
            exact step (b2 :: r) y hev ⟨by rw [e31, pk_us], by rw [e31]; exact TrS_up r htr.2 (Nat.le_refl _)⟩ (by show r.length + 1 + nTs l ≤ 60; omega)
          refine ⟨fun _ => ⟨fun _ => ⟨vp_in_nI (by omega) (by decide), ?_⟩, fun c => absurd rfl c⟩, fun c => absurd (by decide) c⟩
          cases b with
          | false => exact ⟨fun _ => put true rfl, fun c => absurd rfl c⟩
          | true => exact ⟨fun c => absurd c (by decide), fun _ => put false rfl⟩
        · cases r with
          | nil => rw [evS_n2 t0 t1] at hev; cases hev
          | cons a q =>
            have hlen : q.length + 1 + 1 + (0 + nTs l) ≤ 60 := hlen
            obtain ⟨hb1, ha1', hq⟩ := htr
            have hb1 : tr (q.length + 1) = nI b.toNat := hb1
            have em : nI (q.length + 1 + 1) + (-1 : Int32) = nI (q.length + 1) := by rw [add_m1, m1_pred]
            have put : ∀ b2 : Bool, evS w l (b2 :: q) = some st' → m_X12_looks_L323 s yb v5 v6 fs fr tr (nI (q.length + 1)) (nI i) (nI q.length) (nI b2.toNat) (m_X12_looks_L88 s yb v5 v6 Q (F + l.length)) Q := by
              intro b2 hev2
              unfold m_X12_looks_L323
              rw [nar_b, nI_clamp (n := q.length) (by omega)]
              refine ⟨vp_in_nI (by omega) (by decide), fun y e31 => ?_⟩
              exact step (b2 :: q) y hev2 ⟨by rw [e31, pk_us], by rw [e31]; exact TrS_up q hq (Nat.le_refl _)⟩ (by show q.length + 1 + nTs l ≤ 60; omega)
            have v0 : vp_in (nI q.length) 64 := vp_in_nI (by omega) (by decide)
            have v1 : vp_in (nI (q.length + 1)) 64 := vp_in_nI (by omega) (by decide)
            by_cases t2 : e.1 = 2
            · rw [cM_2 t2]
              rw [evS_2 t2] at hev
              refine ⟨fun _ => ⟨fun c => absurd c (by decide), fun _ => ⟨fun c => absurd c (by decide), fun _ x23 e23 => ?_⟩⟩, fun c => absurd (by decide) c⟩
              have e23 : x23 = nI (q.length + 1) := e23.trans em
              subst e23
              rw [m1_pred, nI_clamp (n := q.length) (by omega), nI_clamp (n := q.length + 1) (by omega), ha1', hb1]
              refine ⟨fun _ => ⟨v0, ?_⟩, fun c => absurd rfl c⟩
              unfold m_X12_looks_L292
              cases a with
              | false => exact ⟨fun _ => put false hev, fun c => absurd rfl c⟩
              | true =>
                refine ⟨fun c => absurd c (by decide), fun _ => ⟨v1, ?_⟩⟩
                cases b with
                | false => exact ⟨fun _ => put false hev, fun c => absurd rfl c⟩
                | true => exact ⟨fun c => absurd c (by decide), fun _ => put true hev⟩
            · rw [cM_3 t0 t1 t2]
              rw [evS_3 t0 t1 t2] at hev
              refine ⟨fun _ => ⟨fun c => absurd c (by decide), fun _ => ⟨fun c => absurd c (by decide), fun _ x23 e23 => ?_⟩⟩, fun c => absurd (by decide) c⟩
              have e23 : x23 = nI (q.length + 1) := e23.trans em
              subst e23
              rw [m1_pred, nI_clamp (n := q.length) (by omega), nI_clamp (n := q.length + 1) (by omega), ha1', hb1]
              refine ⟨fun c => absurd c (by decide), fun _ => ⟨v0, ?_⟩⟩
              unfold m_X12_looks_L318
              cases a with
              | false =>
                refine ⟨fun _ => ⟨v1, ?_⟩, fun c => absurd rfl c⟩
                cases b with
                | false => exact ⟨fun _ => put false hev, fun c => absurd rfl c⟩
                | true => exact ⟨fun c => absurd c (by decide), fun _ => put true hev⟩
              | true => exact ⟨fun c => absurd c (by decide), fun _ => put true hev⟩
theorem mark_s : ∀ n, n < 100 → (-10 : Int32) - nI n < 0 ∧ ¬ (-10 : Int32) - nI n = -1 ∧ (-10 : Int32) - nI n ≤ -10 ∧ ¬ (-10 : Int32) - nI n ≤ -200 ∧ (-200 : Int32) < -10 - nI n ∧ (-10 : Int32) - (-10 - nI n) = nI n := by decide +kernel
theorem mark_r : ∀ n, n < 100 → (-200 : Int32) - nI n < 0 ∧ ¬ (-200 : Int32) - nI n = -1 ∧ (-200 : Int32) - nI n ≤ -10 ∧ (-200 : Int32) - nI n ≤ -200 ∧ ¬ (-200 : Int32) < -200 - nI n ∧ (-200 : Int32) - (-200 - nI n) = nI n := by decide +kernel
theorem q_lookC {w : Nat → Nat} {s yb : AR} {v5 v6 : Int32} {en : Nat} {Q : QlT} (hE : v6 + v5 = nI en) (hen : en ≤ 903) (hb : ∀ j, j < 5 → yb j = nI (w j) ∧ w j ≤ 20) :
    ∀ (t : List CLp) (i x y : Nat) (tr : AR), FAtM s i t → (∀ k, k ∈ t → ClOk k) → i + lenM t = en → x + 99 * t.length ≤ 2000 → y + 99 * t.length ≤ 2000 →
      (∀ tr' : AR, Q (nI (x + mnN 2 w t)) (nI (min (y + mnN 3 w t) 100)) yb tr') →
      m_X12_looks_L88 s yb v5 v6 Q (lenM t + 1) (nI x) (nI y) tr (nI 0) (nI i) := by
  intro t
  induction t with
  | nil =>
    intro i x y tr _ _ hi hx hy hQ
    have hi : i + 0 = en := hi
    have hQ : Q (nI x) (nI (min y 100)) yb tr := hQ tr
    have hy : y + 0 ≤ 2000 := hy
    show m_X12_looks_L88 s yb v5 v6 Q (0 + 1) (nI x) (nI y) tr (nI 0) (nI i)
    unfold m_X12_looks_L88
    rw [hE, show nI y ≤ 100 ↔ y ≤ 100 from nI_leI (a := y) (b := 100) (by omega) (by omega)]
    unfold m_X12_looks_L426
    refine ⟨fun _ => ⟨fun c => by rw [Nat.min_eq_left c] at hQ; exact hQ, fun c => by rw [Nat.min_eq_right (by omega)] at hQ; exact hQ⟩, fun c => absurd ((nI_leI (by omega) (by omega)).mpr (by omega)) c⟩
  | cons k t ih =>
    intro i x y tr hat hok hi hx hy hQ
    have hx : x + 99 * (t.length + 1) ≤ 2000 := hx
    have hy : y + 99 * (t.length + 1) ≤ 2000 := hy
    obtain ⟨k3, k9, kg, ke⟩ := hok k (List.mem_cons_self ..)
    have hokt : ∀ k', k' ∈ t → ClOk k' := fun k' h' => hok k' (List.mem_cons_of_mem _ h')
    have hi : i + ((if k.1 < 2 then 0 else k.2.2.length + 1) + lenM t) = en := hi
    have hQ : ∀ tr' : AR, Q (nI (x + ((if k.1 = 2 ∧ evB w k.2.2 = true then k.2.1 else 0) + mnN 2 w t))) (nI (min (y + ((if k.1 = 3 ∧ evB w k.2.2 = true then k.2.1 else 0) + mnN 3 w t)) 100)) yb tr' := hQ
    show m_X12_looks_L88 s yb v5 v6 Q ((if k.1 < 2 then 0 else k.2.2.length + 1) + lenM t + 1) (nI x) (nI y) tr (nI 0) (nI i)
    by_cases c2 : k.1 < 2
    · have hat : FAtM s i t := by
        have : (if k.1 < 2 then FAtM s i t else AtL cM s i k.2.2 ∧ s (i + k.2.2.length) = (if k.1 = 2 then -10 - nI k.2.1 else -200 - nI k.2.1) ∧ FAtM s (i + k.2.2.length + 1) t) := hat
        rw [if_pos c2] at this
        exact this
      rw [if_pos c2] at hi ⊢
      rw [Nat.zero_add] at hi ⊢
      rw [if_neg (show ¬ (k.1 = 2 ∧ _) from fun q => by have := q.1; omega), if_neg (show ¬ (k.1 = 3 ∧ _) from fun q => by have := q.1; omega), Nat.zero_add, Nat.zero_add] at hQ
      exact ih i x y tr hat hokt hi (by omega) (by omega) hQ
    · have hat : AtL cM s i k.2.2 ∧ s (i + k.2.2.length) = (if k.1 = 2 then -10 - nI k.2.1 else -200 - nI k.2.1) ∧ FAtM s (i + k.2.2.length + 1) t := by
        have : (if k.1 < 2 then FAtM s i t else AtL cM s i k.2.2 ∧ s (i + k.2.2.length) = (if k.1 = 2 then -10 - nI k.2.1 else -200 - nI k.2.1) ∧ FAtM s (i + k.2.2.length + 1) t) := hat
        rw [if_neg c2] at this
        exact this
      obtain ⟨h1, h2, h3⟩ := hat
      rw [if_neg c2] at hi ⊢
      obtain ⟨g1, g2, g3⟩ := kg (by omega)
      obtain ⟨b, hb0⟩ := g3 w
      have eb : evB w k.2.2 = b := by unfold evB; rw [hb0]
      rw [eb] at hQ
      rw [show k.2.2.length + 1 + lenM t + 1 = (lenM t + 1 + 1) + k.2.2.length from by omega]
      refine q_lookS hE hen hb k.2.2 i [] [b] tr hb0 h1 g1 (by omega) trivial (by show 0 + nTs k.2.2 ≤ 60; omega) (fun tr' htr' => ?_)
      have ht0 : tr' 0 = nI b.toNat := htr'.1
      unfold m_X12_looks_L88
      rw [hE, nI_clamp (n := i + k.2.2.length) (by omega), h2, show (0 : Int32).toNatClampNeg = 0 from rfl, ht0]
      refine ⟨fun c => absurd ((nI_leI (by omega) (by omega)).mp c) (by omega), fun _ => ⟨vp_in_nI (by omega) (by decide), fun x12 e12 => ?_⟩⟩
      have go : ∀ x' y' : Nat, x' = x + (if k.1 = 2 ∧ b = true then k.2.1 else 0) → y' = y + (if k.1 = 3 ∧ b = true then k.2.1 else 0) → m_X12_looks_L401 s yb v5 v6 (nI x') (nI y') tr' 0 (nI (i + k.2.2.length)) (m_X12_looks_L88 s yb v5 v6 Q (lenM t + 1)) Q := by
        intro x' y' ex ey
        unfold m_X12_looks_L401
        intro x20 e20
        rw [nI_1] at e20
        subst e20
        refine ih (i + k.2.2.length + 1) x' y' tr' h3 hokt (by omega) (by rw [ex]; split <;> omega) (by rw [ey]; split <;> omega) (fun tr2 => ?_)
        rw [ex, ey, Nat.add_assoc, Nat.add_assoc]
        exact hQ tr2
      have p0 : ∀ z : Nat, nI z + (0 : Int32) = nI z := fun z => nI_add z 0
      by_cases ck : k.1 = 2
      · rw [if_pos ck] at e12
        obtain ⟨m1, m2, m3, m4, m5, m6⟩ := mark_s k.2.1 (by omega)
        have n3 : ¬ k.1 = 3 := by omega
        subst e12
        refine ⟨fun _ => ⟨fun c => absurd c m2, fun _ => ⟨fun _ x16 e16 x17 e17 => ?_, fun c => absurd m3 c⟩⟩, fun c => absurd m1 c⟩
        subst e16
        subst e17
        unfold m_X12_looks_L364 m_X12_looks_L365 m_X12_looks_L396 m_X12_looks_L397
        rw [m6, p0, p0, nI_add]
        cases b with
        | false =>
          have := go x y (by rw [if_neg (fun q => by cases q.2)]; rfl) (by rw [if_neg (fun q => by cases q.2)]; rfl)
          exact ⟨fun _ => ⟨fun _ => this, fun c => absurd rfl c⟩, fun c => absurd rfl c⟩
        | true =>
          have := go (x + k.2.1) y (by rw [if_pos ⟨ck, rfl⟩]) (by rw [if_neg (fun q => n3 q.1)]; rfl)
          exact ⟨fun c => absurd c (by decide), fun _ => ⟨fun c => absurd c m4, fun _ => ⟨fun c => absurd c (by decide), fun _ => ⟨fun _ => this, fun c => absurd m5 c⟩⟩⟩⟩
      · rw [if_neg ck] at e12
        obtain ⟨m1, m2, m3, m4, m5, m6⟩ := mark_r k.2.1 (by omega)
        have n3 : k.1 = 3 := by omega
        subst e12
        refine ⟨fun _ => ⟨fun c => absurd c m2, fun _ => ⟨fun _ x16 e16 x17 e17 => ?_, fun c => absurd m3 c⟩⟩, fun c => absurd m1 c⟩
        subst e16
        subst e17
        unfold m_X12_looks_L364 m_X12_looks_L365 m_X12_looks_L396 m_X12_looks_L397
        rw [m6, p0, p0, nI_add]
        cases b with
        | false =>
          have := go x y (by rw [if_neg (fun q => by cases q.2)]; rfl) (by rw [if_neg (fun q => by cases q.2)]; rfl)
          exact ⟨fun _ => ⟨fun _ => this, fun c => absurd rfl c⟩, fun c => absurd rfl c⟩
        | true =>
          have := go x (y + k.2.1) (by rw [if_neg (fun q => ck q.1)]; rfl) (by rw [if_pos ⟨n3, rfl⟩])
          exact ⟨fun c => absurd c (by decide), fun _ => ⟨fun _ => ⟨fun c => absurd c (by decide), fun _ => ⟨fun c => absurd c m5, fun _ => this⟩⟩, fun c => absurd m4 c⟩⟩
theorem fieldM_of {s : AR} {nf : Nat} {cls : List CLp} (h0 : 0 < nf) (h5 : nf ≤ 5) (h23 : s 23 = nI (nf - 1)) (hm : s (197 + nf) = nI (lenM cls)) (hl : lenM cls ≤ 140) (hc : cls.length ≤ 10) (hat : FAtM s (63 + 140 * nf) cls) (hok : ∀ k, k ∈ cls → ClOk k)
    (hloc : ∀ s' : AR, (∀ j, 63 + 140 * nf ≤ j → j < 203 + 140 * nf → s' j = s j) → FAtM s' (63 + 140 * nf) cls) : FieldM s nf (mnF 2 cls) (mnF 3 cls) := by
  intro s' hs' p o k h b fs fr yb tr Q hp ho hk hh hb9 h24 hQ
  have e23 : s' 23 = nI (nf - 1) := (hs' 23 (Or.inl rfl)).trans h23
  have e197 : s' (197 + nf) = nI (lenM cls) := (hs' _ (Or.inr ⟨h0, Or.inr (Or.inr (Or.inl rfl))⟩)).trans hm
  have e24 : ((24 : Int32) + nI p).toNatClampNeg = 24 + p := ixc rfl (by omega)
  have c23 : (23 : Int32).toNatClampNeg = 23 := rfl
  unfold m_X12_looks m_X12_tellsOf
  rw [e24, h24, c23, e23]
  have e198 : (198 : Int32) + nI (nf - 1) = nI (197 + nf) := by rw [show (198 : Int32) = nI 198 from rfl, nI_add]; congr 1; omega
  have e203 : (203 : Int32) + ((140 : Int32) * nI (nf - 1)) = nI (63 + 140 * nf) := by rw [show (203 : Int32) = nI 203 from rfl, show (140 : Int32) = nI 140 from rfl, pk_mul, nI_add]; congr 1; omega
  rw [e198, e203, nI_clamp (n := 197 + nf) (by omega), e197]
  intro y1 e1 y2 e2
  refine ⟨vpc (k := 24) rfl (by omega) (by decide), fun y3 e3 y4 e4 y5 e5 => ⟨fun c => absurd c (nI_nm1 (by omega)), fun _ => ⟨vp_in_nI (by omega) (by decide), fun x8 e8 x9 e9 => ⟨lenM cls + 1, ?_⟩⟩⟩⟩
  subst e8
  subst e9
  have hy : ∀ j, j < 5 → y5 j = nI (wN p o k h b j) ∧ wN p o k h b j ≤ 20 := by
    intro j hj
    have : j = 0 ∨ j = 1 ∨ j = 2 ∨ j = 3 ∨ j = 4 := by omega
    subst e5
    subst e4
    subst e3
    subst e2
    subst e1
    rcases this with rfl | rfl | rfl | rfl | rfl
    · exact ⟨rfl, by show p ≤ 20; omega⟩
    · exact ⟨rfl, by show o ≤ 20; omega⟩
    · exact ⟨rfl, by show k ≤ 20; omega⟩
    · exact ⟨rfl, by show h ≤ 20; omega⟩
    · exact ⟨rfl, by show b ≤ 20; omega⟩
  have hat' := hloc s' (fun j j1 j2 => hs' j (Or.inr ⟨h0, Or.inr (Or.inr (Or.inr ⟨j1, j2⟩))⟩))
  refine q_lookC (w := wN p o k h b) (en := 63 + 140 * nf + lenM cls) (nI_add _ _) (by omega) hy cls (63 + 140 * nf) 0 0 tr hat' hok rfl (by omega) (by omega) (fun tr' => ?_)
  rw [Nat.zero_add, Nat.zero_add]
  exact hQ y5 tr'
theorem fieldM_0 {s : AR} {sl ri : MeanT} (h23 : s 23 = -1) (hs : ∀ p o k h b, sl p o k h b = 0) (hr : ∀ p o k h b, ri p o k h b = 0) : FieldM s 0 sl ri := by
  intro s' hs' p o k h b fs fr yb tr Q hp ho hk hh hb9 h24 hQ
  have e23 : s' 23 = -1 := (hs' 23 (Or.inl rfl)).trans h23
  have e24 : ((24 : Int32) + nI p).toNatClampNeg = 24 + p := ixc rfl (by omega)
  have c23 : (23 : Int32).toNatClampNeg = 23 := rfl
  unfold m_X12_looks m_X12_tellsOf
  rw [e24, h24, c23, e23]
  intro y1 e1 y2 e2
  refine ⟨vpc (k := 24) rfl (by omega) (by decide), fun y3 e3 y4 e4 y5 e5 => ⟨fun _ x8 e8 x9 e9 => ⟨1, ?_⟩, fun c => absurd rfl c⟩⟩
  have e8 : x8 = nI 63 := e8.trans (by decide)
  subst e8
  unfold m_X12_looks_L88 m_X12_looks_L426
  have := hQ y5 tr
  rw [hs, hr] at this
  exact ⟨fun _ => ⟨fun _ => this, fun c => absurd (by decide) c⟩, fun c => absurd (by decide) c⟩
