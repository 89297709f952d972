/-! PURE: the class's way of holding what waits in bits -/
theorem nx_andN (a b : Nat) : nI a &&& nI b = nI (a &&& b) := by
  apply Int32.toBitVec_inj.mp
  show BitVec.ofNat 32 a &&& BitVec.ofNat 32 b = BitVec.ofNat 32 (a &&& b)
  exact BitVec.ofNat_and.symm
theorem nx_orN (a b : Nat) : nI a ||| nI b = nI (a ||| b) := by
  apply Int32.toBitVec_inj.mp
  show BitVec.ofNat 32 a ||| BitVec.ofNat 32 b = BitVec.ofNat 32 (a ||| b)
  exact BitVec.ofNat_or.symm
theorem nx_xorN (a b : Nat) : nI a ^^^ nI b = nI (a ^^^ b) := by
  apply Int32.toBitVec_inj.mp
  show BitVec.ofNat 32 a ^^^ BitVec.ofNat 32 b = BitVec.ofNat 32 (a ^^^ b)
  exact BitVec.ofNat_xor.symm
theorem tb_0 (s : Nat) (b : Bool) : (2 * s + b.toNat).testBit 0 = b := by
  rw [Nat.testBit_zero]
  cases b
  · show decide ((2 * s + 0) % 2 = 1) = false
    rw [decide_eq_false_iff_not]; omega
  · show decide ((2 * s + 1) % 2 = 1) = true
    rw [decide_eq_true_eq]; omega
theorem tb_S (s i : Nat) (b : Bool) : (2 * s + b.toNat).testBit (i + 1) = s.testBit i := by
  rw [Nat.testBit_succ]
  congr 1
  cases b
  · show (2 * s + 0) / 2 = s; omega
  · show (2 * s + 1) / 2 = s; omega
theorem tb_b (b : Bool) (i : Nat) : b.toNat.testBit (i + 1) = false := by
  have := tb_S 0 i b
  rw [Nat.mul_zero, Nat.zero_add] at this
  rw [this, Nat.zero_testBit]
theorem tb_b0 (b : Bool) : b.toNat.testBit 0 = b := by
  have := tb_0 0 b
  rw [Nat.mul_zero, Nat.zero_add] at this
  exact this
theorem n_not (s : Nat) (b : Bool) : (2 * s + b.toNat) ^^^ 1 = 2 * s + (!b).toNat := by
  apply Nat.eq_of_testBit_eq
  intro i
  have e1 : (1 : Nat) = true.toNat := rfl
  rw [Nat.testBit_xor, e1]
  cases i with
  | zero => rw [tb_0, tb_b0, tb_0]; cases b <;> rfl
  | succ i => rw [tb_S, tb_b, tb_S]; cases s.testBit i <;> rfl
theorem n_or (s : Nat) (a b : Bool) : (2 * s + a.toNat) ||| b.toNat = 2 * s + (a || b).toNat := by
  apply Nat.eq_of_testBit_eq
  intro i
  rw [Nat.testBit_or]
  cases i with
  | zero => rw [tb_0, tb_b0, tb_0]
  | succ i => rw [tb_S, tb_b, tb_S]; cases s.testBit i <;> rfl
theorem n_and (s : Nat) (a b : Bool) (hs : s < 2 ^ 29) : (2 * s + a.toNat) &&& ((2 * (2 * s + a.toNat) + b.toNat) ||| 4294967294) = 2 * s + (a && b).toNat := by
  apply Nat.eq_of_testBit_eq
  intro i
  have eM : ∀ j, (4294967294 : Nat).testBit j = (decide (j < 32) && !(1 : Nat).testBit j) := fun j => Nat.testBit_two_pow_sub_succ (x := 1) (n := 32) (by decide) j
  rw [Nat.testBit_and, Nat.testBit_or, eM]
  cases i with
  | zero => rw [tb_0, tb_0, tb_0]; cases a <;> cases b <;> rfl
  | succ i =>
    have e1 : (1 : Nat).testBit (i + 1) = false := tb_b true i
    rw [tb_S, tb_S, e1, tb_S]
    by_cases c : i + 1 < 32
    · rw [decide_eq_true c]
      cases s.testBit i <;> cases (2 * s + a.toNat).testBit i <;> rfl
    · have : s.testBit i = false := Nat.testBit_lt_two_pow (Nat.lt_of_lt_of_le hs (Nat.pow_le_pow_right (by omega) (by omega)))
      rw [this]
      rfl
/-! steps: tag (0 a test, 1 not, 2 and, 3 or), what of, how, the number -/
abbrev STp : Type := Nat × Nat × Nat × Nat
def cC (e : STp) : Int32 := if e.1 = 0 then nI (e.2.1 * 300 + e.2.2.1 * 100 + e.2.2.2) else if e.1 = 1 then -1 else if e.1 = 2 then -2 else -3
def cM (e : STp) : Int32 := if e.1 = 0 then nI (e.2.1 + 8 * e.2.2.1 + 32 * e.2.2.2) else if e.1 = 1 then -1 else if e.1 = 2 then -2 else -3
def STok (e : STp) : Prop := e.1 ≤ 3 ∧ e.2.1 < 5 ∧ e.2.2.1 < 3 ∧ e.2.2.2 < 100
def tstN (w : Nat → Nat) (e : STp) : Bool := if e.2.2.1 = 0 then decide (w e.2.1 < e.2.2.2) else if e.2.2.1 = 1 then decide (w e.2.1 = e.2.2.2) else decide (e.2.2.2 < w e.2.1)
def evS (w : Nat → Nat) : List STp → List Bool → Option (List Bool)
  | [], st => some st
  | e :: l, st => if e.1 = 0 then evS w l (tstN w e :: st) else match st with
    | b :: s => if e.1 = 1 then evS w l ((!b) :: s) else match s with
      | a :: s => if e.1 = 2 then evS w l ((a && b) :: s) else evS w l ((a || b) :: s)
      | [] => none
    | [] => none
def nTs : List STp → Nat
  | [] => 0
  | e :: l => (if e.1 = 0 then 1 else 0) + nTs l
def enc : List Bool → Nat
  | [] => 0
  | b :: s => 2 * enc s + b.toNat
theorem enc_lt : ∀ st : List Bool, enc st < 2 ^ st.length := by
  intro st
  induction st with
  | nil => show 0 < 1; omega
  | cons b s ih =>
    show 2 * enc s + b.toNat < 2 ^ (s.length + 1)
    rw [Nat.pow_succ]
    have : b.toNat ≤ 1 := Bool.toNat_le b
    omega
theorem enc_30 {st : List Bool} (h : st.length ≤ 29) : enc st < 2 ^ 29 := Nat.lt_of_lt_of_le (enc_lt st) (Nat.pow_le_pow_right (by omega) h)
theorem q_isSo {w : Nat → Nat} {seen : AR} {e : STp} {Q : Int32 → Prop} (he : STok e) (h0 : e.1 = 0) (hs : ∀ j, j < 5 → seen j = nI (w j) ∧ w j ≤ 20) (hQ : Q (if tstN w e then 1 else 0)) : m_X1_isSo 5 seen (cC e) Q := by
  obtain ⟨-, h1, h2, h3⟩ := he
  unfold cC
  rw [if_pos h0]
  unfold m_X1_isSo
  have hlt : e.2.1 * 300 + e.2.2.1 * 100 + e.2.2.2 < 2 ^ 31 := by omega
  intro x e1
  have ex : x = nI e.2.1 := by
    rw [e1, show (300 : Int32) = nI 300 from rfl, pk_div hlt (by decide) (by decide)]
    congr 1
    omega
  subst ex
  have hsj := hs e.2.1 h1
  rw [nI_clamp (by omega), hsj.1]
  refine ⟨fun c => absurd c (nI_pos (by omega)), fun _ => ⟨fun _ x4 e4 x5 e5 => ?_, fun c => absurd ((nI_ltI (by omega) (by omega)).mpr h1) c⟩⟩
  have e4 : x4 = nI e.2.2.2 := by
    rw [e4, show (100 : Int32) = nI 100 from rfl, pk_rem hlt (by decide) (by decide)]
    congr 1
    omega
  have e5 : x5 = nI e.2.2.1 := by
    rw [e5, show (100 : Int32) = nI 100 from rfl, show (300 : Int32) = nI 300 from rfl, pk_rem hlt (by decide) (by decide), pk_div (by omega) (by decide) (by decide)]
    congr 1
    omega
  subst e4
  subst e5
  have v : vp_in (nI e.2.1) 5 := vp_in_nI h1 (by decide)
  rw [show nI e.2.2.1 = 0 ↔ e.2.2.1 = 0 from nI_eq (a := e.2.2.1) (b := 0) (by omega) (by omega), show nI e.2.2.1 = 1 ↔ e.2.2.1 = 1 from nI_eq (a := e.2.2.1) (b := 1) (by omega) (by omega), nI_leI (by omega) (by omega), nI_leI (by omega) (by omega), nI_eq (by omega) (by omega)]
  unfold tstN at hQ
  refine ⟨fun c => ⟨v, fun d => ?_, fun d => ?_⟩, fun c => ⟨v, fun d => ?_, fun d => ?_⟩, fun c c2 => ⟨v, fun d => ?_, fun d => ?_⟩⟩
  · rw [if_pos c, decide_eq_false (by omega)] at hQ; exact hQ
  · rw [if_pos c, decide_eq_true (by omega)] at hQ; exact hQ
  · rw [if_neg (show ¬ e.2.2.1 = 0 by omega), if_pos c, decide_eq_true d] at hQ; exact hQ
  · rw [if_neg (show ¬ e.2.2.1 = 0 by omega), if_pos c, decide_eq_false d] at hQ; exact hQ
  · rw [if_neg c, if_neg c2, decide_eq_false (by omega)] at hQ; exact hQ
  · rw [if_neg c, if_neg c2, decide_eq_true (by omega)] at hQ; exact hQ
theorem evS_0 {w : Nat → Nat} {e : STp} {l : List STp} {st : List Bool} (h : e.1 = 0) : evS w (e :: l) st = evS w l (tstN w e :: st) := if_pos h
theorem evS_n {w : Nat → Nat} {e : STp} {l : List STp} (h : ¬ e.1 = 0) : evS w (e :: l) [] = none := if_neg h
theorem evS_1 {w : Nat → Nat} {e : STp} {l : List STp} {b : Bool} {s : List Bool} (h : e.1 = 1) : evS w (e :: l) (b :: s) = evS w l ((!b) :: s) := by
  show (if e.1 = 0 then _ else if e.1 = 1 then evS w l ((!b) :: s) else _) = _
  rw [if_neg (by omega), if_pos h]
theorem evS_n2 {w : Nat → Nat} {e : STp} {l : List STp} {b : Bool} (h : ¬ e.1 = 0) (h1 : ¬ e.1 = 1) : evS w (e :: l) [b] = none := by
  show (if e.1 = 0 then _ else if e.1 = 1 then _ else none) = _
  rw [if_neg h, if_neg h1]
theorem evS_2 {w : Nat → Nat} {e : STp} {l : List STp} {b a : Bool} {s : List Bool} (h : e.1 = 2) : evS w (e :: l) (b :: a :: s) = evS w l ((a && b) :: s) := by
  show (if e.1 = 0 then _ else if e.1 = 1 then _ else if e.1 = 2 then evS w l ((a && b) :: s) else _) = _
  rw [if_neg (by omega), if_neg (by omega), if_pos h]
theorem evS_3 {w : Nat → Nat} {e : STp} {l : List STp} {b a : Bool} {s : List Bool} (h0 : ¬ e.1 = 0) (h1 : ¬ e.1 = 1) (h : ¬ e.1 = 2) : evS w (e :: l) (b :: a :: s) = evS w l ((a || b) :: s) := by
  show (if e.1 = 0 then _ else if e.1 = 1 then _ else if e.1 = 2 then _ else evS w l ((a || b) :: s)) = _
  rw [if_neg h0, if_neg h1, if_neg h]
def AtL (c : STp → Int32) (f : AR) : Nat → List STp → Prop
  | _, [] => True
  | i, e :: l => f i = c e ∧ AtL c f (i + 1) l
theorem cC_1 {e : STp} (h : e.1 = 1) : cC e = -1 := by unfold cC; rw [if_neg (by omega), if_pos h]
theorem cC_2 {e : STp} (h : e.1 = 2) : cC e = -2 := by unfold cC; rw [if_neg (by omega), if_neg (by omega), if_pos h]
theorem cC_3 {e : STp} (h0 : ¬ e.1 = 0) (h1 : ¬ e.1 = 1) (h : ¬ e.1 = 2) : cC e = -3 := by unfold cC; rw [if_neg h0, if_neg h1, if_neg h]
theorem cC_0 {e : STp} (he : STok e) (h0 : e.1 = 0) : ¬ cC e = -1 ∧ ¬ cC e = -2 ∧ ¬ cC e = -3 := by
  obtain ⟨-, h1, h2, h3⟩ := he
  unfold cC
  rw [if_pos h0]
  have hlt : e.2.1 * 300 + e.2.2.1 * 100 + e.2.2.2 < 2 ^ 31 := by omega
  have key : ∀ m : Int32, m.toInt < 0 → ¬ nI (e.2.1 * 300 + e.2.2.1 * 100 + e.2.2.2) = m := fun m hm c => by
    have := congrArg Int32.toInt c
    rw [nI_toInt hlt] at this
    omega
  exact ⟨key _ (by decide), key _ (by decide), key _ (by decide)⟩
theorem q_hold6 {w : Nat → Nat} {seen fst fwo fnu fsa fen : AR} {fcl : Int32} {fk : FKT} {h en : Nat} {b0 : Bool} {s0 : List Bool} {Q : Int32 → Prop} (hs : ∀ j, j < 5 → seen j = nI (w j) ∧ w j ≤ 20) (hen : en ≤ 100) (hQ : Q (if b0 then 1 else 0)) :
    ∀ (l : List STp) (i : Nat) (st : List Bool), i + l.length = en → AtL cC fst i l → (∀ e, e ∈ l → STok e) → evS w l st = some (b0 :: s0) → st.length + nTs l ≤ 29 →
      m_X1_holds_L6 5 fk seen fst fwo fnu fsa fen fcl h (nI en) Q (l.length + 1) (nI (enc st)) (nI i) := by
  intro l
  induction l with
  | nil =>
    intro i st hi ha hok hev hlen
    have hev : st = b0 :: s0 := Option.some.inj hev
    have hi : i + 0 = en := hi
    have hl0 : st.length ≤ 29 := by have : st.length + 0 ≤ 29 := hlen; omega
    have hlt := enc_30 hl0
    unfold m_X1_holds_L6
    rw [pk_andN (n := enc st) (by omega) (m := 1) 1 (by decide)]
    have e2 : enc st % 2 ^ 1 = b0.toNat := by
      rw [hev]
      show (2 * enc s0 + b0.toNat) % 2 ^ 1 = b0.toNat
      have : b0.toNat ≤ 1 := Bool.toNat_le b0
      omega
    rw [e2]
    refine ⟨fun _ => ?_, fun c => absurd ((nI_leI (by omega) (by omega)).mpr (by omega)) c⟩
    cases b0
    · exact ⟨fun c => absurd c (by decide), fun _ => hQ⟩
    · exact ⟨fun _ => hQ, fun c => absurd rfl c⟩
  | cons e l ih =>
    intro i st hi ha hok hev hlen
    have hi : i + (l.length + 1) = en := hi
    obtain ⟨ha1, ha2⟩ := ha
    have hoke := hok e (List.mem_cons_self ..)
    have hokl : ∀ e', e' ∈ l → STok e' := fun e' h' => hok e' (List.mem_cons_of_mem _ h')
    have hlen : st.length + ((if e.1 = 0 then 1 else 0) + nTs l) ≤ 29 := hlen
    have hst : st.length ≤ 29 := by omega
    have hlt := enc_30 hst
    unfold m_X1_holds_L6
    rw [nI_clamp (by omega), ha1]
    refine ⟨fun c => absurd ((nI_leI (by omega) (by omega)).mp c) (by omega), fun _ => ⟨vp_in_nI (by omega) (by decide), fun x4 e4 => ?_⟩⟩
    subst e4
    have step : ∀ st2 : List Bool, evS w l st2 = some (b0 :: s0) → st2.length + nTs l ≤ 29 → m_X1_holds_L100 5 fk seen fst fwo fnu fsa fen fcl h (nI en) (nI (enc st2)) (nI i) (m_X1_holds_L6 5 fk seen fst fwo fnu fsa fen fcl h (nI en) Q (l.length + 1)) Q := by
      intro st2 h1 h2
      unfold m_X1_holds_L100
      intro x ex
      rw [nI_1] at ex
      subst ex
      exact ih (i + 1) st2 (by omega) ha2 hokl h1 h2
    by_cases t0 : e.1 = 0
    · obtain ⟨n1, n2, n3⟩ := cC_0 hoke t0
      rw [if_pos t0] at hlen
      rw [evS_0 t0] at hev
      refine ⟨fun c => absurd c n1, fun _ => ⟨fun c => absurd c n2, fun _ => ⟨fun c => absurd c n3, fun _ => q_isSo hoke t0 hs ?_⟩⟩⟩
      have esh : nI (enc st) <<< ((1 : Int32) &&& 31) = nI (2 * enc st + false.toNat) := by
        rw [pk_shlN ((1 : Int32) &&& 31) 1 (by decide) (by omega)]
        congr 1
        show enc st * 2 ^ 1 = 2 * enc st + 0
        omega
      rw [esh]
      have hb : ∀ b : Bool, m_X1_holds_L97 5 fk seen fst fwo fnu fsa fen fcl h (nI en) (nI i) (nI (2 * enc st + false.toNat)) (nI b.toNat) (m_X1_holds_L6 5 fk seen fst fwo fnu fsa fen fcl h (nI en) Q (l.length + 1)) Q ↔ m_X1_holds_L100 5 fk seen fst fwo fnu fsa fen fcl h (nI en) (nI (enc (b :: st))) (nI i) (m_X1_holds_L6 5 fk seen fst fwo fnu fsa fen fcl h (nI en) Q (l.length + 1)) Q := by
        intro b
        unfold m_X1_holds_L97
        rw [nx_orN, n_or, Bool.false_or]
        exact ⟨fun g => g _ rfl, fun g x ex => by subst ex; exact g⟩
      cases ht : tstN w e with
      | false =>
        rw [ht] at hev
        exact ⟨fun _ => (hb false).mpr (step (false :: st) hev (by show st.length + 1 + nTs l ≤ 29; omega)), fun c => absurd rfl c⟩
      | true =>
        rw [ht] at hev
        exact ⟨fun c => absurd c (by decide), fun _ => (hb true).mpr (step (true :: st) hev (by show st.length + 1 + nTs l ≤ 29; omega))⟩
    · rw [if_neg t0] at hlen
      cases st with
      | nil => rw [evS_n t0] at hev; cases hev
      | cons b s =>
        have hlen : s.length + 1 + (0 + nTs l) ≤ 29 := hlen
        by_cases t1 : e.1 = 1
        · rw [cC_1 t1]
          rw [evS_1 t1] at hev
          refine ⟨fun _ x15 e15 => ?_, fun c => absurd rfl c⟩
          have e15 : x15 = nI (enc ((!b) :: s)) := by
            rw [e15, show (1 : Int32) = nI 1 from rfl, nx_xorN]
            congr 1
            exact n_not (enc s) b
          subst e15
          exact step _ hev (by show s.length + 1 + nTs l ≤ 29; omega)
        · cases s with
          | nil => rw [evS_n2 t0 t1] at hev; cases hev
          | cons a s =>
            have hlen : s.length + 1 + 1 + (0 + nTs l) ≤ 29 := hlen
            have hls := enc_30 (st := s) (by omega)
            have hbn : b.toNat ≤ 1 := Bool.toNat_le b
            have han : a.toNat ≤ 1 := Bool.toNat_le a
            have hlt : 2 * (2 * enc s + a.toNat) + b.toNat < 2 ^ 29 := hlt
            have esh : nI (enc (b :: a :: s)) >>> ((1 : Int32) &&& 31) = nI (2 * enc s + a.toNat) := by
              rw [pk_shrN (by show 2 * (2 * enc s + a.toNat) + b.toNat < 2 ^ 31; omega) ((1 : Int32) &&& 31) 1 (by decide)]
              congr 1
              show (2 * (2 * enc s + a.toNat) + b.toNat) / 2 ^ 1 = 2 * enc s + a.toNat
              omega
            by_cases t2 : e.1 = 2
            · rw [cC_2 t2]
              rw [evS_2 t2] at hev
              refine ⟨fun c => absurd c (by decide), fun _ => ⟨fun _ x14 e14 => ?_, fun c => absurd rfl c⟩⟩
              have e14 : x14 = nI (enc ((a && b) :: s)) := by
                rw [e14, esh, show (-2 : Int32) = nI 4294967294 from by decide, nx_orN, nx_andN]
                congr 1
                exact n_and (enc s) a b hls
              subst e14
              exact step _ hev (by show s.length + 1 + nTs l ≤ 29; omega)
            · rw [cC_3 t0 t1 t2]
              rw [evS_3 t0 t1 t2] at hev
              refine ⟨fun c => absurd c (by decide), fun _ => ⟨fun c => absurd c (by decide), fun _ => ⟨fun _ x13 e13 => ?_, fun c => absurd rfl c⟩⟩⟩
              have e13 : x13 = nI (enc ((a || b) :: s)) := by
                rw [e13, esh, pk_andN (n := enc (b :: a :: s)) (by show 2 * (2 * enc s + a.toNat) + b.toNat < 2 ^ 32; omega) (m := 1) 1 (by decide), nx_orN]
                congr 1
                have : enc (b :: a :: s) % 2 ^ 1 = b.toNat := by
                  show (2 * (2 * enc s + a.toNat) + b.toNat) % 2 ^ 1 = b.toNat
                  omega
                rw [this]
                exact n_or (enc s) a b
              subst e13
              exact step _ hev (by show s.length + 1 + nTs l ≤ 29; omega)
/-! clauses: word (0 gap, 1 yards, 2 slow, 3 risk), the number, the steps -/
abbrev CLp : Type := Nat × Nat × List STp
def GoodE (l : List STp) : Prop := (∀ e, e ∈ l → STok e) ∧ nTs l ≤ 25 ∧ ∀ w : Nat → Nat, ∃ b, evS w l [] = some [b]
def ClOk (k : CLp) : Prop := k.1 ≤ 3 ∧ k.2.1 ≤ 99 ∧ (2 ≤ k.1 → GoodE k.2.2) ∧ (k.1 < 2 → k.2.2 = [])
def evB (w : Nat → Nat) (l : List STp) : Bool := match evS w l [] with | some (b :: _) => b | _ => false
def mnN (wd : Nat) (w : Nat → Nat) : List CLp → Nat
  | [] => 0
  | k :: t => (if k.1 = wd ∧ evB w k.2.2 = true then k.2.1 else 0) + mnN wd w t
def FAtC (st wo nu sa en : AR) : Nat → List CLp → Prop
  | _, [] => True
  | c, k :: t => (wo c = nI k.1 ∧ nu c = nI k.2.1 ∧ ∃ s, sa c = nI s ∧ en c = nI (s + k.2.2.length) ∧ s + k.2.2.length ≤ 100 ∧ AtL cC st s k.2.2) ∧ FAtC st wo nu sa en (c + 1) t
theorem q_sumL {w : Nat → Nat} {seen fst fwo fnu fsa fen : AR} {fk : FKT} {h n wd : Nat} {Q : Int32 → Prop} (hs : ∀ j, j < 5 → seen j = nI (w j) ∧ w j ≤ 20) (hn : n ≤ 10) (hwd : wd = 2 ∨ wd = 3) (hfk : fk h = some (fst, fwo, fnu, fsa, fen, nI n)) :
    ∀ (t : List CLp) (c x : Nat), c + t.length = n → FAtC fst fwo fnu fsa fen c t → (∀ k, k ∈ t → ClOk k) → x + 99 * t.length ≤ 1000 → Q (nI (x + mnN wd w t)) →
      m_X1_sum_L5 5 fk seen fst fwo fnu fsa fen (nI n) h (nI wd) Q (t.length + 1) (nI x) (nI c) := by
  intro t
  induction t with
  | nil =>
    intro c x hc _ _ hx hQ
    have hc : c + 0 = n := hc
    unfold m_X1_sum_L5
    exact ⟨fun _ => hQ, fun z => absurd ((nI_leI (by omega) (by omega)).mpr (by omega)) z⟩
  | cons k t ih =>
    intro c x hc hat hok hx hQ
    have hc : c + (t.length + 1) = n := hc
    have hx : x + 99 * (t.length + 1) ≤ 1000 := hx
    obtain ⟨⟨hw, hnu, s, hsa, hen, hs9, hl⟩, hat2⟩ := hat
    obtain ⟨k3, k9, kg, ke⟩ := hok k (List.mem_cons_self ..)
    have hokt : ∀ k', k' ∈ t → ClOk k' := fun k' h' => hok k' (List.mem_cons_of_mem _ h')
    have hQ : Q (nI (x + ((if k.1 = wd ∧ evB w k.2.2 = true then k.2.1 else 0) + mnN wd w t))) := hQ
    have v : vp_in (nI c) 10 := vp_in_nI (by omega) (by decide)
    unfold m_X1_sum_L5
    rw [nI_clamp (by omega), hw, hnu, hsa, hen, nI_eq (a := k.1) (b := wd) (by omega) (by omega)]
    have step : ∀ y, y = x + (if k.1 = wd ∧ evB w k.2.2 = true then k.2.1 else 0) → m_X1_sum_L57 5 fk seen fst fwo fnu fsa fen (nI n) h (nI wd) (nI y) (nI c) (m_X1_sum_L5 5 fk seen fst fwo fnu fsa fen (nI n) h (nI wd) Q (t.length + 1)) Q := by
      intro y ey
      unfold m_X1_sum_L57
      intro x5 e5
      rw [nI_1] at e5
      subst e5
      refine ih (c + 1) y (by omega) hat2 hokt ?_ ?_
      · rw [ey]; split <;> omega
      · rw [ey, Nat.add_assoc]; exact hQ
    refine ⟨fun z => absurd ((nI_leI (by omega) (by omega)).mp z) (by omega), fun _ => ⟨v, fun z => ⟨v, v, ?_⟩, fun z => step x (by rw [if_neg (fun q => z q.1)]; rfl)⟩⟩
    obtain ⟨g1, g2, g3⟩ := kg (by omega)
    obtain ⟨b, hb⟩ := g3 w
    have eb : evB w k.2.2 = b := by unfold evB; rw [hb]
    refine ⟨fst, fwo, fnu, fsa, fen, nI n, hfk, fun x1 e1 => ⟨k.2.2.length + 1, ?_⟩⟩
    subst e1
    refine q_hold6 hs hs9 (b0 := b) (s0 := []) ?_ k.2.2 s [] rfl hl g1 hb (by show 0 + nTs k.2.2 ≤ 29; omega)
    cases b with
    | false => exact ⟨fun _ => step x (by rw [eb, if_neg (fun q => by cases q.2)]; rfl), fun c => absurd rfl c⟩
    | true =>
      refine ⟨fun c => absurd c (by decide), fun _ => ⟨v, fun x9 e9 => ?_⟩⟩
      rw [nI_add] at e9
      subst e9
      exact step (x + k.2.1) (by rw [eb, if_pos ⟨z, rfl⟩])
def wN (p o k h b : Nat) : Nat → Nat := fun j => if j = 0 then p else if j = 1 then o else if j = 2 then k else if j = 3 then h else b
def mnF (wd : Nat) (cls : List CLp) : MeanT := fun p o k h b => mnN wd (wN p o k h b) cls
theorem mn_le {wd : Nat} {w : Nat → Nat} : ∀ cls : List CLp, (∀ k, k ∈ cls → ClOk k) → mnN wd w cls ≤ 99 * cls.length := by
  intro cls
  induction cls with
  | nil => intro _; exact Nat.le_refl _
  | cons k t ih =>
    intro h
    have h1 := ih (fun k' h' => h k' (List.mem_cons_of_mem _ h'))
    have h2 := (h k (List.mem_cons_self ..)).2.1
    show (if k.1 = wd ∧ evB w k.2.2 = true then k.2.1 else 0) + mnN wd w t ≤ 99 * (t.length + 1)
    split <;> omega
theorem sumC_of {fk : FKT} {a wd n : Nat} {st wo nu sa en : AR} {cls : List CLp} (hfk : fk a = some (st, wo, nu, sa, en, nI n)) (hn : n ≤ 10) (hl : cls.length = n) (hwd : wd = 2 ∨ wd = 3) (hat : FAtC st wo nu sa en 0 cls) (hok : ∀ k, k ∈ cls → ClOk k) : SumC fk a (nI wd) (mnF wd cls) := by
  intro fk' hfk' seen p o k h b Q hp ho hk hh hb s0 s1 s2 s3 s4 hQ
  refine ⟨st, wo, nu, sa, en, nI n, hfk'.trans hfk, fun x1 e1 x2 e2 => ⟨cls.length + 1, ?_⟩⟩
  subst e1
  subst e2
  refine q_sumL (w := wN p o k h b) (fun j hj => ?_) hn hwd (hfk'.trans hfk) cls 0 0 (by omega) hat hok (by omega) (by rw [Nat.zero_add]; exact hQ)
  have : j = 0 ∨ j = 1 ∨ j = 2 ∨ j = 3 ∨ j = 4 := by omega
  rcases this with rfl | rfl | rfl | rfl | rfl
  · exact ⟨s0, by show p ≤ 20; omega⟩
  · exact ⟨s1, by show o ≤ 20; omega⟩
  · exact ⟨s2, by show k ≤ 20; omega⟩
  · exact ⟨s3, by show h ≤ 20; omega⟩
  · exact ⟨s4, by show b ≤ 20; omega⟩
