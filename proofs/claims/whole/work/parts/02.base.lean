/-! MY BASE: a contract's start and end over a world wc, beside a world im that is only read; the rows of a call -/
abbrev tyG (cI cZ cL : ClassId) : List (ClassId × FieldType) := [(cI, .int), (cZ, .boolean), (cL, .object RX4)]
/-- words on private members of nest mates, and on what may be cast: facts of the state, beside the one list of words -/
def nestW : List Cond := [.fieldLinkNest "OverBacks" 111 "OverBacks$Line" "breath" "[I" "OverBacks",
  .fieldLinkNest "OverBacks" 125 "OverBacks$Line" "rows" "[I" "OverBacks",
  .fieldLinkNest "OverBacks" 86 "OverBacks$Line" "size" "I" "OverBacks",
  .fieldLinkNest "OverBacks" 128 "OverBacks$Line" "turn" "I" "OverBacks",
  .fieldLinkNest "OverBacks" 131 "OverBacks$Line" "yards" "I" "OverBacks",
  .fieldLinkNest "OverBacks" 134 "OverBacks$Line" "time" "I" "OverBacks",
  .fieldLinkNest "OverBacks" 137 "OverBacks$Line" "gap" "I" "OverBacks",
  .fieldLinkNest "OverBacks" 140 "OverBacks$Line" "far" "I" "OverBacks",
  .fieldLinkNest "OverBacks" 279 "OverBacks$Line" "flat" "I" "OverBacks",
  .fieldLinkNest "OverBacks$Field" 45 "OverBacks$Numbers" "size" "I" "OverBacks",
  .fieldLinkNest "OverBacks" 51 "OverBacks$Numbers" "size" "I" "OverBacks",
  .fieldLinkNest "OverBacks" 238 "OverBacks$Numbers" "came" "I" "OverBacks",
  .fieldLinkNest "OverBacks" 73 "OverBacks$State" "line" "LOverBacks$Line;" "OverBacks",
  .fieldLinkNest "OverBacks" 44 "OverBacks$State" "tape" "LOverBacks$Numbers;" "OverBacks",
  .fieldLinkNest "OverBacks" 188 "OverBacks$State" "taken" "LOverBacks$Numbers;" "OverBacks",
  .fieldLinkNest "OverBacks" 205 "OverBacks$State" "bookTurns" "LOverBacks$Numbers;" "OverBacks",
  .fieldLinkNest "OverBacks" 208 "OverBacks$State" "bookTimes" "LOverBacks$Numbers;" "OverBacks",
  .fieldLinkNest "OverBacks" 55 "OverBacks$State" "fields" "I" "OverBacks",
  .fieldLinkNest "OverBacks" 70 "OverBacks$Field" "place" "I" "OverBacks",
  .fieldLinkNest "OverBacks$Line" 61 "OverBacks$Field" "gap" "I" "OverBacks",
  .fieldLinkNest "OverBacks$Line" 62 "OverBacks$Field" "far" "I" "OverBacks",
  .castable "OverBacks$Low" "OverBacks$Leaper",
  .castable "OverBacks$High" "OverBacks$Leaper",
  .castable "OverBacks$Afraid" "OverBacks$Leaper",
  .castable "OverBacks$Quick" "OverBacks$Leaper",
  .castable "OverBacks$Heavy" "OverBacks$Leaper",
  .castable "OverBacks$Told" "OverBacks$Leaper",
  .methodLinkNest "OverBacks$Line" 67 yX11_exchangeAt "OverBacks"]
def isNw : Cond → Bool
  | .fieldLinkNest _ _ _ _ _ _ => true
  | .methodLinkNest _ _ _ _ => true
  | .castable _ _ => true
  | _ => false
theorem nestW_ok : nestW.all isNw = true := by decide +kernel
theorem nw_warm {w : Cond} (h : isNw w = true) {s U : State} (hW : s.WarmedH U.vm) (hZ : va_Nw w s) : va_Nw w U := by
  cases w <;> first | exact absurd h (by decide) | exact va_Nw.warmF hW hZ | exact va_Nw.warmM hW hZ | exact va_Nw.warmC hW hZ | (simp [isNw] at h)
theorem nw_same {w : Cond} (h : isNw w = true) {u U : State} (hv : u.vm = U.vm) (hZ : va_Nw w u) : va_Nw w U := by
  cases w <;> first | exact va_Nw.same rfl hv hZ | (simp [isNw] at h)
def obW (U : State) : Prop := (∀ w ∈ nestW, va_Nw w U) ∧ va_AO RX4 U
theorem obW.warm {s U : State} (hW : s.WarmedH U.vm) (h : obW s) : obW U := ⟨fun w hw => nw_warm (List.all_eq_true.mp nestW_ok w hw) hW (h.1 w hw), h.2.moved hW.alike⟩
theorem obW.same {u U : State} (hv : u.vm = U.vm) (h : obW u) : obW U := ⟨fun w hw => nw_same (List.all_eq_true.mp nestW_ok w hw) hv (h.1 w hw), h.2.moved (by rw [hv]; exact Vm.Alike.refl _)⟩
/-- the ten texts: their lengths, their bytes -/
def lenS : List Nat := [3, 5, 4, 4, 4, 6, 5, 5, 5, 3]
def bytS : List (List Int32) := [[103, 97, 112], [121, 97, 114, 100, 115], [115, 108, 111, 119], [114, 105, 115, 107], [103, 97, 112, 32], [121, 97, 114, 100, 115, 32], [115, 108, 111, 119, 32], [114, 105, 115, 107, 32], [112, 111, 107, 104, 98], [60, 61, 62]]
def sLen (i : Nat) : Nat := lenS.getD i 0
def sCh (i k : Nat) : Int32 := (bytS.getD i []).getD k 0 &&& 255
def sLk : List (String × Nat × String) := [("OverBacks$Field", 74, "gap"), ("OverBacks$Field", 79, "yards"), ("OverBacks$Field", 81, "slow"), ("OverBacks$Field", 83, "risk"), ("OverBacksModel", 117, "gap "), ("OverBacksModel", 123, "yards "), ("OverBacksModel", 125, "slow "), ("OverBacksModel", 130, "risk "), ("OverBacksModel", 99, "pokhb"), ("OverBacksModel", 105, "<=>")]
/-- what is only read: cells, and where the texts lie (the object, its bytes) -/
abbrev obIM : Type := va_W × (Nat → Nat) × (Nat → Nat)
def obT (im : obIM) (A : Nat → Prop) (U : State) (H : Heap) : Prop := vk_S 10 lenS bytS im.2.1 im.2.2 A U H ∧ (∀ (i : Nat) (q : String × Nat × String), sLk[i]? = some q → vk_R q.1 q.2.1 q.2.2 (im.2.1 i) U) ∧ va_Z "java/lang/String" "COMPACT_STRINGS" "Z" (.int 1) A U H ∧ va_Zq "jdk/internal/util/Preconditions" "SIOOBE_FORMATTER" "Ljava/util/function/BiFunction;" A U H
/-- what is only read: im holds in H, and none of it lies in A -/
def obI (D : va_G) (im : obIM) (A : Nat → Prop) (U : State) (H : Heap) : Prop := va_P D vwCl im.1 H ∧ (∀ (k : Nat) (q : Nat × va_E), im.1[k]? = some q → ¬ A q.1) ∧ obT im A U H
def obPre (D : va_G) (tys : List (ClassId × FieldType)) (im : obIM) (wc : va_W) (sz : Nat) (as : List Value) : Array Value → State → Prop :=
  va_Pc as (fun U => U.heap.size = sz ∧ va_P D vwCl wc U.heap ∧ va_K D vwCl tys U ∧ va_D (fun _ => True) wc ∧ obI D im (va_A wc sz) U U.heap ∧ obW U)
def obB (D : va_G) (A : Nat → Prop) {S : Type} (w1 : S → va_W) : S → State → Prop := fun u t => va_P D vwCl (w1 u) t.heap ∧ va_D A (w1 u)
theorem obT.kept {im : obIM} {A : Nat → Prop} {U : State} {H H1 : Heap} (h : obT im A U H) (hq : ∀ a : Nat, a < H.size → ¬ A a → H1[a]? = H[a]?) : obT im A U H1 :=
  ⟨h.1.kept hq, h.2.1, h.2.2.1.kept hq, h.2.2.2.kept hq⟩
theorem obT.narrow {im : obIM} {A B : Nat → Prop} {U : State} {H : Heap} (h : obT im A U H) (hAB : ∀ q, B q → A q) : obT im B U H :=
  ⟨h.1.narrow hAB, h.2.1, h.2.2.1.narrow hAB, h.2.2.2.narrow hAB⟩
theorem obT.warm {im : obIM} {A : Nat → Prop} {s U : State} {H : Heap} (hW : s.WarmedH U.vm) (h : obT im A s H) : obT im A U H :=
  ⟨h.1.moved hW.alike, fun i q hq => (h.2.1 i q hq).warm hW, h.2.2.1.moved hW.alike, h.2.2.2.moved hW.alike⟩
theorem obT.same {im : obIM} {A : Nat → Prop} {u U : State} {H : Heap} (hv : U.vm = u.vm) (h : obT im A u H) : obT im A U H :=
  ⟨h.1.moved (by rw [hv]; exact Vm.Alike.refl _), fun i q hq => (h.2.1 i q hq).same hv, h.2.2.1.moved (by rw [hv]; exact Vm.Alike.refl _), h.2.2.2.moved (by rw [hv]; exact Vm.Alike.refl _)⟩
/-- what is only read holds still -/
theorem obI.now {D : va_G} {im : obIM} {A : Nat → Prop} {U : State} {H0 H : Heap} {locs : List Loc} (h : obI D im A U H0) (hS : va_S A H0 H locs) : va_P D vwCl im.1 H :=
  h.1.kept fun k q hk => hS.2.1 q.1 (h.1 k q hk).lt (h.2.1 k q hk)
theorem obI.cut {D : va_G} {im : obIM} {A A' : Nat → Prop} {U : State} {H0 H : Heap} {locs : List Loc} (h : obI D im A U H0) (hS : va_S A H0 H locs) (hF : ∀ q, A' q → A q) : obI D im A' U H :=
  ⟨h.now hS, fun k q hk hq => h.2.1 k q hk (hF _ hq), (h.2.2.kept hS.2.1).narrow hF⟩
theorem ob_met_i {l : Launch} {y : MethodName} {rm : Room} {cc : ByteArray} {maxL : Nat} {D : va_G} {tys : List (ClassId × FieldType)} {im : obIM} {wc : va_W} {sz : Nat} {as : List Value} {mc ms : Nat} {St : Type} {post : Int32 → St → Prop} {w1 : St → va_W} {ty : FieldType}
    (hy : plainName y.cls = true) (hL : (lg_sl as).length ≤ maxL)
    (body : ∀ (p : Program) (e : Env) (s : State) (m : MethodId) (args : Array Value) (below : List Frame) (meth : Method) (c : Code) (A : Nat → Prop) (Z : State → Prop), p.tables.exec = Jvm.exec → c.code = cc → c.maxLocals = maxL → s.vm.findClass y.cls = some m.cls → (∀ w ∈ wsL_law, w.before args s = true) → meth.name = y.name → obW s → va_K D vwCl tys s →
      (∀ q, s.heap.size ≤ q → A q) → obI D im A s s.heap → va_P D vwCl wc s.heap → va_D A wc → va_S A s.heap s.heap [] →
      (∀ (v : Int32) (u : St) (H : Heap) (locs : List Loc) (ls : Array Slot) (pc : Nat), post v u → va_P D vwCl (w1 u) H → va_D A (w1 u) → va_S A s.heap H locs → decode cc pc = .ok (.ireturn, 1) → narrow ty (.int v) = .int v → W p l e rm s m args below meth c H locs mc ms Z (F0 m pc ls [.int v])) →
      ∀ ls : Array Slot, lv_has ls maxL (lv_args 0 as) → W p l e rm s m args below meth c s.heap [] 0 0 Z (F0 m 0 ls [])) :
    Met l y (Cond.code y cc maxL (some ty) :: wsL_law) rm (obPre D tys im wc sz as) (va_Qi post (obB D (va_A wc sz) w1) (va_A wc sz)) mc ms (va_A wc sz) := by
  refine Met.ofW (cc := cc) (maxL := maxL) (ret := (some ty)) hy rfl ?_
  intro p e s m args below meth c s₁ B hml hv
  obtain ⟨hargs, hsz, hP, hK, hD0, hI, hN⟩ := hv
  have hE : entryFrame m args maxL = F0 m 0 ((lg_sl as ++ List.replicate (maxL - (lg_sl as).length) Slot.unset).toArray) [] := by rw [hargs, lg_entry_eq]
  rw [hE]
  subst hsz
  have hlocks := B.notSynchronized
  refine body p e s m args below meth c (va_A wc s.heap.size) _ B.exec B.bytes hml (findClass_of_methodNamed B.named) (fun w hw => atoms_spec B.pre w (List.mem_cons_of_mem _ hw)) (name_of_methodNamed B.named B.method).1 hN hK (fun q h => Or.inr h) hI hP hD0.self va_S.rf ?_ _ (lv_entry as hL)
  intro v u H locs ls pc hm hP1 hD1 hS1 hdg hn
  exact W.zret (v := v) B.exec B.bytes B.returns hn (fun t ht hW => ⟨⟨v, u, rfl, hm, by rw [ht]; exact hP1, hD1⟩, hS1.F ht⟩) hS1.2.2 hdg hlocks
theorem ob_met_l {l : Launch} {y : MethodName} {rm : Room} {cc : ByteArray} {maxL : Nat} {D : va_G} {tys : List (ClassId × FieldType)} {im : obIM} {wc : va_W} {sz : Nat} {as : List Value} {mc ms : Nat} {St : Type} {post : Int64 → St → Prop} {w1 : St → va_W}
    (hy : plainName y.cls = true) (hL : (lg_sl as).length ≤ maxL)
    (body : ∀ (p : Program) (e : Env) (s : State) (m : MethodId) (args : Array Value) (below : List Frame) (meth : Method) (c : Code) (A : Nat → Prop) (Z : State → Prop), p.tables.exec = Jvm.exec → c.code = cc → c.maxLocals = maxL → s.vm.findClass y.cls = some m.cls → (∀ w ∈ wsL_law, w.before args s = true) → meth.name = y.name → obW s → va_K D vwCl tys s →
      (∀ q, s.heap.size ≤ q → A q) → obI D im A s s.heap → va_P D vwCl wc s.heap → va_D A wc → va_S A s.heap s.heap [] →
      (∀ (v : Int64) (u : St) (H : Heap) (locs : List Loc) (ls : Array Slot) (pc : Nat), post v u → va_P D vwCl (w1 u) H → va_D A (w1 u) → va_S A s.heap H locs → decode cc pc = .ok (.lreturn, 1) → W p l e rm s m args below meth c H locs mc ms Z (F0 m pc ls [.long v])) →
      ∀ ls : Array Slot, lv_has ls maxL (lv_args 0 as) → W p l e rm s m args below meth c s.heap [] 0 0 Z (F0 m 0 ls [])) :
    Met l y (Cond.code y cc maxL (some .long) :: wsL_law) rm (obPre D tys im wc sz as) (va_Ql post (obB D (va_A wc sz) w1) (va_A wc sz)) mc ms (va_A wc sz) := by
  refine Met.ofW (cc := cc) (maxL := maxL) (ret := (some .long)) hy rfl ?_
  intro p e s m args below meth c s₁ B hml hv
  obtain ⟨hargs, hsz, hP, hK, hD0, hI, hN⟩ := hv
  have hE : entryFrame m args maxL = F0 m 0 ((lg_sl as ++ List.replicate (maxL - (lg_sl as).length) Slot.unset).toArray) [] := by rw [hargs, lg_entry_eq]
  rw [hE]
  subst hsz
  have hlocks := B.notSynchronized
  refine body p e s m args below meth c (va_A wc s.heap.size) _ B.exec B.bytes hml (findClass_of_methodNamed B.named) (fun w hw => atoms_spec B.pre w (List.mem_cons_of_mem _ hw)) (name_of_methodNamed B.named B.method).1 hN hK (fun q h => Or.inr h) hI hP hD0.self va_S.rf ?_ _ (lv_entry as hL)
  intro v u H locs ls pc hm hP1 hD1 hS1 hdg
  exact W.lret (v := v) B.exec B.bytes B.returns (fun t ht hW => ⟨⟨v, u, rfl, hm, by rw [ht]; exact hP1, hD1⟩, hS1.F ht⟩) hS1.2.2 hdg hlocks
theorem ob_met_v {l : Launch} {y : MethodName} {rm : Room} {cc : ByteArray} {maxL : Nat} {D : va_G} {tys : List (ClassId × FieldType)} {im : obIM} {wc : va_W} {sz : Nat} {as : List Value} {mc ms : Nat} {St : Type} {post : St → Prop} {w1 : St → va_W}
    (hy : plainName y.cls = true) (hL : (lg_sl as).length ≤ maxL)
    (body : ∀ (p : Program) (e : Env) (s : State) (m : MethodId) (args : Array Value) (below : List Frame) (meth : Method) (c : Code) (A : Nat → Prop) (Z : State → Prop), p.tables.exec = Jvm.exec → c.code = cc → c.maxLocals = maxL → s.vm.findClass y.cls = some m.cls → (∀ w ∈ wsL_law, w.before args s = true) → meth.name = y.name → obW s → va_K D vwCl tys s →
      (∀ q, s.heap.size ≤ q → A q) → obI D im A s s.heap → va_P D vwCl wc s.heap → va_D A wc → va_S A s.heap s.heap [] →
      (∀ (u : St) (H : Heap) (locs : List Loc) (ls : Array Slot) (pc : Nat), post u → va_P D vwCl (w1 u) H → va_D A (w1 u) → va_S A s.heap H locs → decode cc pc = .ok (.return_, 1) → W p l e rm s m args below meth c H locs mc ms Z (F0 m pc ls [])) →
      ∀ ls : Array Slot, lv_has ls maxL (lv_args 0 as) → W p l e rm s m args below meth c s.heap [] 0 0 Z (F0 m 0 ls [])) :
    Met l y (Cond.code y cc maxL none :: wsL_law) rm (obPre D tys im wc sz as) (va_Qv post (obB D (va_A wc sz) w1) (va_A wc sz)) mc ms (va_A wc sz) := by
  refine Met.ofW (cc := cc) (maxL := maxL) (ret := none) hy rfl ?_
  intro p e s m args below meth c s₁ B hml hv
  obtain ⟨hargs, hsz, hP, hK, hD0, hI, hN⟩ := hv
  have hE : entryFrame m args maxL = F0 m 0 ((lg_sl as ++ List.replicate (maxL - (lg_sl as).length) Slot.unset).toArray) [] := by rw [hargs, lg_entry_eq]
  rw [hE]
  subst hsz
  have hlocks := B.notSynchronized
  refine body p e s m args below meth c (va_A wc s.heap.size) _ B.exec B.bytes hml (findClass_of_methodNamed B.named) (fun w hw => atoms_spec B.pre w (List.mem_cons_of_mem _ hw)) (name_of_methodNamed B.named B.method).1 hN hK (fun q h => Or.inr h) hI hP hD0.self va_S.rf ?_ _ (lv_entry as hL)
  intro u H locs ls pc hm hP1 hD1 hS1 hdg
  exact W.vret B.exec B.bytes B.returns (fun t ht hW => ⟨⟨u, rfl, hm, by rw [ht]; exact hP1, hD1⟩, hS1.F ht⟩) hS1.2.2 hdg hlocks
theorem obPre.blind {D : va_G} {tys : List (ClassId × FieldType)} {im : obIM} {wc : va_W} {sz : Nat} {as : List Value} : FrameBlind (obPre D tys im wc sz as) := by
  intro a U g mk h
  obtain ⟨h1, h2, h3, h4, h5, h6, h7⟩ := h
  exact ⟨h1, h2, h3, va_K.moved (u := U) (U := U.calling g mk a) (Vm.Alike.refl U.vm) h4, h5, ⟨h6.1, h6.2.1, h6.2.2.same rfl⟩, obW.same (u := U) (U := U.calling g mk a) rfl h7⟩
theorem obPre.of {s U : State} {D : va_G} {tys : List (ClassId × FieldType)} {im : obIM} {wc : va_W} {H : Heap} {as : List Value} (hK : va_K D vwCl tys s) (hPc : va_P D vwCl wc H) (hDc : va_D (fun _ => True) wc) (hI : obI D im (va_A wc H.size) s H) (hN : obW s) (hU : U.heap = H) (hW : s.WarmedH U.vm) : obPre D tys im wc H.size as as.toArray U :=
  ⟨rfl, by rw [hU], by rw [hU]; exact hPc, va_K.moved hW.alike hK, hDc, by rw [hU]; exact ⟨hI.1, hI.2.1, hI.2.2.warm hW⟩, hN.warm hW⟩
/-- what a call's callee gets of the caller's world -/
theorem ob_cut {A0 : Nat → Prop} {D : va_G} {ws wc : va_W} {H0 H : Heap} {locs : List Loc} (hP : va_P D vwCl ws H) (hD : va_D A0 ws) (hS : va_S A0 H0 H locs) (hA : ∀ q, H0.size ≤ q → A0 q) (isC : List Nat) (hC : isC.map (fun i => ws[i]?) = wc.map some) (hn : va_nd isC = true) :
    va_P D vwCl wc H ∧ va_D (fun _ => True) wc ∧ ∀ q, va_A wc H.size q → A0 q := by
  refine ⟨fun k q hq => ?_, (hD.sub isC hn hC).weaken (fun _ _ _ _ => trivial), va_free hD hS hA isC hC⟩
  have h1 : (isC.map (fun i => ws[i]?))[k]? = some (some q) := by rw [hC, List.getElem?_map, hq]; rfl
  rw [List.getElem?_map] at h1
  cases hi : isC[k]? with
  | none => rw [hi] at h1; cases h1
  | some i => rw [hi] at h1; exact hP i q (Option.some.inj h1)
section OBC
variable {p : Program} {l : Launch} {e : Env} {R : Room} {s : State} {m : MethodId} {args : Array Value} {below : List Frame} {meth : Method} {c : Code} {H H0 : Heap} {locs : List Loc} {cells slots : Nat} {Q : State → Prop}
variable {y : MethodName} {bytes cc : ByteArray} {maxL nL mc ms n index : Nat} {ret : Option FieldType} {wsy : List Cond} {rm : Room} {Ts : List Cond} {own C : String} {b : Addr} {As rest : List Value} {pc : Nat} {ls : Array Slot} {st0 : List Value}
variable {D : va_G} {tys : List (ClassId × FieldType)} {im : obIM} {wc wr ws : va_W} {A0 : Nat → Prop} {Qc : Array Value → State → Outcome → State → Prop}
/-- a virtual call of a method of the receiver's own class: the receiver lies in the caller's world -/
theorem ob_V (S : CallFix p m c cc nL s args Ts own) (hK : va_K D vwCl tys s) (hcut : va_P D vwCl wc H ∧ va_D (fun _ => True) wc ∧ ∀ q, va_A wc H.size q → A0 q) (hI : obI D im (va_A wc H.size) s H) (hN : obW s) (hrecv : ∃ cellB : Cell, H[b]? = some cellB ∧ cellB.vm.isStatics = false ∧ s.vm.findClass C = some cellB.cls)
    (hM : Met l y wsy rm (obPre D tys im wc H.size (.ref b :: As)) Qc mc ms (va_A wc H.size)) (cw : CallW R s args own C index y bytes maxL ret wsy rm mc ms n)
    (hn : As.length = n) (hsize : ls.size = nL) (hstack : st0 = As.reverse ++ .ref b :: rest) (hW : (rest.map fun v => v.category).sum ≤ 8) (hdg : decode cc pc = .ok (.invokevirtual index, 3)) (hf : cells + mc ≤ R.cells ∧ slots + ms ≤ R.slots) :
    va_Run p l e R s m args below meth c H locs cells slots mc ms (F0 m pc ls st0) rest (Qc (Value.ref b :: As).toArray) (va_A wc H.size) :=
  va_runV (As := As) (rest := rest) S hM cw ⟨obPre.blind, hrecv, fun U hU hW => obPre.of hK hcut.1 hcut.2.1 hI hN hU hW⟩ rfl hn hsize hstack (lv_room hW) hdg hf
theorem ob_S (S : CallFix p m c cc nL s args Ts own) (hK : va_K D vwCl tys s) (hcut : va_P D vwCl wc H ∧ va_D (fun _ => True) wc ∧ ∀ q, va_A wc H.size q → A0 q) (hI : obI D im (va_A wc H.size) s H) (hN : obW s)
    (hM : Met l y wsy rm (obPre D tys im wc H.size As) Qc mc ms (va_A wc H.size)) (cw : CallB R s args own index y bytes maxL ret wsy rm mc ms n ∧ (Cond.static y).before args s = true)
    (hn : As.length = n) (hsize : ls.size = nL) (hstack : st0 = As.reverse ++ rest) (hW : (rest.map fun v => v.category).sum ≤ 8) (hdg : decode cc pc = .ok (.invokestatic index, 3)) (hf : cells + mc ≤ R.cells ∧ slots + ms ≤ R.slots) :
    va_Run p l e R s m args below meth c H locs cells slots mc ms (F0 m pc ls st0) rest (Qc As.toArray) (va_A wc H.size) :=
  va_runS (As := As) (rest := rest) S hM cw ⟨obPre.blind, fun U hU hW => obPre.of hK hcut.1 hcut.2.1 hI hN hU hW⟩ rfl hn hsize hstack (lv_room hW) hdg hf
theorem ob_N (S : CallFix p m c cc nL s args Ts own) (hK : va_K D vwCl tys s) (hcut : va_P D vwCl wc H ∧ va_D (fun _ => True) wc ∧ ∀ q, va_A wc H.size q → A0 q) (hI : obI D im (va_A wc H.size) s H) (hN : obW s)
    (hM : Met l y wsy rm (obPre D tys im wc H.size (.ref b :: As)) Qc mc ms (va_A wc H.size)) (cw : CallB R s args own index y bytes maxL none wsy rm mc ms n ∧ y.name = "<init>" ∧ (Cond.instanceMethod y).before args s = true)
    (hn : As.length = n) (hsize : ls.size = nL) (hstack : st0 = As.reverse ++ .ref b :: rest) (hW : (rest.map fun v => v.category).sum ≤ 8) (hdg : decode cc pc = .ok (.invokespecial index, 3)) (hf : cells + mc ≤ R.cells ∧ slots + ms ≤ R.slots) :
    va_Run p l e R s m args below meth c H locs cells slots mc ms (F0 m pc ls st0) rest (Qc (Value.ref b :: As).toArray) (va_A wc H.size) :=
  va_runI (As := As) (rest := rest) S hM cw ⟨obPre.blind, fun U hU hW => obPre.of hK hcut.1 hcut.2.1 hI hN hU hW⟩ rfl hn hsize hstack (lv_room hW) hdg hf
variable {St : Type} {w1 : St → va_W} {av : Array Value}
/-- behind a call: an int comes back -/
theorem ob_i {post : Int32 → St → Prop} (hr : va_Run p l e R s m args below meth c H locs cells slots mc ms (F0 m pc ls st0) rest (va_Qi post (obB D (va_A wc H.size) w1) (va_A wc H.size) av) (va_A wc H.size))
    (hP : va_P D vwCl ws H) (hD : va_D A0 ws) (hS : va_S A0 H0 H locs) (hcut : va_P D vwCl wc H ∧ va_D (fun _ => True) wc ∧ ∀ q, va_A wc H.size q → A0 q) (isC isR : List Nat) (hC : isC.map (fun i => ws[i]?) = wc.map some) (hR : isR.map (fun i => ws[i]?) = wr.map some) (hn : va_nd isR = true) (hdis : ∀ i ∈ isR, i ∉ isC)
    (kk : ∀ (r : Int32) (u : St) (H1 : Heap) (locs1 : List Loc), post r u → va_P D vwCl (wr ++ w1 u) H1 → va_D A0 (wr ++ w1 u) → va_S A0 H0 H1 locs1 → W p l e R s m args below meth c H1 locs1 (cells + mc) (slots + ms) Q (F0 m (pc + 3) ls (.int r :: rest))) : W p l e R s m args below meth c H locs cells slots Q (F0 m pc ls st0) := by
  refine va_calli hr hS (fun q _ h => hcut.2.2 q h) hcut.2.2 (fun r u t H1 locs ht hvm hw hB hz1 hk1 hS => ?_)
  obtain ⟨hP1, hD1⟩ := hB
  rw [ht] at hP1
  obtain ⟨hP2, hD2⟩ := va_join (wr := wr) (w1 := w1 u) hP hD isC isR hC hR hn hdis hk1 hcut.2.2 hP1 hD1
  exact kk r u H1 locs hw hP2 hD2 hS
theorem ob_l {post : Int64 → St → Prop} (hr : va_Run p l e R s m args below meth c H locs cells slots mc ms (F0 m pc ls st0) rest (va_Ql post (obB D (va_A wc H.size) w1) (va_A wc H.size) av) (va_A wc H.size))
    (hP : va_P D vwCl ws H) (hD : va_D A0 ws) (hS : va_S A0 H0 H locs) (hcut : va_P D vwCl wc H ∧ va_D (fun _ => True) wc ∧ ∀ q, va_A wc H.size q → A0 q) (isC isR : List Nat) (hC : isC.map (fun i => ws[i]?) = wc.map some) (hR : isR.map (fun i => ws[i]?) = wr.map some) (hn : va_nd isR = true) (hdis : ∀ i ∈ isR, i ∉ isC)
    (kk : ∀ (r : Int64) (u : St) (H1 : Heap) (locs1 : List Loc), post r u → va_P D vwCl (wr ++ w1 u) H1 → va_D A0 (wr ++ w1 u) → va_S A0 H0 H1 locs1 → W p l e R s m args below meth c H1 locs1 (cells + mc) (slots + ms) Q (F0 m (pc + 3) ls (.long r :: rest))) : W p l e R s m args below meth c H locs cells slots Q (F0 m pc ls st0) := by
  refine va_calll hr hS (fun q _ h => hcut.2.2 q h) hcut.2.2 (fun r u t H1 locs ht hvm hw hB hz1 hk1 hS => ?_)
  obtain ⟨hP1, hD1⟩ := hB
  rw [ht] at hP1
  obtain ⟨hP2, hD2⟩ := va_join (wr := wr) (w1 := w1 u) hP hD isC isR hC hR hn hdis hk1 hcut.2.2 hP1 hD1
  exact kk r u H1 locs hw hP2 hD2 hS
theorem ob_v {post : St → Prop} (hr : va_Run p l e R s m args below meth c H locs cells slots mc ms (F0 m pc ls st0) rest (va_Qv post (obB D (va_A wc H.size) w1) (va_A wc H.size) av) (va_A wc H.size))
    (hP : va_P D vwCl ws H) (hD : va_D A0 ws) (hS : va_S A0 H0 H locs) (hcut : va_P D vwCl wc H ∧ va_D (fun _ => True) wc ∧ ∀ q, va_A wc H.size q → A0 q) (isC isR : List Nat) (hC : isC.map (fun i => ws[i]?) = wc.map some) (hR : isR.map (fun i => ws[i]?) = wr.map some) (hn : va_nd isR = true) (hdis : ∀ i ∈ isR, i ∉ isC)
    (kk : ∀ (u : St) (H1 : Heap) (locs1 : List Loc), post u → va_P D vwCl (wr ++ w1 u) H1 → va_D A0 (wr ++ w1 u) → va_S A0 H0 H1 locs1 → W p l e R s m args below meth c H1 locs1 (cells + mc) (slots + ms) Q (F0 m (pc + 3) ls rest)) : W p l e R s m args below meth c H locs cells slots Q (F0 m pc ls st0) := by
  refine va_callv hr hS (fun q _ h => hcut.2.2 q h) hcut.2.2 (fun u t H1 locs ht hvm hw hB hz1 hk1 hS => ?_)
  obtain ⟨hP1, hD1⟩ := hB
  rw [ht] at hP1
  obtain ⟨hP2, hD2⟩ := va_join (wr := wr) (w1 := w1 u) hP hD isC isR hC hR hn hdis hk1 hcut.2.2 hP1 hD1
  exact kk u H1 locs hw hP2 hD2 hS
theorem ob_q {post : Option Nat → St → Prop} (hr : va_Run p l e R s m args below meth c H locs cells slots mc ms (F0 m pc ls st0) rest (va_Qq post (obB D (va_A wc H.size) w1) (va_A wc H.size) av) (va_A wc H.size))
    (hP : va_P D vwCl ws H) (hD : va_D A0 ws) (hS : va_S A0 H0 H locs) (hcut : va_P D vwCl wc H ∧ va_D (fun _ => True) wc ∧ ∀ q, va_A wc H.size q → A0 q) (isC isR : List Nat) (hC : isC.map (fun i => ws[i]?) = wc.map some) (hR : isR.map (fun i => ws[i]?) = wr.map some) (hn : va_nd isR = true) (hdis : ∀ i ∈ isR, i ∉ isC)
    (kk : ∀ (r : Option Nat) (u : St) (H1 : Heap) (locs1 : List Loc), post r u → va_P D vwCl (wr ++ w1 u) H1 → va_D A0 (wr ++ w1 u) → va_S A0 H0 H1 locs1 → W p l e R s m args below meth c H1 locs1 (cells + mc) (slots + ms) Q (F0 m (pc + 3) ls (va_rf r :: rest))) : W p l e R s m args below meth c H locs cells slots Q (F0 m pc ls st0) := by
  refine va_callq hr hS (fun q _ h => hcut.2.2 q h) hcut.2.2 (fun r u t H1 locs ht hvm hw hB hz1 hk1 hS => ?_)
  obtain ⟨hP1, hD1⟩ := hB
  rw [ht] at hP1
  obtain ⟨hP2, hD2⟩ := va_join (wr := wr) (w1 := w1 u) hP hD isC isR hC hR hn hdis hk1 hcut.2.2 hP1 hD1
  exact kk r u H1 locs hw hP2 hD2 hS
end OBC
theorem ob_ne {x k : Int32} (h : ¬ x = k) : x.toInt ≠ k.toInt := fun e => h (Int32.toInt_inj.mp e)
theorem ob_neb {x k : Int32} (h : ¬ x = k) : ¬ x.toInt = k.toInt := ob_ne h
theorem cwS2 {R : Room} {s : State} {args : Array Value} {own : String} {index maxL mc ms : Nat} {y : MethodName} {bytes : ByteArray} {ret : Option FieldType} {Ts ws ws' : List Cond} {rm : Room} (n : Nat) (ht : ∀ w ∈ Ts, w.before args s = true) (hl : (Cond.methodLink own index y).before args s = true) (hst : (Cond.static y).before args s = true) (hini : (Cond.initialized y.cls).before args s = true) (hG : GoodIn Ts ws) (hw : ws = Cond.code y bytes maxL ret :: ws') (hrc : rm.cells = mc) (hrs : rm.slots = ms)
    (hd : y.cls ≠ "java/lang/invoke/MethodHandle" ∧ y.cls ≠ "java/lang/invoke/VarHandle" ∧ (parseMethodDescriptor y.desc).map (fun d => d.parameters.length) = some n) (hR : rm.frames + 1 ≤ R.frames ∧ 8 + (maxL + 11) + rm.locals ≤ R.locals) :
    CallB R s args own index y bytes maxL ret ws rm mc ms n ∧ (Cond.static y).before args s = true := ⟨callB_of n ht hG hw hrc hrs hini hl hd hR, hst⟩
section OBN
variable {p : Program} {l : Launch} {e : Env} {R : Room} {s : State} {m : MethodId} {args : Array Value} {below : List Frame} {meth : Method} {c : Code} {H : Heap} {locs : List Loc} {cells slots : Nat} {Q : State → Prop} {cc : ByteArray} {pc : Nat} {ls : Array Slot} {rest : List Value}
theorem ob_ifnull (hexec : p.tables.exec = Jvm.exec) (hb : c.code = cc) {r : Option Nat} {off : Int} {tgt : Nat} (hdg : decode cc pc = .ok (.ifnull off, 3)) (ht : (pc : Int) + off = (tgt : Int))
    (kt : r = none → W p l e R s m args below meth c H locs cells slots Q (F0 m tgt ls rest)) (kf : ∀ a : Nat, r = some a → W p l e R s m args below meth c H locs cells slots Q (F0 m (pc + 3) ls rest)) : W p l e R s m args below meth c H locs cells slots Q (F0 m pc ls (va_rf r :: rest)) := by
  cases r with
  | none => exact lv_ifnullN hexec hb hdg ht (kt rfl)
  | some a => exact lv_ifnull hexec hb hdg (kf a rfl)
theorem ob_ifnonnull (hexec : p.tables.exec = Jvm.exec) (hb : c.code = cc) {r : Option Nat} {off : Int} {tgt : Nat} (hdg : decode cc pc = .ok (.ifnonnull off, 3)) (ht : (pc : Int) + off = (tgt : Int))
    (kn : r = none → W p l e R s m args below meth c H locs cells slots Q (F0 m (pc + 3) ls rest)) (kf : ∀ a : Nat, r = some a → W p l e R s m args below meth c H locs cells slots Q (F0 m tgt ls rest)) : W p l e R s m args below meth c H locs cells slots Q (F0 m pc ls (va_rf r :: rest)) := by
  cases r with
  | none => exact lv_ifnonnullN hexec hb hdg (kn rfl)
  | some a => exact lv_ifnonnull hexec hb hdg ht (kf a rfl)
theorem ob_aload (hexec : p.tables.exec = Jvm.exec) (hb : c.code = cc) {i : Nat} {r : Option Nat} (hdg : decode cc pc = .ok (.aload i, 2)) (hl : ls[i]? = some (.val (va_rf r)))
    (k : W p l e R s m args below meth c H locs cells slots Q (F0 m (pc + 2) ls (va_rf r :: rest))) : W p l e R s m args below meth c H locs cells slots Q (F0 m pc ls rest) := by
  cases r with
  | none => exact lv_aloadN hexec hb hdg hl k
  | some a => exact lv_aload hexec hb hdg hl k
theorem ob_aload_n (hexec : p.tables.exec = Jvm.exec) (hb : c.code = cc) {k : Fin 4} {i : Nat} {r : Option Nat} (hdg : decode cc pc = .ok (.aload_n k, 1)) (hi : (k : Nat) = i) (hl : ls[i]? = some (.val (va_rf r)))
    (k : W p l e R s m args below meth c H locs cells slots Q (F0 m (pc + 1) ls (va_rf r :: rest))) : W p l e R s m args below meth c H locs cells slots Q (F0 m pc ls rest) := by
  cases r with
  | none => exact lv_aload_nN hexec hb hdg hi hl k
  | some a => exact lv_aload_n hexec hb hdg hi hl k
end OBN
theorem ob_nq {C : String} (r : Option Nat) : narrow (.object C) (va_rf r) = va_rf r := by cases r <;> rfl
theorem ob_fq {C : String} (r : Option Nat) : fits (.object C) (va_rf r) = true := by cases r <;> rfl
def obK (ci : Nat) : Prop := ci = 0 ∨ ci = 2 ∨ ci = 3 ∨ ci = 4 ∨ ci = 6 ∨ ci = 8 ∨ ci = 10
/-- what is only read holds the leapers that lk tells: class, number, v, height -/
def obLK (im : obIM) (lk : Nat → Option (Nat × Int32 × Int32 × Int32)) : Prop := ∀ (a ci : Nat) (n v h : Int32), lk a = some (ci, n, v, h) → obK ci ∧ ∃ k : Nat, im.1[k]? = some (a, .inr (ci, [.int n, .int v, .int h]))
/-- and the fields that fk tells: steps, words, numbers, starts, ends, clauses -/
def obFK (cI : ClassId) (im : obIM) (fk : Nat → Option ((Nat → Int32) × (Nat → Int32) × (Nat → Int32) × (Nat → Int32) × (Nat → Int32) × Int32)) : Prop := ∀ (a : Nat) (st wo nu sa en : Nat → Int32) (cl : Int32), fk a = some (st, wo, nu, sa, en, cl) →
  ∃ (q0 q1 q2 q3 q4 q5 : Nat) (pl sc ga fa : Int32) (k0 k1 k2 k3 k4 k5 : Nat), im.1[k0]? = some (a, .inr (1, [.ref q0, .ref q1, .ref q2, .ref q3, .ref q4, .ref q5, .int pl, .int sc, .int cl, .int ga, .int fa])) ∧ im.1[k1]? = some (q1, .inl (cI, 100, .inl st)) ∧ im.1[k2]? = some (q2, .inl (cI, 10, .inl wo)) ∧ im.1[k3]? = some (q3, .inl (cI, 10, .inl nu)) ∧ im.1[k4]? = some (q4, .inl (cI, 10, .inl sa)) ∧ im.1[k5]? = some (q5, .inl (cI, 10, .inl en))
theorem ob_in {i : Int32} {n : Nat} (h : (!decide (i < 0) && decide (i.toNatClampNeg < n)) = true) : vp_in i n := by
  simp only [Bool.and_eq_true, Bool.not_eq_true', decide_eq_false_iff_not, decide_eq_true_eq] at h
  rintro (q | q)
  · exact h.1 q
  · omega
