/-! leapers: read-only objects of seven classes -/
theorem ob_sub {vm : Vm} {cn r0 : ClassId} {k : Class} (hk : vm.classes[cn]? = some k) (hs : k.super = some r0) : vm.isSubclass cn r0 = true := by
  have hlt : cn < vm.classes.size := (Array.getElem?_eq_some_iff.mp hk).1
  obtain ⟨n, hn⟩ : ∃ n, vm.classes.size = n + 1 := Nat.exists_eq_add_one_of_ne_zero (Nat.ne_of_gt (Nat.lt_of_le_of_lt (Nat.zero_le _) hlt))
  simp [Vm.isSubclass, hn, Vm.isSubclassAux, hk, hs]
theorem gU_U {own : String} {idx : Nat} {C owner : String} {x y : MethodName} {c' : ByteArray} {mL : Nat} {rt : Option FieldType} (h1 : Cond.methodLink own idx x ∈ wsL_law) (h2 : Cond.sameMethod x.cls owner x.name x.desc ∈ wsL_law) (h3 : Cond.selects C x y ∈ wsL_law) (h4 : Cond.instanceMethod y ∈ wsL_law) (h5 : Cond.initialized y.cls ∈ wsL_law) (h6 : Cond.code y c' mL rt ∈ wsL_law) : GoodIn wsL_law (va_wsU own idx C owner x y (Cond.code y c' mL rt :: wsL_law)) := by
  intro w hw
  simp only [va_wsU, List.cons_append, List.nil_append, List.mem_cons] at hw
  rcases hw with rfl | rfl | rfl | rfl | rfl | rfl | h
  · exact goodU _ h1
  · exact goodU _ h2
  · exact goodU _ h3
  · exact goodU _ h4
  · exact goodU _ h5
  · exact goodU _ h6
  · exact goodU _ h
theorem gU_O {own : String} {idx : Nat} {C owner : String} {x y : MethodName} {c' : ByteArray} {mL : Nat} {rt : Option FieldType} (h1 : Cond.methodLink own idx x ∈ wsL_law) (h2 : Cond.sameMethod x.cls owner x.name x.desc ∈ wsL_law) (h7 : Cond.instanceMethod ⟨owner, x.name, x.desc⟩ ∈ wsL_law) (h3 : Cond.selects C x y ∈ wsL_law) (h4 : Cond.instanceMethod y ∈ wsL_law) (h5 : Cond.initialized y.cls ∈ wsL_law) (h6 : Cond.code y c' mL rt ∈ wsL_law) : GoodIn wsL_law (va_wsO own idx C owner x y (Cond.code y c' mL rt :: wsL_law)) := by
  intro w hw
  simp only [va_wsO, List.cons_append, List.nil_append, List.mem_cons] at hw
  rcases hw with rfl | rfl | rfl | rfl | rfl | rfl | rfl | h
  · exact goodU _ h1
  · exact goodU _ h2
  · exact goodU _ h7
  · exact goodU _ h3
  · exact goodU _ h4
  · exact goodU _ h5
  · exact goodU _ h6
  · exact goodU _ h
section OBL
variable {p : Program} {l : Launch} {e : Env} {R : Room} {s : State} {m : MethodId} {args : Array Value} {below : List Frame} {meth : Method} {c : Code} {H H0 : Heap} {locs : List Loc} {cells slots : Nat} {Q : State → Prop}
variable {y : MethodName} {bytes cc : ByteArray} {maxL nL mc ms n index : Nat} {ret : Option FieldType} {wsy : List Cond} {rm : Room} {Ts : List Cond} {own C : String} {b : Addr} {As rest : List Value} {pc : Nat} {ls : Array Slot} {st0 : List Value}
variable {D : va_G} {tys : List (ClassId × FieldType)} {im : obIM} {wc wr ws : va_W} {A0 : Nat → Prop} {Qc : Array Value → State → Outcome → State → Prop}
theorem ob_getL {a ci kk j : Nat} {x0 x1 x2 : Int32} {val : Value} {ref : String} (hexec : p.tables.exec = Jvm.exec) (hb : c.code = cc) (hts : ∀ w ∈ wsL_law, w.before args s = true) (hown : s.vm.findClass own = some m.cls) (hK : va_K D vwCl tys s) (hPi : va_P D vwCl im.1 H) (hci : obK ci) (hk : im.1[kk]? = some (a, .inr (ci, [.int x0, .int x1, .int x2]))) (hj : j < 3) (hv : [Value.int x0, .int x1, .int x2][j]? = some val)
    (hlink : (Cond.fieldLink own index ref (TX4 j).2.1 (TX4 j).2.2.1).before args s = true) (hsame : ∀ x, s.fieldFound? (TX4 j).1 (TX4 j).2.1 (TX4 j).2.2.1 = some x → s.fieldFound? ref (TX4 j).2.1 (TX4 j).2.2.1 = some x) (hdg : decode cc pc = .ok (.getfield index, 3))
    (k : W p l e R s m args below meth c H locs cells slots Q (F0 m (pc + 3) ls (val :: rest))) : W p l e R s m args below meth c H locs cells slots Q (F0 m pc ls (.ref a :: rest)) := by
  have hj3 : j = 0 ∨ j = 1 ∨ j = 2 := by omega
  rcases hci with rfl | rfl | rfl | rfl | rfl | rfl | rfl <;> rcases hj3 with rfl | rfl | rfl
  · exact va_get (ci := 0) (C := RX0) (T := TX0) (N := 3) hexec hb hts inlX0 hown hK hPi kk hk rfl 0 (by decide) hlink hsame hv hdg k
  · exact va_get (ci := 0) (C := RX0) (T := TX0) (N := 3) hexec hb hts inlX0 hown hK hPi kk hk rfl 1 (by decide) hlink hsame hv hdg k
  · exact va_get (ci := 0) (C := RX0) (T := TX0) (N := 3) hexec hb hts inlX0 hown hK hPi kk hk rfl 2 (by decide) hlink hsame hv hdg k
  · exact va_get (ci := 2) (C := RX2) (T := TX2) (N := 3) hexec hb hts inlX2 hown hK hPi kk hk rfl 0 (by decide) hlink hsame hv hdg k
  · exact va_get (ci := 2) (C := RX2) (T := TX2) (N := 3) hexec hb hts inlX2 hown hK hPi kk hk rfl 1 (by decide) hlink hsame hv hdg k
  · exact va_get (ci := 2) (C := RX2) (T := TX2) (N := 3) hexec hb hts inlX2 hown hK hPi kk hk rfl 2 (by decide) hlink hsame hv hdg k
  · exact va_get (ci := 3) (C := RX3) (T := TX3) (N := 3) hexec hb hts inlX3 hown hK hPi kk hk rfl 0 (by decide) hlink hsame hv hdg k
  · exact va_get (ci := 3) (C := RX3) (T := TX3) (N := 3) hexec hb hts inlX3 hown hK hPi kk hk rfl 1 (by decide) hlink hsame hv hdg k
  · exact va_get (ci := 3) (C := RX3) (T := TX3) (N := 3) hexec hb hts inlX3 hown hK hPi kk hk rfl 2 (by decide) hlink hsame hv hdg k
  · exact va_get (ci := 4) (C := RX4) (T := TX4) (N := 3) hexec hb hts inlX4 hown hK hPi kk hk rfl 0 (by decide) hlink hsame hv hdg k
  · exact va_get (ci := 4) (C := RX4) (T := TX4) (N := 3) hexec hb hts inlX4 hown hK hPi kk hk rfl 1 (by decide) hlink hsame hv hdg k
  · exact va_get (ci := 4) (C := RX4) (T := TX4) (N := 3) hexec hb hts inlX4 hown hK hPi kk hk rfl 2 (by decide) hlink hsame hv hdg k
  · exact va_get (ci := 6) (C := RX6) (T := TX6) (N := 3) hexec hb hts inlX6 hown hK hPi kk hk rfl 0 (by decide) hlink hsame hv hdg k
  · exact va_get (ci := 6) (C := RX6) (T := TX6) (N := 3) hexec hb hts inlX6 hown hK hPi kk hk rfl 1 (by decide) hlink hsame hv hdg k
  · exact va_get (ci := 6) (C := RX6) (T := TX6) (N := 3) hexec hb hts inlX6 hown hK hPi kk hk rfl 2 (by decide) hlink hsame hv hdg k
  · exact va_get (ci := 8) (C := RX8) (T := TX8) (N := 3) hexec hb hts inlX8 hown hK hPi kk hk rfl 0 (by decide) hlink hsame hv hdg k
  · exact va_get (ci := 8) (C := RX8) (T := TX8) (N := 3) hexec hb hts inlX8 hown hK hPi kk hk rfl 1 (by decide) hlink hsame hv hdg k
  · exact va_get (ci := 8) (C := RX8) (T := TX8) (N := 3) hexec hb hts inlX8 hown hK hPi kk hk rfl 2 (by decide) hlink hsame hv hdg k
  · exact va_get (ci := 10) (C := RX10) (T := TX10) (N := 3) hexec hb hts inlX10 hown hK hPi kk hk rfl 0 (by decide) hlink hsame hv hdg k
  · exact va_get (ci := 10) (C := RX10) (T := TX10) (N := 3) hexec hb hts inlX10 hown hK hPi kk hk rfl 1 (by decide) hlink hsame hv hdg k
  · exact va_get (ci := 10) (C := RX10) (T := TX10) (N := 3) hexec hb hts inlX10 hown hK hPi kk hk rfl 2 (by decide) hlink hsame hv hdg k
/-- a virtual call of a method that the receiver's class inherits, or overrides -/
theorem ob_U {x : MethodName} {owner : String} (S : CallFix p m c cc nL s args Ts own) (hK : va_K D vwCl tys s) (hcut : va_P D vwCl wc H ∧ va_D (fun _ => True) wc ∧ ∀ q, va_A wc H.size q → A0 q) (hI : obI D im (va_A wc H.size) s H) (hN : obW s) (hrecv : ∃ cellB : Cell, H[b]? = some cellB ∧ cellB.vm.isStatics = false ∧ s.vm.findClass C = some cellB.cls)
    (hM : Met l y wsy rm (obPre D tys im wc H.size (.ref b :: As)) Qc mc ms (va_A wc H.size)) (cw : va_CU R s args own C owner index x y bytes maxL ret wsy rm mc ms n)
    (hn : As.length = n) (hsize : ls.size = nL) (hstack : st0 = As.reverse ++ .ref b :: rest) (hW : (rest.map fun v => v.category).sum ≤ 8) (hdg : decode cc pc = .ok (.invokevirtual index, 3)) (hf : cells + mc ≤ R.cells ∧ slots + ms ≤ R.slots) :
    va_Run p l e R s m args below meth c H locs cells slots mc ms (F0 m pc ls st0) rest (Qc (Value.ref b :: As).toArray) (va_A wc H.size) :=
  va_runU (As := As) (rest := rest) S hM cw ⟨obPre.blind, hrecv, fun U hU hW => obPre.of hK hcut.1 hcut.2.1 hI hN hU hW⟩ rfl hn hsize hstack (lv_room hW) hdg hf
/-- super.m(..): x is what the entry names, y the method that it finds, in x's class or the one above that -/
theorem ob_SU {x : MethodName} {owner : String} {cC : ClassId} (hat : ClassAt s C cC) (S : CallFix p m c cc nL s args wsL_law own) (hK : va_K D vwCl tys s) (hcut : va_P D vwCl wc H ∧ va_D (fun _ => True) wc ∧ ∀ q, va_A wc H.size q → A0 q) (hI : obI D im (va_A wc H.size) s H) (hN : obW s) (hrecv : ∃ cellB : Cell, H[b]? = some cellB ∧ cellB.vm.isStatics = false ∧ s.vm.findClass C = some cellB.cls)
    (hM : Met l ⟨owner, x.name, x.desc⟩ (Cond.code ⟨owner, x.name, x.desc⟩ bytes maxL ret :: wsL_law) rm (obPre D tys im wc H.size (.ref b :: As)) Qc mc ms (va_A wc H.size))
    (hl1 : Cond.methodLink own index x ∈ wsL_law) (hl2 : Cond.sameMethod x.cls owner x.name x.desc ∈ wsL_law) (hl3 : Cond.superclass own x.cls ∈ wsL_law) (hl4 : Cond.instanceMethod ⟨owner, x.name, x.desc⟩ ∈ wsL_law) (hini : Cond.initialized owner ∈ wsL_law) (hcode : Cond.code ⟨owner, x.name, x.desc⟩ bytes maxL ret ∈ wsL_law) (hup : x.cls = owner ∨ Cond.superclass x.cls owner ∈ wsL_law)
    (hd : x.name ≠ "<init>" ∧ (parseMethodDescriptor x.desc).map (fun d => d.parameters.length) = some n) (hrc : rm.cells = mc) (hrs : rm.slots = ms) (hR : rm.frames + 1 ≤ R.frames ∧ 8 + (maxL + 11) + rm.locals ≤ R.locals)
    (hn : As.length = n) (hsize : ls.size = nL) (hstack : st0 = As.reverse ++ .ref b :: rest) (hW : (rest.map fun v => v.category).sum ≤ 8) (hdg : decode cc pc = .ok (.invokespecial index, 3)) (hf : cells + mc ≤ R.cells ∧ slots + ms ≤ R.slots) :
    va_Run p l e R s m args below meth c H locs cells slots mc ms (F0 m pc ls st0) rest (Qc (Value.ref b :: As).toArray) (va_A wc H.size) := by
  obtain ⟨hx, hb, hml, ho, hts⟩ := S
  have hbl : FrameBlind (obPre D tys im wc H.size (.ref b :: As)) := obPre.blind
  have hKb : Back l R p e below s args ⟨owner, x.name, x.desc⟩ 3 8 (PreOf R mc ms (obPre D tys im wc H.size (.ref b :: As))) (PostOf Qc mc ms (va_A wc H.size)) := back_of (bytes := bytes) (maxL := maxL) (ret := ret) hM hbl hrc hrs hR.1 hR.2 (pay_in hts (goodU_c hcode)) List.mem_cons_self (fun a' U hW => word_at hW (Or.inl (by first | rfl | simp [Cond.onTables, Cond.keeps, Cond.steady])) (hts _ hini))
  obtain ⟨cellB, hcB, hoB, hclB⟩ := hrecv
  obtain ⟨hfc, kB, hkB, -⟩ := hat
  cases hfc.symm.trans hclB
  obtain ⟨mk, methM, hnamed, hmethM, hstM, habM⟩ := Cond.instanceMethod_spec (hts _ hl4)
  obtain ⟨methM', cM, hmethM', -, -, -, -, -, -, hsigM⟩ := Cond.code_spec hnamed (hts _ hcode)
  cases hmethM.symm.trans hmethM'
  obtain ⟨ps, dk, kp, hps, hdk, hkp, hsuper, -, -, hnid⟩ := Cond.superclass_spec ho (hts _ hl3)
  have hpo : s.vm.findClass owner = some mk.cls := findClass_of_methodNamed (x := ⟨owner, x.name, x.desc⟩) hnamed
  have hsub : s.vm.isSubclass ps mk.cls = true := by
    rcases hup with hu | hu
    · have hpm : ps = mk.cls := Option.some.inj (hps.symm.trans (by rw [hu]; exact hpo))
      rw [hpm]; simp [Vm.isSubclass, Vm.isSubclassAux]
    · obtain ⟨ps2, dk2, kp2, hps2, hdk2, -, hsuper2, -, -, -⟩ := Cond.superclass_spec hps (hts _ hu)
      have hpm : ps2 = mk.cls := Option.some.inj (hps2.symm.trans hpo)
      exact ob_sub hdk2 (by rw [hsuper2, hpm])
  intro T hT X
  have hlen : ∀ sig, parseMethodDescriptor x.desc = some sig → As.length = sig.parameters.length := fun sig h => by
    have h2 := hd.2
    rw [h] at h2
    exact hn.trans (Option.some.inj h2).symm
  obtain ⟨vm₁, X₁, hstep₁⟩ := X.invokespecialUp hx ho (hts _ hl1) (hts _ hl2) hnamed hmethM hstM habM hd.1 hdk hnid hps hsuper hsub (a := b) (cell := cellB) (by rw [hT]; exact hcB)
    (fun z h => by rw [h] at hoB; cases hoB) hkB (g := F0 m pc ls st0) rfl (argsL := As) (rest := rest) (hlen _ hsigM) hstack (by rw [hb]; exact hdg)
  obtain ⟨v, ⟨U', l2, c2, s2⟩, X', ⟨g', mk', t, L, e1, e2, hq, h1, hL, h2, h3⟩, hsteps⟩ := hKb m meth c ⟨T.setVm vm₁, locs, cells, slots⟩ { F0 m pc ls st0 with stack := rest } (.invokespecial index) mk (Value.ref b :: As).toArray X₁ rfl (hsize.trans hml.symm) (by rw [hb]; exact hdg) (lv_room hW) (X₁.named hnamed) ⟨hf.1, hf.2, obPre.of hK hcut.1 hcut.2.1 hI hN (show (T.setVm vm₁).heap = H from hT) X₁.warmed⟩
  dsimp only [Pt.U, Pt.locs, Pt.cells, Pt.slots] at X' e1 e2 h1 h2 h3 hsteps
  subst h1; subst h2; subst h3
  exact ⟨v, (T.setVm vm₁).calling g' mk' (Value.ref b :: As).toArray, t, U', L, hT, X', hL, e1, e2, hq, fun target h => hstep₁ _ (by rw [doInvoke_state]; exact hsteps.trans h)⟩
end OBL
theorem ob_met_q {l : Launch} {y : MethodName} {rm : Room} {cc : ByteArray} {maxL : Nat} {D : va_G} {tys : List (ClassId × FieldType)} {im : obIM} {wc : va_W} {sz : Nat} {as : List Value} {mc ms : Nat} {St : Type} {post : Option Nat → St → Prop} {w1 : St → va_W} {ty : String}
    (hy : plainName y.cls = true) (hL : (lg_sl as).length ≤ maxL)
    (body : ∀ (p : Program) (e : Env) (s : State) (m : MethodId) (args : Array Value) (below : List Frame) (meth : Method) (c : Code) (A : Nat → Prop) (Z : State → Prop), p.tables.exec = Jvm.exec → c.code = cc → c.maxLocals = maxL → s.vm.findClass y.cls = some m.cls → (∀ w ∈ wsL_law, w.before args s = true) → meth.name = y.name → obW s → va_K D vwCl tys s →
      (∀ q, s.heap.size ≤ q → A q) → obI D im A s s.heap → va_P D vwCl wc s.heap → va_D A wc → va_S A s.heap s.heap [] →
      (∀ (v : Option Nat) (u : St) (H : Heap) (locs : List Loc) (ls : Array Slot) (pc : Nat), post v u → va_P D vwCl (w1 u) H → va_D A (w1 u) → va_S A s.heap H locs → decode cc pc = .ok (.areturn, 1) → W p l e rm s m args below meth c H locs mc ms Z (F0 m pc ls [va_rf v])) →
      ∀ ls : Array Slot, lv_has ls maxL (lv_args 0 as) → W p l e rm s m args below meth c s.heap [] 0 0 Z (F0 m 0 ls [])) :
    Met l y (Cond.code y cc maxL (some (.object ty)) :: wsL_law) rm (obPre D tys im wc sz as) (va_Qq post (obB D (va_A wc sz) w1) (va_A wc sz)) mc ms (va_A wc sz) := by
  refine Met.ofW (cc := cc) (maxL := maxL) (ret := some (.object ty)) hy rfl ?_
  intro p e s m args below meth c s₁ B hml hv
  obtain ⟨hargs, hsz, hP, hK, hD0, hI, hN⟩ := hv
  have hE : entryFrame m args maxL = F0 m 0 ((lg_sl as ++ List.replicate (maxL - (lg_sl as).length) Slot.unset).toArray) [] := by rw [hargs, lg_entry_eq]
  rw [hE]
  subst hsz
  have hlocks := B.notSynchronized
  refine body p e s m args below meth c (va_A wc s.heap.size) _ B.exec B.bytes hml (findClass_of_methodNamed B.named) (fun w hw => atoms_spec B.pre w (List.mem_cons_of_mem _ hw)) (name_of_methodNamed B.named B.method).1 hN hK (fun q h => Or.inr h) hI hP hD0.self va_S.rf ?_ _ (lv_entry as hL)
  intro v u H locs ls pc hm hP1 hD1 hS1 hdg
  exact W.aret (v := va_rf v) B.exec B.bytes B.returns (Or.inl ⟨_, rfl⟩) (va_rf_or v) (fun t ht hW => ⟨⟨v, u, rfl, hm, by rw [ht]; exact hP1, hD1⟩, hS1.F ht⟩) hS1.2.2 hdg hlocks
theorem obK_cl {ci : Nat} (h : obK ci) : ∃ q : vw_C, vwCl[ci]? = some q := by
  rcases h with rfl | rfl | rfl | rfl | rfl | rfl | rfl <;> exact ⟨_, rfl⟩
theorem ob_nes {x k : Int32} {n : Int} (h : ¬ x = k) (hk : k.toInt = n) : ¬ n = x.toInt := fun e => h (Int32.toInt_inj.mp (e.symm.trans hk.symm))
section OBM
variable {p : Program} {l : Launch} {e : Env} {R : Room} {s : State} {m : MethodId} {args : Array Value} {below : List Frame} {meth : Method} {c : Code} {H H0 : Heap} {locs : List Loc} {cells slots : Nat} {Q : State → Prop}
variable {y : MethodName} {bytes cc : ByteArray} {maxL nL mc ms n index : Nat} {ret : Option FieldType} {wsy : List Cond} {rm : Room} {Ts : List Cond} {own host C : String} {b : Addr} {As rest : List Value} {pc : Nat} {ls : Array Slot} {st0 : List Value}
variable {D : va_G} {tys : List (ClassId × FieldType)} {im : obIM} {wc wr ws : va_W} {A A0 : Nat → Prop} {Qc : Array Value → State → Outcome → State → Prop}
theorem ob_SN (S : CallFix p m c cc nL s args Ts own) (hK : va_K D vwCl tys s) (hcut : va_P D vwCl wc H ∧ va_D (fun _ => True) wc ∧ ∀ q, va_A wc H.size q → A0 q) (hI : obI D im (va_A wc H.size) s H) (hN : obW s)
    (hM : Met l y wsy rm (obPre D tys im wc H.size As) Qc mc ms (va_A wc H.size)) (cw : va_CN R s args own index y host bytes maxL ret wsy rm mc ms n) (hst : (Cond.static y).before args s = true)
    (hn : As.length = n) (hsize : ls.size = nL) (hstack : st0 = As.reverse ++ rest) (hW : (rest.map fun v => v.category).sum ≤ 8) (hdg : decode cc pc = .ok (.invokestatic index, 3)) (hf : cells + mc ≤ R.cells ∧ slots + ms ≤ R.slots) :
    va_Run p l e R s m args below meth c H locs cells slots mc ms (F0 m pc ls st0) rest (Qc As.toArray) (va_A wc H.size) :=
  va_runSN (As := As) (rest := rest) S hM ⟨cw, hst, trivial⟩ ⟨obPre.blind, fun U hU hW => obPre.of hK hcut.1 hcut.2.1 hI hN hU hW⟩ rfl hn hsize hstack (lv_room hW) hdg hf
/-- a leaper, of whatever class, may be stored among the people -/
theorem ob_asg (hN : obW s) (hK : va_K D vwCl tys s) (hPi : va_P D vwCl im.1 H) {a ci kk : Nat} {fs : List Value} (hci : obK ci) (hk : im.1[kk]? = some (a, .inr (ci, fs))) : va_Any RX4 s H a := by
  have nw : ∀ i w, nestW[i]? = some w → va_Nw w s := fun i w h => hN.1 w (List.mem_of_getElem? h)
  rcases hci with rfl | rfl | rfl | rfl | rfl | rfl | rfl
  · exact va_rAny hK hPi hk rfl (fun comp c0 h1 h2 => vb_asgC (nw 23 _ rfl) comp c0 h1 h2)
  · exact va_rAny hK hPi hk rfl (fun comp c0 h1 h2 => vb_asgC (nw 25 _ rfl) comp c0 h1 h2)
  · exact va_rAny hK hPi hk rfl (fun comp c0 h1 h2 => vb_asgC (nw 22 _ rfl) comp c0 h1 h2)
  · exact va_rAny hK hPi hk rfl (fun comp c0 h1 h2 => vb_asgS comp c0 h1 h2)
  · exact va_rAny hK hPi hk rfl (fun comp c0 h1 h2 => vb_asgC (nw 21 _ rfl) comp c0 h1 h2)
  · exact va_rAny hK hPi hk rfl (fun comp c0 h1 h2 => vb_asgC (nw 24 _ rfl) comp c0 h1 h2)
  · exact va_rAny hK hPi hk rfl (fun comp c0 h1 h2 => vb_asgC (nw 26 _ rfl) comp c0 h1 h2)
theorem ob_astO {a q0 n t0 : Nat} {r : Option Nat} {f : Nat → Option Nat} {i : Int32} {cA : ClassId} {lk : Nat → Option (Nat × Int32 × Int32 × Int32)} (hexec : p.tables.exec = Jvm.exec) (hb : c.code = cc) (hN : obW s) (hK : va_K D vwCl tys s) (hP : va_P D vwCl ws H) (hD : va_D A ws) (hS : va_S A H0 H locs) (hPi : va_P D vwCl im.1 H) (hlk : obLK im lk) (hr : ∀ z : Nat, r = some z → ∃ (ci : Nat) (x0 x1 x2 : Int32), lk z = some (ci, x0, x1, x2))
    (ha : ws[q0]? = some (a, .inl (cA, n, .inr (.inr (.inr (.inr f)))))) (ht : tys[t0]? = some (cA, .object RX4)) (hin : vp_in i n) (hdg : decode cc pc = .ok (.aastore, 1))
    (kk : ∀ (H1 : Heap) (locs1 : List Loc), va_P D vwCl (ws.set q0 (a, .inl (cA, n, .inr (.inr (.inr (.inr (va_up f i.toNatClampNeg r))))))) H1 → va_D A (ws.set q0 (a, .inl (cA, n, .inr (.inr (.inr (.inr (va_up f i.toNatClampNeg r))))))) → va_S A H0 H1 locs1 → W p l e R s m args below meth c H1 locs1 cells slots Q (F0 m (pc + 1) ls rest)) : W p l e R s m args below meth c H locs cells slots Q (F0 m pc ls (va_rf r :: .int i :: .ref a :: rest)) := by
  cases r with
  | none => exact va_astqN hexec hb hK hP hD hS q0 t0 ha ht hin hdg kk
  | some z =>
    obtain ⟨ci, x0, x1, x2, e⟩ := hr z rfl
    obtain ⟨hci, k, hk⟩ := hlk _ _ _ _ _ e
    exact va_astqM hexec hb hK hP hD hS q0 t0 ha ht (ob_asg hN hK hPi hci hk) hin hdg kk
theorem ob_astore_n {ls : Array Slot} {k : Fin 4} {i nL : Nat} {r : Option Nat} {lv lv' : List (Nat × Value)} (hexec : p.tables.exec = Jvm.exec) (hb : c.code = cc) (hdg : decode cc pc = .ok (.astore_n k, 1)) (hi : (k : Nat) = i) (h : lv_has ls nL lv) (hn : i < nL) (hl : (i, va_rf r) :: lv.filter (fun q => !(q.1 == i) && !(q.1 + 1 == i && q.2.category == 2)) = lv')
    (kk : ∀ ls' : Array Slot, lv_has ls' nL lv' → W p l e R s m args below meth c H locs cells slots Q (F0 m (pc + 1) ls' rest)) : W p l e R s m args below meth c H locs cells slots Q (F0 m pc ls (va_rf r :: rest)) := by
  cases r with
  | none => exact lv_astore_nN hexec hb hdg hi h hn hl kk
  | some z => exact lv_astore_n hexec hb hdg hi h hn hl kk
theorem ob_astore {ls : Array Slot} {i nL : Nat} {r : Option Nat} {lv lv' : List (Nat × Value)} (hexec : p.tables.exec = Jvm.exec) (hb : c.code = cc) (hdg : decode cc pc = .ok (.astore i, 2)) (h : lv_has ls nL lv) (hn : i < nL) (hl : (i, va_rf r) :: lv.filter (fun q => !(q.1 == i) && !(q.1 + 1 == i && q.2.category == 2)) = lv')
    (kk : ∀ ls' : Array Slot, lv_has ls' nL lv' → W p l e R s m args below meth c H locs cells slots Q (F0 m (pc + 2) ls' rest)) : W p l e R s m args below meth c H locs cells slots Q (F0 m pc ls (va_rf r :: rest)) := by
  cases r with
  | none => exact lv_astoreN hexec hb hdg h hn hl kk
  | some z => exact lv_astore hexec hb hdg h hn hl kk
end OBM
/-- the class of a kind -/
def obCi (k : Int32) : Nat := if k = 1 then 6 else if k = 2 then 3 else if k = 3 then 0 else if k = 4 then 8 else if k = 5 then 2 else if k = 6 then 10 else 4
theorem obCi_ok (k : Int32) : obK (obCi k) := by
  unfold obCi obK
  split; · simp
  split; · simp
  split; · simp
  split; · simp
  split; · simp
  split; · simp
  simp
def lkUp (lk : Nat → Option (Nat × Int32 × Int32 × Int32)) (b : Nat) (x : Nat × Int32 × Int32 × Int32) : Nat → Option (Nat × Int32 × Int32 × Int32) := fun a => if a = b then some x else lk a
theorem obLK_up {im : obIM} {lk : Nat → Option (Nat × Int32 × Int32 × Int32)} {b ci : Nat} {n v t : Int32} (h : obLK im lk) (hc : obK ci) : obLK (im.1 ++ [(b, .inr (ci, [.int n, .int v, .int t]))], im.2) (lkUp lk b (ci, n, v, t)) := by
  intro a c x0 x1 x2 e
  unfold lkUp at e
  by_cases hab : a = b
  · rw [if_pos hab] at e
    cases e
    subst hab
    exact ⟨hc, im.1.length, by simp⟩
  · rw [if_neg hab] at e
    obtain ⟨h1, k, hk⟩ := h _ _ _ _ _ e
    refine ⟨h1, k, ?_⟩
    have hl : k < im.1.length := (List.getElem?_eq_some_iff.mp hk).1
    exact (List.getElem?_append_left hl).trans hk
theorem obI_up {D : va_G} {im : obIM} {A A' : Nat → Prop} {s : State} {H0 H : Heap} {locs : List Loc} {x : Nat × va_E} (h : obI D im A s H0) (hS : va_S A H0 H locs) (hF : ∀ q, A' q → A q) (hx : va_at D vwCl x H) (hn : ¬ A' x.1) : obI D (im.1 ++ [x], im.2) A' s H := by
  have h1 := h.now hS
  refine ⟨fun k q hk => ?_, fun k q hk => ?_, (h.2.2.kept hS.2.1).narrow hF⟩
  · rcases List.mem_append.mp (List.mem_of_getElem? hk) with hq | hq
    · obtain ⟨j, hj⟩ := List.getElem?_of_mem hq
      exact h1 j q hj
    · rw [List.mem_singleton.mp hq]; exact hx
  · rcases List.mem_append.mp (List.mem_of_getElem? hk) with hq | hq
    · obtain ⟨j, hj⟩ := List.getElem?_of_mem hq
      exact fun z => h.2.1 j q hj (hF _ z)
    · rw [List.mem_singleton.mp hq]; exact hn
theorem lk_fresh {D : va_G} {im : obIM} {A : Nat → Prop} {s : State} {H0 : Heap} {lk : Nat → Option (Nat × Int32 × Int32 × Int32)} {b : Nat} (h : obI D im A s H0) (hl : obLK im lk) (hb : A b) : lk b = none := by
  cases e : lk b with
  | none => rfl
  | some x =>
    obtain ⟨ci, n, v, t⟩ := x
    obtain ⟨-, k, hk⟩ := hl _ _ _ _ _ e
    exact absurd hb (h.2.1 k _ hk)
theorem fk_fresh {D : va_G} {im : obIM} {A : Nat → Prop} {s : State} {H0 : Heap} {cI : ClassId} {fk : Nat → Option ((Nat → Int32) × (Nat → Int32) × (Nat → Int32) × (Nat → Int32) × (Nat → Int32) × Int32)} {b : Nat} (h : obI D im A s H0) (hl : obFK cI im fk) (hb : A b) : fk b = none := by
  cases e : fk b with
  | none => rfl
  | some x =>
    obtain ⟨st, wo, nu, sa, en, cl⟩ := x
    obtain ⟨_, _, _, _, _, _, _, _, _, _, k, _, _, _, _, _, hk, _⟩ := hl _ _ _ _ _ _ _ e
    exact absurd hb (h.2.1 k _ hk)
theorem ob_notA {A0 : Nat → Prop} {D : va_G} {ws wc : va_W} {H : Heap} (hP : va_P D vwCl ws H) (hD : va_D A0 ws) (isC : List Nat) (hC : isC.map (fun i => ws[i]?) = wc.map some) {j : Nat} {x : Nat × va_E} (hx : ws[j]? = some x) (hj : j ∉ isC) : ¬ va_A wc H.size x.1 := by
  rintro (⟨k, e, h⟩ | h)
  · have h1 : (isC.map (fun i => ws[i]?))[k]? = some (some (x.1, e)) := by rw [hC, List.getElem?_map, h]; rfl
    rw [List.getElem?_map] at h1
    cases hi : isC[k]? with
    | none => rw [hi] at h1; cases h1
    | some i =>
      rw [hi] at h1
      have h2 : ws[i]? = some (x.1, e) := Option.some.inj h1
      have := hD.1 i j _ _ h2 hx rfl
      subst this
      exact hj (List.mem_of_getElem? hi)
  · exact absurd (hP j x hx).lt (Nat.not_lt.mpr h)
/-- the cells of a field that was made in a call: its six addresses, its numbers, its rows -/
abbrev obNFT : Type := (Nat × Nat × Nat × Nat × Nat × Nat) × (Int32 × Int32 × Int32 × Int32 × Int32) × ((Nat → Int32) × (Nat → Int32) × (Nat → Int32) × (Nat → Int32) × (Nat → Int32))
def obNF (cI : ClassId) (t : Nat) : Option obNFT → va_W
  | none => []
  | some ((a, q1, q2, q3, q4, q5), (pl, sc, cl, ga, fa), (st, wo, nu, sa, en)) => [(a, .inr (1, [.ref t, .ref q1, .ref q2, .ref q3, .ref q4, .ref q5, .int pl, .int sc, .int cl, .int ga, .int fa])), (q1, .inl (cI, 100, .inl st)), (q2, .inl (cI, 10, .inl wo)), (q3, .inl (cI, 10, .inl nu)), (q4, .inl (cI, 10, .inl sa)), (q5, .inl (cI, 10, .inl en))]
abbrev obNLT : Type := Nat × Nat × Int32 × Int32 × Int32
def obNL : Option obNLT → va_W
  | none => []
  | some (a, ci, n, v, t) => [(a, .inr (ci, [.int n, .int v, .int t]))]
