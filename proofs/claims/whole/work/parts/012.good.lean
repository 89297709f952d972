theorem wsL_gw : wsL_law.all goodWord = true := by decide +kernel
theorem goodU : GoodIn wsL_law wsL_law := fun w h => ⟨h, good_of_word (List.all_eq_true.mp wsL_gw w h)⟩
theorem goodU_c {w : Cond} (hw : w ∈ wsL_law) : GoodIn wsL_law (w :: wsL_law) := fun x h => (List.mem_cons.mp h).elim (fun e => e ▸ goodU w hw) (goodU x)
theorem gU_V {own : String} {idx : Nat} {C : String} {y' : MethodName} {c' : ByteArray} {mL : Nat} {rt : Option FieldType} (h1 : Cond.methodLink own idx y' ∈ wsL_law) (h2 : Cond.instanceMethod y' ∈ wsL_law) (h3 : Cond.selects C y' y' ∈ wsL_law) (h4 : Cond.initialized C ∈ wsL_law) (h5 : Cond.code y' c' mL rt ∈ wsL_law) : GoodIn wsL_law (wsV own idx C y' (Cond.code y' c' mL rt :: wsL_law)) := by
  intro w hw
  simp only [wsV, List.cons_append, List.nil_append, List.mem_cons] at hw
  rcases hw with rfl | rfl | rfl | rfl | rfl | h
  · exact goodU _ h1
  · exact goodU _ h2
  · exact goodU _ h3
  · exact goodU _ h4
  · exact goodU _ h5
  · exact goodU _ h
