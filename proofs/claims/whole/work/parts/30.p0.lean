/-! PURE: numbers, and the smallest methods -/
theorem ixc {c : Int32} {k p : Nat} (hc : c = nI k) (h : k + p < 2 ^ 31) : (c + nI p).toNatClampNeg = k + p := by rw [hc, nI_add, nI_clamp h]
theorem vpc {c : Int32} {k p N : Nat} (hc : c = nI k) (h : k + p < N) (hN : N < 2 ^ 31) : vp_in (c + nI p) N := by rw [hc, nI_add]; exact vp_in_nI h hN
theorem q_in {v lo hi : Int32} {Q : Int32 → Prop} (h1 : ¬ v < lo → ¬ hi < v → Q 1) (h0 : v < lo ∨ hi < v → Q 0) : m_X12_in v lo hi Q := by
  unfold m_X12_in
  exact ⟨fun c => h0 (Or.inl c), fun c => ⟨fun d => h0 (Or.inr d), fun d => h1 c d⟩⟩
def backN (ki h r : Nat) : Nat := if ki = 1 ∨ ki = 4 then h / 2 else if ki = 2 ∨ ki = 5 then h + 2 else if ki = 6 then r else h
def paceN (ki v b : Nat) : Nat := if ki = 3 ∨ ki = 6 then (if v < b then 8 else 5) else if ki = 4 then 3 else if ki = 5 then 5 + v else 5
theorem ki_cases {ki : Nat} (h : ki ≤ 6) : ki = 0 ∨ ki = 1 ∨ ki = 2 ∨ ki = 3 ∨ ki = 4 ∨ ki = 5 ∨ ki = 6 := by omega
theorem nI_half {h : Nat} (h9 : h < 2 ^ 31) : nI h / 2 = nI (h / 2) := by
  rw [show (2 : Int32) = nI 2 from rfl]
  exact pk_div h9 (by decide) (by decide)
theorem nI_mod3 {t : Nat} (ht : t < 2 ^ 31) : nI t - nI t / 3 * 3 = nI (t % 3) := by
  rw [show (3 : Int32) = nI 3 from rfl]
  exact pk_rem ht (by decide) (by decide)
theorem q_backM {s : Nat → Int32} {p ki h r t : Nat} {Q : Int32 → Prop} (hp : p < 7) (hk : s (24 + p) = nI ki) (hki : ki ≤ 6) (hh : s (38 + p) = nI h) (hh9 : h ≤ 9) (ht : s 0 = nI t) (ht9 : t < 2 ^ 20) (hr : s (45 + 3 * p + t % 3) = nI r) (hQ : Q (nI (backN ki h r))) : m_X12_backOf s (nI p) Q := by
  unfold m_X12_backOf
  have e38 : ((38 : Int32) + nI p).toNatClampNeg = 38 + p := ixc rfl (by omega)
  have e24 : ((24 : Int32) + nI p).toNatClampNeg = 24 + p := ixc rfl (by omega)
  have e0 : s (0 : Int32).toNatClampNeg = nI t := ht
  have hm : t % 3 < 3 := Nat.mod_lt _ (by decide)
  have e45 : ((45 : Int32) + (3 : Int32) * nI p) + (s (0 : Int32).toNatClampNeg - s (0 : Int32).toNatClampNeg / (3 : Int32) * (3 : Int32)) = nI (45 + 3 * p + t % 3) := by
    rw [e0, nI_mod3 (by omega), show (3 : Int32) = nI 3 from rfl, show (45 : Int32) = nI 45 from rfl, pk_mul, nI_add, nI_add]
  refine ⟨vpc (k := 38) rfl (by omega) (by decide), fun x1 e1 => ⟨vpc (k := 24) rfl (by omega) (by decide), fun x2 e2 => ?_⟩⟩
  rw [e38, hh] at e1
  rw [e24, hk] at e2
  rw [e45, nI_clamp (by omega), hr]
  subst e1
  subst e2
  rw [nI_half (by omega), show (2 : Int32) = nI 2 from rfl, nI_add]
  have hv : vp_in (nI (45 + 3 * p + t % 3)) 903 := vp_in_nI (by omega) (by decide)
  rcases ki_cases hki with rfl | rfl | rfl | rfl | rfl | rfl | rfl
  · exact ⟨fun c => absurd c (by decide), fun c => absurd c (by decide), fun c => absurd c (by decide), fun c => absurd c (by decide), fun c => absurd c (by decide), fun c => absurd c (by decide), fun _ => hQ⟩
  · exact ⟨fun _ => hQ, fun c => absurd c (by decide), fun c => absurd c (by decide), fun c => absurd c (by decide), fun c => absurd c (by decide), fun c => absurd c (by decide), fun c => absurd c (by decide)⟩
  · exact ⟨fun c => absurd c (by decide), fun _ => hQ, fun c => absurd c (by decide), fun c => absurd c (by decide), fun c => absurd c (by decide), fun c => absurd c (by decide), fun c => absurd c (by decide)⟩
  · exact ⟨fun c => absurd c (by decide), fun c => absurd c (by decide), fun _ => hQ, fun c => absurd c (by decide), fun c => absurd c (by decide), fun c => absurd c (by decide), fun c => absurd c (by decide)⟩
  · exact ⟨fun c => absurd c (by decide), fun c => absurd c (by decide), fun c => absurd c (by decide), fun _ => hQ, fun c => absurd c (by decide), fun c => absurd c (by decide), fun c => absurd c (by decide)⟩
  · exact ⟨fun c => absurd c (by decide), fun c => absurd c (by decide), fun c => absurd c (by decide), fun c => absurd c (by decide), fun _ => hQ, fun c => absurd c (by decide), fun c => absurd c (by decide)⟩
  · exact ⟨fun c => absurd c (by decide), fun c => absurd c (by decide), fun c => absurd c (by decide), fun c => absurd c (by decide), fun c => absurd c (by decide), fun _ => ⟨hv, hQ⟩, fun c => absurd c (by decide)⟩
/-- the class's side: BACK by the leaper's class -/
theorem q_backV {lk : Nat → Option (Nat × Int32 × Int32 × Int32)} {a p ki v h r : Nat} {Q : Int32 → Prop} (hl : lk a = some (obCi (nI ki), nI p, nI v, nI h)) (hki : ki ≤ 6) (hh9 : h ≤ 9) (hQ : Q (nI (backN ki h r))) : m_V_back lk a (nI r) Q := by
  refine ⟨_, _, _, _, hl, ?_⟩
  have b4 : ∀ Q' : Int32 → Prop, Q' (nI h) → m_X4_back lk a (nI r) Q' := fun Q' q => ⟨_, _, _, _, hl, q⟩
  have b6 : ∀ Q' : Int32 → Prop, Q' (nI (h / 2)) → m_X6_back lk a (nI r) Q' := fun Q' q => ⟨_, _, _, _, hl, by rw [nI_half (by omega)]; exact q⟩
  have b3 : ∀ Q' : Int32 → Prop, Q' (nI (h + 2)) → m_X3_back lk a (nI r) Q' := fun Q' q => ⟨_, _, _, _, hl, by rw [show (2 : Int32) = nI 2 from rfl, nI_add]; exact q⟩
  rcases ki_cases hki with rfl | rfl | rfl | rfl | rfl | rfl | rfl
  · exact ⟨fun c => absurd c (by decide), fun c => absurd c (by decide), fun c => absurd c (by decide), fun _ => b4 _ hQ, fun c => absurd c (by decide), fun c => absurd c (by decide), fun c => absurd c (by decide)⟩
  · exact ⟨fun c => absurd c (by decide), fun c => absurd c (by decide), fun c => absurd c (by decide), fun c => absurd c (by decide), fun _ => b6 _ hQ, fun c => absurd c (by decide), fun c => absurd c (by decide)⟩
  · exact ⟨fun c => absurd c (by decide), fun c => absurd c (by decide), fun _ => b3 _ hQ, fun c => absurd c (by decide), fun c => absurd c (by decide), fun c => absurd c (by decide), fun c => absurd c (by decide)⟩
  · exact ⟨fun _ => b4 _ hQ, fun c => absurd c (by decide), fun c => absurd c (by decide), fun c => absurd c (by decide), fun c => absurd c (by decide), fun c => absurd c (by decide), fun c => absurd c (by decide)⟩
  · exact ⟨fun c => absurd c (by decide), fun c => absurd c (by decide), fun c => absurd c (by decide), fun c => absurd c (by decide), fun c => absurd c (by decide), fun _ => b6 _ hQ, fun c => absurd c (by decide)⟩
  · exact ⟨fun c => absurd c (by decide), fun _ => b3 _ hQ, fun c => absurd c (by decide), fun c => absurd c (by decide), fun c => absurd c (by decide), fun c => absurd c (by decide), fun c => absurd c (by decide)⟩
  · exact ⟨fun c => absurd c (by decide), fun c => absurd c (by decide), fun c => absurd c (by decide), fun c => absurd c (by decide), fun c => absurd c (by decide), fun c => absurd c (by decide), fun _ => hQ⟩
