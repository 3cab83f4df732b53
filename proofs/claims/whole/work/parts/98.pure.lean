theorem law_pure (xs : Nat → Int32) (Ls : Nat) (hL : Ls ≤ 2560) (sz : Nat) : ∃ (w : mg_H) (kc ks : Nat), fL_law xs Ls (fun _ => none) sz = some (1, w, kc, ks) ∧ kc ≤ 600000 ∧ ks ≤ 7302250 := sorry
theorem mg_nest_in : ∀ q ∈ mg_nest, Cond.methodLinkNest q.1 q.2.1 q.2.2.1 q.2.2.2 ∈ lw_tbl := by decide +kernel
