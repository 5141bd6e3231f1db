/-! text -/
theorem Rel.txt0 {S nw nt nx : Nat} {σ τ σ' τ' : Store} (hX : Rst S nx σ τ) (hD : DyO (τ 1)) (hR : BR 57 nw nt nx S σ τ) (c0 : ∀ j, j ≠ 0 → j ≠ 24 → j ≠ 25 → σ' j = σ j) (e0 : ∀ k, k ≠ 10 → σ' 0 k = σ 0 k) (d0 : ∀ j, j ≠ 0 → j ≠ 8 → τ' j = τ j) (f2 : τ' 0 2 = τ 0 2) (f28 : τ' 0 28 = τ 0 28) (z1 : σ' 0 10 = 0) (z2 : τ' 0 6 = 0) : Rel S σ' τ' := by
  obtain ⟨i1, i2, i3, i4, i5⟩ := hX
  have c1 (j : Nat) (h : (0 < j ∧ j < 24) ∨ 25 < j) : σ' j = σ j := c0 j (by omega) (by omega) (by omega)
  have d1 (j : Nat) (h : (0 < j ∧ j < 8) ∨ 8 < j) : τ' j = τ j := d0 j (by omega) (by omega)
  exact ⟨nw, nt, nx, hR.same (fun j hj => c1 j (by omega)) (d1 1 (by omega)), by rw [d1 1 (by omega)]; exact hD, i1.same (e0 12 (by omega)) f2 (fun j hj => c1 j (by omega)) (d1 2 (by omega)), ⟨0, by omega, z1, z2, fun k hk => absurd hk (by omega)⟩, fun s hs => (i3 s hs).same (c1 _ (by omega)) (c1 _ (by omega)) (d1 _ (by omega)) (d1 _ (by omega)) (d1 _ (by omega)), fun s hs => (i4 s hs).same (c1 _ (by omega)) (c1 _ (by omega)) (c1 _ (by omega)) (c1 _ (by omega)) (d1 _ (by omega)) (d1 _ (by omega)), i5.same (e0 11 (by omega)) f28 (c1 56 (by omega)) (d1 17 (by omega))⟩
theorem TxR.at {σ σ' : Store} {g g' : Nat → Int32} {x : Nat} (h : TxR σ g x) (h17 : σ' 17 x = σ 17 x) (h18 : σ' 18 x = σ 18 x) (h19 : σ' 19 x = σ 19 x) (hx : σ' (3 + x) = σ (3 + x)) (hg : ∀ q, 80 + 100 * x ≤ q → q < 180 + 100 * x → g' q = g q) : TxR σ' g' x := by
  obtain ⟨ky, len, a1, a2, a3, a4, a5, a6, a7, a8, a9, a10, a11⟩ := h
  refine ⟨ky, len, a1, a2, a3, by rw [h18, a4], by rw [hg _ (by omega) (by omega), a5], by rw [h19, hg _ (by omega) (by omega), a6], by rw [h17, a7], by rw [hg _ (by omega) (by omega), a8], fun k hk => ?_, fun k hk => ?_, ?_⟩
  · rw [hx, hg _ (by omega) (by omega)]; exact a9 k hk
  · rw [hx]; exact a10 k hk
  · rw [hx]; exact a11
theorem store9 {x len : Nat} (hx : x < 14) (hl : len ≤ 96) (K : Int32 → Store → Option (Int32 × Store)) : ∀ (m i n : Nat) (τ : Store), i + m = len → m < n → τ 0 17 = nI len → ∃ τ', fX9_text_L87 (nI (80 + 100 * x)) K n (nI i) τ = K (nI len) τ' ∧ (∀ j, j ≠ 1 → τ' j = τ j) ∧ ∀ q, τ' 1 q = if 83 + 100 * x + i ≤ q ∧ q < 83 + 100 * x + len then τ 8 (q - (83 + 100 * x)) else τ 1 q := by
  intro m
  induction m with
  | zero =>
    intro i n τ hi hn h17
    obtain rfl : i = len := by omega
    obtain ⟨n, rfl⟩ : ∃ k, n = k + 1 := ⟨n - 1, by omega⟩
    exact ⟨τ, by rw [fX9_text_L87, h17, if_pos (Int32.le_refl _)], fun _ _ => rfl, fun q => by rw [if_neg (by omega)]⟩
  | succ m ih =>
    intro i n τ hi hn h17
    obtain ⟨n, rfl⟩ : ∃ k, n = k + 1 := ⟨n - 1, by omega⟩
    obtain ⟨τ', a1, a2, a3⟩ := ih (i + 1) n (sup τ 1 (80 + 100 * x + 3 + i) (τ 8 i)) (by omega) (by omega) (by rw [sup_j (by omega), h17])
    refine ⟨τ', ?_, fun j hj => by rw [a2 j hj, sup_o hj], fun q => ?_⟩
    · rw [fX9_text_L87, h17, if_neg (nI_ge (by omega) (by omega)), l_3, nI_add, nI_add, six_e (k := i) (by omega) (by omega), six_e (k := 80 + 100 * x + 3 + i) (by omega) (by omega), slt_e, snx_e (k := i) (by omega), snx_e (k := 80 + 100 * x + 3 + i) (by omega), nI_1]
      exact a1
    · rw [a3 q, sup_j (j' := 8) (by omega), sup_e]
      by_cases h1 : q = 80 + 100 * x + 3 + i
      · subst h1; rw [if_neg (by omega), if_pos ⟨rfl, rfl⟩, if_pos (by omega), show 80 + 100 * x + 3 + i - (83 + 100 * x) = i by omega]
      · by_cases h2 : 83 + 100 * x + i ≤ q ∧ q < 83 + 100 * x + len
        · rw [if_pos (by omega), if_pos h2]
        · rw [if_neg (by omega), if_neg (fun z => h1 z.2), if_neg h2]
theorem store8 {x len : Nat} {σ : Store} (hx : x < 14) (hl : len ≤ 96) (h1 : σ 24 1 = nI len) : ∃ σ', fX1_becomes (nI x) σ = some σ' ∧ (∀ j, j ≠ 3 + x → j ≠ 17 → j ≠ 18 → j ≠ 19 → σ' j = σ j) ∧ (∀ k, k < len → σ' (3 + x) k = σ 25 k) ∧ (∀ k, k ≠ x → σ' 17 k = σ 17 k ∧ σ' 18 k = σ 18 k ∧ σ' 19 k = σ 19 k) ∧ σ' 17 x = nI len ∧ σ' 18 x = σ 24 2 ∧ σ' 19 x = σ 24 3 := by
  unfold fX1_becomes scp
  rw [six_e (by omega) (by omega), stp_e (by omega), h1, show snx (0 : Int32) = 0 from rfl, snx_e (by omega), if_pos ⟨by decide, by decide, nI_n0 (by omega), by omega, by omega⟩]
  have r1 : ∀ (X : Nat → Int32) (j : Nat), j ≠ 3 + x → srow σ (3 + x) X j = σ j := fun X j hj => by unfold srow; rw [if_neg hj]
  have r2 : ∀ (X : Nat → Int32), srow σ (3 + x) X (3 + x) = X := fun X => by unfold srow; rw [if_pos rfl]
  dsimp only
  simp only [six_e (show x < 14 from hx) (show 14 ≤ 4096 by omega), slt_e, snx_e (show x < 4096 by omega)]
  rw [r1 _ 24 (by omega), h1]
  refine ⟨_, rfl, fun j a b c d => ?_, fun k hk => ?_, fun k hk => ⟨?_, ?_, ?_⟩, ?_, ?_, ?_⟩
  · rw [sup_o d, sup_o c, sup_o b, r1 _ j a]
  · rw [sup_o (by omega), sup_o (by omega), sup_o (by omega), r2]
    unfold va_cpy
    rw [if_pos (by omega)]; simp
  · rw [sup_o (by omega), sup_o (by omega), sup_k hk, r1 _ 17 (by omega)]
  · rw [sup_o (by omega), sup_k hk, sup_o (by omega), r1 _ 18 (by omega)]
  · rw [sup_k hk, sup_o (by omega), sup_o (by omega), r1 _ 19 (by omega)]
  · rw [sup_j (by omega), sup_j (by omega), sup_s]
  · rw [sup_j (by omega), sup_s, sup_j (by omega), r1 _ 24 (by omega)]
  · rw [sup_s, sup_j (by omega), sup_j (by omega), r1 _ 24 (by omega)]
