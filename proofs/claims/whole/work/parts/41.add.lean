theorem add_sim {B nw nt nx S k e : Nat} {σ τ : Store} (hR : BR B nw nt nx S σ τ) (hn : nw < 10) (hk : k < 6) (he : e < 256) (d q : Int32) :
    ∃ σ' τ', fX0_addWord B (nI k) (nI e) d q σ = some (nI nw, σ') ∧ fX9_comes (nI k) (nI e) d q τ = some (nI nw, τ') ∧ BR B (nw + 1) nt nx S σ' τ' ∧ fr8 B σ σ' ∧ fr9 τ τ' := by
  obtain ⟨⟨hV, hsz, h5, h7, hT⟩, ⟨i6, ⟨l, hl, hl4⟩, iw, ie, ih⟩, hS⟩ := hR
  have g3 : σ B 3 = nI nw := by rw [hV.head.2.2.2.2.2.1, h5]
  have z0 : ∀ f, f < 6 → cxo (8 + 6 * nw + f) = 3 + nw ∧ cxf (8 + 6 * nw + f) = f := cx_w nw hn
  let q0 := 8 + 6 * nw
  -- the class
  generalize hs1 : sup σ (B + (3 + nw)) 0 (nI k) = s1
  generalize hs2 : sup s1 (B + (3 + nw)) 1 (nI e) = s2
  generalize hs3 : sup s2 (B + (3 + nw)) 2 d = s3
  generalize hs4 : sup s3 (B + (3 + nw)) 3 q = s4
  generalize hs5 : sup s4 (B + (3 + nw)) 4 0 = s5
  generalize hs6 : sup s5 (B + (3 + nw)) 5 0 = s6
  generalize ht1 : sup τ 1 (8 + 6 * nw + 0) (nI k) = t1
  generalize ht2 : sup t1 1 (8 + 6 * nw + 1) (nI e) = t2
  generalize ht3 : sup t2 1 (8 + 6 * nw + 2) d = t3
  generalize ht4 : sup t3 1 (8 + 6 * nw + 3) q = t4
  generalize ht5 : sup t4 1 (8 + 6 * nw + 4) 0 = t5
  generalize ht6 : sup t5 1 (8 + 6 * nw + 5) 0 = t6
  have u1 : BdV s1 (t1 1) B nw nt := by rw [← hs1, ← ht1, sup_r]; exact hV.up hsz.1 hsz.2.1 (by omega) (z0 0 (by omega)).1 (z0 0 (by omega)).2 _
  have u2 : BdV s2 (t2 1) B nw nt := by rw [← hs2, ← ht2, sup_r]; exact u1.up hsz.1 hsz.2.1 (by omega) (z0 1 (by omega)).1 (z0 1 (by omega)).2 _
  have u3 : BdV s3 (t3 1) B nw nt := by rw [← hs3, ← ht3, sup_r]; exact u2.up hsz.1 hsz.2.1 (by omega) (z0 2 (by omega)).1 (z0 2 (by omega)).2 _
  have u4 : BdV s4 (t4 1) B nw nt := by rw [← hs4, ← ht4, sup_r]; exact u3.up hsz.1 hsz.2.1 (by omega) (z0 3 (by omega)).1 (z0 3 (by omega)).2 _
  have u5 : BdV s5 (t5 1) B nw nt := by rw [← hs5, ← ht5, sup_r]; exact u4.up hsz.1 hsz.2.1 (by omega) (z0 4 (by omega)).1 (z0 4 (by omega)).2 _
  have u6 : BdV s6 (t6 1) B nw nt := by rw [← hs6, ← ht6, sup_r]; exact u5.up hsz.1 hsz.2.1 (by omega) (z0 5 (by omega)).1 (z0 5 (by omega)).2 _
  have g6 : s6 B 3 = nI nw := by rw [← hs6, sup_j (by omega), ← hs5, sup_j (by omega), ← hs4, sup_j (by omega), ← hs3, sup_j (by omega), ← hs2, sup_j (by omega), ← hs1, sup_j (by omega), g3]
  have hv : ∀ f, f < 6 → s6 (B + (3 + nw)) f = t6 1 (8 + 6 * nw + f) := by
    intro f hf
    rw [← hs6, ← hs5, ← hs4, ← hs3, ← hs2, ← hs1, ← ht6, ← ht5, ← ht4, ← ht3, ← ht2, ← ht1]
    have : f = 0 ∨ f = 1 ∨ f = 2 ∨ f = 3 ∨ f = 4 ∨ f = 5 := by omega
    rcases this with rfl | rfl | rfl | rfl | rfl | rfl <;> simp [sup_e]
  have told : ∀ j, (j < 8 + 6 * nw ∨ 14 + 6 * nw ≤ j) → t6 1 j = τ 1 j := by
    intro j hj
    rw [← ht6, sup_k (by omega), ← ht5, sup_k (by omega), ← ht4, sup_k (by omega), ← ht3, sup_k (by omega), ← ht2, sup_k (by omega), ← ht1, sup_k (by omega)]
  have tnew : t6 1 (8 + 6 * nw) = nI k ∧ t6 1 (9 + 6 * nw) = nI e ∧ t6 1 (12 + 6 * nw) = nI 0 := by
    rw [← ht6, ← ht5, ← ht4, ← ht3, ← ht2, ← ht1]
    refine ⟨?_, ?_, ?_⟩ <;> simp [sup_e, show (9 + 6 * nw = 8 + 6 * nw + 1) by omega, show (12 + 6 * nw = 8 + 6 * nw + 4) by omega, nI_0]
  have f6 : fr8 B σ s6 := by
    rw [← hs6, ← hs5, ← hs4, ← hs3, ← hs2, ← hs1]
    exact (((((fr8.rf.up (by omega)).up (by omega)).up (by omega)).up (by omega)).up (by omega)).up (by omega)
  have f9 : fr9 τ t6 := by
    rw [← ht6, ← ht5, ← ht4, ← ht3, ← ht2, ← ht1]
    exact (((((fr9.rf.up (by omega)).up (by omega)).up (by omega)).up (by omega)).up (by omega)).up (by omega)
  refine ⟨sup s6 B 3 (nI nw + 1), sup t6 1 5 (nI nw + 1), ?_, ?_, ⟨⟨?_, ⟨by omega, hsz.2⟩, ?_, ?_, ?_⟩, ⟨?_, ⟨l, ?_, ?_⟩, ?_, ?_, ?_⟩, ?_⟩, f6.up (o := 0) (by omega), f9.up (by omega)⟩
  · unfold fX0_addWord
    rw [g3, six_e (by omega) (by omega), wrd_e (by omega)]
    simp only [slt_e]
    rw [hs1, hs2, hs3, hs4, hs5, hs6, g6]
  · unfold fX9_comes
    rw [l_5, six_e (by omega) (by omega), slt_e, snx_e (by omega), h5, slt_e, l_8, l_6, pk_mul, nI_add, l_0, l_1, l_2, l_3, l_4]
    simp (disch := omega) only [slt_e, six_e, snx_e, nI_add]
    rw [← l_0, ht1, ht2, ht3, ht4, ht5, ht6, told 5 (by omega), h5, nI_add]
  · have u7 : BdV (sup s6 (B + 0) 3 (nI nw + 1)) (upd (t6 1) 5 (nI nw + 1)) B nw nt := u6.up hsz.1 hsz.2.1 (q0 := 5) (by omega) rfl rfl _
    rw [sup_r]
    intro x hx
    by_cases hx2 : liv nw nt x
    · exact u7 x hx2
    · have hx3 : ∃ f, f < 6 ∧ x = 8 + 6 * nw + f := ⟨x - (8 + 6 * nw), by unfold liv at hx hx2; omega, by unfold liv at hx hx2; omega⟩
      obtain ⟨f, hf, rfl⟩ := hx3
      rw [(z0 f hf).1, (z0 f hf).2, sup_j (by omega), upd_n (by omega), hv f hf]
  · rw [sup_s, nI_1]
  · rw [sup_k (by omega), told 7 (by omega), h7]
  · intro y hy
    rw [sup_r]
    exact (hT y hy).same (by rw [sup_o (by omega)]; exact f6 _ (by omega) (by omega)) (by rw [sup_o (by omega)]; exact f6 _ (by omega) (by omega)) (by rw [sup_o (by omega)]; exact f6 _ (by omega) (by omega)) (by rw [sup_o (by omega)]; exact f6 _ (by omega) (by omega)) (fun z hz => by rw [upd_n (by omega), told z (by omega)])
  · rw [sup_k (by omega), told 6 (by omega), i6]
  · exact Nat.lt_of_lt_of_le hl (Nat.pow_le_pow_right (by omega) (by omega))
  · rw [sup_k (by omega), told 4 (by omega), hl4]
  · intro w hw
    rw [sup_k (by omega)]
    by_cases h : w = nw
    · subst h; exact ⟨k, hk, tnew.1⟩
    · rw [told _ (by omega)]; exact iw w (by omega)
  · intro w hw
    rw [sup_k (by omega)]
    by_cases h : w = nw
    · subst h; exact ⟨e, he, tnew.2.1⟩
    · rw [told _ (by omega)]; exact ie w (by omega)
  · intro t ht
    rw [sup_k (by omega), told _ (by omega)]
    obtain ⟨h, h1, h2⟩ := ih t ht
    exact ⟨h, Nat.lt_of_lt_of_le h1 (Nat.pow_le_pow_right (by omega) (by omega)), h2⟩
  · intro w hw
    rw [sup_k (by omega)]
    by_cases h : w = nw
    · subst h; exact ⟨0, by omega, tnew.2.2⟩
    · rw [told _ (by omega)]; exact hS w (by omega)
