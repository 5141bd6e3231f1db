theorem ImR.same {S nx : Nat} {σ τ σ' τ' : Store} (h : ImR S nx σ τ) (h1 : σ' 0 12 = σ 0 12) (h2 : τ' 0 2 = τ 0 2) (h3 : ∀ j, (3 ≤ j ∧ j < 20) ∨ (76 ≤ j ∧ j < 95) → σ' j = σ j) (h4 : τ' 2 = τ 2) : ImR S nx σ' τ' := by
  obtain ⟨b, b1, b2, b3⟩ := h
  refine ⟨b, by rw [h1, b1], by rw [h2, b2], fun z => ?_⟩
  obtain ⟨x, y, u, v, w, w2⟩ := b3 z
  rw [h4]
  exact ⟨x, y, u, v, ⟨w.1.same h3, w.2⟩, w2⟩
theorem TaR.same {σ τ σ' τ' : Store} (h : TaR σ τ) (h1 : σ' 0 10 = σ 0 10) (h2 : τ' 0 6 = τ 0 6) (h3 : σ' 23 = σ 23) (h4 : τ' 5 = τ 5) : TaR σ' τ' := by
  unfold TaR
  rw [h1, h2, h3, h4]
  exact h
theorem ShR.same {σ τ σ' τ' : Store} {s : Nat} (h : ShR σ τ s) (h1 : σ' (27 + s) = σ (27 + s)) (h2 : σ' (31 + s) = σ (31 + s)) (h3 : τ' 11 = τ 11) (h4 : τ' 12 = τ 12) (h5 : τ' 13 = τ 13) : ShR σ' τ' s := by
  unfold ShR
  rw [h1, h2, h3, h4, h5]
  exact h
theorem SlR.same {σ τ σ' τ' : Store} {s : Nat} (h : SlR σ τ s) (h1 : σ' (36 + s) = σ (36 + s)) (h2 : σ' (41 + s) = σ (41 + s)) (h3 : σ' (46 + s) = σ (46 + s)) (h4 : σ' (51 + s) = σ (51 + s)) (h5 : τ' 15 = τ 15) (h6 : τ' 16 = τ 16) : SlR σ' τ' s := by
  unfold SlR
  rw [h1, h2, h3, h4, h5, h6]
  exact h
theorem WaR.same {σ τ σ' τ' : Store} (h : WaR σ τ) (h1 : σ' 0 11 = σ 0 11) (h2 : τ' 0 28 = τ 0 28) (h3 : σ' 56 = σ 56) (h4 : τ' 17 = τ 17) : WaR σ' τ' := by
  unfold WaR
  rw [h1, h2, h3, h4]
  exact h
theorem BR.same {B nw nt nx S : Nat} {σ τ σ' τ' : Store} (h : BR B nw nt nx S σ τ) (h1 : ∀ j, (3 ≤ j ∧ j < 20) ∨ (B ≤ j ∧ j < B + 19) → σ' j = σ j) (h2 : τ' 1 = τ 1) : BR B nw nt nx S σ' τ' := ⟨by rw [h2]; exact h.1.same h1, by rw [h2]; exact h.2.1, by rw [h2]; exact h.2.2⟩
/-- the tape, the numbers that wait: cells that no border holds -/
def z8 (σ σ' : Store) : Prop := ∀ j, (3 ≤ j ∧ j < 20) ∨ (57 ≤ j ∧ j < 95) → σ' j = σ j
theorem TxR.cong {σ : Store} {g g' : Nat → Int32} {x : Nat} (hx : x < 14) (h : TxR σ g x) (hg : ∀ q, q < 1480 → g' q = g q) : TxR σ g' x := by
  unfold TxR at h ⊢
  obtain ⟨ky, len, h1, h2, h3, a1, a2, a3, a4, a5, a6, a7⟩ := h
  exact ⟨ky, len, h1, h2, h3, a1, by rw [hg _ (by omega), a2], by rw [hg _ (by omega), a3], a4, by rw [hg _ (by omega), a5], fun k hk => by rw [hg _ (by omega)]; exact a6 k hk, a7⟩
theorem BG.cong {B nw nt nx S : Nat} {σ : Store} {g g' : Nat → Int32} (h : BG B nw nt nx S σ g) (hg : ∀ q, q < 1480 → g' q = g q) : BG B nw nt nx S σ g' := by
  obtain ⟨⟨hV, hsz, h5, h7, hT⟩, hI, hS⟩ := h
  exact ⟨⟨hV.same hsz.1 hsz.2.1 (fun _ _ _ => rfl) (fun q hq => hg q (by omega)), hsz, by rw [hg 5 (by omega), h5], by rw [hg 7 (by omega), h7], fun x hx => (hT x hx).cong (by omega) hg⟩, hI.same hsz.1 hsz.2.1 (fun q hq => hg q (by omega)), fun w hw => by rw [hg _ (by omega)]; exact hS w hw⟩
theorem o_keep {S : Nat} {σ τ : Store} (R : Rel S σ τ) : ∃ r σ' τ', fX8_keep σ = some (r, σ') ∧ fX9_keep τ = some (r, τ') ∧ Rel S σ' τ' := by
  obtain ⟨nw, nt, nx, hR, hD, hX⟩ := R
  have hsz := hR.1.2.1
  obtain ⟨σ1, a1, a2, a3⟩ := bec_sim (A := 76) (B := 57) (σ := σ) (g := τ 1) hR (by omega) (by omega)
  obtain ⟨τ1, b1, b2, b3, b4⟩ := copy_e (a := 1) (b := 2) (na := 1480) (nb := 1480) (N := 1480) (by omega) (by omega) (by omega) (by omega) (by omega) τ
  unfold fX8_keep fX9_keep
  rw [a1, sbd_e, slt_e, show fX9_copyRow 1 1480 2 1480 (1480 : Int32) τ = _ from b1, sbd_e, slt_e, l_5, six_e (by omega) (by omega), snx_e (by omega), sup_j (by omega), sup_j (by omega), a2.1.1.head.2.2.2.2.2.1, a2.1.2.2.1, b2 1 (by omega), hR.1.2.2.1]
  have hi : BG 76 nw nt nx S σ1 (τ1 2) := a2.cong b4
  have c0 : ∀ j, j ≠ 0 → ¬ (76 ≤ j ∧ j < 95) → sup σ1 0 12 (b2i true) j = σ j := fun j h1 h2 => by rw [sup_o h1, a3 j (by omega)]
  have d0 : ∀ j, j ≠ 0 → j ≠ 2 → sup τ1 0 2 (b2i true) j = τ j := fun j h1 h2 => by rw [sup_o h1, b2 j h2]
  have e0 : ∀ k, k ≠ 12 → sup σ1 0 12 (b2i true) 0 k = σ 0 k := fun k h => by rw [sup_k h, a3 0 (by omega)]
  have f0 : ∀ k, k ≠ 2 → sup τ1 0 2 (b2i true) 0 k = τ 0 k := fun k h => by rw [sup_k h, b2 0 (by omega)]
  obtain ⟨i1, i2, i3, i4, i5⟩ := hX
  refine ⟨_, _, _, rfl, rfl, nw, nt, nx, hR.same (fun j hj => c0 j (by omega) (by omega)) (d0 1 (by omega) (by omega)), by rw [d0 1 (by omega) (by omega)]; exact hD, ⟨true, sup_s, sup_s, fun _ => ⟨nw, nt, nx, Nat.le_refl _, ?_, ?_⟩⟩, i2.same (e0 10 (by omega)) (f0 6 (by omega)) (c0 23 (by omega) (by omega)) (d0 5 (by omega) (by omega)), fun s hs => (i3 s hs).same (c0 _ (by omega) (by omega)) (c0 _ (by omega) (by omega)) (d0 _ (by omega) (by omega)) (d0 _ (by omega) (by omega)) (d0 _ (by omega) (by omega)), fun s hs => (i4 s hs).same (c0 _ (by omega) (by omega)) (c0 _ (by omega) (by omega)) (c0 _ (by omega) (by omega)) (c0 _ (by omega) (by omega)) (d0 _ (by omega) (by omega)) (d0 _ (by omega) (by omega)), i5.same (e0 11 (by omega)) (f0 28 (by omega)) (c0 56 (by omega) (by omega)) (d0 17 (by omega) (by omega))⟩
  · rw [sup_o (by omega)]
    exact ⟨hi.1.same (fun j hj => sup_o (by omega)), hi.2⟩
  · rw [sup_o (by omega)]
    obtain ⟨d, h1, h2⟩ := hD
    exact ⟨d, h1, by rw [b4 1 (by omega), h2]⟩
theorem o_back {S : Nat} {σ τ : Store} (R : Rel S σ τ) : ∃ r σ' τ', fX8_back σ = some (r, σ') ∧ fX9_back τ = some (r, τ') ∧ Rel S σ' τ' := by
  obtain ⟨nw, nt, nx, hR, hD, hX⟩ := R
  have hX0 := hX
  obtain ⟨⟨b, g1, g2, g3⟩, i2, i3, i4, i5⟩ := hX
  unfold fX8_back fX9_back
  rw [g1, g2]
  cases b with
  | false =>
    rw [if_neg (by decide), if_neg (by decide)]
    exact ⟨_, _, _, rfl, rfl, ⟨_, _, _, hR, hD, hX0⟩⟩
  | true =>
    rw [if_pos (by decide), if_pos (by decide)]
    obtain ⟨nw', nt', nx', hle, hG, hD2⟩ := g3 rfl
    obtain ⟨σ1, a1, a2, a3⟩ := bec_sim (A := 57) (B := 76) (σ := σ) (g := τ 2) hG (by omega) (by omega)
    obtain ⟨τ1, b1, b2, b3, b4⟩ := copy_e (a := 2) (b := 1) (na := 1480) (nb := 1480) (N := 1480) (by omega) (by omega) (by omega) (by omega) (by omega) τ
    have hi : BG 57 nw' nt' nx' S σ1 (τ1 1) := a2.cong b4
    rw [a1, sbd_e, show fX9_copyRow 2 1480 1 1480 (1480 : Int32) τ = _ from b1, sbd_e, l_5, six_e (by omega) (by omega), snx_e (by omega), hi.1.1.head.2.2.2.2.2.1]
    have c0 : ∀ j, ¬ (57 ≤ j ∧ j < 76) → σ1 j = σ j := fun j h2 => by rw [a3 j (by omega)]
    have hTx : ∀ {nx2}, nx2 ≤ nx' → True := fun _ => trivial
    refine ⟨_, _, _, rfl, rfl, nw', nt', nx', hi, ?_, ⟨true, by rw [c0 0 (by omega), g1], by rw [b2 0 (by omega), g2], fun _ => ⟨nw', nt', nx', Nat.le_refl _, ?_, ?_⟩⟩, i2.same (by rw [c0 0 (by omega)]) (by rw [b2 0 (by omega)]) (c0 23 (by omega)) (b2 5 (by omega)), fun s hs => (i3 s hs).same (c0 _ (by omega)) (c0 _ (by omega)) (b2 _ (by omega)) (b2 _ (by omega)) (b2 _ (by omega)), fun s hs => (i4 s hs).same (c0 _ (by omega)) (c0 _ (by omega)) (c0 _ (by omega)) (c0 _ (by omega)) (b2 _ (by omega)) (b2 _ (by omega)), i5.same (by rw [c0 0 (by omega)]) (by rw [b2 0 (by omega)]) (c0 56 (by omega)) (b2 17 (by omega))⟩
    · obtain ⟨d, h1, h2⟩ := hD2
      exact ⟨d, h1, by rw [b4 1 (by omega), h2]⟩
    · rw [b2 2 (by omega)]
      exact ⟨hG.1.same (fun j hj => c0 j (by omega)), hG.2⟩
    · rw [b2 2 (by omega)]; exact hD2
theorem o_tell {S : Nat} {σ τ : Store} (R : Rel S σ τ) (a : Int32) : ∃ r σ' τ', fX8_tell a σ = some (r, σ') ∧ fX9_tell a τ = some (r, τ') ∧ Rel S σ' τ' := by
  obtain ⟨nw, nt, nx, hR, hD, hX⟩ := R
  have hX0 := hX
  obtain ⟨i1, i2, i3, i4, ⟨n, n1, n2, n3, n4⟩⟩ := hX
  unfold fX8_tell fX9_tell
  rw [n2, n3]
  by_cases hn : n < 60
  · rw [if_pos (show nI n < (60 : Int32) from nI_lt (b := 60) hn (by omega)), if_pos (fun z => by have := nI_inj (b := 60) (by omega) (by omega) z; omega), six_e (by omega) (by omega), six_e (by omega) (by omega), slt_e, slt_e, slt_e, slt_e, snx_e (by omega), sup_s, sup_s, sup_j (σ := σ) (by omega), sup_j (σ := τ) (by omega), n2, n3, nI_1]
    have c0 : ∀ j, j ≠ 0 → j ≠ 56 → sup (sup σ 56 n a) 0 11 (nI (n + 1)) j = σ j := fun j h1 h2 => by rw [sup_o h1, sup_o h2]
    have d0 : ∀ j, j ≠ 0 → j ≠ 17 → sup (sup τ 17 n a) 0 28 (nI (n + 1)) j = τ j := fun j h1 h2 => by rw [sup_o h1, sup_o h2]
    have e0 : ∀ k, k ≠ 11 → sup (sup σ 56 n a) 0 11 (nI (n + 1)) 0 k = σ 0 k := fun k h => by rw [sup_k h, sup_j (by omega)]
    have f0 : ∀ k, k ≠ 28 → sup (sup τ 17 n a) 0 28 (nI (n + 1)) 0 k = τ 0 k := fun k h => by rw [sup_k h, sup_j (by omega)]
    refine ⟨_, _, _, rfl, rfl, nw, nt, nx, hR.same (fun j hj => c0 j (by omega) (by omega)) (d0 1 (by omega) (by omega)), by rw [d0 1 (by omega) (by omega)]; exact hD, i1.same (e0 12 (by omega)) (f0 2 (by omega)) (fun j hj => c0 j (by omega) (by omega)) (d0 2 (by omega) (by omega)), i2.same (e0 10 (by omega)) (f0 6 (by omega)) (c0 23 (by omega) (by omega)) (d0 5 (by omega) (by omega)), fun s hs => (i3 s hs).same (c0 _ (by omega) (by omega)) (c0 _ (by omega) (by omega)) (d0 _ (by omega) (by omega)) (d0 _ (by omega) (by omega)) (d0 _ (by omega) (by omega)), fun s hs => (i4 s hs).same (c0 _ (by omega) (by omega)) (c0 _ (by omega) (by omega)) (c0 _ (by omega) (by omega)) (c0 _ (by omega) (by omega)) (d0 _ (by omega) (by omega)) (d0 _ (by omega) (by omega)), ⟨n + 1, by omega, sup_s, sup_s, fun k hk => ?_⟩⟩
    rw [sup_j (j := 0) (by omega), sup_j (j := 0) (by omega), sup_e, sup_e]
    by_cases h : k = n
    · simp [h]
    · simp [h]; exact n4 k (by omega)
  · obtain rfl : n = 60 := by omega
    rw [if_neg (show ¬ nI 60 < (60 : Int32) by decide), if_neg (fun z => z rfl)]
    exact ⟨_, _, _, rfl, rfl, ⟨_, _, _, hR, hD, hX0⟩⟩
