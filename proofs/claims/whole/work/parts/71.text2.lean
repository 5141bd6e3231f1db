theorem o_text {S : Nat} {σ τ : Store} (R : Rel S σ τ) : ∃ r σ' τ', fX8_text σ = some (r, σ') ∧ fX9_text τ = some (r, τ') ∧ Rel S σ' τ' := by
  obtain ⟨nw, nt, nx, hR, hD, hX⟩ := R
  have hsz := hR.1.2.1
  obtain ⟨L, l1, l2, l3, l4⟩ := hX.2.1
  have hc : ∀ i, i < L → τ 5 i = nI (τ 5 i).toNatClampNeg ∧ (τ 5 i).toNatClampNeg < 256 := fun i hi => by
    obtain ⟨-, b, b1, b2⟩ := l4 i hi
    rw [b2, nI_clamp (by omega)]; exact ⟨rfl, b1⟩
  obtain ⟨σ1, τ1, p1, p2, fp, po⟩ := parse_sim (σ := σ) (τ := τ) (c := fun i => (τ 5 i).toNatClampNeg) l1 (fun i hi => ⟨by rw [(l4 i hi).1]; exact (hc i hi).1, (hc i hi).2⟩) (fun i hi => (hc i hi).1) l3
  obtain ⟨fp1, fp2, fp3⟩ := fp
  have c0 : ∀ j, j ≠ 0 → j ≠ 24 → j ≠ 25 → sup σ1 0 10 0 j = σ j := fun j a b c => by rw [sup_o a, fp1 j b c]
  have e0 : ∀ k, k ≠ 10 → sup σ1 0 10 0 0 k = σ 0 k := fun k h => by rw [sup_k h, fp1 0 (by omega) (by omega)]
  have d0 : ∀ j, j ≠ 0 → j ≠ 8 → sup τ1 0 6 0 j = τ j := fun j a b => by rw [sup_o a, fp2 j a b]
  have g0 : ∀ f, (f < 9 ∨ 17 < f) → f ≠ 6 → sup τ1 0 6 0 0 f = τ 0 f := fun f h h6 => by rw [sup_k h6, fp3 f h]
  have R2 : Rel S (sup σ1 0 10 0) (sup τ1 0 6 0) := Rel.txt0 hX hD hR c0 e0 d0 (g0 2 (by omega) (by omega)) (g0 28 (by omega) (by omega)) sup_s sup_s
  unfold fX8_text fX9_text
  rw [l2, p1, sbd_e, slt_e, p2, sbd_e, slt_e, slt_e]
  rcases po with ⟨q, q1, q2, q3, q4⟩ | ⟨ky, len, k1, k2, k3, k4, k5, k6, k7, k8, k9, k10, k11, k12, k13⟩
  · rw [sup_j (j' := 24) (by omega), q2, if_neg (nI_n0 (by omega)), sup_k (k' := 12) (by omega), if_neg q3, sup_k (k' := 9) (by omega), q4]
    exact ⟨_, _, _, rfl, rfl, R2⟩
  · have h5 : sup σ1 0 10 0 57 5 = nI nx := by rw [c0 57 (by omega) (by omega) (by omega), hR.1.1.head.2.2.2.2.2.2.2, hR.1.2.2.2.1]
    have h7 : sup τ1 0 6 0 1 7 = nI nx := by rw [d0 1 (by omega) (by omega), hR.1.2.2.2.1]
    rw [sup_j (j' := 24) (by omega), k4, if_pos (by decide), h5, sup_k (k' := 12) (by omega), k5, if_pos rfl, l_7, six_e (by omega) (by omega), snx_e (by omega), h7, slt_e]
    by_cases h14 : nx < 14
    · rw [if_pos (show nI nx < (14 : Int32) from (nI_lt h14 (by omega) : nI nx < nI 14)), if_pos (show ¬ nI nx = (14 : Int32) from fun z => by have := nI_inj (b := 14) (by omega) (by omega) z; omega)]
      have hk1 : sup σ1 0 10 0 24 1 = nI len := by rw [sup_j (by omega), k6]
      obtain ⟨s3, a1, a2, a3, a4, a5, a6, a7⟩ := store8 h14 k3 hk1
      rw [a1, sbd_e, slt_e]
      have a57 : s3 57 5 = nI nx := by rw [a2 57 (by omega) (by omega) (by omega) (by omega), h5]
      rw [a57, nI_1, l_80, l_100, pk_mul, nI_add, slt_e, l_0, l_1, l_2, nI_add, nI_add, nI_add]
      simp only [six_e (show 80 + 100 * nx + 0 < 1480 by omega) (show 1480 ≤ 4096 by omega), six_e (show 80 + 100 * nx + 1 < 1480 by omega) (show 1480 ≤ 4096 by omega), six_e (show 80 + 100 * nx + 2 < 1480 by omega) (show 1480 ≤ 4096 by omega), slt_e, snx_e (show 80 + 100 * nx + 0 < 4096 by omega), snx_e (show 80 + 100 * nx + 1 < 4096 by omega), snx_e (show 80 + 100 * nx + 2 < 4096 by omega), snx_e (show 7 < 4096 by omega), six_e (show 7 < 1480 by omega) (show 1480 ≤ 4096 by omega)]
      rw [show sup τ1 0 6 (nI 0) 0 13 = nI ky by rw [sup_k (by omega), k9]]
      rw [show sup (sup τ1 0 6 (nI 0)) 1 (80 + 100 * nx + 0) (nI ky) 0 16 = τ1 0 16 by rw [sup_j (by omega), sup_k (by omega)]]
      rw [show sup (sup (sup τ1 0 6 (nI 0)) 1 (80 + 100 * nx + 0) (nI ky)) 1 (80 + 100 * nx + 1) (τ1 0 16) 0 17 = nI len by rw [sup_j (by omega), sup_j (by omega), sup_k (by omega), k7]]
      obtain ⟨t3, ht3⟩ : ∃ x, x = sup (sup (sup (sup τ1 0 6 (nI 0)) 1 (80 + 100 * nx + 0) (nI ky)) 1 (80 + 100 * nx + 1) (τ1 0 16)) 1 (80 + 100 * nx + 2) (nI len) := ⟨_, rfl⟩
      rw [← ht3]
      have u0 : ∀ j, j ≠ 1 → t3 j = sup τ1 0 6 0 j := fun j hj => by rw [ht3, sup_o hj, sup_o hj, sup_o hj]; rfl
      obtain ⟨t4, b1, b2, b3⟩ := store9 h14 k3 (fun x26 s27 => some (nI nx, sup s27 1 7 (s27 1 7 + nI 1))) len 0 FU t3 (by omega) (FU_gt (by omega)) (by rw [u0 0 (by omega), sup_k (by omega), k7])
      rw [show fX9_text_L87 (nI (80 + 100 * nx)) _ FU (nI 0) t3 = _ from b1]
      have w7 : t4 1 7 = nI nx := by rw [b3, if_neg (by omega), ht3, sup_k (by omega), sup_k (by omega), sup_k (by omega)]; exact h7
      have wq : ∀ q, (q < 80 + 100 * nx ∨ 180 + 100 * nx ≤ q) → t4 1 q = τ 1 q := fun q hq => by
        rw [b3, if_neg (by omega), ht3, sup_k (by omega), sup_k (by omega), sup_k (by omega)]
        show sup τ1 0 6 0 1 q = _
        rw [d0 1 (by omega) (by omega)]
      have w80 : t4 1 (80 + 100 * nx) = nI ky := by rw [b3, if_neg (by omega), ht3, sup_k (by omega), sup_k (by omega), show 80 + 100 * nx = 80 + 100 * nx + 0 from rfl, sup_s]
      have w81 : t4 1 (81 + 100 * nx) = τ1 0 16 := by rw [b3, if_neg (by omega), ht3, sup_k (by omega), show 81 + 100 * nx = 80 + 100 * nx + 1 by omega, sup_s]
      have w82 : t4 1 (82 + 100 * nx) = nI len := by rw [b3, if_neg (by omega), ht3, show 82 + 100 * nx = 80 + 100 * nx + 2 by omega, sup_s]
      have w83 : ∀ i, i < len → t4 1 (83 + 100 * nx + i) = τ1 8 i := fun i hi => by
        rw [b3, if_pos (by omega), show 83 + 100 * nx + i - (83 + 100 * nx) = i by omega, u0 8 (by omega), sup_o (by omega)]
      rw [w7, nI_add]
      obtain ⟨sf, hsf⟩ : ∃ x, x = sup s3 57 5 (nI (nx + 1)) := ⟨_, rfl⟩
      obtain ⟨tf, htf⟩ : ∃ x, x = sup t4 1 7 (nI (nx + 1)) := ⟨_, rfl⟩
      rw [← hsf, ← htf]
      refine ⟨_, sf, tf, rfl, rfl, ?_⟩
      have xj : ∀ j, j ≠ 0 → j ≠ 3 + nx → j ≠ 17 → j ≠ 18 → j ≠ 19 → j ≠ 24 → j ≠ 25 → j ≠ 57 → sf j = σ j := fun j h0 h1 h2 h3 h4 h5 h6 h7 => by rw [hsf, sup_o h7, a2 j h1 h2 h3 h4, c0 j h0 h5 h6]
      have x57 : ∀ k, k ≠ 5 → sf 57 k = σ 57 k := fun k h => by rw [hsf, sup_k h, a2 57 (by omega) (by omega) (by omega) (by omega), c0 57 (by omega) (by omega) (by omega)]
      have x575 : sf 57 5 = nI (nx + 1) := by rw [hsf, sup_s]
      have xk : ∀ k, k ≠ nx → sf 17 k = σ 17 k ∧ sf 18 k = σ 18 k ∧ sf 19 k = σ 19 k := fun k hk => by
        obtain ⟨y1, y2, y3⟩ := a4 k hk
        rw [hsf, sup_o (by omega), sup_o (by omega), sup_o (by omega), y1, y2, y3, c0 17 (by omega) (by omega) (by omega), c0 18 (by omega) (by omega) (by omega), c0 19 (by omega) (by omega) (by omega)]
        exact ⟨rfl, rfl, rfl⟩
      have x0 : ∀ k, sf 0 k = sup σ1 0 10 0 0 k := fun k => by rw [hsf, sup_o (by omega), a2 0 (by omega) (by omega) (by omega) (by omega)]
      have yq : ∀ q, q ≠ 7 → (q < 80 + 100 * nx ∨ 180 + 100 * nx ≤ q) → tf 1 q = τ 1 q := fun q h hq => by rw [htf, sup_k h, wq q hq]
      have y7 : tf 1 7 = nI (nx + 1) := by rw [htf, sup_s]
      have yj : ∀ j, j ≠ 1 → tf j = sup τ1 0 6 0 j := fun j h => by rw [htf, sup_o h, b2 j h, u0 j h]
      obtain ⟨i1, i2, i3, i4, i5⟩ := hX
      have ys : ∀ q, q < 80 → q ≠ 7 → tf 1 q = τ 1 q := fun q h1 h2 => yq q h2 (by omega)
      have xt : ∀ (g g' : Nat → Int32) (x : Nat), x < nx → (∀ q, 80 + 100 * x ≤ q → q < 180 + 100 * x → g' q = g q) → TxR σ g x → TxR sf g' x := fun g g' x hx hg h => h.at (xk x (by omega)).1 (xk x (by omega)).2.1 (xk x (by omega)).2.2 (xj (3 + x) (by omega) (by omega) (by omega) (by omega) (by omega) (by omega) (by omega) (by omega)) hg
      have x3 : ∀ k, k < len → sf (3 + nx) k = σ1 25 k := fun k hk => by rw [hsf, sup_o (by omega), a3 k hk, sup_o (by omega)]
      have xd : ∀ k, k ≤ len → dpt (sf (3 + nx)) k = dpt (σ1 25) k := fun k hk => dpt_cong (fun i hi => x3 i (by omega))
      have tn : TxR sf (tf 1) nx := by
        refine ⟨ky, len, k1, k2, k3, by rw [hsf, sup_o (by omega), a6, sup_j (by omega), k8], by rw [htf, sup_k (by omega), w80], by rw [hsf, sup_o (by omega), a7, sup_j (by omega), k10, htf, sup_k (by omega), w81], by rw [hsf, sup_o (by omega), a5], by rw [htf, sup_k (by omega), w82], fun k hk => ?_, fun k hk => ?_, by rw [xd len (by omega), k13]⟩
        · rw [x3 k hk, htf, sup_k (by omega), w83 k hk]; exact k11 k hk
        · rw [x3 k hk, xd k (by omega)]; exact k12 k hk
      have hbd : BdV sf (tf 1) 57 nw nt := (hR.1.1.up (by omega) (by omega) (q0 := 7) (o := 0) (f := 5) (by omega) rfl rfl (nI (nx + 1))).same (by omega) (by omega) (fun j h1 h2 => by
        by_cases h57 : j = 57
        · subst h57
          funext k
          by_cases hk : k = 5
          · rw [hk, x575, sup_s]
          · rw [x57 k hk, sup_k hk]
        · rw [sup_o (by omega), xj j (by omega) (by omega) (by omega) (by omega) (by omega) (by omega) (by omega) h57]) (fun q hq => by
        by_cases h7' : q = 7
        · rw [h7', y7]; exact upd_y.symm
        · rw [ys q hq h7', upd_n h7'])
      have hbi : BdI (tf 1) nw nt := by
        obtain ⟨v1, ⟨l, v2, v3⟩, v4, v5, v6⟩ := hR.2.1
        refine ⟨by rw [ys 6 (by omega) (by omega), v1], ⟨l, v2, by rw [ys 4 (by omega) (by omega), v3]⟩, fun w hw => ?_, fun w hw => ?_, fun z hz => ?_⟩
        · rw [ys _ (by omega) (by omega)]; exact v4 w hw
        · rw [ys _ (by omega) (by omega)]; exact v5 w hw
        · rw [ys _ (by omega) (by omega)]; exact v6 z hz
      have hst : Stm (tf 1) nw S := fun w hw => by rw [ys _ (by omega) (by omega)]; exact hR.2.2 w hw
      have xs : ∀ j, 20 ≤ j → j ≠ 24 → j ≠ 25 → j ≠ 57 → sf j = σ j := fun j h1 h2 h3 h4 => xj j (by omega) (by omega) (by omega) (by omega) (by omega) h2 h3 h4
      have yt : ∀ j, j ≠ 0 → j ≠ 1 → j ≠ 8 → tf j = τ j := fun j h0 h1 h8 => by rw [yj j h1, d0 j h0 h8]
      have y00 : ∀ f, (f < 9 ∨ 17 < f) → f ≠ 6 → tf 0 f = τ 0 f := fun f h h6 => by rw [yj 0 (by omega), g0 f h h6]
      refine ⟨nw, nt, nx + 1, ⟨⟨hbd, by omega, by rw [ys 5 (by omega) (by omega)]; exact hR.1.2.2.1, y7, fun x hx => ?_⟩, hbi, hst⟩, ?_, ?_, ⟨0, by omega, by rw [x0, sup_s]; rfl, by rw [yj 0 (by omega), sup_s]; rfl, fun k hk => absurd hk (by omega)⟩, fun s hs => (i3 s hs).same (xs _ (by omega) (by omega) (by omega) (by omega)) (xs _ (by omega) (by omega) (by omega) (by omega)) (yt _ (by omega) (by omega) (by omega)) (yt _ (by omega) (by omega) (by omega)) (yt _ (by omega) (by omega) (by omega)), fun s hs => (i4 s hs).same (xs _ (by omega) (by omega) (by omega) (by omega)) (xs _ (by omega) (by omega) (by omega) (by omega)) (xs _ (by omega) (by omega) (by omega) (by omega)) (xs _ (by omega) (by omega) (by omega) (by omega)) (yt _ (by omega) (by omega) (by omega)) (yt _ (by omega) (by omega) (by omega)), i5.same (by rw [x0, e0 11 (by omega)]) (y00 28 (by omega) (by omega)) (xs _ (by omega) (by omega) (by omega) (by omega)) (yt _ (by omega) (by omega) (by omega))⟩
      · by_cases hxn : x = nx
        · rw [hxn]; exact tn
        · exact xt (τ 1) (tf 1) x (by omega) (fun q h1 h2 => yq q (by omega) (by omega)) (hR.1.2.2.2.2 x (by omega))
      · obtain ⟨dd, v1, v2⟩ := hD
        exact ⟨dd, v1, by rw [ys 1 (by omega) (by omega), v2]⟩
      · obtain ⟨bb, v1, v2, v3⟩ := i1
        refine ⟨bb, by rw [x0, e0 12 (by omega), v1], by rw [y00 2 (by omega) (by omega), v2], fun z => ?_⟩
        obtain ⟨nw', nt', nx', hle, hG, hD2⟩ := v3 z
        have hs2 := hG.1.2.1
        rw [yt 2 (by omega) (by omega) (by omega)]
        exact ⟨nw', nt', nx', by omega, ⟨⟨hG.1.1.same (by omega) (by omega) (fun j h1 h2 => xs j (by omega) (by omega) (by omega) (by omega)) (fun _ _ => rfl), hG.1.2.1, hG.1.2.2.1, hG.1.2.2.2.1, fun x hx => xt (τ 2) (τ 2) x (by omega) (fun _ _ _ => rfl) (hG.1.2.2.2.2 x hx)⟩, hG.2⟩, hD2⟩
    · obtain rfl : nx = 14 := by omega
      rw [if_neg (by decide), if_neg (by decide)]
      exact ⟨_, _, _, rfl, rfl, R2⟩
