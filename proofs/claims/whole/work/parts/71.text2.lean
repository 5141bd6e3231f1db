theorem o_text {S : Nat} {σ τ : Store} (R : Rel S σ τ) : ∃ r σ' τ', fX8_text σ = some (r, σ') ∧ fX9_text τ = some (r, τ') ∧ Rel S σ' τ' := by
  obtain ⟨nw, nt, nx, hR, hD, hX⟩ := R
  have hsz := hR.1.2.1
  obtain ⟨L, l1, l2, l3, l4⟩ := hX.2.1
  have hc : ∀ i, i < L → τ 5 i = nI (τ 5 i).toNatClampNeg ∧ (τ 5 i).toNatClampNeg < 256 := fun i hi => by
    obtain ⟨-, b, b1, b2⟩ := l4 i hi
    rw [b2, nI_clamp (by omega)]; exact ⟨rfl, b1⟩
  obtain ⟨σ1, τ1, p1, p2, fp, po⟩ := parse_sim (σ := σ) (τ := τ) (c := fun i => (τ 5 i).toNatClampNeg) l1 (fun i hi => ⟨by rw [(l4 i hi).1]; exact (hc i hi).1, (hc i hi).2⟩) (fun i hi => (hc i hi).1) l3
  obtain ⟨fp1, fp2, fp3⟩ := fp
  have c0 : ∀ j, j ≠ 0 → j ≠ 24 → j ≠ 25 → sup σ1 0 10 0 j = σ j := fun j a b c => by rw [sup_o a, fp1 j b c]
  have e0 : ∀ k, k ≠ 10 → sup σ1 0 10 0 0 k = σ 0 k := fun k h => by rw [sup_k h, fp1 0 (by omega) (by omega)]
  have d0 : ∀ j, j ≠ 0 → j ≠ 8 → sup τ1 0 6 0 j = τ j := fun j a b => by rw [sup_o a, fp2 j a b]
  have g0 : ∀ f, (f < 9 ∨ 17 < f) → f ≠ 6 → sup τ1 0 6 0 0 f = τ 0 f := fun f h h6 => by rw [sup_k h6, fp3 f h]
  have R2 : Rel S (sup σ1 0 10 0) (sup τ1 0 6 0) := Rel.txt0 hX hD hR c0 e0 d0 (g0 2 (by omega) (by omega)) (g0 28 (by omega) (by omega)) sup_s sup_s
  unfold fX8_text fX9_text
  rw [l2, p1, sbd_e, slt_e, p2, sbd_e, slt_e, slt_e]
  rcases po with ⟨q, q1, q2, q3, q4⟩ | ⟨ky, len, k1, k2, k3, k4, k5, k6, k7, k8, k9, k10, k11, k12, k13⟩
  · rw [sup_j (j' := 24) (by omega), q2, if_neg (nI_n0 (by omega)), sup_k (k' := 12) (by omega), if_neg q3, sup_k (k' := 9) (by omega), q4]
    exact ⟨_, _, _, rfl, rfl, R2⟩
  · have h5 : sup σ1 0 10 0 57 5 = nI nx := by rw [c0 57 (by omega) (by omega) (by omega), hR.1.1.head.2.2.2.2.2.2.2, hR.1.2.2.2.1]
    have h7 : sup τ1 0 6 0 1 7 = nI nx := by rw [d0 1 (by omega) (by omega), hR.1.2.2.2.1]
    rw [sup_j (j' := 24) (by omega), k4, if_pos (by decide), h5, sup_k (k' := 12) (by omega), k5, if_pos rfl, l_7, six_e (by omega) (by omega), snx_e (by omega), h7, slt_e]
    by_cases h14 : nx < 14
    · rw [if_pos (show nI nx < (14 : Int32) from (nI_lt h14 (by omega) : nI nx < nI 14)), if_pos (show ¬ nI nx = (14 : Int32) from fun z => by have := nI_inj (b := 14) (by omega) (by omega) z; omega)]
      have hk1 : sup σ1 0 10 0 24 1 = nI len := by rw [sup_j (by omega), k6]
      obtain ⟨s3, a1, a2, a3, a4, a5, a6, a7⟩ := store8 h14 k3 hk1
      rw [a1, sbd_e, slt_e]
      have a57 : s3 57 5 = nI nx := by rw [a2 57 (by omega) (by omega) (by omega) (by omega), h5]
      rw [a57, nI_1, l_80, l_100, pk_mul, nI_add, slt_e, l_0, l_1, l_2, nI_add, nI_add, nI_add]
      simp only [six_e (show 80 + 100 * nx + 0 < 1480 by omega) (show 1480 ≤ 4096 by omega), six_e (show 80 + 100 * nx + 1 < 1480 by omega) (show 1480 ≤ 4096 by omega), six_e (show 80 + 100 * nx + 2 < 1480 by omega) (show 1480 ≤ 4096 by omega), slt_e, snx_e (show 80 + 100 * nx + 0 < 4096 by omega), snx_e (show 80 + 100 * nx + 1 < 4096 by omega), snx_e (show 80 + 100 * nx + 2 < 4096 by omega), snx_e (show 7 < 4096 by omega), six_e (show 7 < 1480 by omega) (show 1480 ≤ 4096 by omega)]
      done
    · obtain rfl : nx = 14 := by omega
      rw [if_neg (by decide), if_neg (by decide)]
      exact ⟨_, _, _, rfl, rfl, R2⟩
