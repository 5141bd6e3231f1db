/-! a copy between sheets -/
theorem nI_subN {a b : Nat} (h : b ≤ a) : nI a - nI b = nI (a - b) := by
  have : nI a = nI (a - b) + nI b := by rw [nI_add, Nat.sub_add_cancel h]
  rw [this, Int32.add_sub_cancel]
theorem span8 {o len : Nat} {σ : Store} (h : σ o 1 = nI len) (hl : len ≤ 24) (a n : Int32) : fX3_hasSpan o a n σ = some (decide (0 ≤ a.toInt ∧ 0 ≤ n.toInt ∧ a.toInt + n.toInt ≤ len)) := by
  unfold fX3_hasSpan
  rw [h, within8, sbd_e, wth_lit (by omega)]
  by_cases h1 : inN a (len + 1) = true
  · rw [if_pos h1]
    obtain ⟨k, hk, rfl⟩ := inN_t (by omega) h1
    rw [nI_subN (by omega), within8, sbd_e, wth_lit (by omega)]
    have e : (nI k).toInt = k := nI_toInt (by omega)
    by_cases h2 : inN n (len - k + 1) = true
    · rw [if_pos h2, decide_eq_true]
      have := of_decide_eq_true h2
      omega
    · rw [if_neg h2, decide_eq_false]
      intro z
      exact h2 (decide_eq_true (by omega))
  · rw [if_neg h1, decide_eq_false]
    intro z
    exact h1 (decide_eq_true (by omega))
theorem cp1 {s p N : Nat} (hs : s < 4) (hp : p + N ≤ 24) (K : Int32 → Store → Option (Int32 × Store)) : ∀ (m i n : Nat) (τ : Store), i + m = N → m < n → ∃ τ', fX9_copy_L112 (nI s) (nI p) (nI N) K n (nI i) τ = K (nI N) τ' ∧ (∀ j, j ≠ 14 → τ' j = τ j) ∧ ∀ k, τ' 14 k = if i ≤ k ∧ k < N then τ 13 (24 * s + p + k) else τ 14 k := by
  intro m
  induction m with
  | zero =>
    intro i n τ hi hn
    obtain rfl : i = N := by omega
    obtain ⟨n, rfl⟩ : ∃ k, n = k + 1 := ⟨n - 1, by omega⟩
    exact ⟨τ, by rw [fX9_copy_L112, if_pos (Int32.le_refl _)], fun _ _ => rfl, fun k => by rw [if_neg (by omega)]⟩
  | succ m ih =>
    intro i n τ hi hn
    obtain ⟨n, rfl⟩ : ∃ k, n = k + 1 := ⟨n - 1, by omega⟩
    obtain ⟨τ', a1, a2, a3⟩ := ih (i + 1) n (sup τ 14 i (τ 13 (24 * s + p + i))) (by omega) (by omega)
    refine ⟨τ', ?_, fun j hj => by rw [a2 j hj, sup_o hj], fun k => ?_⟩
    · rw [fX9_copy_L112, if_neg (nI_ge (by omega) (by omega)), l_24, pk_mul, nI_add, nI_add, six_e (k := 24 * s + p + i) (by omega) (by omega), six_e (k := i) (by omega) (by omega), slt_e, snx_e (k := 24 * s + p + i) (by omega), snx_e (k := i) (by omega), nI_1]
      exact a1
    · rw [a3 k, sup_j (j' := 13) (by omega), sup_e]
      by_cases h1 : k = i
      · subst h1; rw [if_neg (by omega), if_pos ⟨rfl, rfl⟩, if_pos (by omega)]
      · by_cases h2 : i ≤ k ∧ k < N
        · rw [if_pos (by omega), if_pos h2]
        · rw [if_neg (by omega), if_neg (fun z => h1 z.2), if_neg h2]
theorem cp2 {s p N : Nat} (hs : s < 4) (hp : p + N ≤ 24) : ∀ (m i n : Nat) (τ : Store), i + m = N → m < n → ∃ τ', fX9_copy_L149 (nI s) (nI p) (nI N) n (nI i) τ = some (nI N, τ') ∧ (∀ j, j ≠ 13 → τ' j = τ j) ∧ ∀ q, τ' 13 q = if 24 * s + p + i ≤ q ∧ q < 24 * s + p + N then τ 14 (q - (24 * s + p)) else τ 13 q := by
  intro m
  induction m with
  | zero =>
    intro i n τ hi hn
    obtain rfl : i = N := by omega
    obtain ⟨n, rfl⟩ : ∃ k, n = k + 1 := ⟨n - 1, by omega⟩
    exact ⟨τ, by rw [fX9_copy_L149, if_pos (Int32.le_refl _)], fun _ _ => rfl, fun k => by rw [if_neg (by omega)]⟩
  | succ m ih =>
    intro i n τ hi hn
    obtain ⟨n, rfl⟩ : ∃ k, n = k + 1 := ⟨n - 1, by omega⟩
    obtain ⟨τ', a1, a2, a3⟩ := ih (i + 1) n (sup τ 13 (24 * s + p + i) (τ 14 i)) (by omega) (by omega)
    refine ⟨τ', ?_, fun j hj => by rw [a2 j hj, sup_o hj], fun k => ?_⟩
    · rw [fX9_copy_L149, if_neg (nI_ge (by omega) (by omega)), l_24, pk_mul, nI_add, nI_add, six_e (k := i) (by omega) (by omega), six_e (k := 24 * s + p + i) (by omega) (by omega), slt_e, snx_e (k := 24 * s + p + i) (by omega), snx_e (k := i) (by omega), nI_1]
      exact a1
    · rw [a3 k, sup_j (j' := 14) (by omega), sup_e]
      by_cases h1 : k = 24 * s + p + i
      · subst h1; rw [if_neg (by omega), if_pos ⟨rfl, rfl⟩, if_pos (by omega), show 24 * s + p + i - (24 * s + p) = i by omega]
      · by_cases h2 : 24 * s + p + i ≤ k ∧ k < 24 * s + p + N
        · rw [if_pos (by omega), if_pos h2]
        · rw [if_neg (by omega), if_neg (fun z => h1 z.2), if_neg h2]
theorem i64gt (a b c : Int32) : (0 < lg_cmp (a.toInt64 + b.toInt64) c.toInt64) ↔ c.toInt < a.toInt + b.toInt := by
  rw [lg_cmp_gt, fa_lt64, lg_i2l_add, Int32.toInt_toInt64]
theorem i64le (a b c : Int32) : (lg_cmp (a.toInt64 + b.toInt64) c.toInt64 ≤ 0) ↔ a.toInt + b.toInt ≤ c.toInt := by
  rw [lg_cmp_le, fa_le64, lg_i2l_add, Int32.toInt_toInt64]
theorem o_copy {S : Nat} {σ τ : Store} (R : Rel S σ τ) (a b c d e : Int32) : ∃ r σ' τ', fX8_copy a b c d e σ = some (r, σ') ∧ fX9_copy a b c d e τ = some (r, τ') ∧ Rel S σ' τ' := by
  have R0 := R
  obtain ⟨nw, nt, nx, hR, hD, hX⟩ := R
  unfold fX8_copy fX9_copy
  rw [sheet8, sheet9, sbd_e, sbd_e, sheet8, sheet9, sbd_e, sbd_e]
  by_cases h1 : inN a 4 = true
  · rw [if_pos h1, if_pos h1]
    obtain ⟨s, hs, rfl⟩ := inN_t (by omega) h1
    by_cases h2 : inN c 4 = true
    · rw [if_pos h2, if_pos h2]
      obtain ⟨u, hu, rfl⟩ := inN_t (by omega) h2
      obtain ⟨⟨len, l1, l2, l3⟩, ⟨t0, ht⟩, hc⟩ := hX.2.2.1 s hs
      obtain ⟨⟨len', l1', l2', l3'⟩, ⟨t0', ht'⟩, hc'⟩ := hX.2.2.1 u hu
      rw [shr_e (by omega), shr_e (by omega), snx_e (by omega), snx_e (by omega), miss8 t0, miss8 t0', span8 l2 l1, span8 l2' l1', t0, t0', l3, l3', fpl_s hs, fpl_s hu]
      simp only [six_e (show s < 4 from hs) (show 4 ≤ 4096 by omega), six_e (show u < 4 from hu) (show 4 ≤ 4096 by omega), sbd_e, i64gt, i64le, nI_toInt (show len < 2 ^ 31 by omega), nI_toInt (show len' < 2 ^ 31 by omega)]
      have neg : ∀ {t : Int32}, (t = -1 ∨ t = 0 ∨ t = 1) → (t = -1 ∧ t < 0 ∧ ¬ 0 ≤ t) ∨ (¬ t = -1 ∧ ¬ t < 0 ∧ 0 ≤ t) := fun h => by rcases h with rfl | rfl | rfl <;> decide
      rcases neg ht with ⟨k1, k2, k3⟩ | ⟨k1, k2, k3⟩
      · simp only [k1, k2, decide_true, if_true]
        rw [if_pos (show (-1 : Int32) < 0 by decide)]
        exact ⟨_, _, _, rfl, rfl, R0⟩
      · simp only [k1, k2, decide_false, if_false, Bool.false_eq_true]
        rcases neg ht' with ⟨m1, m2, m3⟩ | ⟨m1, m2, m3⟩
        · rw [if_neg m3]
          simp only [m1, decide_true, if_true]
          exact ⟨_, _, _, rfl, rfl, R0⟩
        · simp only [m1, m3, decide_false, if_false, if_true, Bool.false_eq_true]
          by_cases q : τ 11 s = τ 11 u
          · simp only [q, if_true]
            by_cases b0 : b < 0
            · rw [if_pos b0, if_neg (fun z => by have := of_decide_eq_true z; have := (fa_lt _ _).mp b0; have e0 : (0 : Int32).toInt = 0 := rfl; omega)]
              exact ⟨_, _, _, rfl, rfl, R0⟩
            · rw [if_neg b0]
              have hb : 0 ≤ b.toInt := by have := mt (fa_lt _ _).mpr b0; have e0 : (0 : Int32).toInt = 0 := rfl; omega
              by_cases d0 : d < 0
              · rw [if_pos d0, if_neg (c := decide (0 ≤ d.toInt ∧ _) = true) (fun z => by have := of_decide_eq_true z; have := (fa_lt _ _).mp d0; have e0 : (0 : Int32).toInt = 0 := rfl; omega), ite_self]
                exact ⟨_, _, _, rfl, rfl, R0⟩
              · rw [if_neg d0]
                have hd : 0 ≤ d.toInt := by have := mt (fa_lt _ _).mpr d0; have e0 : (0 : Int32).toInt = 0 := rfl; omega
                by_cases e0 : e < 0
                · rw [if_pos e0, if_neg (fun z => by have := of_decide_eq_true z; have := (fa_lt _ _).mp e0; have e0 : (0 : Int32).toInt = 0 := rfl; omega)]
                  exact ⟨_, _, _, rfl, rfl, R0⟩
                · rw [if_neg e0]
                  have he : 0 ≤ e.toInt := by have := mt (fa_lt _ _).mpr e0; have e0 : (0 : Int32).toInt = 0 := rfl; omega
                  by_cases g1 : (len : Int) < b.toInt + e.toInt
                  · rw [if_pos g1, if_neg (fun z => by have := of_decide_eq_true z; omega)]
                    exact ⟨_, _, _, rfl, rfl, R0⟩
                  · rw [if_neg g1, if_pos (decide_eq_true ⟨hb, he, by omega⟩)]
                    by_cases g2 : d.toInt + e.toInt ≤ (len' : Int)
                    · rw [if_pos g2, if_pos (decide_eq_true ⟨hd, he, g2⟩)]
                      obtain ⟨p, hp, rfl⟩ := i_of (n := 24) hb (by omega)
                      obtain ⟨v, hv, rfl⟩ := i_of (n := 24) hd (by omega)
                      obtain ⟨N, hN, rfl⟩ := i_of (n := 24) he (by omega)
                      rw [nI_toInt (by omega), nI_toInt (by omega)] at g1 g2
                      obtain ⟨τ1, a1, a2, a3⟩ := cp1 hs (p := p) (N := N) (by omega) (fun x31 s32 => (fX9_copy_L149 (nI u) (nI v) (nI N) FU (0 : Int32) s32)) N 0 FU τ (by omega) (FU_gt (by omega))
                      obtain ⟨τ2, b1, b2, b3⟩ := cp2 hu (p := v) (N := N) (by omega) N 0 FU τ1 (by omega) (FU_gt (by omega))
                      rw [show fX9_copy_L112 (nI s) (nI p) (nI N) _ FU (0 : Int32) τ = _ from a1, show fX9_copy_L149 (nI u) (nI v) (nI N) FU (0 : Int32) τ1 = _ from b1]
                      unfold scp
                      rw [snx_e (by omega), snx_e (by omega), snx_e (by omega), if_pos ⟨b0, d0, e0, by omega, by omega⟩]
                      refine ⟨_, _, _, rfl, rfl, Rel.shs hX hD hR (fun j hj => ?_) (fun j _ _ h13 h14 => by rw [b2 j h13, a2 j h14]) (fun s2 hs2 => ?_)⟩
                      · unfold srow; rw [if_neg (by omega)]
                      · obtain ⟨z1, z2, z3⟩ := hX.2.2.1 s2 hs2
                        unfold ShR
                        have w1 : srow σ (31 + u) (va_cpy (σ (31 + s)) (σ (31 + u)) p v N) (27 + s2) = σ (27 + s2) := by unfold srow; rw [if_neg (by omega)]
                        rw [w1, b2 12 (by omega), a2 12 (by omega), b2 11 (by omega), a2 11 (by omega)]
                        refine ⟨z1, z2, fun k hk => ?_⟩
                        rw [b3, a2 13 (by omega), a3]
                        unfold srow
                        by_cases x1 : s2 = u
                        · subst x1
                          rw [if_pos rfl]
                          unfold va_cpy
                          by_cases x2 : v ≤ k ∧ k < v + N
                          · rw [if_pos x2, if_pos (by omega), if_pos (by omega), show 24 * s + p + (24 * s2 + k - (24 * s2 + v)) = 24 * s + (p + (k - v)) by omega]
                            exact hc (p + (k - v)) (by omega)
                          · rw [if_neg x2, if_neg (by omega)]
                            exact z3 k hk
                        · rw [if_neg (by omega), if_neg (by omega)]
                          exact z3 k hk
                    · rw [if_neg g2, if_neg (fun z => g2 (of_decide_eq_true z).2.2)]
                      exact ⟨_, _, _, rfl, rfl, R0⟩
          · simp only [q, if_false]
            exact ⟨_, _, _, rfl, rfl, R0⟩
    · rw [if_neg h2, if_neg h2]; exact ⟨_, _, _, rfl, rfl, R0⟩
  · rw [if_neg h1, if_neg h1]; exact ⟨_, _, _, rfl, rfl, R0⟩
