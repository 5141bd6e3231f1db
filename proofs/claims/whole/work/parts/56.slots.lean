/-! the slots -/
theorem l_25 : (25 : Int32) = nI 25 := rfl
theorem l_125 : (125 : Int32) = nI 125 := rfl
theorem Rel.sls {S nw nt nx : Nat} {σ τ σ' τ' : Store} (hX : Rst S nx σ τ) (hD : DyO (τ 1)) (hR : BR 57 nw nt nx S σ τ) (h8 : ∀ j, ¬ (36 ≤ j ∧ j < 56) → σ' j = σ j) (h9 : ∀ j, j ≠ 15 → j ≠ 16 → τ' j = τ j) (hS : ∀ s, s < 5 → SlR σ' τ' s) : Rel S σ' τ' := by
  obtain ⟨i1, i2, i3, i4, i5⟩ := hX
  have d (j : Nat) (h : j < 15 ∨ 16 < j) : τ' j = τ j := h9 j (by omega) (by omega)
  exact ⟨nw, nt, nx, hR.same (fun j hj => h8 j (by omega)) (d 1 (by omega)), by rw [d 1 (by omega)]; exact hD, i1.same (by rw [h8 0 (by omega)]) (by rw [d 0 (by omega)]) (fun j hj => h8 j (by omega)) (d 2 (by omega)), i2.same (by rw [h8 0 (by omega)]) (by rw [d 0 (by omega)]) (h8 23 (by omega)) (d 5 (by omega)), fun s hs => (i3 s hs).same (h8 _ (by omega)) (h8 _ (by omega)) (d _ (by omega)) (d _ (by omega)) (d _ (by omega)), hS, i5.same (by rw [h8 0 (by omega)]) (by rw [d 0 (by omega)]) (h8 56 (by omega)) (d 17 (by omega))⟩
theorem SlR.keep {σ τ σ' τ' : Store} {s : Nat} (h : SlR σ τ s) (h1 : σ' (36 + s) = σ (36 + s)) (h2 : σ' (41 + s) = σ (41 + s)) (h3 : σ' (46 + s) = σ (46 + s)) (h4 : σ' (51 + s) = σ (51 + s)) (h5 : τ' 15 s = τ 15 s) (h6 : ∀ k, k < 25 → τ' 16 (25 * s + k) = τ 16 (25 * s + k)) : SlR σ' τ' s := by
  unfold SlR
  rw [h1, h2, h3, h4, h5, show 25 * s = 25 * s + 0 by omega, h6 0 (by omega), show 25 * s + 0 + 1 = 25 * s + 1 by omega, h6 1 (by omega), show 25 * s + 0 + 2 = 25 * s + 2 by omega, h6 2 (by omega)]
  obtain ⟨x, x1, x2, x3, x4, x5, x6⟩ := h
  refine ⟨x, x1, x2, x3, x4, fun z => ?_, x6⟩
  refine ⟨(x5 z).1, fun k hk => ?_⟩
  rw [show 25 * s + 1 + k = 25 * s + (1 + k) by omega, h6 (1 + k) (by omega), show 25 * s + (1 + k) = 25 * s + 1 + k by omega]
  exact (x5 z).2 k hk
theorem lw_loop {w s : Nat} (hw : w < 10) (hs : s < 5) (K : Int32 → Store → Option (Int32 × Store)) (n : Nat) (τ : Store) : ∃ τ', fX9_lay_L143 (nI w) (nI (25 * s)) K (n + 4) (nI 0) τ = K (nI 3) τ' ∧ (∀ j, j ≠ 16 → τ' j = τ j) ∧ ∀ q, τ' 16 q = if 25 * s ≤ q ∧ q < 25 * s + 3 then τ 1 (8 + 6 * w + (q - 25 * s)) else τ 16 q := by
  have st : ∀ (i n : Nat) (τ : Store), i < 3 → fX9_lay_L143 (nI w) (nI (25 * s)) K (n + 1) (nI i) τ = fX9_lay_L143 (nI w) (nI (25 * s)) K n (nI (i + 1)) (sup τ 16 (25 * s + i) (τ 1 (8 + 6 * w + i))) := by
    intro i n τ hi
    rw [fX9_lay_L143, l_2, if_neg (nI_nlt (by omega) (by omega)), wordIs_e (by omega) (by omega), sbd_e, nI_add, six_e (by omega) (by omega), slt_e, snx_e (by omega), nI_1]
  rw [st 0 (n + 3) τ (by omega), st 1 (n + 2) _ (by omega), st 2 (n + 1) _ (by omega), fX9_lay_L143, if_pos (by decide)]
  refine ⟨_, rfl, fun j hj => by rw [sup_o hj, sup_o hj, sup_o hj], fun q => ?_⟩
  rw [sup_j (j' := 1) (by omega), sup_j (j' := 1) (by omega), sup_j (j' := 1) (by omega), sup_e, sup_e, sup_e]
  by_cases h0 : q = 25 * s + 0
  · subst h0; rw [if_neg (by omega), if_neg (by omega), if_pos (by omega), if_pos (by omega), show 25 * s + 0 - 25 * s = 0 by omega]
  · by_cases h1 : q = 25 * s + 1
    · subst h1; rw [if_neg (by omega), if_pos (by omega), if_pos (by omega), show 25 * s + 1 - 25 * s = 1 by omega]
    · by_cases h2 : q = 25 * s + 2
      · subst h2; rw [if_pos (by omega), if_pos (by omega), show 25 * s + 2 - 25 * s = 2 by omega]
      · rw [if_neg (by omega), if_neg (by omega), if_neg (by omega), if_neg (by omega)]
theorem ls_loop {u s : Nat} (hu : u < 4) (hs : s < 5) (K : Int32 → Store → Option (Int32 × Store)) : ∀ (m i n : Nat) (τ : Store), i + m = 24 → m < n → ∃ τ', fX9_lay_L95 (nI u) (nI (25 * s)) K n (nI i) τ = K (nI 24) τ' ∧ (∀ j, j ≠ 16 → τ' j = τ j) ∧ ∀ q, τ' 16 q = if 25 * s + 1 + i ≤ q ∧ q < 25 * s + 25 then τ 13 (24 * u + (q - (25 * s + 1))) else τ 16 q := by
  intro m
  induction m with
  | zero =>
    intro i n τ hi hn
    obtain rfl : i = 24 := by omega
    obtain ⟨n, rfl⟩ : ∃ k, n = k + 1 := ⟨n - 1, by omega⟩
    exact ⟨τ, by rw [fX9_lay_L95, if_pos (by decide)], fun _ _ => rfl, fun k => by rw [if_neg (by omega)]⟩
  | succ m ih =>
    intro i n τ hi hn
    obtain ⟨n, rfl⟩ : ∃ k, n = k + 1 := ⟨n - 1, by omega⟩
    obtain ⟨τ', a1, a2, a3⟩ := ih (i + 1) n (sup τ 16 (25 * s + 1 + i) (τ 13 (24 * u + i))) (by omega) (by omega)
    refine ⟨τ', ?_, fun j hj => by rw [a2 j hj, sup_o hj], fun k => ?_⟩
    · rw [fX9_lay_L95, l_24, if_neg (nI_ge (by omega) (by omega)), pk_mul, nI_add, l_1, nI_add, nI_add, six_e (k := 24 * u + i) (by omega) (by omega), six_e (k := 25 * s + 1 + i) (by omega) (by omega), slt_e, snx_e (k := 24 * u + i) (by omega), snx_e (k := 25 * s + 1 + i) (by omega), nI_add]
      exact a1
    · rw [a3 k, sup_j (j' := 13) (by omega), sup_e]
      by_cases h1 : k = 25 * s + 1 + i
      · subst h1; rw [if_neg (by omega), if_pos ⟨rfl, rfl⟩, if_pos (by omega), show 25 * s + 1 + i - (25 * s + 1) = i by omega]
      · by_cases h2 : 25 * s + 1 + i ≤ k ∧ k < 25 * s + 25
        · rw [if_pos (by omega), if_pos h2]
        · rw [if_neg (by omega), if_neg (fun z => h1 z.2), if_neg h2]
theorem sbec {a b : Nat} {σ : Store} (h : a ≠ b ∧ a ≠ fpl a ∧ a ≠ fpl b ∧ fpl a ≠ fpl b) : ∃ σ', fX3_becomes a b σ = some σ' ∧ (∀ j, j ≠ a → j ≠ fpl a → σ' j = σ j) ∧ σ' a 0 = σ b 0 ∧ σ' a 1 = σ b 1 ∧ ∀ k, k < 24 → σ' (fpl a) k = σ (fpl b) k := by
  obtain ⟨h1, h2, h3, h4⟩ := h
  unfold fX3_becomes scp
  rw [show snx (0 : Int32) = 0 from rfl, show snx (24 : Int32) = 24 from rfl, slt_e, slt_e, if_pos (by decide)]
  refine ⟨_, rfl, fun j a b => ?_, ?_, ?_, fun k hk => ?_⟩
  · unfold srow; rw [if_neg b, sup_o a, sup_o a]
  · unfold srow; rw [if_neg h2, sup_k (by omega), sup_s]
  · unfold srow; rw [if_neg h2, sup_s, sup_j (fun z => h1 z.symm)]
  · unfold srow va_cpy
    rw [if_pos rfl, if_pos (by omega), sup_j (fun z => h3 z.symm), sup_j (fun z => h3 z.symm), Nat.zero_add, Nat.sub_zero]
theorem hlds {s : Nat} (hs : s < 5) (v : Int32) (τ : Store) : fX9_holds (nI s) v τ = some (τ 15 s, sup τ 15 s v) := by
  unfold fX9_holds
  rw [six_e (by omega) (by omega), slt_e, six_e (by omega) (by omega), slt_e, snx_e (by omega)]
/-- both sides close a lay -/
theorem lay_end {S nw nt nx s h : Nat} {σ τ σ1 τ1 : Store} (hX : Rst S nx σ τ) (hD : DyO (τ 1)) (hR : BR 57 nw nt nx S σ τ) (hs : s < 5) (h8 : ∀ j, j ≠ 36 + s → j ≠ 41 + s → j ≠ 46 + s → j ≠ 51 + s → σ1 j = σ j) (h9 : ∀ j, j ≠ 16 → τ1 j = τ j) (h16 : ∀ q, (q < 25 * s ∨ 25 * s + 25 ≤ q) → τ1 16 q = τ 16 q) (hn : SlR σ1 (sup τ1 15 s (nI h)) s) : ∃ r τ', some ((σ (36 + s) 0), σ1) = some (r, σ1) ∧ fX9_holds (nI s) (nI h) τ1 = some (r, τ') ∧ Rel S σ1 τ' := by
  obtain ⟨x, x1, x2, x3, x4⟩ := hX.2.2.2.1 s hs
  refine ⟨_, _, rfl, by rw [hlds hs, h9 15 (by omega), x3, ← x2], Rel.sls hX hD hR (fun j hj => h8 j (by omega) (by omega) (by omega) (by omega)) (fun j a b => by rw [sup_o a, h9 j b]) (fun s2 hs2 => ?_)⟩
  by_cases e : s2 = s
  · rw [e]; exact hn
  · exact (hX.2.2.2.1 s2 hs2).keep (h8 _ (by omega) (by omega) (by omega) (by omega)) (h8 _ (by omega) (by omega) (by omega) (by omega)) (h8 _ (by omega) (by omega) (by omega) (by omega)) (h8 _ (by omega) (by omega) (by omega) (by omega)) (by rw [sup_k e, h9 15 (by omega)]) (fun k hk => by rw [sup_j (by omega)]; exact h16 _ (by omega))
theorem o_lay {S : Nat} {σ τ : Store} (R : Rel S σ τ) (a b c : Int32) : ∃ r σ' τ', fX8_lay a b c σ = some (r, σ') ∧ fX9_lay a b c τ = some (r, τ') ∧ Rel S σ' τ' := by
  have R0 := R
  obtain ⟨nw, nt, nx, hR, hD, hX⟩ := R
  have hsz := hR.1.2.1
  unfold fX8_lay fX9_lay
  rw [slot8, within8, sbd_e, sbd_e, hasW8 hR, sheet8]
  simp only [sjn_e, slot9, isW9 hR, sheet9, sbd_e]
  by_cases h1 : inN a 5 = true
  · obtain ⟨s, hs, rfl⟩ := inN_t (by omega) h1
    by_cases h2 : wth b 0 3 = true
    · obtain ⟨h, hh, rfl⟩ := inN_t (n := 4) (by omega) (show inN b 4 = true by rw [← wth_lit (m := 3) (by omega)]; exact h2)
      have h3 : h = 0 ∨ h = 1 ∨ h = 2 ∨ h = 3 := by omega
      simp only [h1, h2, if_true, six_e (show s < 5 from hs) (show 5 ≤ 4096 by omega), slt_e, slo_e (show s < 4096 by omega), l_25, pk_mul, snx_e (show 25 * s < 4096 by omega), six_e (show 25 * s < 125 by omega) (show 125 ≤ 4096 by omega)]
      rcases h3 with rfl | rfl | rfl | rfl
      · simp (config := {decide := true}) only [if_true, if_false]
        obtain ⟨r, τ', a1, a2, a3⟩ := lay_end (h := 0) hX hD hR hs (σ1 := sup (sup σ (36 + s) 0 (nI 0)) (36 + s) 1 c) (τ1 := sup τ 16 (25 * s) c) (fun j a _ _ _ => by rw [sup_o a, sup_o a]) (fun j a => sup_o a) (fun q hq => sup_k (by omega)) ⟨0, by omega, by rw [sup_k (by omega), sup_s], by rw [sup_s], fun z => by omega, fun z => by omega, fun z => by omega⟩
        rw [a2, sbd2_e]
        exact ⟨r, _, τ', a1, rfl, a3⟩
      · by_cases h4 : inN c nw = true
        · obtain ⟨w, hw, rfl⟩ := inN_t (by omega) h4
          simp (config := {decide := true}) only [h4, if_true, if_false, wrd_e (show w < 4096 by omega), six_e (show w < 10 by omega) (show 10 ≤ 4096 by omega)]
          obtain ⟨σ1, c1, c2, c3⟩ := wbec (a := 36 + s + 5) (b := 57 + (3 + w)) (by omega) (sup σ (36 + s) 0 (nI 1))
          obtain ⟨τ1, d1, d2, d3⟩ := lw_loop (w := w) (by omega) hs (fun x74 s75 => (sbd2 (fX9_holds (nI s) (nI 1) s75) fun r56 s57 => (some (r56, s57)))) 4996 τ
          rw [c1, sbd_e, show fX9_lay_L143 (nI w) (nI (25 * s)) _ FU (0 : Int32) τ = _ from d1]
          obtain ⟨k, k1, k2⟩ := hR.2.1.2.2.1 w hw
          obtain ⟨e, e1, e2⟩ := hR.2.1.2.2.2.1 w hw
          have wf : ∀ f, f < 6 → σ1 (41 + s) f = τ 1 (8 + 6 * w + f) := fun f hf => by
            rw [show 41 + s = 36 + s + 5 by omega, c3 f hf, sup_j (by omega)]
            exact hR.wf hw hf
          have mf : ∀ f, f < 3 → τ1 16 (25 * s + f) = τ 1 (8 + 6 * w + f) := fun f hf => by
            rw [d3, if_pos (by omega), show 25 * s + f - 25 * s = f by omega]
          obtain ⟨r, τ', a1, a2, a3⟩ := lay_end (h := 1) hX hD hR hs (σ1 := σ1) (τ1 := τ1) (fun j a b _ _ => by rw [c2 j (by omega), sup_o a]) (fun j a => d2 j a) (fun q hq => by rw [d3, if_neg (by omega)]) ⟨1, by omega, by rw [c2 (36 + s) (by omega), sup_s], by rw [sup_s], fun _ => ⟨⟨k, k1, by rw [wf 0 (by omega)]; exact k2, by rw [sup_j (by omega), show τ1 16 (25 * s) = τ 1 (8 + 6 * w + 0) from mf 0 (by omega)]; exact k2⟩, ⟨e, e1, by rw [wf 1 (by omega), show 8 + 6 * w + 1 = 9 + 6 * w by omega]; exact e2, by rw [sup_j (by omega), mf 1 (by omega), show 8 + 6 * w + 1 = 9 + 6 * w by omega]; exact e2⟩, by rw [wf 2 (by omega), sup_j (by omega), mf 2 (by omega)]⟩, fun z => by omega, fun z => by omega⟩
          rw [a2, sbd2_e]
          exact ⟨r, _, τ', a1, rfl, a3⟩
        · simp (config := {decide := true}) only [h4, if_true, if_false]
          exact ⟨_, _, _, rfl, rfl, R0⟩
      · by_cases h4 : inN c 4 = true
        · obtain ⟨u, hu, rfl⟩ := inN_t (by omega) h4
          obtain ⟨⟨len, l1, l2, l3⟩, ⟨t0, ht⟩, hc⟩ := hX.2.2.1 u hu
          simp (config := {decide := true}) only [h4, if_true, if_false, shr_e (show u < 4096 by omega), snx_e (show u < 4096 by omega), six_e hu (show 4 ≤ 4096 by omega), miss8 t0, sbd_e]
          have neg : ∀ {t : Int32}, (t = -1 ∨ t = 0 ∨ t = 1) → (t = -1 ∧ ¬ 0 ≤ t) ∨ (¬ t = -1 ∧ 0 ≤ t) := fun h => by rcases h with rfl | rfl | rfl <;> decide
          rcases neg ht with ⟨k1, k2⟩ | ⟨k1, k2⟩
          · rw [if_neg k2]
            simp only [k1, decide_true, if_true]
            exact ⟨_, _, _, rfl, rfl, R0⟩
          · simp only [k1, k2, decide_false, if_false, if_true, Bool.false_eq_true]
            obtain ⟨τ1, d1, d2, d3⟩ := ls_loop (s := s) hu hs (fun x93 s94 => (sbd2 (fX9_holds (nI s) (nI 2) s94) fun r56 s57 => (some (r56, s57)))) 24 0 FU (sup τ 16 (25 * s) (τ 12 u)) rfl (FU_gt (by omega))
            rw [show fX9_lay_L95 (nI u) (nI (25 * s)) _ FU (0 : Int32) (sup τ 16 (25 * s) (τ 12 u)) = _ from d1]
            obtain ⟨σ1, q1, q2, q3, q4, q5⟩ := sbec (a := 46 + s) (b := 27 + u) (σ := sup σ (36 + s) 0 (nI 2)) (by rw [fpl_g hs, fpl_s hu]; omega)
            rw [fpl_g hs] at q2 q5
            rw [show 36 + s + 10 = 46 + s by omega, q1, sbd_e]
            have hn : SlR σ1 (sup τ1 15 s (nI 2)) s := by
              refine ⟨2, by omega, by rw [q2 _ (by omega) (by omega), sup_s], by rw [sup_s], fun z => by omega, fun _ => ⟨⟨len, l1, ?_, ?_⟩, fun k hk => ?_⟩, fun z => by omega⟩
              · rw [q4, sup_j (by omega), l2]
              · rw [sup_j (by omega), d3, if_neg (by omega), sup_s, l3]
              · rw [q5 k hk, fpl_s hu, sup_j (by omega), sup_j (by omega), d3, if_pos (by omega), sup_j (by omega), (hc k hk).1, show 24 * u + (25 * s + 1 + k - (25 * s + 1)) = 24 * u + k by omega]
            obtain ⟨r, τ', a1, a2, a3⟩ := lay_end (h := 2) hX hD hR hs (σ1 := σ1) (τ1 := τ1) (fun j a b c d => by rw [q2 j c d, sup_o a]) (fun j a => by rw [d2 j a, sup_o a]) (fun q hq => by rw [d3, if_neg (by omega), sup_k (by omega)]) hn
            rw [a2, sbd2_e]
            exact ⟨r, _, τ', a1, rfl, a3⟩
        · simp (config := {decide := true}) only [h4, if_true, if_false]
          exact ⟨_, _, _, rfl, rfl, R0⟩
      · simp (config := {decide := true}) only [if_true, if_false]
        obtain ⟨r, τ', a1, a2, a3⟩ := lay_end (h := 3) hX hD hR hs (σ1 := sup (sup σ (36 + s) 0 (nI 3)) (36 + s) 1 c) (τ1 := sup τ 16 (25 * s) c) (fun j a _ _ _ => by rw [sup_o a, sup_o a]) (fun j a => sup_o a) (fun q hq => sup_k (by omega)) ⟨3, by omega, by rw [sup_k (by omega), sup_s], by rw [sup_s], fun z => by omega, fun z => by omega, fun _ => by rw [sup_s, sup_j (by omega), sup_s]⟩
        rw [a2, sbd2_e]
        exact ⟨r, _, τ', a1, rfl, a3⟩
    · have b0 : ¬ b = 0 := fun z => h2 (by rw [z]; decide)
      have b1 : ¬ b = 1 := fun z => h2 (by rw [z]; decide)
      have b2 : ¬ b = 2 := fun z => h2 (by rw [z]; decide)
      have b3 : ¬ b = 3 := fun z => h2 (by rw [z]; decide)
      simp only [h1, h2, b0, b1, b2, b3, if_true, if_false, not_false_eq_true, Bool.false_eq_true]
      exact ⟨_, _, _, rfl, rfl, R0⟩
  · simp only [h1, if_false, ite_self, Bool.false_eq_true]
    exact ⟨_, _, _, rfl, rfl, R0⟩

theorem o_ask {S : Nat} {σ τ : Store} (R : Rel S σ τ) (a b : Int32) : ∃ r, fX8_ask a b σ = some r ∧ fX9_ask a b τ = some r := by
  obtain ⟨nw, nt, nx, hR, hD, hX⟩ := R
  unfold fX8_ask fX9_ask
  rw [slot8, slot9, sbd_e, sbd_e, kind8, kind9, sbd_e, sbd_e]
  by_cases h1 : inN a 5 = true
  · rw [if_pos h1, if_pos h1]
    obtain ⟨s, hs, rfl⟩ := inN_t (by omega) h1
    by_cases h2 : inN b 6 = true
    · rw [if_pos h2, if_pos h2]
      obtain ⟨q, hq, rfl⟩ := inN_t (by omega) h2
      obtain ⟨h, x1, x2, x3, x4, x5, x6⟩ := hX.2.2.2.1 s hs
      simp only [l_25, pk_mul, slo_e (show s < 4096 by omega), snx_e (show s < 4096 by omega), snx_e (show 25 * s < 4096 by omega), six_e (show s < 5 from hs) (show 5 ≤ 4096 by omega), six_e (show 25 * s < 125 by omega) (show 125 ≤ 4096 by omega), slt_e, x2, x3, l_1, l_2, nI_add, six_e (show 25 * s + 1 < 125 by omega) (show 125 ≤ 4096 by omega), six_e (show 25 * s + 2 < 125 by omega) (show 125 ≤ 4096 by omega), snx_e (show 25 * s + 1 < 4096 by omega), snx_e (show 25 * s + 2 < 4096 by omega)]
      by_cases h0 : h = 0
      · subst h0; exact ⟨_, rfl, rfl⟩
      · have g0 : ¬ nI h = 0 := fun z => h0 (nI_inj (b := 0) (by omega) (by omega) z)
        rw [if_pos g0, if_pos g0]
        by_cases h11 : h = 1
        · subst h11
          obtain ⟨⟨k, k1, k2, k3⟩, ⟨e, e1, e2, e3⟩, d1⟩ := x4 rfl
          rw [if_neg (fun z => z rfl), if_neg (fun z => z rfl), show 36 + s + 5 = 41 + s by omega, isu8 k1 hq k2, k3, isu9 k1 hq, sbd_e, sbd_e]
          by_cases hu : isu k q = true
          · rw [if_pos hu, if_pos hu]
            obtain ⟨r, w1, w2⟩ := worth_sim (a := 41 + s) (σ := σ) (τ := τ) k1 e1 k2 e2 d1
            rw [w1, e3, w2, sbd_e]
            exact ⟨r, rfl, rfl⟩
          · rw [if_neg hu, if_neg hu]; exact ⟨_, rfl, rfl⟩
        · have g1 : ¬ nI h = nI 1 := fun z => h11 (nI_inj (by omega) (by omega) z)
          rw [if_pos g1, if_pos g1]; exact ⟨_, rfl, rfl⟩
    · rw [if_neg h2, if_neg h2]; exact ⟨_, rfl, rfl⟩
  · rw [if_neg h1, if_neg h1]; exact ⟨_, rfl, rfl⟩
theorem o_item {S : Nat} {σ τ : Store} (R : Rel S σ τ) (a b : Int32) : ∃ r, fX8_item a b σ = some r ∧ fX9_item a b τ = some r := by
  obtain ⟨nw, nt, nx, hR, hD, hX⟩ := R
  unfold fX8_item fX9_item
  rw [slot8, slot9, sbd_e, sbd_e]
  by_cases h1 : inN a 5 = true
  · rw [if_pos h1, if_pos h1]
    obtain ⟨s, hs, rfl⟩ := inN_t (by omega) h1
    obtain ⟨h, x1, x2, x3, x4, x5, x6⟩ := hX.2.2.2.1 s hs
    simp only [l_25, pk_mul, slo_e (show s < 4096 by omega), snx_e (show s < 4096 by omega), snx_e (show 25 * s < 4096 by omega), six_e (show s < 5 from hs) (show 5 ≤ 4096 by omega), six_e (show 25 * s < 125 by omega) (show 125 ≤ 4096 by omega), slt_e, x2, x3, l_2]
    by_cases h0 : h = 0
    · subst h0; exact ⟨_, rfl, rfl⟩
    · have g0 : ¬ nI h = 0 := fun z => h0 (nI_inj (b := 0) (by omega) (by omega) z)
      rw [if_pos g0, if_pos g0]
      by_cases h22 : h = 2
      · subst h22
        obtain ⟨⟨len, l1, l2, l3⟩, hc⟩ := x5 rfl
        rw [if_pos rfl, if_pos rfl, show 36 + s + 10 = 46 + s by omega, place8 l2 l1, within9, l3, wth_n (by omega), sbd_e, sbd_e]
        by_cases h2 : inN b len = true
        · rw [if_pos h2, if_pos h2]
          obtain ⟨k, hk, rfl⟩ := inN_t (by omega) h2
          have hck := hc k (by omega)
          rw [numb8 l2 l1 (by omega), sbd_e, fpl_g hs, six_e (k := k) (by omega) (by omega), snx_e (k := k) (by omega), l_1, nI_add, nI_add]
          simp only [six_e (show 25 * s + 1 + k < 125 by omega) (show 125 ≤ 4096 by omega), snx_e (show 25 * s + 1 + k < 4096 by omega), ← hck]
          by_cases h3 : σ (51 + s) k = -1000000005
          · rw [if_neg (fun z => (of_decide_eq_true z).2 h3), if_neg (fun z => z h3)]; exact ⟨_, rfl, rfl⟩
          · rw [if_pos (decide_eq_true ⟨hk, h3⟩), if_pos h3]; exact ⟨_, rfl, rfl⟩
        · rw [if_neg h2, if_neg h2]; exact ⟨_, rfl, rfl⟩
      · have g1 : ¬ nI h = nI 2 := fun z => h22 (nI_inj (by omega) (by omega) z)
        rw [if_neg g1, if_neg g1]; exact ⟨_, rfl, rfl⟩
  · rw [if_neg h1, if_neg h1]; exact ⟨_, rfl, rfl⟩
theorem o_rest {S : Nat} {σ τ : Store} (R : Rel S σ τ) (a b : Int32) : ∃ r, fX8_rest a b σ = some r ∧ fX9_rest a b τ = some r := by
  obtain ⟨nw, nt, nx, hR, hD, hX⟩ := R
  unfold fX8_rest fX9_rest
  rw [slot8, slot9, sbd_e, sbd_e]
  by_cases h1 : inN a 5 = true
  · rw [if_pos h1, if_pos h1]
    obtain ⟨s, hs, rfl⟩ := inN_t (by omega) h1
    obtain ⟨h, x1, x2, x3, x4, x5, x6⟩ := hX.2.2.2.1 s hs
    simp only [l_25, pk_mul, slo_e (show s < 4096 by omega), snx_e (show s < 4096 by omega), snx_e (show 25 * s < 4096 by omega), six_e (show s < 5 from hs) (show 5 ≤ 4096 by omega), six_e (show 25 * s < 125 by omega) (show 125 ≤ 4096 by omega), slt_e, x2, x3, l_3]
    by_cases h0 : h = 0
    · subst h0; exact ⟨_, rfl, rfl⟩
    · have g0 : ¬ nI h = 0 := fun z => h0 (nI_inj (b := 0) (by omega) (by omega) z)
      rw [if_pos g0, if_pos g0]
      by_cases h33 : h = 3
      · subst h33
        rw [if_pos rfl, if_pos rfl, x6 rfl]
        unfold sdz
        by_cases hb : b = 0
        · rw [if_neg (fun z => z hb)]; exact ⟨_, rfl, rfl⟩
        · rw [if_pos hb, if_neg hb]; exact ⟨_, rfl, rfl⟩
      · have g1 : ¬ nI h = nI 3 := fun z => h33 (nI_inj (by omega) (by omega) z)
        rw [if_neg g1, if_neg g1]; exact ⟨_, rfl, rfl⟩
  · rw [if_neg h1, if_neg h1]; exact ⟨_, rfl, rfl⟩
