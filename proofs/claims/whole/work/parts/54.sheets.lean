/-! the sheets -/
theorem Rel.shs {S nw nt nx : Nat} {σ τ σ' τ' : Store} (hX : Rst S nx σ τ) (hD : DyO (τ 1)) (hR : BR 57 nw nt nx S σ τ) (h8 : ∀ j, ¬ (27 ≤ j ∧ j < 35) → σ' j = σ j) (h9 : ∀ j, j ≠ 11 → j ≠ 12 → j ≠ 13 → j ≠ 14 → τ' j = τ j) (hS : ∀ s, s < 4 → ShR σ' τ' s) : Rel S σ' τ' := by
  obtain ⟨i1, i2, i3, i4, i5⟩ := hX
  have d (j : Nat) (h : j < 11 ∨ 14 < j) : τ' j = τ j := h9 j (by omega) (by omega) (by omega) (by omega)
  exact ⟨nw, nt, nx, hR.same (fun j hj => h8 j (by omega)) (d 1 (by omega)), by rw [d 1 (by omega)]; exact hD, i1.same (by rw [h8 0 (by omega)]) (by rw [d 0 (by omega)]) (fun j hj => h8 j (by omega)) (d 2 (by omega)), i2.same (by rw [h8 0 (by omega)]) (by rw [d 0 (by omega)]) (h8 23 (by omega)) (d 5 (by omega)), hS, fun s hs => (i4 s hs).same (h8 _ (by omega)) (h8 _ (by omega)) (h8 _ (by omega)) (h8 _ (by omega)) (d _ (by omega)) (d _ (by omega)), i5.same (by rw [h8 0 (by omega)]) (by rw [d 0 (by omega)]) (h8 56 (by omega)) (d 17 (by omega))⟩
theorem clr8 {o : Nat} : ∀ (m i n : Nat) (σ : Store), i + m = 24 → m < n → ∃ σ', fX3_clear_L12 o n (nI i) σ = some σ' ∧ (∀ j, j ≠ fpl o → σ' j = σ j) ∧ ∀ k, σ' (fpl o) k = if i ≤ k ∧ k < 24 then 0 else σ (fpl o) k := by
  intro m
  induction m with
  | zero =>
    intro i n σ hi hn
    obtain rfl : i = 24 := by omega
    obtain ⟨n, rfl⟩ : ∃ k, n = k + 1 := ⟨n - 1, by omega⟩
    exact ⟨σ, by rw [fX3_clear_L12, if_pos (by decide)], fun _ _ => rfl, fun k => by rw [if_neg (by omega)]⟩
  | succ m ih =>
    intro i n σ hi hn
    obtain ⟨n, rfl⟩ : ∃ k, n = k + 1 := ⟨n - 1, by omega⟩
    obtain ⟨σ', a1, a2, a3⟩ := ih (i + 1) n (sup σ (fpl o) i 0) (by omega) (by omega)
    refine ⟨σ', ?_, fun j hj => by rw [a2 j hj, sup_o hj], fun k => ?_⟩
    · rw [fX3_clear_L12, l_24, if_neg (nI_ge (by omega) (by omega)), six_e (by omega) (by omega), slt_e, snx_e (by omega), nI_1]
      exact a1
    · rw [a3 k, sup_e]
      by_cases h1 : k = i
      · subst h1; rw [if_neg (by omega), if_pos ⟨rfl, rfl⟩, if_pos (by omega)]
      · by_cases h2 : i ≤ k ∧ k < 24
        · rw [if_pos (by omega), if_pos h2]
        · rw [if_neg (by omega), if_neg (fun z => h1 z.2), if_neg h2]
theorem clr9 {s : Nat} (hs : s < 4) (K : Int32 → Store → Option (Int32 × Store)) : ∀ (m i n : Nat) (τ : Store), i + m = 24 → m < n → ∃ τ', fX9_sheet_L66 (nI s) K n (nI i) τ = K (nI 24) τ' ∧ (∀ j, j ≠ 13 → τ' j = τ j) ∧ ∀ q, τ' 13 q = if 24 * s + i ≤ q ∧ q < 24 * s + 24 then 0 else τ 13 q := by
  intro m
  induction m with
  | zero =>
    intro i n τ hi hn
    obtain rfl : i = 24 := by omega
    obtain ⟨n, rfl⟩ : ∃ k, n = k + 1 := ⟨n - 1, by omega⟩
    exact ⟨τ, by rw [fX9_sheet_L66, if_pos (by decide)], fun _ _ => rfl, fun k => by rw [if_neg (by omega)]⟩
  | succ m ih =>
    intro i n τ hi hn
    obtain ⟨n, rfl⟩ : ∃ k, n = k + 1 := ⟨n - 1, by omega⟩
    obtain ⟨τ', a1, a2, a3⟩ := ih (i + 1) n (sup τ 13 (24 * s + i) 0) (by omega) (by omega)
    refine ⟨τ', ?_, fun j hj => by rw [a2 j hj, sup_o hj], fun k => ?_⟩
    · rw [fX9_sheet_L66, l_24, if_neg (nI_ge (by omega) (by omega)), pk_mul, nI_add, six_e (by omega) (by omega), slt_e, snx_e (by omega), nI_1]
      exact a1
    · rw [a3 k, sup_e]
      by_cases h1 : k = 24 * s + i
      · subst h1; rw [if_neg (by omega), if_pos ⟨rfl, rfl⟩, if_pos (by omega)]
      · by_cases h2 : 24 * s + i ≤ k ∧ k < 24 * s + 24
        · rw [if_pos (by omega), if_pos h2]
        · rw [if_neg (by omega), if_neg (fun z => h1 z.2), if_neg h2]
theorem fpl_s {s : Nat} (h : s < 4) : fpl (27 + s) = 31 + s := by unfold fpl; rw [if_pos (by omega)]; omega
theorem fpl_g {s : Nat} (h : s < 5) : fpl (46 + s) = 51 + s := by unfold fpl; rw [if_neg (by omega)]; omega
theorem vOk_0 : vOk 0 := Or.inr (by decide)
/-- both sides lay a new sheet -/
theorem new_sheet {S nw nt nx s len : Nat} {t : Int32} {σ τ : Store} (hX : Rst S nx σ τ) (hD : DyO (τ 1)) (hR : BR 57 nw nt nx S σ τ) (hs : s < 4) (hl : len ≤ 24) (ht : t = -1 ∨ t = 0 ∨ t = 1) (K : Int32 → Store → Option (Int32 × Store)) :
    ∃ σ' τ', fX3_clear (27 + s) t (nI len) σ = some σ' ∧ fX9_sheet_L66 (nI s) K FU (0 : Int32) (sup (sup τ 11 s t) 12 s (nI len)) = K (nI 24) τ' ∧ τ' 12 s = nI len ∧ Rel S σ' τ' := by
  obtain ⟨σ', a1, a2, a3⟩ := clr8 (o := 27 + s) 24 0 FU (sup (sup σ (27 + s) 0 t) (27 + s) 1 (nI len)) rfl (FU_gt (by omega))
  obtain ⟨τ', b1, b2, b3⟩ := clr9 hs K 24 0 FU (sup (sup τ 11 s t) 12 s (nI len)) rfl (FU_gt (by omega))
  rw [fpl_s hs] at a2 a3
  refine ⟨σ', τ', by unfold fX3_clear; rw [slt_e, slt_e]; exact a1, b1, by rw [b2 12 (by omega), sup_s], Rel.shs hX hD hR (fun j hj => by rw [a2 j (by omega), sup_o (by omega), sup_o (by omega)]) (fun j h1 h2 h3 _ => by rw [b2 j h3, sup_o h2, sup_o h1]) (fun s2 hs2 => ?_)⟩
  unfold ShR
  rw [b2 12 (by omega), b2 11 (by omega), a2 (27 + s2) (by omega)]
  by_cases h : s2 = s
  · subst h
    simp (config := {decide := true}) only [sup_e, true_and, and_self, if_true, if_false, and_false, false_and]
    refine ⟨⟨len, hl, rfl⟩, ht, fun k hk => ?_⟩
    rw [a3, b3, if_pos (by omega), if_pos (by omega)]
    exact ⟨rfl, vOk_0⟩
  · obtain ⟨c1, c2, c3⟩ := hX.2.2.1 s2 hs2
    have h' : ¬ 27 + s2 = 27 + s := by omega
    simp (config := {decide := true}) only [sup_e, h, h', and_false, false_and, if_false]
    refine ⟨c1, c2, fun k hk => ?_⟩
    rw [a2 (31 + s2) (by omega), b3, if_neg (by omega), sup_j (by omega), sup_j (by omega), sup_j (by omega), sup_j (by omega)]
    exact c3 k hk
theorem o_sheet {S : Nat} {σ τ : Store} (R : Rel S σ τ) (a b c : Int32) : ∃ r σ' τ', fX8_sheet a b c σ = some (r, σ') ∧ fX9_sheet a b c τ = some (r, τ') ∧ Rel S σ' τ' := by
  have R0 := R
  obtain ⟨nw, nt, nx, hR, hD, hX⟩ := R
  unfold fX8_sheet fX9_sheet
  rw [sheet8, sheet9, sbd_e, sbd_e, within8, within9, sbd_e, sbd_e]
  by_cases h1 : inN a 4 = true
  · rw [if_pos h1, if_pos h1]
    obtain ⟨s, hs, rfl⟩ := inN_t (by omega) h1
    by_cases h2 : wth b (-1) 1 = true
    · rw [if_pos h2, if_pos h2, six_e (by omega) (by omega), six_e (by omega) (by omega), six_e (by omega) (by omega), shr_e (by omega), snx_e (by omega)]
      obtain ⟨w1, w2⟩ := wth_of h2
      have w1 : -1 ≤ b.toInt := w1
      have w2 : b.toInt ≤ 1 := w2
      by_cases hb : b = -1
      · subst hb
        obtain ⟨σ', τ', a1, a2, a3, a4⟩ := new_sheet hX hD hR hs (len := 0) (t := -1) (by omega) (Or.inl rfl) (fun x23 s24 => (six 4 (nI s) (some ((s24 12 s), s24))))
        rw [if_neg (fun z => z rfl), show fX3_clear (27 + s) (-1) (0 : Int32) σ = _ from a1, sbd_e]
        have a2' : fX9_sheet_L66 (nI s) (fun x23 s24 => (six 4 (nI s) (some ((s24 12 s), s24)))) FU (0 : Int32) (sup (sup τ 11 s (-1)) 12 s (0 : Int32)) = _ := a2
        simp only [six_e (show s < 4 from hs) (show 4 ≤ 4096 by omega)] at a2'
        simp (config := {decide := true}) only [sjn_e, slt_e, if_true, if_false, six_e (show s < 4 from hs) (show 4 ≤ 4096 by omega)]
        rw [a2', a3]
        exact ⟨_, _, _, rfl, rfl, a4⟩
      · have hb0 : 0 ≤ b.toInt := by
          have : ¬ b.toInt = -1 := fun z => hb (Int32.toInt_inj.mp z)
          omega
        have hbn : ¬ b < 0 := fun z => by have := (fa_lt _ _).mp z; have e : (0 : Int32).toInt = 0 := rfl; omega
        have hbp : (0 : Int32) ≤ b := (fa_le _ _).mpr hb0
        have ht : b = -1 ∨ b = 0 ∨ b = 1 := by
          have : b.toInt = 0 ∨ b.toInt = 1 := by omega
          rcases this with h | h
          · exact Or.inr (Or.inl (Int32.toInt_inj.mp h))
          · exact Or.inr (Or.inr (Int32.toInt_inj.mp h))
        rw [if_pos hb]
        simp only [sjn_e, slt_e, hbn, hbp, if_true, if_false]
        by_cases hc : c ≤ 24
        · simp only [hc, if_true]
          by_cases hc0 : (0 : Int32) ≤ c
          · simp only [hc0, if_true]
            obtain ⟨len, hl, rfl⟩ := i_of (v := c) (n := 24) ((fa_le _ _).mp hc0) ((fa_le _ _).mp hc)
            obtain ⟨σ', τ', a1, a2, a3, a4⟩ := new_sheet hX hD hR hs (len := len) (t := b) hl ht (fun x23 s24 => (six 4 (nI s) (some ((s24 12 s), s24))))
            rw [a1, sbd_e, a2]
            simp only [six_e (show s < 4 from hs) (show 4 ≤ 4096 by omega), a3]
            exact ⟨_, _, _, rfl, rfl, a4⟩
          · simp only [hc0, if_false]
            exact ⟨_, _, _, rfl, rfl, R0⟩
        · simp only [hc, if_false]
          exact ⟨_, _, _, rfl, rfl, R0⟩
    · rw [if_neg h2, if_neg h2]; exact ⟨_, _, _, rfl, rfl, R0⟩
  · rw [if_neg h1, if_neg h1]; exact ⟨_, _, _, rfl, rfl, R0⟩

/-! marks -/
theorem ShR.put {σ τ : Store} {s p : Nat} {v : Int32} (h : ∀ s2, s2 < 4 → ShR σ τ s2) (hs : s < 4) (hp : p < 24) (hv : vOk v) : ∀ s2, s2 < 4 → ShR (sup σ (31 + s) p v) (sup τ 13 (24 * s + p) v) s2 := by
  intro s2 hs2
  obtain ⟨c1, c2, c3⟩ := h s2 hs2
  unfold ShR
  rw [sup_j (by omega), sup_j (by omega), sup_j (by omega), sup_j (by omega)]
  refine ⟨c1, c2, fun k hk => ?_⟩
  rw [sup_e, sup_e]
  by_cases hz : s2 = s ∧ k = p
  · obtain ⟨rfl, rfl⟩ := hz
    rw [if_pos ⟨rfl, rfl⟩, if_pos ⟨rfl, rfl⟩]; exact ⟨rfl, hv⟩
  · rw [if_neg (by omega), if_neg (by omega)]; exact c3 k hk
theorem place8 {o len : Nat} {σ : Store} (h : σ o 1 = nI len) (hl : len ≤ 24) (a : Int32) : fX3_hasPlace o a σ = some (inN a len) := by
  unfold fX3_hasPlace
  rw [h, within8, sbd_e, wth_n (by omega)]
theorem numb8 {o len k : Nat} {σ : Store} (h : σ o 1 = nI len) (hl : len ≤ 24) (hk : k < 4096) : fX3_isNumber o (nI k) σ = some (decide (k < len ∧ ¬ σ (fpl o) k = -1000000005)) := by
  unfold fX3_isNumber
  rw [place8 h hl, sbd_e]
  by_cases h1 : k < len
  · rw [if_pos (inN_n h1 (by omega)), six_e (by omega) (by omega), snx_e hk]
    by_cases h2 : σ (fpl o) k = -1000000005
    · rw [if_pos h2, decide_eq_false (fun z => z.2 h2)]
    · rw [if_neg h2, decide_eq_true ⟨h1, h2⟩]
  · rw [if_neg (fun z => by obtain ⟨j, hj, e⟩ := inN_t (by omega) z; have := nI_inj (by omega) (by omega) e; omega), decide_eq_false (fun z => h1 z.1)]
theorem miss8 {o : Nat} {t : Int32} {σ : Store} (h : σ o 0 = t) : fX3_isMissing o σ = some (decide (t = -1)) := by
  unfold fX3_isMissing
  rw [h]
  by_cases h1 : t = -1
  · rw [if_neg (fun z => z h1), decide_eq_true h1]
  · rw [if_pos h1, decide_eq_false h1]
theorem o_mark {S : Nat} {σ τ : Store} (R : Rel S σ τ) (a b c : Int32) : ∃ r σ' τ', fX8_mark a b c σ = some (r, σ') ∧ fX9_mark a b c τ = some (r, τ') ∧ Rel S σ' τ' := by
  have R0 := R
  obtain ⟨nw, nt, nx, hR, hD, hX⟩ := R
  unfold fX8_mark fX9_mark
  rw [sheet8, sheet9, sbd_e, sbd_e]
  by_cases h1 : inN a 4 = true
  · rw [if_pos h1, if_pos h1]
    obtain ⟨s, hs, rfl⟩ := inN_t (by omega) h1
    obtain ⟨⟨len, l1, l2, l3⟩, ⟨t0, ht⟩, hc⟩ := hX.2.2.1 s hs
    rw [shr_e (by omega), snx_e (by omega), miss8 t0, place8 l2 l1, within9, l3, wth_n (by omega), t0]
    simp only [six_e (show s < 4 from hs) (show 4 ≤ 4096 by omega), sbd_e]
    generalize ht' : τ 11 s = t at *
    have fin : ∀ (p : Nat) (v : Int32), p < len → vOk v → ∃ r σ' τ', (six 24 (nI p) (slt (sup σ (fpl (27 + s)) (snx (nI p)) v) fun s16 => (some ((1 : Int32), s16)))) = some (r, σ') ∧ (six 96 (((24 : Int32) * nI s) + nI p) (slt (sup τ 13 (snx (((24 : Int32) * nI s) + nI p)) v) fun s19 => (some ((1 : Int32), s19)))) = some (r, τ') ∧ Rel S σ' τ' := by
      intro p v hp hv
      rw [l_24, pk_mul, nI_add, six_e (by omega) (by omega), six_e (by omega) (by omega), slt_e, slt_e, snx_e (by omega), snx_e (by omega), fpl_s hs]
      exact ⟨_, _, _, rfl, rfl, Rel.shs hX hD hR (fun j hj => sup_o (by omega)) (fun j _ _ h _ => sup_o h) (ShR.put hX.2.2.1 hs (by omega) hv)⟩
    by_cases h2 : inN b len = true
    · obtain ⟨p, hp, rfl⟩ := inN_t (by omega) h2
      rcases ht with rfl | rfl | rfl
      · simp (config := {decide := true}) only [if_true, if_false]
        exact ⟨_, _, _, rfl, rfl, R0⟩
      · simp (config := {decide := true}) only [h2, sjn_e, if_true, if_false]
        by_cases h3 : c = -1000000005
        · simp only [h3, not_true_eq_false, if_false]
          exact ⟨_, _, _, rfl, rfl, R0⟩
        · simp only [h3, not_false_eq_true, if_true]
          exact fin p _ hp (Or.inr (by have := lg_i2s_range c; omega))
      · simp (config := {decide := true}) only [h2, sjn_e, if_true, if_false, within8, within9, sbd_e]
        by_cases h3 : c = -1000000005
        · simp only [h3, if_true]
          exact fin p _ hp (Or.inl rfl)
        · simp only [h3, if_false]
          by_cases h4 : wth c (-99999) 99999 = true
          · simp only [h4, if_true]
            obtain ⟨z1, z2⟩ := wth_of h4
            exact fin p _ hp (Or.inr ⟨z1, z2⟩)
          · simp only [h4, if_false]
            exact ⟨_, _, _, rfl, rfl, R0⟩
    · rcases ht with rfl | rfl | rfl <;> simp (config := {decide := true}) only [h2, if_true, if_false] <;> exact ⟨_, _, _, rfl, rfl, R0⟩
  · rw [if_neg h1, if_neg h1]; exact ⟨_, _, _, rfl, rfl, R0⟩
theorem sup_self {σ : Store} {j k : Nat} : sup σ j k (σ j k) = σ := by
  funext j' k'
  rw [sup_e]
  by_cases h : j' = j ∧ k' = k
  · rw [if_pos h, h.1, h.2]
  · rw [if_neg h]
theorem pour_loop {nw nt nx S s len : Nat} (hs : s < 4) (hl : len ≤ 24) : ∀ (m i : Nat) (a : Int32) (σ τ : Store) (n n2 : Nat), i + m = 24 → m < n → m < n2 → BR 57 nw nt nx S σ τ → σ (27 + s) 1 = nI len → τ 12 s = nI len → (∀ k, k < 24 → σ (31 + s) k = τ 13 (24 * s + k)) →
    ∃ r σ' τ', fX8_pour_L32 (27 + s) n a (nI i) σ = some (r, σ') ∧ fX9_pour_L26 (nI s) n2 a (nI i) τ = some (r, τ') ∧ BR 57 nw nt nx S σ' τ' ∧ fr8 57 σ σ' ∧ fr9 τ τ' := by
  intro m
  induction m with
  | zero =>
    intro i a σ τ n n2 hi hn hn2 hR e1 e2 e3
    obtain rfl : i = 24 := by omega
    have hsz := hR.1.2.1
    have g3 : σ 57 3 = nI nw := by rw [hR.1.1.head.2.2.2.2.2.1, hR.1.2.2.1]
    obtain ⟨n, rfl⟩ : ∃ k, n = k + 1 := ⟨n - 1, by omega⟩
    obtain ⟨n2, rfl⟩ : ∃ k, n2 = k + 1 := ⟨n2 - 1, by omega⟩
    refine ⟨a, σ, τ, ?_, ?_, hR, fr8.rf, fr9.rf⟩
    · rw [fX8_pour_L32, g3, if_pos (nI_le (by omega) (by omega))]
    · rw [fX9_pour_L26, l_5, six_e (by omega) (by omega), snx_e (by omega), hR.1.2.2.1, if_pos (nI_le (by omega) (by omega))]
  | succ m ih =>
    intro i a σ τ n n2 hi hn hn2 hR e1 e2 e3
    have hsz := hR.1.2.1
    have g3 : σ 57 3 = nI nw := by rw [hR.1.1.head.2.2.2.2.2.1, hR.1.2.2.1]
    obtain ⟨n, rfl⟩ : ∃ k, n = k + 1 := ⟨n - 1, by omega⟩
    obtain ⟨n2, rfl⟩ : ∃ k, n2 = k + 1 := ⟨n2 - 1, by omega⟩
    by_cases c1 : nw ≤ i
    · refine ⟨a, σ, τ, ?_, ?_, hR, fr8.rf, fr9.rf⟩
      · rw [fX8_pour_L32, g3, if_pos (nI_le c1 (by omega))]
      · rw [fX9_pour_L26, l_5, six_e (by omega) (by omega), snx_e (by omega), hR.1.2.2.1, if_pos (nI_le c1 (by omega))]
    · by_cases c2 : len ≤ i
      · refine ⟨a, σ, τ, ?_, ?_, hR, fr8.rf, fr9.rf⟩
        · rw [fX8_pour_L32, g3, if_neg (nI_ge (by omega) (by omega)), e1, if_pos (nI_le c2 (by omega))]
        · rw [fX9_pour_L26, l_5, six_e (by omega) (by omega), snx_e (by omega), hR.1.2.2.1, if_neg (nI_ge (by omega) (by omega)), six_e (by omega) (by omega), snx_e (by omega), e2, if_pos (nI_le c2 (by omega))]
      · have k3 := e3 i (by omega)
        have w2 := hR.wf (w := i) (f := 2) (by omega) (by omega)
        have nxt : ∀ (v : Int32) (a : Int32), ∃ r σ' τ', fX8_pour_L32 (27 + s) n a (nI (i + 1)) (sup σ (57 + (3 + i)) 2 v) = some (r, σ') ∧ fX9_pour_L26 (nI s) n2 a (nI (i + 1)) (sup τ 1 (8 + 6 * i + 2) v) = some (r, τ') ∧ BR 57 nw nt nx S σ' τ' ∧ fr8 57 σ σ' ∧ fr9 τ τ' := by
          intro v a
          obtain ⟨r, σ', τ', b1, b2, b3, b4, b5⟩ := ih (i + 1) a (sup σ (57 + (3 + i)) 2 v) (sup τ 1 (8 + 6 * i + 2) v) n n2 (by omega) (by omega) (by omega) (hR.fld (by omega) (Or.inl rfl) v) (by rw [sup_j (by omega), e1]) (by rw [sup_j (by omega), e2]) (fun k hk => by rw [sup_j (by omega), sup_j (by omega), e3 k hk])
          exact ⟨r, σ', τ', b1, b2, b3, (fr8.rf.up (by omega)).tr b4, (fr9.rf.up (by omega)).tr b5⟩
        have stay := nxt (σ (57 + (3 + i)) 2)
        rw [w2, ← w2, sup_self, w2, sup_self] at stay
        rw [fX8_pour_L32, g3, if_neg (nI_ge (by omega) (by omega)), e1, if_neg (nI_ge (by omega) (by omega)), six_e (by omega) (by omega), slt_e, numb8 e1 hl (by omega), sbd_e, sjn_e, fpl_s hs, wrd_e (by omega)]
        rw [fX9_pour_L26, l_5, six_e (k := 5) (by omega) (by omega), snx_e (k := 5) (by omega), hR.1.2.2.1, if_neg (nI_ge (by omega) (by omega)), six_e (k := s) (by omega) (by omega), snx_e (k := s) (by omega), e2, if_neg (nI_ge (by omega) (by omega)), l_24, pk_mul, nI_add, six_e (k := 24 * s + i) (by omega) (by omega), slt_e, snx_e (k := 24 * s + i) (by omega), sjn_e, l_8, l_6, pk_mul, nI_add, l_2, nI_add, wI (x := nI 2) (f := 2) (by omega) (by omega) rfl, k3]
        simp only [six_e (show i < 10 by omega) (show 10 ≤ 4096 by omega), six_e (show i < 24 by omega) (show 24 ≤ 4096 by omega), snx_e (show i < 4096 by omega), nI_1, sbd_e, slt_e, bec9 (show 8 + 6 * i + 2 < 1480 by omega), sbd2_e, w2]
        by_cases c3 : τ 13 (24 * s + i) = -1000000005
        · simp only [c3, not_true_eq_false, and_false, decide_false, if_false, Bool.false_eq_true, w2, if_true, Int32.add_zero]
          rw [sup_self]; exact stay a
        · have hd : (i < len ∧ ¬ τ 13 (24 * s + i) = -1000000005) := ⟨by omega, c3⟩
          unfold fX8_held
          rw [smin_c (σ (31 + s) i) 99, k3]
          simp only [hd, c3, not_false_eq_true, and_self, decide_true, if_true, sbd_e, sup_s]
          generalize smax 0 (smin 99 (τ 13 (24 * s + i))) = v
          by_cases c4 : v = τ 1 (8 + 6 * i + 2)
          · rw [if_pos c4, if_neg (fun z => z c4.symm), Int32.add_zero]; exact nxt v a
          · rw [if_neg c4, if_pos (fun z => c4 z.symm)]; exact nxt v _
theorem o_pour {S : Nat} {σ τ : Store} (R : Rel S σ τ) (a : Int32) : ∃ r σ' τ', fX8_pour a σ = some (r, σ') ∧ fX9_pour a τ = some (r, τ') ∧ Rel S σ' τ' := by
  have R0 := R
  obtain ⟨nw, nt, nx, hR, hD, hX⟩ := R
  unfold fX8_pour fX9_pour
  rw [sheet8, sheet9, sbd_e, sbd_e]
  by_cases h1 : inN a 4 = true
  · rw [if_pos h1, if_pos h1]
    obtain ⟨s, hs, rfl⟩ := inN_t (by omega) h1
    obtain ⟨⟨len, l1, l2, l3⟩, ⟨t0, ht⟩, hc⟩ := hX.2.2.1 s hs
    rw [shr_e (by omega), snx_e (by omega), miss8 t0, six_e (by omega) (by omega), six_e (by omega) (by omega), sbd_e]
    obtain ⟨r, σ', τ', b1, b2, b3, b4, b5⟩ := pour_loop hs l1 24 0 0 σ τ FU FU rfl (FU_gt (by omega)) (FU_gt (by omega)) hR l2 l3 (fun k hk => (hc k hk).1)
    have hb := Rel.now hX hD b3 b4.st b5 (Nat.le_refl _)
    rcases ht with h | h | h
    · rw [h]; exact ⟨_, _, _, rfl, rfl, R0⟩
    · rw [h, if_neg (by decide), if_pos (by decide)]; exact ⟨_, _, _, b1, b2, hb⟩
    · rw [h, if_neg (by decide), if_pos (by decide)]; exact ⟨_, _, _, b1, b2, hb⟩
  · rw [if_neg h1, if_neg h1]; exact ⟨_, _, _, rfl, rfl, R0⟩
theorem reads_loop {nw nt nx S s len : Nat} {σ τ : Store} (hs : s < 4) (hl : len ≤ 24) (hR : BR 57 nw nt nx S σ τ) (e1 : σ (27 + s) 1 = nI len) (e2 : τ 12 s = nI len) (e3 : ∀ k, k < 24 → σ (31 + s) k = τ 13 (24 * s + k)) : ∀ (m i n n2 : Nat), i + m = len → m < n → m < n2 →
    ∃ r, fX8_reads_L29 (27 + s) σ n (nI i) = some r ∧ fX9_reads_L24 (nI s) τ n2 (nI i) = some r := by
  have hsz := hR.1.2.1
  intro m
  induction m with
  | zero =>
    intro i n n2 hi hn hn2
    obtain rfl : i = len := by omega
    obtain ⟨n, rfl⟩ : ∃ k, n = k + 1 := ⟨n - 1, by omega⟩
    obtain ⟨n2, rfl⟩ : ∃ k, n2 = k + 1 := ⟨n2 - 1, by omega⟩
    refine ⟨-1000000005, ?_, ?_⟩
    · rw [fX8_reads_L29, e1, if_pos (Int32.le_refl _)]
    · rw [fX9_reads_L24, six_e (by omega) (by omega), snx_e (by omega), e2, if_pos (Int32.le_refl _)]
  | succ m ih =>
    intro i n n2 hi hn hn2
    obtain ⟨n, rfl⟩ : ∃ k, n = k + 1 := ⟨n - 1, by omega⟩
    obtain ⟨n2, rfl⟩ : ∃ k, n2 = k + 1 := ⟨n2 - 1, by omega⟩
    have nxt := ih (i + 1) n n2 (by omega) (by omega) (by omega)
    have k3 := e3 i (by omega)
    rw [fX8_reads_L29, e1, if_neg (nI_ge (by omega) (by omega)), hasW8 hR, sbd_e, numb8 e1 hl (by omega), sjn_e, fpl_s hs, wrd_e (by omega), nI_1]
    rw [fX9_reads_L24, six_e (k := s) (by omega) (by omega), snx_e (k := s) (by omega), e2, if_neg (nI_ge (by omega) (by omega)), l_24, pk_mul, nI_add, six_e (k := 24 * s + i) (by omega) (by omega), slt_e, snx_e (k := 24 * s + i) (by omega), isW9 hR, sbd_e, nI_1]
    by_cases c1 : i < nw
    · rw [inN_n c1 (by omega), wI (x := 4) (f := 4) (by omega) (by omega) rfl, sbd_e]
      have w4 := hR.wf (w := i) (f := 4) (by omega) (by omega)
      simp only [if_true, six_e (show i < 10 by omega) (show 10 ≤ 4096 by omega), snx_e (show i < 4096 by omega), w4, k3, sbd_e, l_24, six_e (show i < 24 by omega) (show 24 ≤ 4096 by omega)]
      by_cases c3 : τ 13 (24 * s + i) = -1000000005
      · simp only [c3, not_true_eq_false, and_false, decide_false, if_false, Bool.false_eq_true, if_true, ite_self]
        exact nxt
      · have hd : (i < len ∧ ¬ τ 13 (24 * s + i) = -1000000005) := ⟨by omega, c3⟩
        simp only [hd, c3, not_false_eq_true, and_self, decide_true, if_true, if_false]
        by_cases c4 : τ 13 (24 * s + i) = τ 1 (8 + 6 * i + 4)
        · simp only [c4, not_true_eq_false, if_false, if_true]; exact nxt
        · have c4' : ¬ τ 1 (8 + 6 * i + 4) = τ 13 (24 * s + i) := fun z => c4 z.symm
          simp only [c4, c4', not_false_eq_true, if_false, if_true, Bool.false_eq_true]; exact ⟨_, rfl, rfl⟩
    · have hf : inN (nI i) nw = false := b_f (fun z => by obtain ⟨j, hj, e⟩ := inN_t (by omega) z; have := nI_inj (by omega) (by omega) e; omega)
      rw [hf]
      simp only [if_false, Bool.false_eq_true, sbd_e, k3]
      by_cases c3 : τ 13 (24 * s + i) = -1000000005
      · simp only [c3, not_true_eq_false, and_false, decide_false, if_false, Bool.false_eq_true, if_true]
        exact nxt
      · have hd : (i < len ∧ ¬ τ 13 (24 * s + i) = -1000000005) := ⟨by omega, c3⟩
        simp only [hd, c3, not_false_eq_true, and_self, decide_true, if_true, if_false]
        exact ⟨_, rfl⟩
theorem o_reads {S : Nat} {σ τ : Store} (R : Rel S σ τ) (a : Int32) : ∃ r, fX8_reads a σ = some r ∧ fX9_reads a τ = some r := by
  obtain ⟨nw, nt, nx, hR, hD, hX⟩ := R
  unfold fX8_reads fX9_reads
  rw [sheet8, sheet9, sbd_e, sbd_e]
  by_cases h1 : inN a 4 = true
  · rw [if_pos h1, if_pos h1]
    obtain ⟨s, hs, rfl⟩ := inN_t (by omega) h1
    obtain ⟨⟨len, l1, l2, l3⟩, ⟨t0, ht⟩, hc⟩ := hX.2.2.1 s hs
    rw [shr_e (by omega), snx_e (by omega), miss8 t0, six_e (by omega) (by omega), six_e (by omega) (by omega), sbd_e]
    obtain ⟨r, b1, b2⟩ := reads_loop hs l1 hR l2 l3 (fun k hk => (hc k hk).1) len 0 FU FU (by omega) (FU_gt (by omega)) (FU_gt (by omega))
    rcases ht with h | h | h
    · rw [h]; exact ⟨_, rfl, rfl⟩
    · rw [h, if_neg (by decide), if_pos (by decide)]; exact ⟨_, b1, b2⟩
    · rw [h, if_neg (by decide), if_pos (by decide)]; exact ⟨_, b1, b2⟩
  · rw [if_neg h1, if_neg h1]; exact ⟨_, rfl, rfl⟩
