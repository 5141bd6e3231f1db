/-! the cheapest -/
theorem prices_loop {nw nt nx S : Nat} (K : Int32 → Store → Option (Int32 × Store)) : ∀ (m i : Nat) (σ τ : Store) (n n2 : Nat), i + m = nw → m < n → m < n2 → BR 57 nw nt nx S σ τ → (∀ w, w < i → σ 22 w = τ 4 w) →
    ∃ σ' τ', fX4_readPrices_L2 n (nI i) σ = some σ' ∧ fX9_cheapest_L38 K n2 (nI i) τ = K (nI nw) τ' ∧ BR 57 nw nt nx S σ' τ' ∧ (∀ j, j ≠ 20 → j ≠ 22 → σ' j = σ j) ∧ (∀ j, j ≠ 4 → j ≠ 9 → j ≠ 10 → τ' j = τ j) ∧ ∀ w, w < nw → σ' 22 w = τ' 4 w := by
  intro m
  induction m with
  | zero =>
    intro i σ τ n n2 hi hn hn2 hR hv
    have hsz := hR.1.2.1
    have g3 : σ 57 3 = nI nw := by rw [hR.1.1.head.2.2.2.2.2.1, hR.1.2.2.1]
    obtain rfl : i = nw := by omega
    obtain ⟨n, rfl⟩ : ∃ k, n = k + 1 := ⟨n - 1, by omega⟩
    obtain ⟨n2, rfl⟩ : ∃ k, n2 = k + 1 := ⟨n2 - 1, by omega⟩
    exact ⟨σ, τ, by rw [fX4_readPrices_L2, g3, if_pos (Int32.le_refl _)], by rw [fX9_cheapest_L38, l_5, six_e (by omega) (by omega), snx_e (by omega), hR.1.2.2.1, if_pos (Int32.le_refl _)], hR, fun _ _ _ => rfl, fun _ _ _ _ => rfl, hv⟩
  | succ m ih =>
    intro i σ τ n n2 hi hn hn2 hR hv
    have hsz := hR.1.2.1
    have g3 : σ 57 3 = nI nw := by rw [hR.1.1.head.2.2.2.2.2.1, hR.1.2.2.1]
    obtain ⟨n, rfl⟩ : ∃ k, n = k + 1 := ⟨n - 1, by omega⟩
    obtain ⟨n2, rfl⟩ : ∃ k, n2 = k + 1 := ⟨n2 - 1, by omega⟩
    have hge : ¬ nI nw ≤ nI i := nI_ge (by omega) (by omega)
    obtain ⟨r, σ1, τ1, c1, c2, c3, c4⟩ := costs_sim hR.1 (w := i) (by omega)
    have hR1 : BR 57 nw nt nx S (sup σ1 22 i r) (sup τ1 4 i r) := hR.same (fun j hj => by rw [sup_o (by omega), c3 j (by omega)]) (by rw [sup_o (by omega), c4 1 (by omega) (by omega)])
    obtain ⟨σ', τ', i1, i2, i3, i4, i5, i6⟩ := ih (i + 1) (sup σ1 22 i r) (sup τ1 4 i r) n n2 (by omega) (by omega) (by omega) hR1 (fun w hw => by
      by_cases h : w = i
      · rw [h, sup_s, sup_s]
      · rw [sup_k h, sup_k h, c3 22 (by omega), c4 4 (by omega) (by omega)]; exact hv w (by omega))
    refine ⟨σ', τ', ?_, ?_, i3, fun j h1 h2 => by rw [i4 j h1 h2, sup_o h2, c3 j h1], fun j h1 h2 h3 => by rw [i5 j h1 h2 h3, sup_o h1, c4 j h2 h3], i6⟩
    · rw [fX4_readPrices_L2, g3, if_neg hge, six_e (by omega) (by omega), wrd_e (by omega), c1, sbd2_e, six_e (by omega) (by omega), slt_e, snx_e (by omega), nI_1]
      exact i1
    · rw [fX9_cheapest_L38, l_5, six_e (by omega) (by omega), snx_e (by omega), hR.1.2.2.1, if_neg hge, c2, sbd2_e, six_e (by omega) (by omega), slt_e, snx_e (by omega), nI_1]
      exact i2
def prq (c : Nat → Int32) (s : Nat) : Nat → Int32
  | 0 => 0
  | n + 1 => if s.testBit n = true then prq c s n + c n else prq c s n
theorem price8 {nw nt nx S s : Nat} {σ τ : Store} (hR : BR 57 nw nt nx S σ τ) (hs : s < 2 ^ 31) : ∀ (m i n : Nat), i + m = nw → m < n → fX4_priceOf_L4 (nI s) σ n (prq (σ 22) s i) (nI i) = some (prq (σ 22) s nw) := by
  have hsz := hR.1.2.1
  have g3 : σ 57 3 = nI nw := by rw [hR.1.1.head.2.2.2.2.2.1, hR.1.2.2.1]
  intro m
  induction m with
  | zero =>
    intro i n hi hn
    obtain rfl : i = nw := by omega
    obtain ⟨n, rfl⟩ : ∃ k, n = k + 1 := ⟨n - 1, by omega⟩
    rw [fX4_priceOf_L4, g3, if_pos (Int32.le_refl _)]
  | succ m ih =>
    intro i n hi hn
    obtain ⟨n, rfl⟩ : ∃ k, n = k + 1 := ⟨n - 1, by omega⟩
    have i1 := ih (i + 1) n (by omega) (by omega)
    have hu : prq (σ 22) s (i + 1) = if s.testBit i = true then prq (σ 22) s i + σ 22 i else prq (σ 22) s i := rfl
    rw [fX4_priceOf_L4, g3, if_neg (nI_ge (by omega) (by omega)), nI_1]
    cases hb : s.testBit i with
    | true =>
      rw [hb, if_pos rfl] at hu
      rw [if_neg (fun z => by rw [(has8b hs (by omega)).mp z] at hb; cases hb), six_e (by omega) (by omega), slt_e, snx_e (by omega), ← hu]
      exact i1
    | false =>
      rw [hb, if_neg (by decide)] at hu
      rw [if_pos ((has8b hs (by omega)).mpr hb), ← hu]
      exact i1
theorem price9 {nw nt nx S s : Nat} {σ τ : Store} (hR : BR 57 nw nt nx S σ τ) (hs : s < 2 ^ 31) : ∀ (m i n : Nat), i + m = nw → m < n → fX9_costTogether_L4 (nI s) τ n (prq (τ 4) s i) (nI i) = some (prq (τ 4) s nw) := by
  have hsz := hR.1.2.1
  intro m
  induction m with
  | zero =>
    intro i n hi hn
    obtain rfl : i = nw := by omega
    obtain ⟨n, rfl⟩ : ∃ k, n = k + 1 := ⟨n - 1, by omega⟩
    rw [fX9_costTogether_L4, l_5, six_e (by omega) (by omega), snx_e (by omega), hR.1.2.2.1, if_pos (Int32.le_refl _)]
  | succ m ih =>
    intro i n hi hn
    obtain ⟨n, rfl⟩ : ∃ k, n = k + 1 := ⟨n - 1, by omega⟩
    have i1 := ih (i + 1) n (by omega) (by omega)
    have hu : prq (τ 4) s (i + 1) = if s.testBit i = true then prq (τ 4) s i + τ 4 i else prq (τ 4) s i := rfl
    rw [fX9_costTogether_L4, l_5, six_e (by omega) (by omega), snx_e (by omega), hR.1.2.2.1, if_neg (nI_ge (by omega) (by omega)), has9 hs (by omega), sbd_e, nI_1]
    cases hb : s.testBit i with
    | true =>
      rw [hb, if_pos rfl] at hu
      rw [if_pos rfl, six_e (by omega) (by omega), slt_e, snx_e (by omega), ← hu]
      exact i1
    | false =>
      rw [hb, if_neg (by decide)] at hu
      rw [if_neg (by decide), slt_e, Int32.add_zero, ← hu]
      exact i1
theorem prq_cong {c c' : Nat → Int32} {s : Nat} : ∀ {n : Nat}, (∀ w, w < n → c w = c' w) → prq c s n = prq c' s n
  | 0, _ => rfl
  | n + 1, h => by
    have ih := prq_cong (c := c) (c' := c') (s := s) (n := n) (fun w hw => h w (by omega))
    unfold prq
    rw [ih, h n (by omega)]
def chb (ok : Nat → Bool) (pr : Nat → Int32) (mn : Nat → Nat) : Nat → Option Nat
  | 0 => none
  | i + 1 => match chb ok pr mn i with
    | none => if ok i = true then some i else none
    | some b => if ok i = true ∧ (pr i < pr b ∨ (pr i = pr b ∧ mn i < mn b)) then some i else some b
theorem chb_lt {ok : Nat → Bool} {pr : Nat → Int32} {mn : Nat → Nat} : ∀ {n b : Nat}, chb ok pr mn n = some b → b < n
  | 0, b, h => by cases h
  | n + 1, b, h => by
    have ih := fun b => chb_lt (ok := ok) (pr := pr) (mn := mn) (n := n) (b := b)
    unfold chb at h
    cases hc : chb ok pr mn n with
    | none =>
      rw [hc] at h
      by_cases ho : ok n = true
      · simp only [if_pos ho] at h; injection h with h; omega
      · simp only [if_neg ho] at h; cases h
    | some c =>
      have := ih c hc
      rw [hc] at h
      by_cases ho : ok n = true ∧ (pr n < pr c ∨ (pr n = pr c ∧ mn n < mn c))
      · simp only [if_pos ho] at h; injection h with h; omega
      · simp only [if_neg ho] at h; injection h with h; omega
def oP (pr : Nat → Int32) : Option Nat → Int32
  | none => 0
  | some b => pr b
def oN (mn : Nat → Nat) : Option Nat → Int32
  | none => 0
  | some b => nI (mn b)
theorem chp8 {nw nt nx S h : Nat} {q : Int32} {σ τ : Store} {e : Nat → Nat} (hR : BR 57 nw nt nx S σ τ) (hh : h < 1024) (he : ∀ w, w < nw → τ 1 (9 + 6 * w) = nI (e w)) {ok : Nat → Bool} {pr : Nat → Int32} {mn : Nat → Nat} (hok : ∀ i, ok i = hvq e nw i q) (hpr : ∀ i, pr i = prq (σ 22) (i &&& (h ^^^ (2 ^ 31 - 1))) nw) (hmn : ∀ i, mn i = pcn (i &&& (h ^^^ (2 ^ 31 - 1)))) : ∀ (m i f : Nat), i + m = 2 ^ nw → m < f → fX4_cheapestBeside_L25 (nI h) q (nI (2 ^ nw - 1)) σ f (eF (chb ok pr mn i)) (oP pr (chb ok pr mn i)) (oN mn (chb ok pr mn i)) (nI i) = some (eF (chb ok pr mn (2 ^ nw)), σ) := by
  have hsz := hR.1.2.1
  have h2 : 2 ^ nw ≤ 1024 := Nat.pow_le_pow_right (by omega) hsz.1
  have p0 : 0 < 2 ^ nw := Nat.two_pow_pos nw
  intro m
  induction m with
  | zero =>
    intro i f hi hf
    obtain rfl : i = 2 ^ nw := by omega
    obtain ⟨f, rfl⟩ : ∃ k, f = k + 1 := ⟨f - 1, by omega⟩
    rw [fX4_cheapestBeside_L25, if_pos (nI_lt (by omega) (by omega))]
  | succ m ih =>
    intro i f hi hf
    obtain ⟨f, rfl⟩ : ∃ k, f = k + 1 := ⟨f - 1, by omega⟩
    have i1 := ih (i + 1) f (by omega) (by omega)
    have hv := (have_sim hR (s := i) (by omega) he q).1
    rw [← hok] at hv
    have hlt : i &&& (h ^^^ (2 ^ 31 - 1)) < 1024 := Nat.lt_of_le_of_lt Nat.and_le_left (by omega)
    have hp := price8 hR (s := i &&& (h ^^^ (2 ^ 31 - 1))) (by omega) nw 0 FU (by omega) (FU_gt (by omega))
    rw [← hpr] at hp
    have hb8 := bits8 hlt σ
    rw [← hmn] at hb8
    have hm10 : ∀ b, b < 1024 → mn b < 2 ^ 31 := fun b hb => by
      rw [hmn]
      have := pcn_le (b &&& (h ^^^ (2 ^ 31 - 1))) (Nat.lt_of_le_of_lt Nat.and_le_left hb)
      omega
    have hu : chb ok pr mn (i + 1) = match chb ok pr mn i with
      | none => if ok i = true then some i else none
      | some b => if ok i = true ∧ (pr i < pr b ∨ (pr i = pr b ∧ mn i < mn b)) then some i else some b := rfl
    rw [fX4_cheapestBeside_L25, if_neg (nI_nlt (by omega) (by omega)), hv, sbd_e, not_n _ (by omega) (by omega), show fX4_priceOf (nI (i &&& (h ^^^ (2 ^ 31 - 1)))) σ = _ from hp, sbd_e, hb8, sbd_e, nI_1]
    cases hc : chb ok pr mn i with
    | none =>
      rw [hc] at hu
      simp only [eF, oP, oN, if_true]
      by_cases c2 : ok i = true
      · simp only [c2, if_true] at hu ⊢
        rw [hu] at i1; exact i1
      · simp only [c2, if_false] at hu ⊢
        rw [hu] at i1; exact i1
    | some b =>
      rw [hc] at hu
      have hb := chb_lt hc
      have hn := nI_nm (b := b) (by omega)
      simp only [eF, oP, oN, hn, if_false]
      by_cases c2 : ok i = true
      · by_cases c3 : pr i < pr b
        · simp only [c2, c3, true_or, and_self, if_true] at hu ⊢
          rw [hu] at i1; exact i1
        · by_cases c4 : pr i = pr b
          · by_cases c5 : mn i < mn b
            · have hge := nI_ge c5 (hm10 b (by omega))
              have c3' : ¬ pr b < pr b := Int32.lt_irrefl
              simp only [c2, c3', c4, c5, hge, or_true, true_and, and_self, not_true_eq_false, if_true, if_false, false_or] at hu ⊢
              rw [hu] at i1; rw [← c4]; exact i1
            · have hle : nI (mn b) ≤ nI (mn i) := nI_le (by omega) (hm10 i (by omega))
              have c3' : ¬ pr b < pr b := Int32.lt_irrefl
              simp only [c2, c3', c4, c5, hle, and_false, or_self, not_true_eq_false, if_true, if_false] at hu ⊢
              rw [hu] at i1; exact i1
          · simp only [c2, c3, c4, false_and, and_false, or_self, not_false_eq_true, if_true, if_false] at hu ⊢
            rw [hu] at i1; exact i1
      · simp only [c2, false_and, if_false] at hu ⊢
        rw [hu] at i1; exact i1
theorem chp9 {nw nt nx S h : Nat} {q : Int32} {σ τ : Store} {e : Nat → Nat} (hR : BR 57 nw nt nx S σ τ) (hh : h < 1024) (he : ∀ w, w < nw → τ 1 (9 + 6 * w) = nI (e w)) {ok : Nat → Bool} {pr : Nat → Int32} {mn : Nat → Nat} (hok : ∀ i, ok i = hvq e nw i q) (hpr : ∀ i, pr i = prq (τ 4) (i &&& (h ^^^ (2 ^ 31 - 1))) nw) (hmn : ∀ i, mn i = pcn (i &&& (h ^^^ (2 ^ 31 - 1)))) (K : Int32 → Int32 → Int32 → Option (Int32 × Store)) : ∀ (m i f : Nat), i + m = 2 ^ nw → m < f → fX9_cheapest_L77 q (nI h) τ K f (eM (chb ok pr mn i)) (oP pr (chb ok pr mn i)) (nI i) = K (eM (chb ok pr mn (2 ^ nw))) (oP pr (chb ok pr mn (2 ^ nw))) (nI (2 ^ nw)) := by
  have hsz := hR.1.2.1
  have h2 : 2 ^ nw ≤ 1024 := Nat.pow_le_pow_right (by omega) hsz.1
  have p0 : 0 < 2 ^ nw := Nat.two_pow_pos nw
  intro m
  induction m with
  | zero =>
    intro i f hi hf
    obtain rfl : i = 2 ^ nw := by omega
    obtain ⟨f, rfl⟩ : ∃ k, f = k + 1 := ⟨f - 1, by omega⟩
    rw [fX9_cheapest_L77, l_5, six_e (by omega) (by omega), snx_e (by omega), hR.1.2.2.1, shl_n nw (by omega), if_pos (Int32.le_refl _)]
  | succ m ih =>
    intro i f hi hf
    obtain ⟨f, rfl⟩ : ∃ k, f = k + 1 := ⟨f - 1, by omega⟩
    have i1 := ih (i + 1) f (by omega) (by omega)
    have hv := (have_sim hR (s := i) (by omega) he q).2
    rw [← hok] at hv
    have hlt : i &&& (h ^^^ (2 ^ 31 - 1)) < 1024 := Nat.lt_of_le_of_lt Nat.and_le_left (by omega)
    have hp := price9 hR (s := i &&& (h ^^^ (2 ^ 31 - 1))) (by omega) nw 0 FU (by omega) (FU_gt (by omega))
    rw [← hpr] at hp
    have hb8 : ∀ b, b < 1024 → fX9_bits (nI b &&& (nI h ^^^ (-1 : Int32))) τ = some (nI (mn b)) := fun b hb => by
      rw [not_n _ (by omega) (by omega), bits9 (Nat.lt_of_le_of_lt Nat.and_le_left hb), hmn]
    have hm10 : ∀ b, b < 1024 → mn b < 2 ^ 31 := fun b hb => by
      rw [hmn]
      have := pcn_le (b &&& (h ^^^ (2 ^ 31 - 1))) (Nat.lt_of_le_of_lt Nat.and_le_left hb)
      omega
    have hu : chb ok pr mn (i + 1) = match chb ok pr mn i with
      | none => if ok i = true then some i else none
      | some b => if ok i = true ∧ (pr i < pr b ∨ (pr i = pr b ∧ mn i < mn b)) then some i else some b := rfl
    rw [fX9_cheapest_L77, l_5, six_e (by omega) (by omega), snx_e (by omega), hR.1.2.2.1, shl_n nw (by omega), if_neg (nI_ge (by omega) (by omega)), hv, sbd_e, hb8 i (by omega), not_n _ (by omega) (by omega), show fX9_costTogether (nI (i &&& (h ^^^ (2 ^ 31 - 1)))) τ = _ from hp]
    simp only [sbd_e, sjn_e, nI_1]
    cases hc : chb ok pr mn i with
    | none =>
      rw [hc] at hu
      have hm1 : (-1 : Int32) < 0 := by decide
      simp only [eM, oP, hm1, if_true]
      by_cases c2 : ok i = true
      · simp only [c2, if_true] at hu ⊢
        rw [hu] at i1; exact i1
      · simp only [c2, if_false] at hu ⊢
        rw [hu] at i1; exact i1
    | some b =>
      rw [hc] at hu
      have hb := chb_lt hc
      have hn := nI_n0 (v := b) (by omega)
      simp only [eM, oP, hn, if_false, hb8 b (by omega), sbd_e]
      by_cases c2 : ok i = true
      · by_cases c3 : pr i < pr b
        · simp only [c2, c3, true_or, and_self, if_true] at hu ⊢
          rw [hu] at i1; exact i1
        · by_cases c4 : pr i = pr b
          · by_cases c5 : mn i < mn b
            · have hge := nI_ge c5 (hm10 b (by omega))
              have c3' : ¬ pr b < pr b := Int32.lt_irrefl
              simp only [c2, c3', c4, c5, hge, or_true, true_and, and_self, not_true_eq_false, if_true, if_false, false_or] at hu ⊢
              rw [hu] at i1; rw [← c4]; exact i1
            · have hle : nI (mn b) ≤ nI (mn i) := nI_le (by omega) (hm10 i (by omega))
              have c3' : ¬ pr b < pr b := Int32.lt_irrefl
              simp only [c2, c3', c4, c5, hle, and_false, or_self, not_true_eq_false, if_true, if_false, Bool.false_eq_true] at hu ⊢
              rw [hu] at i1; exact i1
          · simp only [c2, c3, c4, false_and, and_false, or_self, not_false_eq_true, if_true, if_false, Bool.false_eq_true] at hu ⊢
            rw [hu] at i1; exact i1
      · simp only [c2, false_and, if_false] at hu ⊢
        rw [hu] at i1; exact i1
theorem o_cheapest {S : Nat} {σ τ : Store} (R : Rel S σ τ) (a b c : Int32) : ∃ r σ' τ', fX8_cheapest a b c σ = some (r, σ') ∧ fX9_cheapest a b c τ = some (r, τ') ∧ Rel S σ' τ' := by
  have R0 := R
  obtain ⟨nw, nt, nx, hR, hD, hX⟩ := R
  have hsz := hR.1.2.1
  have p2 : 2 ^ nw ≤ 1024 := Nat.pow_le_pow_right (by omega) hsz.1
  have p0 : 0 < 2 ^ nw := Nat.two_pow_pos nw
  obtain ⟨e, he1, he⟩ := hR.sen
  unfold fX8_cheapest fX9_cheapest
  rw [hasT8 hR, isT9 hR, sbd_e, sbd_e, sens8, sens9, sbd_e, sbd_e, within8, within9, sbd_e, sbd_e]
  by_cases h1 : inN a nt = true
  · rw [if_pos h1, if_pos h1]
    obtain ⟨t, ht, rfl⟩ := inN_t (by omega) h1
    by_cases h2 : inN b 256 = true
    · rw [if_pos h2, if_pos h2]
      by_cases h3 : wth c 0 1 = true
      · rw [if_pos h3, if_pos h3]
        obtain ⟨h, hh, eh⟩ := hR.2.1.2.2.2.2 t ht
        have hh10 := p10 hh hsz.1
        rw [tI (x := 0) (f := 0) (by omega) (by omega) rfl, sbd_e, six_e (by omega) (by omega), trv_e (by omega), hR.tf ht (f := 0) (by omega), show 68 + 2 * t + 0 = 68 + 2 * t by omega, eh, slt_e]
        obtain ⟨σ1, τ1, i1, i2, i3, i4, i5, i6⟩ := prices_loop (fun x26 s27 => (fX9_cheapest_L77 b (nI h) s27 (fun x88 x89 x90 => (if 0 ≤ x88 then (if ¬ c = 0 then (some (x88, s27)) else (some (x89, s27))) else (some ((-1000000005 : Int32), s27)))) FU (-1 : Int32) (0 : Int32) (0 : Int32))) nw 0 σ τ FU FU (by omega) (FU_gt (by omega)) (FU_gt (by omega)) hR (fun w hw => absurd hw (by omega))
        have hR' : Rel S σ1 τ1 := Rel.nowD hX i3 (by rw [i5 1 (by omega) (by omega) (by omega)]; exact hD) (fun j a b _ _ _ _ => i4 j a b) ⟨fun j _ _ _ c _ d f _ => i5 j c d f, by rw [i5 0 (by omega) (by omega) (by omega)], by rw [i5 0 (by omega) (by omega) (by omega)], by rw [i5 0 (by omega) (by omega) (by omega)]⟩ (Nat.le_refl _)
        have he' : ∀ w, w < nw → τ1 1 (9 + 6 * w) = nI (e w) := fun w hw => by rw [i5 1 (by omega) (by omega) (by omega)]; exact he w hw
        generalize hpr : (fun i => prq (σ1 22) (i &&& (h ^^^ (2 ^ 31 - 1))) nw) = pr
        have hpr8 : ∀ i, pr i = prq (σ1 22) (i &&& (h ^^^ (2 ^ 31 - 1))) nw := fun i => by rw [← hpr]
        have hpr9 : ∀ i, pr i = prq (τ1 4) (i &&& (h ^^^ (2 ^ 31 - 1))) nw := fun i => by rw [hpr8]; exact prq_cong i6
        have k1 := chp8 i3 hh10 he' (q := b) (ok := fun i => hvq e nw i b) (pr := pr) (mn := fun i => pcn (i &&& (h ^^^ (2 ^ 31 - 1)))) (fun _ => rfl) hpr8 (fun _ => rfl) (2 ^ nw) 0 FU (by omega) (FU_gt (by omega))
        have k2 := chp9 i3 hh10 he' (q := b) (ok := fun i => hvq e nw i b) (pr := pr) (mn := fun i => pcn (i &&& (h ^^^ (2 ^ 31 - 1)))) (fun _ => rfl) hpr9 (fun _ => rfl) (fun x88 x89 x90 => (if 0 ≤ x88 then (if ¬ c = 0 then (some (x88, τ1)) else (some (x89, τ1))) else (some ((-1000000005 : Int32), τ1)))) (2 ^ nw) 0 FU (by omega) (FU_gt (by omega))
        rw [show fX9_cheapest_L38 _ FU (0 : Int32) τ = _ from i2, show fX9_cheapest_L77 b (nI h) τ1 _ FU (-1 : Int32) (0 : Int32) (0 : Int32) = _ from k2]
        unfold fX4_cheapestBeside
        rw [show fX4_readPrices σ = _ from i1, sbd_e, show fX0_allWords 57 σ1 = some (nI (2 ^ nw - 1)) by unfold fX0_allWords; rw [i3.1.1.head.2.2.2.2.2.1, i3.1.2.2.1, shl_n nw (by omega), sub1 (by omega)], sbd_e, show fX4_cheapestBeside_L25 (nI h) b (nI (2 ^ nw - 1)) σ1 FU (-1000000005 : Int32) (0 : Int32) (0 : Int32) (0 : Int32) = _ from k1, sbd2_e]
        cases hc : chb (fun i => hvq e nw i b) pr (fun i => pcn (i &&& (h ^^^ (2 ^ 31 - 1)))) (2 ^ nw) with
        | none => exact ⟨_, _, _, rfl, rfl, hR'⟩
        | some x =>
          have hx := chb_lt hc
          have hp := price8 i3 (s := x &&& (h ^^^ (2 ^ 31 - 1))) (Nat.lt_of_le_of_lt Nat.and_le_left (by omega)) nw 0 FU (by omega) (FU_gt (by omega))
          rw [← hpr8] at hp
          have hn := nI_nm (b := x) (by omega)
          have hn0 : (0 : Int32) ≤ nI x := Int32.not_lt.mp (nI_n0 (by omega))
          simp only [eF, eM, oP, hn, hn0, not_false_eq_true, if_true]
          rw [not_n _ (by omega) (by omega), show fX4_priceOf (nI (x &&& (h ^^^ (2 ^ 31 - 1)))) σ1 = _ from hp, sbd_e]
          by_cases h5 : c = 0
          · simp only [h5, not_true_eq_false, if_false]; exact ⟨_, _, _, rfl, rfl, hR'⟩
          · simp only [h5, not_false_eq_true, if_true]; exact ⟨_, _, _, rfl, rfl, hR'⟩
      · rw [if_neg h3, if_neg h3]; exact ⟨_, _, _, rfl, rfl, R0⟩
    · rw [if_neg h2, if_neg h2]; exact ⟨_, _, _, rfl, rfl, R0⟩
  · rw [if_neg h1, if_neg h1]; exact ⟨_, _, _, rfl, rfl, R0⟩
