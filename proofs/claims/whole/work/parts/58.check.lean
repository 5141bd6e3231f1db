/-! the check -/
theorem swapA (K : Int32 → Store → Option (Int32 × Store)) : ∀ (m i n : Nat) (τ : Store), i + m = 1480 → m < n → ∃ τ', fX9_check_L36 K n (nI i) τ = K (nI 1480) τ' ∧ (∀ j, j ≠ 1 → j ≠ 2 → τ' j = τ j) ∧ ∀ k, (τ' 1 k = if i ≤ k ∧ k < 1480 then τ 2 k else τ 1 k) ∧ (τ' 2 k = if i ≤ k ∧ k < 1480 then τ 1 k else τ 2 k) := by
  intro m
  induction m with
  | zero =>
    intro i n τ hi hn
    obtain rfl : i = 1480 := by omega
    obtain ⟨n, rfl⟩ : ∃ k, n = k + 1 := ⟨n - 1, by omega⟩
    exact ⟨τ, by rw [fX9_check_L36, if_pos (by decide)], fun _ _ _ => rfl, fun k => ⟨by rw [if_neg (by omega)], by rw [if_neg (by omega)]⟩⟩
  | succ m ih =>
    intro i n τ hi hn
    obtain ⟨n, rfl⟩ : ∃ k, n = k + 1 := ⟨n - 1, by omega⟩
    obtain ⟨τ', a1, a2, a3⟩ := ih (i + 1) n (sup (sup τ 1 i (τ 2 i)) 2 i (τ 1 i)) (by omega) (by omega)
    refine ⟨τ', ?_, fun j h1 h2 => by rw [a2 j h1 h2, sup_o h2, sup_o h1], fun k => ?_⟩
    · rw [fX9_check_L36, show (1480 : Int32) = nI 1480 from rfl, if_neg (nI_ge (by omega) (by omega))]
      simp only [six_e (show i < 1480 by omega) (show 1480 ≤ 4096 by omega), slt_e, snx_e (show i < 4096 by omega), nI_1]
      exact a1
    · obtain ⟨b1, b2⟩ := a3 k
      rw [b1, b2]
      have q1 : ∀ z, sup (sup τ 1 i (τ 2 i)) 2 i (τ 1 i) 1 z = if z = i then τ 2 i else τ 1 z := fun z => by
        rw [sup_j (by omega), sup_e]
        by_cases h : z = i
        · rw [if_pos h, if_pos ⟨rfl, h⟩]
        · rw [if_neg h, if_neg (fun y => h y.2)]
      have q2 : ∀ z, sup (sup τ 1 i (τ 2 i)) 2 i (τ 1 i) 2 z = if z = i then τ 1 i else τ 2 z := fun z => by
        rw [sup_e]
        by_cases h : z = i
        · rw [if_pos h, if_pos ⟨rfl, h⟩]
        · rw [if_neg h, if_neg (fun y => h y.2), sup_j (by omega)]
      rw [q1, q2]
      by_cases h1 : k = i
      · subst h1
        rw [if_neg (by omega), if_neg (by omega), if_pos rfl, if_pos rfl, if_pos (by omega), if_pos (by omega)]; exact ⟨rfl, rfl⟩
      · rw [if_neg h1, if_neg h1]
        by_cases h2 : i ≤ k ∧ k < 1480
        · rw [if_pos (by omega), if_pos (by omega), if_pos h2, if_pos h2]; exact ⟨rfl, rfl⟩
        · rw [if_neg (by omega), if_neg (by omega), if_neg h2, if_neg h2]; exact ⟨rfl, rfl⟩
theorem swapB (v : Int32) : ∀ (m i n : Nat) (τ : Store), i + m = 1480 → m < n → ∃ τ', fX9_check_L239 v n (nI i) τ = some (v, τ') ∧ (∀ j, j ≠ 1 → j ≠ 2 → τ' j = τ j) ∧ ∀ k, (τ' 1 k = if i ≤ k ∧ k < 1480 then τ 2 k else τ 1 k) ∧ (τ' 2 k = if i ≤ k ∧ k < 1480 then τ 1 k else τ 2 k) := by
  intro m i n τ h1 h2
  obtain ⟨τ', a1, a2, a3⟩ := swapA (fun _ s => some (v, s)) m i n τ h1 h2
  refine ⟨τ', ?_, a2, a3⟩
  rw [← a1]
  clear a1 a2 a3 τ'
  induction n generalizing m i τ with
  | zero => rfl
  | succ n ih =>
    rw [fX9_check_L239, fX9_check_L36]
    by_cases hc : (1480 : Int32) ≤ nI i
    · rw [if_pos hc, if_pos hc]
    · rw [if_neg hc, if_neg hc]
      have : i < 1480 := by
        by_cases h : i < 1480
        · exact h
        · exact absurd (show (1480 : Int32) ≤ nI i from nI_le (a := 1480) (by omega) (by omega)) hc
      simp only [six_e (show i < 1480 by omega) (show 1480 ≤ 4096 by omega), slt_e, snx_e (show i < 4096 by omega), nI_1]
      exact ih (m - 1) (i + 1) _ (by omega) (by omega)
def cdq (n V : Nat) (x : Int32) : Int32 := if ¬ x = (2 : Int32) * nI V then 1 + x else if ¬ x = nI n then 1 + x else 0
theorem chk_loop {nw nt nx n V : Nat} (hn : n ≤ 60) (hV : V ≤ 30) (km : Int32 → Int32 → Store → Option (Int32 × Store)) : ∀ (m i S : Nat) (σ τ : Store) (f f2 : Nat), i + m = V → m < f → m + 1 < f2 → BR 95 nw nt nx S σ τ → (∀ k, k < n → σ 56 k = τ 17 k) →
    ∃ x y σ' τ', fX8_check_L67 (nI n) (nI V) (fun x38 x39 s40 => (if ¬ x38 = nI n then (some (((1 : Int32) + x38), s40)) else (some ((0 : Int32), s40)))) f (nI (2 * i)) (nI i) σ = some (cdq n V x, σ') ∧ fX9_check_L111 (nI n) (nI V) km f2 (nI (2 * i)) (nI i) τ = km x y τ' ∧ fr8 95 σ σ' ∧ fr9d τ τ' := by
  intro m
  induction m with
  | zero =>
    intro i S σ τ f f2 hi hf hf2 hR hw
    obtain rfl : i = V := by omega
    obtain ⟨f, rfl⟩ : ∃ k, f = k + 1 := ⟨f - 1, by omega⟩
    obtain ⟨f2, rfl⟩ : ∃ k, f2 = k + 1 := ⟨f2 - 1, by omega⟩
    refine ⟨nI (2 * i), nI i, σ, τ, ?_, ?_, fr8.rf, fr9d.rf⟩
    · rw [fX8_check_L67, if_pos (Int32.le_refl _)]
      unfold cdq
      rw [l_2, pk_mul, if_neg (fun z => z rfl)]
      split <;> rfl
    · rw [fX9_check_L111, if_pos (Int32.le_refl _)]
  | succ m ih =>
    intro i S σ τ f f2 hi hf hf2 hR hw
    obtain ⟨f, rfl⟩ : ∃ k, f = k + 1 := ⟨f - 1, by omega⟩
    obtain ⟨f2, rfl⟩ : ∃ k, f2 = k + 1 + 1 := ⟨f2 - 2, by omega⟩
    obtain ⟨σ1, τ1, a1, a2, a3, a4, a5⟩ := day1_sim hR
    obtain ⟨p, p1, p2⟩ := paid_sim a3
    obtain ⟨st, s1, s2⟩ := stamps_sim a3
    have w1 : ∀ k, k < n → σ1 56 k = τ1 17 k := fun k hk => by rw [a4 56 (by omega) (by omega), a5.1 17 (by omega) (by omega) (by omega)]; exact hw k hk
    have stop : ∀ x, x < 2 * (i + 1) → fX9_check_L111 (nI n) (nI V) km (f2 + 1) (nI x) (nI (i + 1)) τ1 = km (nI x) (nI (i + 1)) τ1 := fun x hx => by
      rw [fX9_check_L111]
      by_cases hc : nI V ≤ nI (i + 1)
      · rw [if_pos hc]
      · rw [if_neg hc, l_2, pk_mul, if_pos (fun z => by have := nI_inj (by omega) (by omega) z; omega)]
    have fin : ∀ x, x < 2 * (i + 1) → cdq n V (nI x) = 1 + nI x := fun x hx => by
      unfold cdq
      rw [l_2, pk_mul, if_pos (fun z => by have := nI_inj (by omega) (by omega) z; omega)]
    rw [fX8_check_L67, if_neg (nI_ge (by omega) (by omega)), a1, sbd_e, fX9_check_L111, if_neg (nI_ge (by omega) (by omega)), l_2, pk_mul, if_neg (fun z => z rfl), a2, sbd_e, sjn_e, p1, p2, s1, s2]
    simp only [sbd_e, nI_1, slt_e]
    by_cases c1 : n ≤ 2 * i
    · rw [if_pos (nI_le c1 (by omega)), if_pos (nI_le c1 (by omega))]
      simp only [b2i, if_false, Bool.false_eq_true, Int32.add_zero]
      rw [if_pos (fun z => by have := nI_inj (by omega) (by omega) z; omega), stop _ (by omega)]
      exact ⟨nI (2 * i), _, _, _, by rw [fin _ (by omega)], rfl, a4, a5⟩
    · rw [if_neg (nI_ge (by omega) (by omega)), if_neg (nI_ge (by omega) (by omega)), six_e (by omega) (by omega), six_e (by omega) (by omega), snx_e (by omega), w1 _ (by omega)]
      by_cases c2 : τ1 17 (2 * i) = p
      · simp only [c2, not_true_eq_false, if_true, if_false, b2i, nI_1]
        by_cases c3 : n ≤ 2 * i + 1
        · rw [if_pos (nI_le c3 (by omega)), if_pos (nI_le c3 (by omega)), Int32.add_zero, stop _ (by omega)]
          exact ⟨nI (2 * i + 1), _, _, _, by rw [fin _ (by omega)], rfl, a4, a5⟩
        · rw [if_neg (nI_ge (by omega) (by omega)), if_neg (nI_ge (by omega) (by omega)), six_e (by omega) (by omega), six_e (by omega) (by omega), snx_e (by omega), w1 _ (by omega)]
          by_cases c4 : τ1 17 (2 * i + 1) = st
          · rw [if_pos c4, if_neg (fun z => z c4)]
            obtain ⟨x, y, σ', τ', i1, i2, i3, i4⟩ := ih (i + 1) (S + 60) σ1 τ1 f (f2 + 1) (by omega) (by omega) (by omega) a3 w1
            rw [show 2 * (i + 1) = 2 * i + 1 + 1 by omega] at i1 i2
            exact ⟨x, y, σ', τ', i1, i2, a4.tr i3, a5.tr i4⟩
          · rw [if_neg c4, if_pos c4, Int32.add_zero, stop _ (by omega)]
            exact ⟨nI (2 * i + 1), _, _, _, by rw [fin _ (by omega)], rfl, a4, a5⟩
      · simp only [c2, not_false_eq_true, if_true, if_false, b2i, Bool.false_eq_true, Int32.add_zero]
        rw [if_pos (fun z => by have := nI_inj (by omega) (by omega) z; omega), stop _ (by omega)]
        exact ⟨nI (2 * i), _, _, _, by rw [fin _ (by omega)], rfl, a4, a5⟩
