/-! the check -/
theorem swapA (K : Int32 → Store → Option (Int32 × Store)) : ∀ (m i n : Nat) (τ : Store), i + m = 1480 → m < n → ∃ τ', fX9_check_L36 K n (nI i) τ = K (nI 1480) τ' ∧ (∀ j, j ≠ 1 → j ≠ 2 → τ' j = τ j) ∧ ∀ k, (τ' 1 k = if i ≤ k ∧ k < 1480 then τ 2 k else τ 1 k) ∧ (τ' 2 k = if i ≤ k ∧ k < 1480 then τ 1 k else τ 2 k) := by
  intro m
  induction m with
  | zero =>
    intro i n τ hi hn
    obtain rfl : i = 1480 := by omega
    obtain ⟨n, rfl⟩ : ∃ k, n = k + 1 := ⟨n - 1, by omega⟩
    exact ⟨τ, by rw [fX9_check_L36, if_pos (by decide)], fun _ _ _ => rfl, fun k => ⟨by rw [if_neg (by omega)], by rw [if_neg (by omega)]⟩⟩
  | succ m ih =>
    intro i n τ hi hn
    obtain ⟨n, rfl⟩ : ∃ k, n = k + 1 := ⟨n - 1, by omega⟩
    obtain ⟨τ', a1, a2, a3⟩ := ih (i + 1) n (sup (sup τ 1 i (τ 2 i)) 2 i (τ 1 i)) (by omega) (by omega)
    refine ⟨τ', ?_, fun j h1 h2 => by rw [a2 j h1 h2, sup_o h2, sup_o h1], fun k => ?_⟩
    · rw [fX9_check_L36, show (1480 : Int32) = nI 1480 from rfl, if_neg (nI_ge (by omega) (by omega))]
      simp only [six_e (show i < 1480 by omega) (show 1480 ≤ 4096 by omega), slt_e, snx_e (show i < 4096 by omega), nI_1]
      exact a1
    · obtain ⟨b1, b2⟩ := a3 k
      have q1 : ∀ z, sup (sup τ 1 i (τ 2 i)) 2 i (τ 1 i) 1 z = if z = i then τ 2 i else τ 1 z := fun z => by
        rw [sup_j (by omega), sup_e]
        by_cases h : z = i
        · rw [if_pos h, if_pos ⟨rfl, h⟩]
        · rw [if_neg h, if_neg (fun y => h y.2)]
      have q2 : ∀ z, sup (sup τ 1 i (τ 2 i)) 2 i (τ 1 i) 2 z = if z = i then τ 1 i else τ 2 z := fun z => by
        rw [sup_e]
        by_cases h : z = i
        · rw [if_pos h, if_pos ⟨rfl, h⟩]
        · rw [if_neg h, if_neg (fun y => h y.2), sup_j (by omega)]
      refine ⟨?_, ?_⟩
      · rw [b1, q1, q2]
        by_cases h1 : k = i
        · subst h1
          rw [if_neg (by omega), if_pos rfl, if_pos (by omega)]
        · rw [if_neg h1, if_neg h1]
          by_cases h2 : i ≤ k ∧ k < 1480
          · rw [if_pos (show i + 1 ≤ k ∧ k < 1480 by omega), if_pos h2]
          · rw [if_neg (show ¬ (i + 1 ≤ k ∧ k < 1480) by omega), if_neg h2]
      · rw [b2, q1, q2]
        by_cases h1 : k = i
        · subst h1
          rw [if_neg (by omega), if_pos rfl, if_pos (by omega)]
        · rw [if_neg h1, if_neg h1]
          by_cases h2 : i ≤ k ∧ k < 1480
          · rw [if_pos (show i + 1 ≤ k ∧ k < 1480 by omega), if_pos h2]
          · rw [if_neg (show ¬ (i + 1 ≤ k ∧ k < 1480) by omega), if_neg h2]
theorem swapB (v : Int32) : ∀ (m i n : Nat) (τ : Store), i + m = 1480 → m < n → ∃ τ', fX9_check_L239 v n (nI i) τ = some (v, τ') ∧ (∀ j, j ≠ 1 → j ≠ 2 → τ' j = τ j) ∧ ∀ k, (τ' 1 k = if i ≤ k ∧ k < 1480 then τ 2 k else τ 1 k) ∧ (τ' 2 k = if i ≤ k ∧ k < 1480 then τ 1 k else τ 2 k) := by
  intro m i n τ h1 h2
  obtain ⟨τ', a1, a2, a3⟩ := swapA (fun _ s => some (v, s)) m i n τ h1 h2
  refine ⟨τ', ?_, a2, a3⟩
  rw [← a1]
  clear a1 a2 a3 τ'
  induction n generalizing m i τ with
  | zero => rfl
  | succ n ih =>
    rw [fX9_check_L239, fX9_check_L36]
    by_cases hc : (1480 : Int32) ≤ nI i
    · rw [if_pos hc, if_pos hc]
    · rw [if_neg hc, if_neg hc]
      have : i < 1480 := by
        by_cases h : i < 1480
        · exact h
        · exact absurd (show (1480 : Int32) ≤ nI i from nI_le (a := 1480) (by omega) (by omega)) hc
      simp only [six_e (show i < 1480 by omega) (show 1480 ≤ 4096 by omega), slt_e, snx_e (show i < 4096 by omega), nI_1]
      exact ih (m - 1) (i + 1) _ (by omega) (by omega)
def cdq (n V : Nat) (x : Int32) : Int32 := if ¬ x = (2 : Int32) * nI V then 1 + x else if ¬ x = nI n then 1 + x else 0
theorem chk_loop {nw nt nx n V : Nat} (hn : n ≤ 60) (hV : V ≤ 30) (km : Int32 → Int32 → Store → Option (Int32 × Store)) : ∀ (m i S : Nat) (σ τ : Store) (f f2 : Nat), i + m = V → m < f → m + 1 < f2 → BR 95 nw nt nx S σ τ → (∀ k, k < n → σ 56 k = τ 17 k) →
    ∃ x y σ' τ', fX8_check_L67 (nI n) (nI V) (fun x38 x39 s40 => (if ¬ x38 = nI n then (some (((1 : Int32) + x38), s40)) else (some ((0 : Int32), s40)))) f (nI (2 * i)) (nI i) σ = some (cdq n V x, σ') ∧ fX9_check_L111 (nI n) (nI V) km f2 (nI (2 * i)) (nI i) τ = km x y τ' ∧ fr8 95 σ σ' ∧ fr9d τ τ' := by
  intro m
  induction m with
  | zero =>
    intro i S σ τ f f2 hi hf hf2 hR hw
    obtain rfl : i = V := by omega
    obtain ⟨f, rfl⟩ : ∃ k, f = k + 1 := ⟨f - 1, by omega⟩
    obtain ⟨f2, rfl⟩ : ∃ k, f2 = k + 1 := ⟨f2 - 1, by omega⟩
    refine ⟨nI (2 * i), nI i, σ, τ, ?_, ?_, fr8.rf, fr9d.rf⟩
    · rw [fX8_check_L67, if_pos (Int32.le_refl _)]
      unfold cdq
      rw [l_2, pk_mul, if_neg (show ¬ ¬ nI (2 * i) = nI (2 * i) from fun z => z rfl)]
      split <;> rfl
    · rw [fX9_check_L111, if_pos (Int32.le_refl _)]
  | succ m ih =>
    intro i S σ τ f f2 hi hf hf2 hR hw
    obtain ⟨f, rfl⟩ : ∃ k, f = k + 1 := ⟨f - 1, by omega⟩
    obtain ⟨f2, rfl⟩ : ∃ k, f2 = k + 1 + 1 := ⟨f2 - 2, by omega⟩
    obtain ⟨σ1, τ1, a1, a2, a3, a4, a5⟩ := day1_sim hR
    obtain ⟨p, p1, p2⟩ := paid_sim a3
    obtain ⟨st, s1, s2⟩ := stamps_sim a3
    have w1 : ∀ k, k < n → σ1 56 k = τ1 17 k := fun k hk => by rw [a4 56 (by omega) (by omega), a5.1 17 (by omega) (by omega) (by omega)]; exact hw k hk
    have stop : ∀ x, x < 2 * (i + 1) → fX9_check_L111 (nI n) (nI V) km (f2 + 1) (nI x) (nI (i + 1)) τ1 = km (nI x) (nI (i + 1)) τ1 := fun x hx => by
      rw [fX9_check_L111]
      by_cases hc : nI V ≤ nI (i + 1)
      · rw [if_pos hc]
      · rw [if_neg hc, l_2, pk_mul, if_pos (fun z => by have := nI_inj (by omega) (by omega) z; omega)]
    have fin : ∀ x, x < 2 * (i + 1) → cdq n V (nI x) = 1 + nI x := fun x hx => by
      unfold cdq
      rw [l_2, pk_mul, if_pos (fun z => by have := nI_inj (by omega) (by omega) z; omega)]
    rw [fX8_check_L67, if_neg (nI_ge (by omega) (by omega)), a1, sbd_e, fX9_check_L111, if_neg (nI_ge (show i < V by omega) (by omega)), l_2, pk_mul, if_neg (show ¬ ¬ nI (2 * i) = nI (2 * i) from fun z => z rfl), a2, sbd_e, sjn_e, p1, p2, s1, s2]
    simp only [sbd_e, nI_1, slt_e]
    by_cases c1 : n ≤ 2 * i
    · rw [if_pos (nI_le c1 (by omega)), if_pos (nI_le c1 (by omega))]
      simp only [b2i, if_false, Bool.false_eq_true, Int32.add_zero]
      rw [if_pos (fun z => by have := nI_inj (by omega) (by omega) z; omega), stop _ (by omega)]
      exact ⟨nI (2 * i), _, _, _, by rw [fin _ (by omega)], rfl, a4, a5⟩
    · have g1 : ¬ nI n ≤ nI (2 * i) := nI_ge (by omega) (by omega)
      rw [if_neg g1, if_neg g1, six_e (k := 2 * i) (by omega) (by omega), six_e (k := 2 * i) (by omega) (by omega), snx_e (k := 2 * i) (by omega), w1 _ (by omega)]
      by_cases c2 : τ1 17 (2 * i) = p
      · simp only [c2, not_true_eq_false, if_true, if_false, b2i, nI_1]
        by_cases c3 : n ≤ 2 * i + 1
        · have g3 : nI n ≤ nI (2 * i + 1) := nI_le c3 (by omega)
          rw [if_pos g3, if_pos g3, Int32.add_zero, stop _ (by omega)]
          exact ⟨nI (2 * i + 1), _, _, _, by rw [fin _ (by omega)], rfl, a4, a5⟩
        · have g3 : ¬ nI n ≤ nI (2 * i + 1) := nI_ge (by omega) (by omega)
          rw [if_neg g3, if_neg g3, six_e (k := 2 * i + 1) (by omega) (by omega), six_e (k := 2 * i + 1) (by omega) (by omega), snx_e (k := 2 * i + 1) (by omega), w1 _ (by omega)]
          by_cases c4 : τ1 17 (2 * i + 1) = st
          · rw [if_pos c4, if_neg (fun z => z c4)]
            obtain ⟨x, y, σ', τ', i1, i2, i3, i4⟩ := ih (i + 1) (S + 60) σ1 τ1 f (f2 + 1) (by omega) (by omega) (by omega) a3 w1
            rw [show 2 * (i + 1) = 2 * i + 1 + 1 by omega] at i1 i2
            exact ⟨x, y, σ', τ', i1, i2, a4.tr i3, a5.tr i4⟩
          · rw [if_neg c4, if_pos c4, Int32.add_zero, stop _ (by omega)]
            exact ⟨nI (2 * i + 1), _, _, _, by rw [fin _ (by omega)], rfl, a4, a5⟩
      · simp only [c2, not_false_eq_true, if_true, if_false, b2i, Bool.false_eq_true, Int32.add_zero]
        rw [if_pos (fun z => by have := nI_inj (by omega) (by omega) z; omega), stop _ (by omega)]
        exact ⟨nI (2 * i), _, _, _, by rw [fin _ (by omega)], rfl, a4, a5⟩

theorem o_check {S : Nat} {σ τ : Store} (R : Rel S σ τ) (a : Int32) : ∃ r σ' τ', fX8_check a σ = some (r, σ') ∧ fX9_check a τ = some (r, τ') ∧ Rel S σ' τ' := by
  obtain ⟨nw, nt, nx, hR, hD, hX⟩ := R
  obtain ⟨i1, i2, i3, i4, ⟨n, n1, n2, n3, n4⟩⟩ := hX
  have R1 : ∀ {σ' τ' : Store}, (∀ j, j ≠ 0 → j ≠ 20 → ¬ (95 ≤ j ∧ j < 114) → σ' j = σ j) → (∀ k, k ≠ 11 → σ' 0 k = σ 0 k) → (∀ j, j ≠ 0 → j ≠ 3 → j ≠ 9 → j ≠ 10 → τ' j = τ j) → (∀ k, k ≠ 28 → τ' 0 k = τ 0 k) → σ' 0 11 = nI 0 → τ' 0 28 = nI 0 → Rel S σ' τ' := by
    intro σ' τ' c0 e0 d0 f0 z1 z2
    have c1 (j : Nat) (h : (0 < j ∧ j < 20) ∨ (20 < j ∧ j < 95)) : σ' j = σ j := c0 j (by omega) (by omega) (by omega)
    have d1 (j : Nat) (h : (0 < j ∧ j < 3) ∨ (3 < j ∧ j < 9) ∨ 10 < j) : τ' j = τ j := d0 j (by omega) (by omega) (by omega) (by omega)
    exact ⟨nw, nt, nx, hR.same (fun j hj => c1 j (by omega)) (d1 1 (by omega)), by rw [d1 1 (by omega)]; exact hD, i1.same (e0 12 (by omega)) (f0 2 (by omega)) (fun j hj => c1 j (by omega)) (d1 2 (by omega)), i2.same (e0 10 (by omega)) (f0 6 (by omega)) (c1 23 (by omega)) (d1 5 (by omega)), fun s hs => (i3 s hs).same (c1 _ (by omega)) (c1 _ (by omega)) (d1 _ (by omega)) (d1 _ (by omega)) (d1 _ (by omega)), fun s hs => (i4 s hs).same (c1 _ (by omega)) (c1 _ (by omega)) (c1 _ (by omega)) (c1 _ (by omega)) (d1 _ (by omega)) (d1 _ (by omega)), ⟨0, by omega, z1, z2, fun k hk => absurd hk (by omega)⟩⟩
  have R2 : Rel S (sup σ 0 11 0) (sup τ 0 28 0) := R1 (fun j h _ _ => sup_o h) (fun k h => sup_k h) (fun j h _ _ _ => sup_o h) (fun k h => sup_k h) sup_s sup_s
  obtain ⟨b, b1, b2, b3⟩ := i1
  unfold fX8_check fX9_check
  rw [slt_e, slt_e, slt_e, slt_e, slt_e, within8, within9, sbd_e, sbd_e, sup_k (k' := 12) (by omega), sup_k (k' := 2) (by omega), b1, b2]
  by_cases h1 : wth a 1 30 = true
  · rw [if_pos h1, if_pos h1]
    obtain ⟨w1, w2⟩ := wth_of h1
    have w1 : 1 ≤ a.toInt := w1
    have w2 : a.toInt ≤ 30 := w2
    obtain ⟨V0, hV0, rfl⟩ := i_of (n := 30) (by omega) w2
    cases b with
    | false =>
      rw [if_neg (by decide), if_neg (by decide)]
      exact ⟨_, _, _, rfl, rfl, R2⟩
    | true =>
      rw [if_pos (by decide), if_pos (by decide)]
      obtain ⟨nw', nt', nx', hle, hG, ⟨dd, hd1, hd2⟩⟩ := b3 rfl
      generalize hs1 : sup σ 0 11 0 = s1 at *
      generalize ht1 : sup τ 0 28 0 = t1 at *
      have c0 : ∀ j, j ≠ 0 → s1 j = σ j := fun j h => by rw [← hs1, sup_o h]
      have d0 : ∀ j, j ≠ 0 → t1 j = τ j := fun j h => by rw [← ht1, sup_o h]
      obtain ⟨t2, e1, e2, e3⟩ := swapA (fun x30 s31 => (sbd (fX9_copyRow 1 1480 3 80 (80 : Int32) s31) fun s32 => (six 1480 (1 : Int32) (slt (smin (nI V0) ((9999 : Int32) - (s32 1 (snx (1 : Int32))))) fun x34 => (fX9_check_L111 (τ 0 28) x34 (fun x98 x99 s100 => (sjn (fun k231 : Int32 → Option (Int32 × Store) => (if ¬ x98 = ((2 : Int32) * x34) then (k231 ((1 : Int32) + x98)) else (if ¬ x98 = τ 0 28 then (k231 ((1 : Int32) + x98)) else (k231 (0 : Int32))))) (fun (z0_231 : Int32) => (sbd2 (fX9_putBack z0_231 s100) fun r103 s104 => (fX9_check_L239 r103 FU (0 : Int32) s104))))) FU (0 : Int32) (0 : Int32) s32))))) 1480 0 FU t1 (by omega) (FU_gt (by omega))
      rw [show fX9_check_L36 _ FU (0 : Int32) t1 = _ from e1]
      obtain ⟨t3, g1, g2, g3, g4⟩ := copy_e (a := 1) (b := 3) (na := 1480) (nb := 80) (N := 80) (by omega) (by omega) (by omega) (by omega) (by omega) t2
      have hG1 : BG 76 nw' nt' nx' S s1 (τ 2) := ⟨hG.1.same (fun j hj => c0 j (by omega)), hG.2⟩
      obtain ⟨s2, a1, a2, a3⟩ := bec_sim (A := 95) (B := 76) (σ := s1) (g := τ 2) hG1 (by omega) (by omega)
      have hR2 : BR 95 nw' nt' nx' S s2 t3 := a2.cong (fun q hq => by rw [g2 1 (by omega), (e3 q).1, if_pos (by omega), d0 2 (by omega)])
      have hday : s1 76 9 = nI dd := by rw [c0 76 (by omega), ← hd2]; exact hG.1.1.head.2.1
      have hday9 : t3 1 1 = nI dd := by rw [g2 1 (by omega), (e3 1).1, if_pos (by omega), d0 2 (by omega), hd2]
      rw [show fX9_copyRow 1 1480 3 80 (80 : Int32) t2 = _ from g1, sbd_e, a1, sbd_e, hday, show ∀ F : Option (Int32 × Store), six 1480 (1 : Int32) F = F from fun F => six_e (k := 1) (by omega) (by omega), show snx (1 : Int32) = 1 from rfl, hday9, slt_e, show (9999 : Int32) = nI 9999 from rfl, nI_subN (by omega), smin_n (by omega) (by omega), n2, n3]
      obtain ⟨x, y, s3, t4, k1, k2, k3, k4⟩ := chk_loop (n := n) (V := min V0 (9999 - dd)) n1 (by omega) (fun x98 x99 s100 => (sjn (fun k231 : Int32 → Option (Int32 × Store) => (if ¬ x98 = ((2 : Int32) * nI (min V0 (9999 - dd))) then (k231 ((1 : Int32) + x98)) else (if ¬ x98 = nI n then (k231 ((1 : Int32) + x98)) else (k231 (0 : Int32))))) (fun (z0_231 : Int32) => (sbd2 (fX9_putBack z0_231 s100) fun r103 s104 => (fX9_check_L239 r103 FU (0 : Int32) s104))))) (min V0 (9999 - dd)) 0 S s2 t3 FU FU (by omega) (FU_gt (by omega)) (FU_gt (by omega)) hR2 (fun k hk => by rw [a3 56 (by omega), c0 56 (by omega), g2 17 (by omega), e2 17 (by omega) (by omega), d0 17 (by omega)]; exact n4 k hk)
      rw [show fX8_check_L67 (nI n) (nI (min V0 (9999 - dd))) _ FU (0 : Int32) (0 : Int32) s2 = _ from k1, show fX9_check_L111 (nI n) (nI (min V0 (9999 - dd))) _ FU (0 : Int32) (0 : Int32) t3 = _ from k2, sjn_e]
      have key : ∃ τ', (sbd2 (fX9_putBack (cdq n (min V0 (9999 - dd)) x) t4) fun r103 s104 => (fX9_check_L239 r103 FU (0 : Int32) s104)) = some (cdq n (min V0 (9999 - dd)) x, τ') ∧ Rel S s3 τ' := by
        obtain ⟨t5, p1, p2, p3⟩ := unthink2 (τ1 := t3) (fun k hk => by rw [g4 k hk, g2 1 (by omega)]) k4 (cdq n (min V0 (9999 - dd)) x)
        obtain ⟨t6, q1, q2, q3⟩ := swapB (cdq n (min V0 (9999 - dd)) x) 1480 0 FU t5 (by omega) (FU_gt (by omega))
        refine ⟨t6, by rw [p1, sbd2_e]; exact q1, R1 (fun j h1 h2 h3 => by rw [k3 j h2 (by omega), a3 j (by omega), c0 j h1]) (fun k hk => by rw [k3 0 (by omega) (by omega), a3 0 (by omega), ← hs1, sup_k hk]) ?_ (fun k hk => ?_) ?_ ?_⟩
        · intro j j0 j3 j9 j10
          have m5 : ∀ k, t5 1 k = t2 1 k := fun k => by rw [p2, g2 1 (by omega)]
          have m52 : ∀ k, t5 2 k = t2 2 k := fun k => by rw [p3 2 (by omega) (by omega), g2 2 (by omega)]
          by_cases j1 : j = 1
          · subst j1
            funext k
            rw [(q3 k).1, m5, m52, (e3 k).1, (e3 k).2, d0 1 (by omega), d0 2 (by omega)]
            by_cases hk : 0 ≤ k ∧ k < 1480
            · rw [if_pos hk, if_pos hk]
            · rw [if_neg hk, if_neg hk]
          · by_cases j2 : j = 2
            · subst j2
              funext k
              rw [(q3 k).2, m5, m52, (e3 k).1, (e3 k).2, d0 1 (by omega), d0 2 (by omega)]
              by_cases hk : 0 ≤ k ∧ k < 1480
              · rw [if_pos hk, if_pos hk]
              · rw [if_neg hk, if_neg hk]
            · rw [q2 j j1 j2, p3 j j9 j10, g2 j j3, e2 j j1 j2, d0 j j0]
        · rw [q2 0 (by omega) (by omega), p3 0 (by omega) (by omega), g2 0 (by omega), e2 0 (by omega) (by omega), ← ht1, sup_k hk]
        · rw [k3 0 (by omega) (by omega), a3 0 (by omega), ← hs1, sup_s]; rfl
        · rw [q2 0 (by omega) (by omega), p3 0 (by omega) (by omega), g2 0 (by omega), e2 0 (by omega) (by omega), ← ht1, sup_s]; rfl
      obtain ⟨τ', m1, m2⟩ := key
      refine ⟨_, _, τ', rfl, ?_, m2⟩
      rw [← m1]
      unfold cdq
      by_cases z1 : x = 2 * nI (min V0 (9999 - dd))
      · rw [if_neg (fun z => z z1)]
        by_cases z2 : x = nI n
        · rw [if_neg (fun z => z z2), if_neg (fun z => z z1), if_neg (fun z => z z2)]
        · rw [if_pos z2, if_neg (fun z => z z1), if_pos z2]
      · rw [if_pos z1, if_pos z1]
  · rw [if_neg h1, if_neg h1]
    exact ⟨_, _, _, rfl, rfl, R2⟩
