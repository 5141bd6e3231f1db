theorem opt_same {α : Type} {X : Option α} (h : X.isSome = true) : ∃ r, X = some r ∧ X = some r := by
  cases X with
  | none => cases h
  | some r => exact ⟨r, rfl, rfl⟩
theorem stamps_loop {B nw nt nx S : Nat} {σ τ : Store} (hR : BR B nw nt nx S σ τ) : ∀ (m i : Nat) (a : Int32) (n n2 : Nat), i + m = nw → m < n → m < n2 → ∃ r, fX0_stampsOfAll_L4 B σ n a (nI i) = some r ∧ fX9_stamps_L4 τ n2 a (nI i) = some r := by
  have hsz := hR.1.2.1
  have g3 : σ B 3 = nI nw := by rw [hR.1.1.head.2.2.2.2.2.1, hR.1.2.2.1]
  intro m
  induction m with
  | zero =>
    intro i a n n2 hi hn hn2
    obtain rfl : i = nw := by omega
    obtain ⟨n, rfl⟩ : ∃ k, n = k + 1 := ⟨n - 1, by omega⟩
    obtain ⟨n2, rfl⟩ : ∃ k, n2 = k + 1 := ⟨n2 - 1, by omega⟩
    refine ⟨a, ?_, ?_⟩
    · rw [fX0_stampsOfAll_L4, g3, if_pos (Int32.le_refl _)]
    · rw [fX9_stamps_L4, l_5, six_e (by omega) (by omega), snx_e (by omega), hR.1.2.2.1, if_pos (Int32.le_refl _)]
  | succ m ih =>
    intro i a n n2 hi hn hn2
    obtain ⟨n, rfl⟩ : ∃ k, n = k + 1 := ⟨n - 1, by omega⟩
    obtain ⟨n2, rfl⟩ : ∃ k, n2 = k + 1 := ⟨n2 - 1, by omega⟩
    have hge : ¬ nI nw ≤ nI i := nI_ge (by omega) (by omega)
    rw [fX0_stampsOfAll_L4, fX9_stamps_L4, g3, if_neg hge, six_e (by omega) (by omega), slt_e, wrd_e (by omega), hR.wf (w := i) (f := 4) (by omega) (by omega), l_5, six_e (by omega) (by omega), snx_e (by omega), hR.1.2.2.1, if_neg hge, wI (x := 4) (f := 4) (by omega) (by omega) rfl, sbd_e, slt_e, nI_1]
    exact ih (i + 1) _ n n2 (by omega) (by omega) (by omega)
theorem stamps_sim {B nw nt nx S : Nat} {σ τ : Store} (hR : BR B nw nt nx S σ τ) : ∃ r, fX0_stampsOfAll B σ = some r ∧ fX9_stamps τ = some r :=
  stamps_loop hR nw 0 0 FU FU (by omega) (FU_gt (by have := hR.1.2.1; omega)) (FU_gt (by have := hR.1.2.1; omega))
theorem paid_loop {B nw nt nx S : Nat} {σ τ : Store} (hR : BR B nw nt nx S σ τ) : ∀ (m i : Nat) (a : Int32) (n n2 : Nat), i + m = nt → m < n → m < n2 → ∃ r, fX0_paidByAll_L4 B σ n a (nI i) = some r ∧ fX9_paid_L4 τ n2 a (nI i) = some r := by
  have hsz := hR.1.2.1
  have g4 : σ B 4 = nI nt := by rw [hR.1.1.head.2.2.2.2.2.2.1, hR.2.1.1]
  intro m
  induction m with
  | zero =>
    intro i a n n2 hi hn hn2
    obtain rfl : i = nt := by omega
    obtain ⟨n, rfl⟩ : ∃ k, n = k + 1 := ⟨n - 1, by omega⟩
    obtain ⟨n2, rfl⟩ : ∃ k, n2 = k + 1 := ⟨n2 - 1, by omega⟩
    refine ⟨a, ?_, ?_⟩
    · rw [fX0_paidByAll_L4, g4, if_pos (Int32.le_refl _)]
    · rw [fX9_paid_L4, l_6, six_e (by omega) (by omega), snx_e (by omega), hR.2.1.1, if_pos (Int32.le_refl _)]
  | succ m ih =>
    intro i a n n2 hi hn hn2
    obtain ⟨n, rfl⟩ : ∃ k, n = k + 1 := ⟨n - 1, by omega⟩
    obtain ⟨n2, rfl⟩ : ∃ k, n2 = k + 1 := ⟨n2 - 1, by omega⟩
    have hge : ¬ nI nt ≤ nI i := nI_ge (by omega) (by omega)
    rw [fX0_paidByAll_L4, fX9_paid_L4, g4, if_neg hge, six_e (by omega) (by omega), slt_e, trv_e (by omega), hR.tf (w := i) (f := 1) (by omega) (by omega), l_6, six_e (by omega) (by omega), snx_e (by omega), hR.2.1.1, if_neg hge, tI (x := 1) (f := 1) (by omega) (by omega) rfl, sbd_e, slt_e, nI_1]
    exact ih (i + 1) _ n n2 (by omega) (by omega) (by omega)
theorem paid_sim {B nw nt nx S : Nat} {σ τ : Store} (hR : BR B nw nt nx S σ τ) : ∃ r, fX0_paidByAll B σ = some r ∧ fX9_paid τ = some r :=
  paid_loop hR nt 0 0 FU FU (by omega) (FU_gt (by have := hR.1.2.1; omega)) (FU_gt (by have := hR.1.2.1; omega))
theorem o_count {S : Nat} {σ τ : Store} (R : Rel S σ τ) (a : Int32) : ∃ r, fX8_count a σ = some r ∧ fX9_count a τ = some r := by
  obtain ⟨nw, nt, nx, hR, hD, hX⟩ := R
  obtain ⟨s, s1, s2⟩ := stamps_sim hR
  obtain ⟨p, p1, p2⟩ := paid_sim hR
  obtain ⟨h0, h1, h2, h3, h4, h5, h6, h7⟩ := hR.1.1.head
  obtain ⟨L, -, t1, t2, -⟩ := hX.2.1
  obtain ⟨wn, -, w1, w2, -⟩ := hX.2.2.2.2
  have lit : ∀ k F, k < 14 → six 1480 (nI k) (some (τ 1 (snx (nI k)))) = F → F = some (τ 1 k) := fun k F hk h => by rw [← h, six_e (by omega) (by omega), snx_e (by omega)]
  have e : ∀ k, k < 14 → (six 1480 (nI k) (some (τ 1 (snx (nI k)))) : Option Int32) = some (τ 1 k) := fun k hk => by rw [six_e (by omega) (by omega), snx_e (by omega)]
  unfold fX8_count fX9_count
  rw [s1, s2, p1, p2, h0, h1, h2, h3, h5, h6, h7, t1, t2, w1, w2]
  rw [show (six 1480 (5 : Int32) (some (τ 1 (snx (5 : Int32)))) : Option Int32) = some (τ 1 5) from e 5 (by omega), show (six 1480 (6 : Int32) (some (τ 1 (snx (6 : Int32)))) : Option Int32) = some (τ 1 6) from e 6 (by omega), show (six 1480 (1 : Int32) (some (τ 1 (snx (1 : Int32)))) : Option Int32) = some (τ 1 1) from e 1 (by omega), show (six 1480 (2 : Int32) (some (τ 1 (snx (2 : Int32)))) : Option Int32) = some (τ 1 2) from e 2 (by omega), show (six 1480 (3 : Int32) (some (τ 1 (snx (3 : Int32)))) : Option Int32) = some (τ 1 3) from e 3 (by omega), show (six 1480 (7 : Int32) (some (τ 1 (snx (7 : Int32)))) : Option Int32) = some (τ 1 7) from e 7 (by omega), show (six 1480 (0 : Int32) (some (τ 1 (snx (0 : Int32)))) : Option Int32) = some (τ 1 0) from e 0 (by omega)]
  simp only [sbd_e]
  refine opt_same ?_
  (repeat' split) <;> rfl
