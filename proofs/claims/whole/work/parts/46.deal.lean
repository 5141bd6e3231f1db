theorem drawW_sim {nw nt nx S : Nat} {σ τ : Store} (hR : BR 57 nw nt nx S σ τ) (hn : nw < 10) (K : Store → Option (Int32 × Store)) :
    ∃ σ' τ', fX0_drawWord 57 σ = some σ' ∧ (sbd2 (fX9_drawn (6 : Int32) τ) fun r30 s31 => (sbd2 (fX9_drawn (255 : Int32) s31) fun r32 s33 => (slt ((1 : Int32) + r32) fun x34 => (sbd2 (fX9_drawn (50 : Int32) s33) fun r35 s36 => (sbd2 (fX9_drawn (10 : Int32) s36) fun r37 s38 => (sbd2 (fX9_comes r30 x34 r35 r37 s38) fun r39 s40 => K s40)))))) = K τ' ∧ BR 57 (nw + 1) nt nx S σ' τ' ∧ fr8 57 σ σ' ∧ fr9 τ τ' := by
  have zz : ∀ {s t : Store}, BR 57 nw nt nx S s t → BR 57 nw nt nx S (sup s 57 10 (zn (t 1 0))) (sup t 1 0 (zn (t 1 0))) := fun {s t} h => by
    have hsz := h.1.2.1
    exact h.up (q0 := 0) (o := 0) (f := 10) (by omega) (by omega) (fun v z => by omega) (fun v z => by omega) rfl rfl (zn (t 1 0))
  have ez : ∀ {s t : Store}, BR 57 nw nt nx S s t → s 57 10 = t 1 0 := fun h => h.1.1.head.1
  have a1 := zz hR
  have e1 := ez hR
  generalize hs1 : sup σ 57 10 (zn (τ 1 0)) = s1 at a1
  generalize ht1 : sup τ 1 0 (zn (τ 1 0)) = t1 at a1
  have a2 := zz a1
  have e2 := ez a1
  generalize hs2 : sup s1 57 10 (zn (t1 1 0)) = s2 at a2
  generalize ht2 : sup t1 1 0 (zn (t1 1 0)) = t2 at a2
  have a3 := zz a2
  have e3 := ez a2
  generalize hs3 : sup s2 57 10 (zn (t2 1 0)) = s3 at a3
  generalize ht3 : sup t2 1 0 (zn (t2 1 0)) = t3 at a3
  have a4 := zz a3
  have e4 := ez a3
  generalize hs4 : sup s3 57 10 (zn (t3 1 0)) = s4 at a4
  generalize ht4 : sup t3 1 0 (zn (t3 1 0)) = t4 at a4
  obtain ⟨m1, hm1, em1⟩ := mod_n (d := 6) (zn (τ 1 0)) (by omega) (by omega)
  obtain ⟨m2, hm2, em2⟩ := mod_n (d := 255) (zn (t1 1 0)) (by omega) (by omega)
  obtain ⟨σ', τ', c1, c2, c3, c4, c5⟩ := add_sim a4 hn hm1 (e := 1 + m2) (by omega) (sushr (zn (t2 1 0)) 8 - sushr (zn (t2 1 0)) 8 / 50 * 50) (sushr (zn (t3 1 0)) 8 - sushr (zn (t3 1 0)) 8 / 10 * 10)
  have f8 : fr8 57 σ s4 := by
    rw [← hs4, ← hs3, ← hs2, ← hs1]
    exact (((fr8.rf.up (o := 0) (by omega)).up (o := 0) (by omega)).up (o := 0) (by omega)).up (o := 0) (by omega)
  have f9 : fr9 τ t4 := by
    rw [← ht4, ← ht3, ← ht2, ← ht1]
    exact (((fr9.rf.up (by omega)).up (by omega)).up (by omega)).up (by omega)
  refine ⟨σ', τ', ?_, ?_, c3, f8.tr c4, f9.tr c5⟩
  · unfold fX0_drawWord
    rw [draw8, e1, hs1, sbd2_e, slt_e, draw8, e2, hs2, sbd2_e, slt_e, draw8, e3, hs3, sbd2_e, slt_e, draw8, e4, hs4, sbd2_e, slt_e, show (6 : Int32) = nI 6 from rfl, em1, show (255 : Int32) = nI 255 from rfl, em2, l_1, nI_add, c1, sbd2_e]
  · rw [drawn9 (by decide), ht1, sbd2_e, drawn9 (by decide), ht2, sbd2_e, slt_e, drawn9 (by decide), ht3, sbd2_e, drawn9 (by decide), ht4, sbd2_e, show (6 : Int32) = nI 6 from rfl, em1, show (255 : Int32) = nI 255 from rfl, em2, l_1, nI_add, c2, sbd2_e]
theorem deal_loop {nt nx S V : Nat} (hV : V ≤ 10) : ∀ (m i nw : Nat) (σ τ : Store) (n n2 : Nat), i + m = V → nw + m ≤ 10 → m < n → m < n2 → BR 57 nw nt nx S σ τ →
    ∃ σ' τ', fX8_deal_L30 (nI V) n (nI i) σ = some (nI V, σ') ∧ fX9_deal_L29 (nI V) n2 (nI i) τ = some (nI V, τ') ∧ BR 57 (nw + m) nt nx S σ' τ' ∧ fr8 57 σ σ' ∧ fr9 τ τ' := by
  intro m
  induction m with
  | zero =>
    intro i nw σ τ n n2 hi _ hn hn2 hR
    obtain rfl : i = V := by omega
    obtain ⟨n, rfl⟩ : ∃ k, n = k + 1 := ⟨n - 1, by omega⟩
    obtain ⟨n2, rfl⟩ : ∃ k, n2 = k + 1 := ⟨n2 - 1, by omega⟩
    exact ⟨σ, τ, by rw [fX8_deal_L30, if_pos (Int32.le_refl _)], by rw [fX9_deal_L29, if_pos (Int32.le_refl _)], hR, fr8.rf, fr9.rf⟩
  | succ m ih =>
    intro i nw σ τ n n2 hi hnw hn hn2 hR
    obtain ⟨n, rfl⟩ : ∃ k, n = k + 1 := ⟨n - 1, by omega⟩
    obtain ⟨n2, rfl⟩ : ∃ k, n2 = k + 1 := ⟨n2 - 1, by omega⟩
    have hge : ¬ nI V ≤ nI i := nI_ge (by omega) (by omega)
    obtain ⟨s1, t1, a1, a2, a3, a4, a5⟩ := drawW_sim hR (by omega) (fun s40 => fX9_deal_L29 (nI V) n2 (nI i + 1) s40)
    obtain ⟨σ', τ', b1, b2, b3, b4, b5⟩ := ih (i + 1) (nw + 1) s1 t1 n n2 (by omega) (by omega) (by omega) (by omega) a3
    refine ⟨σ', τ', ?_, ?_, by rw [show nw + (m + 1) = nw + 1 + m by omega]; exact b3, a4.tr b4, a5.tr b5⟩
    · rw [fX8_deal_L30, if_neg hge, a1, sbd_e, nI_1]; exact b1
    · rw [fX9_deal_L29, if_neg hge, a2, nI_1]; exact b2
theorem smin_n {a b : Nat} (ha : a < 2 ^ 31) (hb : b < 2 ^ 31) : smin (nI a) (nI b) = nI (min a b) := by
  unfold smin
  by_cases h : b < a
  · rw [if_pos (nI_lt h ha), Nat.min_eq_right (by omega)]
  · rw [if_neg (nI_nlt (by omega) hb), Nat.min_eq_left (by omega)]
theorem o_deal {S : Nat} {σ τ : Store} (R : Rel S σ τ) (a : Int32) : ∃ r σ' τ', fX8_deal a σ = some (r, σ') ∧ fX9_deal a τ = some (r, τ') ∧ Rel S σ' τ' := by
  obtain ⟨nw, nt, nx, hR, hD, hX⟩ := R
  have hsz := hR.1.2.1
  have g3 : σ 57 3 = nI nw := by rw [hR.1.1.head.2.2.2.2.2.1, hR.1.2.2.1]
  unfold fX8_deal fX9_deal
  rw [within8, within9, sbd_e, sbd_e, g3, l_5, six_e (by omega) (by omega), snx_e (by omega), hR.1.2.2.1]
  by_cases h1 : wth a 1 10 = true
  · rw [if_pos h1, if_pos h1]
    have hw := wth_of h1
    have e1 : (1 : Int32).toInt = 1 := rfl
    have e2 : (10 : Int32).toInt = 10 := rfl
    obtain ⟨k, hk, rfl⟩ := i_of (v := a) (n := 10) (by omega) (by omega)
    rw [l_10, pk_sub hsz.1, smin_n (by omega) (by omega), slt_e, slt_e]
    obtain ⟨σ', τ', b1, b2, b3, b4, b5⟩ := deal_loop (V := min k (10 - nw)) (by omega) (min k (10 - nw)) 0 nw σ τ FU FU (by omega) (by omega) (FU_gt (by omega)) (FU_gt (by omega)) hR
    exact ⟨_, _, _, b1, b2, Rel.now hX hD b3 b4.st b5 (Nat.le_refl _)⟩
  · rw [if_neg h1, if_neg h1]
    exact ⟨_, _, _, rfl, rfl, ⟨_, _, _, hR, hD, hX⟩⟩
theorem daysG_loop {B nw nt nx V : Nat} (hV : V ≤ 4000) : ∀ (m i S : Nat) (σ τ : Store) (n : Nat), i + m = V → m < n → BR B nw nt nx S σ τ →
    ∃ σ' τ', (∀ (k : Int32 → Store → Option (Int32 × Store)) (n : Nat), m < n → fX8_days_L40 (nI V) k n (nI i) σ = (if B = 57 then k (nI V) σ' else fX8_days_L40 (nI V) k n (nI i) σ)) ∧ (∀ (k : Int32 → Store → Option (Int32 × Store)) (n : Nat), m < n → fX8_behind_L47 (nI V) k n (nI i) σ = (if B = 95 then k (nI V) σ' else fX8_behind_L47 (nI V) k n (nI i) σ)) ∧ fX9_daysGo_L2 (nI V) n (nI i) τ = some τ' ∧ BR B nw nt nx (S + 60 * m) σ' τ' ∧ fr8 B σ σ' ∧ fr9d τ τ' ∧ (∀ d, τ 1 1 = nI d → τ' 1 1 = nI (d + m)) := by
  intro m
  induction m with
  | zero =>
    intro i S σ τ n hi hn hR
    obtain rfl : i = V := by omega
    obtain ⟨n, rfl⟩ : ∃ k, n = k + 1 := ⟨n - 1, by omega⟩
    refine ⟨σ, τ, fun k n hn => ?_, fun k n hn => ?_, by rw [fX9_daysGo_L2, if_pos (Int32.le_refl _)], hR, fr8.rf, fr9d.rf, fun d h => h⟩
    · obtain ⟨n, rfl⟩ : ∃ k, n = k + 1 := ⟨n - 1, by omega⟩
      by_cases hB : B = 57
      · rw [if_pos hB, fX8_days_L40, if_pos (Int32.le_refl _)]
      · rw [if_neg hB]
    · obtain ⟨n, rfl⟩ : ∃ k, n = k + 1 := ⟨n - 1, by omega⟩
      by_cases hB : B = 95
      · rw [if_pos hB, fX8_behind_L47, if_pos (Int32.le_refl _)]
      · rw [if_neg hB]
  | succ m ih =>
    intro i S σ τ n hi hn hR
    obtain ⟨n, rfl⟩ : ∃ k, n = k + 1 := ⟨n - 1, by omega⟩
    have hge : ¬ nI V ≤ nI i := nI_ge (by omega) (by omega)
    obtain ⟨s1, t1, a1, a2, a3, a4, a5, a6⟩ := day_sim hR (fun s114 => fX9_daysGo_L2 (nI V) n (nI i + 1) s114)
    obtain ⟨σ', τ', b1, b2, b3, b4, b5, b6, b7⟩ := ih (i + 1) (S + 60) s1 t1 n (by omega) (by omega) a3
    refine ⟨σ', τ', fun k n hn => ?_, fun k n hn => ?_, ?_, by rw [show S + 60 * (m + 1) = S + 60 + 60 * m by omega]; exact b4, a4.tr b5, a5.tr b6, fun d h => ?_⟩
    · obtain ⟨n, rfl⟩ : ∃ k, n = k + 1 := ⟨n - 1, by omega⟩
      by_cases hB : B = 57
      · subst hB
        have := b1 k n (by omega)
        rw [if_pos rfl] at this ⊢
        rw [fX8_days_L40, if_neg hge, a1, sbd_e, nI_1, this]
      · rw [if_neg hB]
    · obtain ⟨n, rfl⟩ : ∃ k, n = k + 1 := ⟨n - 1, by omega⟩
      by_cases hB : B = 95
      · subst hB
        have := b2 k n (by omega)
        rw [if_pos rfl] at this ⊢
        rw [fX8_behind_L47, if_neg hge, a1, sbd_e, nI_1, this]
      · rw [if_neg hB]
    · rw [fX9_daysGo_L2, if_neg hge, a2, nI_1]; exact b3
    · rw [h, nI_1] at a6
      have := b7 (d + 1) a6
      rw [this]; congr 1; omega
theorem o_days {S : Nat} {σ τ : Store} (R : Rel S σ τ) (a : Int32) : ∃ r σ' τ', fX8_days a σ = some (r, σ') ∧ fX9_days a τ = some (r, τ') ∧ Rel (S + 3600) σ' τ' := by
  obtain ⟨nw, nt, nx, hR, hD, hX⟩ := R
  have hsz := hR.1.2.1
  obtain ⟨d, hd, ed⟩ := hD
  have g9 : σ 57 9 = nI d := by rw [hR.1.1.head.2.1, ed]
  obtain ⟨s, s1, s2⟩ := stamps_sim hR
  unfold fX8_days fX9_days
  rw [within8, within9, sbd_e, sbd_e, g9, s1, s2]
  simp only [sbd_e]
  rw [l_1, six_e (by omega) (by omega), snx_e (by omega), ed]
  by_cases h1 : wth a (nI 1) 60 = true
  · rw [if_pos h1, if_pos h1]
    have hw := wth_of h1
    have e1 : (nI 1).toInt = 1 := rfl
    have e2 : (60 : Int32).toInt = 60 := rfl
    obtain ⟨k, hk, rfl⟩ := i_of (v := a) (n := 60) (by omega) (by omega)
    rw [show (9999 : Int32) = nI 9999 from rfl, pk_sub hd, smin_n (by omega) (by omega), slt_e]
    obtain ⟨σ', τ', b1, -, b3, b4, b5, b6, b7⟩ := daysG_loop (V := min k (9999 - d)) (by omega) (min k (9999 - d)) 0 S σ τ FU (by omega) (FU_gt (by omega)) hR
    obtain ⟨s', s3, s4⟩ := stamps_sim b4
    have c1 := b1 (fun x11 s12 => (sbd (fX0_stampsOfAll 57 s12) fun r13 => (some ((r13 - s), s12)))) FU (FU_gt (by omega))
    rw [if_pos rfl] at c1
    refine ⟨s' - s, σ', τ', ?_, ?_, Rel.nowD hX (b4.mono (by omega)) ⟨_, by omega, b7 d ed⟩ b5.st b6.st (by omega)⟩
    · rw [show fX8_days_L40 (nI (min k (9999 - d))) _ FU (0 : Int32) σ = _ from c1, s3, sbd_e]
    · unfold fX9_daysGo
      rw [show fX9_daysGo_L2 (nI (min k (9999 - d))) FU (0 : Int32) τ = _ from b3, sbd_e, s4, sbd_e]
  · rw [if_neg h1, if_neg h1]
    exact ⟨_, _, _, rfl, rfl, Rel.mono ⟨_, _, _, hR, ⟨d, hd, ed⟩, hX⟩ (by omega)⟩
