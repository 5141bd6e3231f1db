theorem day1_sim {B nw nt nx S : Nat} {σ τ : Store} (hR : BR B nw nt nx S σ τ) : ∃ σ' τ', fX0_dayPasses B σ = some σ' ∧ fX9_daysGo (1 : Int32) τ = some τ' ∧ BR B nw nt nx (S + 60) σ' τ' ∧ fr8 B σ σ' ∧ fr9d τ τ' := by
  obtain ⟨σ', τ', a1, a2, a3, a4, a5, -⟩ := day_sim hR (fun s114 => fX9_daysGo_L2 (nI 1) 4999 (nI 0 + 1) s114)
  refine ⟨σ', τ', a1, ?_, a3, a4, a5⟩
  show fX9_daysGo_L2 (nI 1) (4999 + 1) (nI 0) τ = _
  rw [fX9_daysGo_L2, if_neg (by decide)]
  refine Eq.trans a2 ?_
  rw [nI_1]
  show fX9_daysGo_L2 (nI 1) (4998 + 1) (nI 1) τ' = _
  rw [fX9_daysGo_L2, if_pos (Int32.le_refl _)]
theorem o_behind {S : Nat} {σ τ : Store} (R : Rel S σ τ) (a b c : Int32) : ∃ r σ' τ', fX8_behind a b c σ = some (r, σ') ∧ fX9_behind a b c τ = some (r, τ') ∧ Rel S σ' τ' := by
  obtain ⟨nw, nt, nx, hR, hD, hX⟩ := R
  have hsz := hR.1.2.1
  have bad : ∃ r σ' τ', some ((-1000000001 : Int32), σ) = some (r, σ') ∧ some ((-1000000001 : Int32), τ) = some (r, τ') ∧ Rel S σ' τ' := ⟨_, _, _, rfl, rfl, ⟨_, _, _, hR, hD, hX⟩⟩
  unfold fX8_behind fX9_behind
  rw [hasT8 hR, isT9 hR, within8, within9, sbd_e, sbd_e, within8, within9, sbd_e, sbd_e, sbd_e, sbd_e, show wth b 0 60 = inN b 61 from wth_lit (m := 60) (by omega), show wth c 0 2 = inN c 3 from wth_lit (m := 2) (by omega)]
  by_cases h1 : inN a nt = true
  · rw [if_pos h1, if_pos h1]
    obtain ⟨t, ht, rfl⟩ := inN_t (by omega) h1
    by_cases h2 : inN b 61 = true
    · rw [if_pos h2, if_pos h2]
      obtain ⟨V, hV, rfl⟩ := inN_t (by omega) h2
      by_cases h3 : inN c 3 = true
      · rw [if_pos h3, if_pos h3]
        obtain ⟨q, hq, rfl⟩ := inN_t (by omega) h3
        obtain ⟨σ1, τ1, a1, a2, a3, a4, a5, a6⟩ := think hR
        rw [a1, a2, sbd_e, sbd_e]
        obtain ⟨σ2, τ2, -, b2, b3, b4, b5, b6, -⟩ := daysG_loop (V := V) (by omega) V 0 S σ1 τ1 FU (by omega) (FU_gt (by omega)) a3
        have c1 := b2 (fun x14 s15 => (if nI q = (0 : Int32) then (sbd (fX0_paidByAll 95 s15) fun r17 => (some (r17, s15))) else (if nI q = (1 : Int32) then (six 6 (nI t) (some ((s15 (trv 95 (nI t)) 0), s15))) else (some ((s15 95 6), s15))))) FU (FU_gt (by omega))
        rw [if_pos rfl] at c1
        obtain ⟨p, p1, p2⟩ := paid_sim b4
        have e9 : fX9_daysGo (nI V) τ1 = some τ2 := b3
        have t0 : fX9_travellerIs (nI t) (0 : Int32) τ2 = some (τ2 1 (68 + 2 * t + 0)) := tI (f := 0) (by omega) (by omega) rfl
        rw [show fX8_behind_L47 (nI V) _ FU (0 : Int32) σ1 = _ from c1, e9, sbd_e, p1, p2, t0]
        simp only [sbd_e, sjn_e]
        rw [six_e (by omega) (by omega), trv_e (by omega), b4.tf ht (f := 0) (by omega), b4.1.1.head.2.2.2.2.1, l_4, six_e (by omega) (by omega), snx_e (by omega)]
        have key : ∀ v : Int32, ∃ r σ' τ', some (v, σ2) = some (r, σ') ∧ (sbd2 (fX9_putBack v τ2) fun r14 s15 => some (r14, s15)) = some (r, τ') ∧ Rel S σ' τ' := by
          intro v
          obtain ⟨τ3, d1, d2, d3⟩ := unthink a5 a6 b6 v
          rw [d1, sbd2_e]
          exact ⟨_, _, _, rfl, rfl, Rel.back hX hD hR (fun j j1 j2 => by rw [b5 j j1 (by omega), a4 j (by omega)]) d2 d3 (Nat.le_refl _)⟩
        have : q = 0 ∨ q = 1 ∨ q = 2 := by omega
        rcases this with rfl | rfl | rfl
        · rw [if_pos (by decide), if_neg (by decide)]; exact key _
        · rw [if_neg (by decide), if_pos (by decide), if_pos (by decide), if_neg (by decide)]; exact key _
        · rw [if_neg (by decide), if_neg (by decide), if_pos (by decide), if_pos (by decide)]; exact key _
      · rw [if_neg h3, if_neg h3]; exact bad
    · rw [if_neg h2, if_neg h2]; exact bad
  · rw [if_neg h1, if_neg h1]; exact bad
theorem tby_loop {nw nt nx : Nat} : ∀ (m i S : Nat) (σ τ : Store) (n n2 : Nat), i + m = 200 → m < n → m + 1 < n2 → BR 95 nw nt nx S σ τ →
    ∃ r σ' τ', fX8_turnsBy_L13 (fun x14 s15 => (sbd (fX0_isTurned 95 s15) fun r16 => (if r16 = true then (some ((200 : Int32), s15)) else (some ((-1000000005 : Int32), s15))))) n (nI i) σ = some (r, σ') ∧
      fX9_turnsBy_L15 (fun x14 s15 => (sjn (fun k54 : Int32 → Option (Int32 × Store) => (if x14 ≤ (200 : Int32) then (k54 x14) else (k54 (-1000000005 : Int32)))) (fun (z0_54 : Int32) => (sbd2 (fX9_putBack z0_54 s15) fun r17 s18 => (some (r17, s18)))))) n2 (nI i) τ = (sbd2 (fX9_putBack r τ') fun r17 s18 => (some (r17, s18))) ∧ fr8 95 σ σ' ∧ fr9d τ τ' := by
  intro m
  induction m with
  | zero =>
    intro i S σ τ n n2 hi hn hn2 hR
    obtain rfl : i = 200 := by omega
    obtain ⟨n, rfl⟩ : ∃ k, n = k + 1 := ⟨n - 1, by omega⟩
    obtain ⟨n2, rfl⟩ : ∃ k, n2 = k + 1 + 1 := ⟨n2 - 2, by omega⟩
    obtain ⟨b, t1, t2⟩ := turned_R hR
    rw [fX8_turnsBy_L13, if_pos (by decide), fX9_turnsBy_L15, if_neg (by decide), t1, t2, sbd_e, sbd_e]
    cases b with
    | true =>
      rw [if_pos rfl, if_pos rfl, sjn_e, if_pos (by decide)]
      exact ⟨_, _, _, rfl, rfl, fr8.rf, fr9d.rf⟩
    | false =>
      obtain ⟨s1, t1, a1, a2, a3, a4, a5⟩ := day1_sim hR
      rw [if_neg (by decide), if_neg (by decide), a2, sbd_e, fX9_turnsBy_L15, if_pos (by decide), sjn_e, if_neg (by decide)]
      exact ⟨_, _, _, rfl, rfl, fr8.rf, a5⟩
  | succ m ih =>
    intro i S σ τ n n2 hi hn hn2 hR
    obtain ⟨n, rfl⟩ : ∃ k, n = k + 1 := ⟨n - 1, by omega⟩
    obtain ⟨n2, rfl⟩ : ∃ k, n2 = k + 1 := ⟨n2 - 1, by omega⟩
    obtain ⟨b, t1, t2⟩ := turned_R hR
    have h1 : ¬ (200 : Int32) ≤ nI i := nI_ge (b := 200) (by omega) (by omega)
    have h2 : ¬ (200 : Int32) < nI i := nI_nlt (a := 200) (by omega) (by omega)
    have h3 : nI i ≤ (200 : Int32) := nI_le (b := 200) (by omega) (by omega)
    rw [fX8_turnsBy_L13, if_neg h1, fX9_turnsBy_L15, if_neg h2, t1, t2, sbd_e, sbd_e]
    cases b with
    | true =>
      rw [if_pos rfl, if_pos rfl, sjn_e, if_pos h3]
      exact ⟨_, _, _, rfl, rfl, fr8.rf, fr9d.rf⟩
    | false =>
      obtain ⟨s1, t1, a1, a2, a3, a4, a5⟩ := day1_sim hR
      obtain ⟨r, σ', τ', c1, c2, c3, c4⟩ := ih (i + 1) _ s1 t1 n n2 (by omega) (by omega) (by omega) a3
      rw [if_neg (by decide), if_neg (by decide), a1, a2, sbd_e, sbd_e, nI_1, c1, c2]
      exact ⟨_, _, _, rfl, rfl, a4.tr c3, a5.tr c4⟩
theorem o_turnsBy {S : Nat} {σ τ : Store} (R : Rel S σ τ) : ∃ r σ' τ', fX8_turnsBy σ = some (r, σ') ∧ fX9_turnsBy τ = some (r, τ') ∧ Rel S σ' τ' := by
  obtain ⟨nw, nt, nx, hR, hD, hX⟩ := R
  obtain ⟨σ1, τ1, a1, a2, a3, a4, a5, a6⟩ := think hR
  obtain ⟨r, σ2, τ2, b1, b2, b5, b6⟩ := tby_loop 200 0 S σ1 τ1 FU FU (by omega) (FU_gt (by omega)) (FU_gt (by omega)) a3
  obtain ⟨τ3, d1, d2, d3⟩ := unthink a5 a6 b6 r
  unfold fX8_turnsBy fX9_turnsBy
  rw [a1, a2, sbd_e, sbd_e, show fX8_turnsBy_L13 _ FU (0 : Int32) σ1 = _ from b1, show fX9_turnsBy_L15 _ FU (0 : Int32) τ1 = _ from b2, d1, sbd2_e]
  exact ⟨_, _, _, rfl, rfl, Rel.back hX hD hR (fun j j1 j2 => by rw [b5 j j1 (by omega), a4 j (by omega)]) d2 d3 (Nat.le_refl _)⟩
