theorem o_traveller {S : Nat} {σ τ : Store} (R : Rel S σ τ) : ∃ r σ' τ', fX8_traveller σ = some (r, σ') ∧ fX9_traveller τ = some (r, τ') ∧ Rel S σ' τ' := by
  obtain ⟨nw, nt, nx, hR, hD, hX⟩ := R
  have hR0 := hR
  obtain ⟨⟨hV, hsz, h5, h7, hT⟩, ⟨i6, il, iw, ie, ih⟩, hS⟩ := hR
  have g4 : σ 57 4 = nI nt := by rw [hV.head.2.2.2.2.2.2.1, i6]
  unfold fX8_traveller fX9_traveller
  rw [g4, l_6, six_e (by omega) (by omega), snx_e (by omega), i6]
  by_cases hn : nt < 6
  · rw [if_pos (nI_lt hn (by omega)), if_pos (fun z => by have := nI_inj (by omega) (by omega) z; omega)]
    obtain ⟨x1, x2⟩ := cx_t nt hn 0 (by omega)
    obtain ⟨y1, y2⟩ := cx_t nt hn 1 (by omega)
    generalize hs1 : sup σ (57 + (13 + nt)) 0 0 = s1
    generalize hs2 : sup s1 (57 + (13 + nt)) 1 0 = s2
    generalize ht1 : sup τ 1 (68 + 2 * nt + 0) 0 = t1
    generalize ht2 : sup t1 1 (68 + 2 * nt + 1) 0 = t2
    have u1 : BdV s1 (t1 1) 57 nw nt := by rw [← hs1, ← ht1, sup_r]; exact hV.up hsz.1 hsz.2.1 (by omega) x1 x2 _
    have u2 : BdV s2 (t2 1) 57 nw nt := by rw [← hs2, ← ht2, sup_r]; exact u1.up hsz.1 hsz.2.1 (by omega) y1 y2 _
    have g6 : s2 57 4 = nI nt := by rw [← hs2, sup_j (by omega), ← hs1, sup_j (by omega), g4]
    have told : ∀ j, (j ≠ 68 + 2 * nt ∧ j ≠ 69 + 2 * nt) → t2 1 j = τ 1 j := by
      intro j hj
      rw [← ht2, sup_k (by omega), ← ht1, sup_k (by omega)]
    have hv : ∀ f, f < 2 → s2 (57 + (13 + nt)) f = 0 ∧ t2 1 (68 + 2 * nt + f) = 0 := by
      intro f hf
      rw [← hs2, ← hs1, ← ht2, ← ht1]
      have : f = 0 ∨ f = 1 := by omega
      rcases this with rfl | rfl <;> simp [sup_e]
    have f6 : fr8 57 σ s2 := by
      rw [← hs2, ← hs1]
      exact (fr8.rf.up (by omega)).up (by omega)
    have f9 : fr9 τ t2 := by
      rw [← ht2, ← ht1]
      exact (fr9.rf.up (by omega)).up (by omega)
    have e8 : fX0_addTraveller 57 σ = some (nI nt, sup s2 57 4 (nI nt + 1)) := by
      unfold fX0_addTraveller
      rw [g4, six_e (by omega) (by omega), trv_e (by omega)]
      simp only [slt_e]
      rw [hs1, hs2, g6]
    rw [e8, sbd2_e, six_e (by omega) (by omega), slt_e, l_68, l_2, pk_mul, nI_add, l_0, l_1]
    simp (disch := omega) only [slt_e, six_e, snx_e, nI_add]
    rw [← l_0, ht1, ht2, told 6 (by omega), i6, nI_add]
    refine ⟨_, _, _, rfl, rfl, Rel.now hX hD (nw' := nw) (nt' := nt + 1) (S' := S) ⟨⟨?_, ⟨hsz.1, by omega, hsz.2.2⟩, ?_, ?_, ?_⟩, ⟨?_, ?_, ?_, ?_, ?_⟩, ?_⟩ (f6.up (o := 0) (by omega)).st (f9.up (by omega)) (Nat.le_refl _)⟩
    · have u7 : BdV (sup s2 (57 + 0) 4 (nI nt + 1)) (upd (t2 1) 6 (nI nt + 1)) 57 nw nt := u2.up hsz.1 hsz.2.1 (q0 := 6) (by omega) rfl rfl _
      rw [← nI_1, sup_r]
      intro x hx
      by_cases hx2 : liv nw nt x
      · exact u7 x hx2
      · have hx3 : ∃ f, f < 2 ∧ x = 68 + 2 * nt + f := ⟨x - (68 + 2 * nt), by unfold liv at hx hx2; omega, by unfold liv at hx hx2; omega⟩
        obtain ⟨f, hf, rfl⟩ := hx3
        obtain ⟨z1, z2⟩ := cx_t nt hn f hf
        rw [z1, z2, sup_j (by omega), upd_n (by omega), (hv f hf).1, (hv f hf).2]
    · rw [sup_k (by omega), told 5 (by omega), h5]
    · rw [sup_k (by omega), told 7 (by omega), h7]
    · intro y hy
      rw [sup_r]
      exact (hT y hy).same (by rw [sup_o (by omega)]; exact f6 _ (by omega) (by omega)) (by rw [sup_o (by omega)]; exact f6 _ (by omega) (by omega)) (by rw [sup_o (by omega)]; exact f6 _ (by omega) (by omega)) (by rw [sup_o (by omega)]; exact f6 _ (by omega) (by omega)) (fun z hz => by rw [upd_n (by omega), told z (by omega)])
    · rw [sup_s]
    · rw [sup_k (by omega), told 4 (by omega)]; exact il
    · intro w hw
      rw [sup_k (by omega), told _ (by omega)]; exact iw w hw
    · intro w hw
      rw [sup_k (by omega), told _ (by omega)]; exact ie w hw
    · intro t ht
      rw [sup_k (by omega)]
      by_cases h : t = nt
      · subst h; exact ⟨0, Nat.one_le_two_pow, (hv 0 (by omega)).2⟩
      · rw [told _ (by omega)]; exact ih t (by omega)
    · intro w hw
      rw [sup_k (by omega), told _ (by omega)]; exact hS w hw
  · obtain rfl : nt = 6 := by omega
    rw [if_neg (nI_nlt (by omega) (by omega)), if_neg (fun z => z rfl)]
    exact ⟨_, _, _, rfl, rfl, ⟨_, _, _, hR0, hD, hX⟩⟩
theorem o_travels {S : Nat} {σ τ : Store} (R : Rel S σ τ) (a b : Int32) : ∃ r, fX8_travels a b σ = some r ∧ fX9_travels a b τ = some r := by
  obtain ⟨nw, nt, nx, hR, hD, hX⟩ := R
  have hsz := hR.1.2.1
  unfold fX8_travels fX9_travels
  rw [hasT8 hR, isT9 hR]
  simp only [sbd_e, within8, within9]
  rw [show wth b 0 1 = inN b 2 from wth_lit (m := 1) (by omega)]
  by_cases h1 : inN a nt = true
  · rw [if_pos h1, if_pos h1]
    obtain ⟨t, ht, rfl⟩ := inN_t (by omega) h1
    by_cases h2 : inN b 2 = true
    · rw [if_pos h2, if_pos h2]
      obtain ⟨k, hk, rfl⟩ := inN_t (by omega) h2
      rw [six_e (by omega) (by omega), trv_e (by omega), travIs_e (by omega) hk, sbd_e, hR.tf ht (f := 0) (by omega), hR.tf ht (f := 1) (by omega)]
      have : k = 0 ∨ k = 1 := by omega
      rcases this with rfl | rfl <;> exact ⟨_, rfl, rfl⟩
    · rw [if_neg h2, if_neg h2]; exact ⟨_, rfl, rfl⟩
  · rw [if_neg h1, if_neg h1]; exact ⟨_, rfl, rfl⟩
theorem o_gives {S : Nat} {σ τ : Store} (R : Rel S σ τ) (a b : Int32) : ∃ r σ' τ', fX8_gives a b σ = some (r, σ') ∧ fX9_gives a b τ = some (r, τ') ∧ Rel S σ' τ' := by
  obtain ⟨nw, nt, nx, hR, hD, hX⟩ := R
  have hsz := hR.1.2.1
  have h2 : 2 ^ nw ≤ 1024 := Nat.pow_le_pow_right (by omega) hsz.1
  unfold fX8_gives fX9_gives
  rw [hasT8 hR, isT9 hR, sbd_e, sbd_e, hasA8 hR, areW9 hR, sbd_e, sbd_e]
  by_cases h1 : inN a nt = true
  · rw [if_pos h1, if_pos h1]
    obtain ⟨t, ht, rfl⟩ := inN_t (by omega) h1
    by_cases h2 : inN b (2 ^ nw) = true
    · rw [if_pos h2, if_pos h2]
      obtain ⟨k, hk, rfl⟩ := inN_t (by omega) h2
      rw [six_e (by omega) (by omega), slt_e, six_e (by omega) (by omega), slt_e, trv_e (by omega), l_68, l_2, l_0, pk_mul, nI_add, nI_add, bec9 (by omega), sbd2_e, hR.tf ht (f := 0) (by omega), show 68 + 2 * t + 0 = 68 + 2 * t by omega]
      exact ⟨_, _, _, rfl, rfl, RelS hX hD hR (hR.holds ht hk) (by omega) (by omega) (Nat.le_refl _)⟩
    · rw [if_neg h2, if_neg h2]; exact ⟨_, _, _, rfl, rfl, ⟨_, _, _, hR, hD, hX⟩⟩
  · rw [if_neg h1, if_neg h1]; exact ⟨_, _, _, rfl, rfl, ⟨_, _, _, hR, hD, hX⟩⟩
theorem o_rule {S : Nat} {σ τ : Store} (R : Rel S σ τ) (a b : Int32) : ∃ r σ' τ', fX8_rule a b σ = some (r, σ') ∧ fX9_rule a b τ = some (r, τ') ∧ Rel S σ' τ' := by
  obtain ⟨nw, nt, nx, hR, hD, hX⟩ := R
  have hsz := hR.1.2.1
  have bad : ∃ r σ' τ', some ((-1000000001 : Int32), σ) = some (r, σ') ∧ some ((-1000000001 : Int32), τ) = some (r, τ') ∧ Rel S σ' τ' := ⟨_, _, _, rfl, rfl, ⟨_, _, _, hR, hD, hX⟩⟩
  unfold fX8_rule fX9_rule
  simp only [sbd_e, sjn_e, within8, within9]
  by_cases b1 : a = 0
  · subst b1
    by_cases h3 : wth b 1 10 = true
    · simp (config := {decide := true}) only [h3, if_true, if_false]
      rw [slt_e, slt_e, l_2, l_0, nI_add, bec9 (by omega), sbd2_e, hR.1.1.head.2.2.1]
      exact ⟨_, _, _, rfl, rfl, RelS hX hD hR (o := 0) (f := 7) (q := 2) (hR.up (q0 := 2) (by omega) (by omega) (fun v z => by omega) (fun v z => by omega) rfl rfl b) (by omega) (by omega) (Nat.le_refl _)⟩
    · simp (config := {decide := true}) only [b_f h3, if_true, if_false]
      exact bad
  · by_cases b2 : a = 1
    · subst b2
      by_cases h3 : wth b 0 100 = true
      · simp (config := {decide := true}) only [h3, if_true, if_false]
        rw [slt_e, slt_e, l_2, l_1, nI_add, bec9 (by omega), sbd2_e, hR.1.1.head.2.2.2.1]
        exact ⟨_, _, _, rfl, rfl, RelS hX hD hR (o := 0) (f := 8) (q := 3) (hR.up (q0 := 3) (by omega) (by omega) (fun v z => by omega) (fun v z => by omega) rfl rfl b) (by omega) (by omega) (Nat.le_refl _)⟩
      · simp (config := {decide := true}) only [b_f h3, if_true, if_false]
        exact bad
    · simp (config := {decide := true}) only [b1, b2, if_true, if_false]
      exact bad
theorem o_seed {S : Nat} {σ τ : Store} (R : Rel S σ τ) (a : Int32) : ∃ r σ' τ', fX8_seed a σ = some (r, σ') ∧ fX9_seed a τ = some (r, τ') ∧ Rel S σ' τ' := by
  obtain ⟨nw, nt, nx, hR, hD, hX⟩ := R
  have hsz := hR.1.2.1
  unfold fX8_seed fX9_seed
  rw [slt_e, slt_e, l_0, bec9 (by omega), sbd2_e, hR.1.1.head.1]
  exact ⟨_, _, _, rfl, rfl, RelS hX hD hR (o := 0) (f := 10) (q := 0) (hR.up (q0 := 0) (by omega) (by omega) (fun v z => by omega) (fun v z => by omega) rfl rfl a) (by omega) (by omega) (Nat.le_refl _)⟩
theorem o_cross {S : Nat} {σ τ : Store} (R : Rel S σ τ) (a b : Int32) : ∃ r σ' τ', fX8_cross a b σ = some (r, σ') ∧ fX9_cross a b τ = some (r, τ') ∧ Rel (S + 10) σ' τ' := by
  obtain ⟨nw, nt, nx, hR, hD, hX⟩ := R
  have hsz := hR.1.2.1
  have h2 : 2 ^ nw ≤ 1024 := Nat.pow_le_pow_right (by omega) hsz.1
  have bad : ∃ r σ' τ', some ((-1000000001 : Int32), σ) = some (r, σ') ∧ some ((-1000000001 : Int32), τ) = some (r, τ') ∧ Rel (S + 10) σ' τ' := ⟨_, _, _, rfl, rfl, Rel.mono ⟨_, _, _, hR, hD, hX⟩ (by omega)⟩
  unfold fX8_cross fX9_cross
  rw [hasT8 hR, isT9 hR, sbd_e, sbd_e, hasA8 hR, areW9 hR, sbd_e, sbd_e]
  by_cases h1 : inN a nt = true
  · rw [if_pos h1, if_pos h1]
    obtain ⟨t, ht, rfl⟩ := inN_t (by omega) h1
    by_cases h2 : inN b (2 ^ nw) = true
    · rw [if_pos h2, if_pos h2]
      obtain ⟨k, hk, rfl⟩ := inN_t (by omega) h2
      obtain ⟨r, σ', τ', c1, c2, c3, c4, c5⟩ := cross_sim hR ht (s1 := k) (s2 := k) (by omega) (by omega) (fun _ _ => rfl)
      rw [six_e (by omega) (by omega), trv_e (by omega), c1, c2, sbd2_e, sbd2_e]
      exact ⟨_, _, _, rfl, rfl, Rel.now hX hD c3 c4.st c5 (by omega)⟩
    · rw [if_neg h2, if_neg h2]; exact bad
  · rw [if_neg h1, if_neg h1]; exact bad
theorem turned_R {B nw nt nx S : Nat} {σ τ : Store} (hR : BR B nw nt nx S σ τ) : ∃ b, fX0_isTurned B σ = some b ∧ fX9_isTurned τ = some b := by
  obtain ⟨l, hl, hl4⟩ := hR.2.1.2.1
  exact turned_sim hR.1 (p10 hl hR.1.2.1.1) hl4
theorem o_man {S : Nat} {σ τ : Store} (R : Rel S σ τ) (a : Int32) : ∃ r, fX8_man a σ = some r ∧ fX9_man a τ = some r := by
  obtain ⟨nw, nt, nx, hR, hD, hX⟩ := R
  obtain ⟨b, t1, t2⟩ := turned_R hR
  unfold fX8_man fX9_man
  rw [t1, t2, l_4, six_e (by omega) (by omega), snx_e (by omega), hR.1.1.head.2.2.2.2.1]
  simp only [sbd_e]
  by_cases b1 : a = 0
  · subst b1; exact ⟨_, rfl, rfl⟩
  · by_cases b2 : a = 1
    · subst b2; cases b <;> exact ⟨_, rfl, rfl⟩
    · rw [if_neg b1, if_neg b2, if_pos b1, if_pos b2]
      exact ⟨_, rfl, rfl⟩
theorem o_forget {S : Nat} {σ τ : Store} (R : Rel S σ τ) : ∃ r σ' τ', fX8_forget σ = some (r, σ') ∧ fX9_forget τ = some (r, τ') ∧ Rel S σ' τ' := by
  obtain ⟨nw, nt, nx, hR, hD, hX⟩ := R
  have hsz := hR.1.2.1
  obtain ⟨l, hl, hl4⟩ := hR.2.1.2.1
  unfold fX8_forget fX9_forget
  rw [hR.1.1.head.2.2.2.2.1, l_4, bec9 (by omega), sbd2_e, hl4, bits8 (p10 hl hsz.1), bits9 (p10 hl hsz.1)]
  simp only [sbd_e]
  rw [slt_e]
  exact ⟨_, _, _, rfl, rfl, RelS hX hD hR (o := 0) (f := 6) (q := 4) (hR.learn (l := 0) Nat.one_le_two_pow) (by omega) (by omega) (Nat.le_refl _)⟩
