theorem RelS {S S' nw nt nx nw' nt' : Nat} {σ τ : Store} (h : Rst S nx σ τ) (hD : DyO (τ 1)) (hb : BR 57 nw nt nx S σ τ) {o f q : Nat} {x : Int32} (hb2 : BR 57 nw' nt' nx S' (sup σ (57 + o) f x) (sup τ 1 q x)) (ho : o < 19) (hq : q < 80 ∧ q ≠ 1) (hS : S ≤ S') : Rel S' (sup σ (57 + o) f x) (sup τ 1 q x) :=
  Rel.now h hD hb2 (fr8.rf.up ho).st (fr9.rf.up hq) hS
theorem BR.fld {B nw nt nx S w f : Nat} {σ τ : Store} (h : BR B nw nt nx S σ τ) (hw : w < nw) (hf : f = 2 ∨ f = 3) (x : Int32) : BR B nw nt nx S (sup σ (B + (3 + w)) f x) (sup τ 1 (8 + 6 * w + f) x) := by
  have hsz := h.1.2.1
  obtain ⟨e1, e2⟩ := cx_w w (by omega) f (by omega)
  exact h.up (q0 := 8 + 6 * w + f) (by omega) (by omega) (fun v z => by omega) (fun v z => by omega) e1 e2 x
theorem BdI.kind {g : Nat → Int32} {nw nt w k : Nat} (h : BdI g nw nt) (hnw : nw ≤ 10) (hk : k < 6) (hw : w < nw) : BdI (upd g (8 + 6 * w) (nI k)) nw nt := by
  obtain ⟨a, b, c, d, e⟩ := h
  exact ⟨by rw [upd_n (by omega), a], by rw [upd_n (by omega)]; exact b, fun v z => by
    by_cases q : v = w
    · subst q; exact ⟨k, hk, upd_y⟩
    · rw [upd_n (by omega)]; exact c v z, fun v z => by rw [upd_n (by omega)]; exact d v z, fun t z => by rw [upd_n (by omega)]; exact e t z⟩
theorem BdI.sens {g : Nat → Int32} {nw nt w k : Nat} (h : BdI g nw nt) (hnw : nw ≤ 10) (hk : k < 256) (hw : w < nw) : BdI (upd g (9 + 6 * w) (nI k)) nw nt := by
  obtain ⟨a, b, c, d, e⟩ := h
  exact ⟨by rw [upd_n (by omega), a], by rw [upd_n (by omega)]; exact b, fun v z => by rw [upd_n (by omega)]; exact c v z, fun v z => by
    by_cases q : v = w
    · subst q; exact ⟨k, hk, upd_y⟩
    · rw [upd_n (by omega)]; exact d v z, fun t z => by rw [upd_n (by omega)]; exact e t z⟩
theorem BR.kind {B nw nt nx S w k : Nat} {σ τ : Store} (h : BR B nw nt nx S σ τ) (hw : w < nw) (hk : k < 6) : BR B nw nt nx S (sup σ (B + (3 + w)) 0 (nI k)) (sup τ 1 (8 + 6 * w) (nI k)) := by
  have hsz := h.1.2.1
  obtain ⟨e1, e2⟩ := cx_w w (by omega) 0 (by omega)
  exact ⟨by rw [sup_r]; exact h.1.up (q0 := 8 + 6 * w) (by omega) (by omega) (by omega) e1 e2 _, by rw [sup_r]; exact h.2.1.kind hsz.1 hk hw, by rw [sup_r]; exact h.2.2.up (fun v z => by omega)⟩
theorem BR.sens {B nw nt nx S w k : Nat} {σ τ : Store} (h : BR B nw nt nx S σ τ) (hw : w < nw) (hk : k < 256) : BR B nw nt nx S (sup σ (B + (3 + w)) 1 (nI k)) (sup τ 1 (9 + 6 * w) (nI k)) := by
  have hsz := h.1.2.1
  obtain ⟨e1, e2⟩ := cx_w w (by omega) 1 (by omega)
  rw [show 8 + 6 * w + 1 = 9 + 6 * w by omega] at e1 e2
  exact ⟨by rw [sup_r]; exact h.1.up (q0 := 9 + 6 * w) (by omega) (by omega) (by omega) e1 e2 _, by rw [sup_r]; exact h.2.1.sens hsz.1 hk hw, by rw [sup_r]; exact h.2.2.up (fun v z => by omega)⟩
theorem BR.holds {B nw nt nx S t k : Nat} {σ τ : Store} (h : BR B nw nt nx S σ τ) (ht : t < nt) (hk : k < 2 ^ nw) : BR B nw nt nx S (sup σ (B + (13 + t)) 0 (nI k)) (sup τ 1 (68 + 2 * t) (nI k)) := by
  have hsz := h.1.2.1
  obtain ⟨e1, e2⟩ := cx_t t (by omega) 0 (by omega)
  exact ⟨by rw [sup_r]; exact h.1.up (q0 := 68 + 2 * t) (by omega) (by omega) (by omega) e1 e2 _, by rw [sup_r]; exact h.2.1.holds hsz.1 hk, by rw [sup_r]; exact h.2.2.up (fun v z => by omega)⟩
theorem BR.learn {B nw nt nx S l : Nat} {σ τ : Store} (h : BR B nw nt nx S σ τ) (hl : l < 2 ^ nw) : BR B nw nt nx S (sup σ (B + 0) 6 (nI l)) (sup τ 1 4 (nI l)) :=
  ⟨by rw [sup_r]; exact h.1.up (q0 := 4) (by omega) (by omega) (by omega) rfl rfl _, by rw [sup_r]; exact h.2.1.learn hl, by rw [sup_r]; exact h.2.2.up (fun v z => by omega)⟩
theorem o_turns {S : Nat} {σ τ : Store} (R : Rel S σ τ) (a b : Int32) : ∃ r σ' τ', fX8_turns a b σ = some (r, σ') ∧ fX9_turns a b τ = some (r, τ') ∧ Rel S σ' τ' := by
  obtain ⟨nw, nt, nx, hR, hD, hX⟩ := R
  have hsz := hR.1.2.1
  unfold fX8_turns fX9_turns
  rw [hasW8 hR, isW9 hR, sbd_e, sbd_e, kind8, kind9, sbd_e, sbd_e]
  by_cases h1 : inN a nw = true
  · rw [if_pos h1, if_pos h1]
    obtain ⟨w, hw, rfl⟩ := inN_t (by omega) h1
    by_cases h2 : inN b 6 = true
    · rw [if_pos h2, if_pos h2]
      obtain ⟨q, hq, rfl⟩ := inN_t (by omega) h2
      rw [six_e (by omega) (by omega), slt_e, six_e (by omega) (by omega), slt_e, wrd_e (by omega), l_8, l_6, l_0, pk_mul, nI_add, nI_add, bec9 (by omega), sbd2_e, hR.wf hw (f := 0) (by omega), show 8 + 6 * w + 0 = 8 + 6 * w by omega]
      exact ⟨_, _, _, rfl, rfl, RelS hX hD hR (hR.kind hw hq) (by omega) (by omega) (Nat.le_refl _)⟩
    · rw [if_neg h2, if_neg h2]; exact ⟨_, _, _, rfl, rfl, ⟨_, _, _, hR, hD, hX⟩⟩
  · rw [if_neg h1, if_neg h1]; exact ⟨_, _, _, rfl, rfl, ⟨_, _, _, hR, hD, hX⟩⟩
theorem o_set {S : Nat} {σ τ : Store} (R : Rel S σ τ) (a b c : Int32) : ∃ r σ' τ', fX8_set a b c σ = some (r, σ') ∧ fX9_set a b c τ = some (r, τ') ∧ Rel S σ' τ' := by
  obtain ⟨nw, nt, nx, hR, hD, hX⟩ := R
  have hsz := hR.1.2.1
  have bad : ∃ r σ' τ', some ((-1000000001 : Int32), σ) = some (r, σ') ∧ some ((-1000000001 : Int32), τ) = some (r, τ') ∧ Rel S σ' τ' := ⟨_, _, _, rfl, rfl, ⟨_, _, _, hR, hD, hX⟩⟩
  unfold fX8_set fX9_set
  rw [hasW8 hR, isW9 hR]
  simp only [sbd_e, sjn_e, within8, within9, hund9]
  have w23 : wth b 2 3 = true → b = 2 ∨ b = 3 := fun h => by
    have := wth_of h
    have e1 : (2 : Int32).toInt = 2 := rfl
    have e2 : (3 : Int32).toInt = 3 := rfl
    have : b.toInt = 2 ∨ b.toInt = 3 := by omega
    rcases this with h | h
    · exact Or.inl (Int32.toInt_inj.mp h)
    · exact Or.inr (Int32.toInt_inj.mp h)
  by_cases h1 : inN a nw = true
  · simp only [h1, if_true]
    obtain ⟨w, hw, rfl⟩ := inN_t (by omega) h1
    rw [six_e (by omega) (by omega), wrd_e (by omega)]
    by_cases b1 : b = 1
    · subst b1
      by_cases h3 : wth c 1 255 = true
      · simp (config := {decide := true}) only [h3, if_true, if_false]
        obtain ⟨e, he, rfl⟩ := i_of (n := 255) (v := c) (by have := wth_of h3; have e1 : (1 : Int32).toInt = 1 := rfl; omega) (by have := wth_of h3; have e1 : (255 : Int32).toInt = 255 := rfl; omega)
        rw [slt_e, slt_e, l_8, l_6, l_1, pk_mul, nI_add, nI_add, bec9 (by omega), sbd2_e, hR.wf hw (f := 1) (by omega), show 8 + 6 * w + 1 = 9 + 6 * w by omega]
        exact ⟨_, _, _, rfl, rfl, RelS hX hD hR (hR.sens hw (by omega)) (by omega) (by omega) (Nat.le_refl _)⟩
      · simp (config := {decide := true}) only [b_f h3, if_true, if_false]
        exact bad
    · by_cases b2 : b = 2
      · subst b2
        by_cases h3 : wth c 0 99 = true
        · simp (config := {decide := true}) only [h3, if_true, if_false]
          rw [slt_e, slt_e, l_8, l_6, l_2, pk_mul, nI_add, nI_add, bec9 (by omega), sbd2_e, hR.wf hw (f := 2) (by omega)]
          exact ⟨_, _, _, rfl, rfl, RelS hX hD hR (hR.fld hw (Or.inl rfl) _) (by omega) (by omega) (Nat.le_refl _)⟩
        · simp (config := {decide := true}) only [b_f h3, if_true, if_false]
          exact bad
      · by_cases b3 : b = 3
        · subst b3
          by_cases h3 : wth c 0 99 = true
          · simp (config := {decide := true}) only [h3, if_true, if_false]
            rw [slt_e, slt_e, l_8, l_6, l_3, pk_mul, nI_add, nI_add, bec9 (by omega), sbd2_e, hR.wf hw (f := 3) (by omega)]
            exact ⟨_, _, _, rfl, rfl, RelS hX hD hR (hR.fld hw (Or.inr rfl) _) (by omega) (by omega) (Nat.le_refl _)⟩
          · simp (config := {decide := true}) only [b_f h3, if_true, if_false]
            exact bad
        · have hwf : wth b 2 3 = false := b_f (fun z => by rcases w23 z with h | h; exact b2 h; exact b3 h)
          simp (config := {decide := true}) only [b1, b2, b3, hwf, if_true, if_false]
          exact bad
  · simp only [b_f h1, Bool.false_eq_true, if_false]
    by_cases b1 : b = 1 <;> by_cases h3 : wth c 1 255 = true <;> by_cases h4 : wth b 2 3 = true <;> by_cases h5 : wth c 0 99 = true <;> simp only [b1, h3, h4, h5, b_f, not_true, not_false_iff, if_true, if_false, Bool.false_eq_true] <;> exact bad
