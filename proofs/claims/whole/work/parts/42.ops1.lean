theorem b_f {b : Bool} (h : ¬ b = true) : b = false := by cases b; rfl; exact absurd rfl h
theorem wth_of {v l h : Int32} (hw : wth v l h = true) : l.toInt ≤ v.toInt ∧ v.toInt ≤ h.toInt := by
  have := of_decide_eq_true hw
  exact ⟨(fa_le _ _).mp this.1, (fa_le _ _).mp this.2⟩
theorem i_of {v : Int32} {n : Nat} (h0 : 0 ≤ v.toInt) (h : v.toInt ≤ n) : ∃ k, k ≤ n ∧ v = nI k := by
  refine ⟨v.toInt.toNat, by omega, ?_⟩
  have hr := fb_rng v
  apply Int32.toInt_inj.mp
  rw [nI_toInt (by omega)]
  omega
theorem o_word {S : Nat} {σ τ : Store} (R : Rel S σ τ) (a b c d : Int32) : ∃ r σ' τ', fX8_word a b c d σ = some (r, σ') ∧ fX9_word a b c d τ = some (r, τ') ∧ Rel S σ' τ' := by
  obtain ⟨nw, nt, nx, hR, hD, hX⟩ := R
  have hsz := hR.1.2.1
  have g3 : σ 57 3 = nI nw := by rw [hR.1.1.head.2.2.2.2.2.1, hR.1.2.2.1]
  unfold fX8_word fX9_word
  rw [kind8, kind9, sbd_e, sbd_e]
  simp only [within8, within9, hund9, sbd_e, sjn_e]
  by_cases h1 : inN a 6 = true
  · by_cases h2 : wth b 1 255 = true
    · by_cases h3 : wth c 0 99 = true
      · by_cases h4 : wth d 0 99 = true
        · simp only [h1, h2, h3, h4, if_true]
          obtain ⟨k, hk, rfl⟩ := inN_t (by omega) h1
          obtain ⟨e, he, rfl⟩ := i_of (n := 255) (v := b) (by have := wth_of h2; have e1 : (1 : Int32).toInt = 1 := rfl; omega) (by have := wth_of h2; have e1 : (255 : Int32).toInt = 255 := rfl; omega)
          rw [g3, l_10, l_5, six_e (by omega) (by omega), snx_e (by omega), hR.1.2.2.1]
          by_cases hn : nw < 10
          · obtain ⟨σ', τ', a1, a2, a3, a4, a5⟩ := add_sim hR hn hk (e := e) (by omega) c d
            rw [if_pos (nI_lt hn (by omega)), if_pos (fun z => by have := nI_inj (by omega) (by omega) z; omega), a1, a2, sbd2_e, sbd2_e]
            exact ⟨_, _, _, rfl, rfl, Rel.now hX hD a3 a4.st a5 (Nat.le_refl _)⟩
          · obtain rfl : nw = 10 := by omega
            rw [if_neg (nI_nlt (by omega) (by omega)), if_neg (fun z => z rfl)]
            exact ⟨_, _, _, rfl, rfl, ⟨_, _, _, hR, hD, hX⟩⟩
        · simp only [h1, h2, h3, b_f h4, if_true, Bool.false_eq_true, if_false]; exact ⟨_, _, _, rfl, rfl, ⟨_, _, _, hR, hD, hX⟩⟩
      · simp only [h1, h2, b_f h3, if_true, Bool.false_eq_true, if_false]; exact ⟨_, _, _, rfl, rfl, ⟨_, _, _, hR, hD, hX⟩⟩
    · simp only [h1, b_f h2, if_true, Bool.false_eq_true, if_false]; exact ⟨_, _, _, rfl, rfl, ⟨_, _, _, hR, hD, hX⟩⟩
  · simp only [b_f h1, Bool.false_eq_true, if_false]; exact ⟨_, _, _, rfl, rfl, ⟨_, _, _, hR, hD, hX⟩⟩
theorem worth_sim {k e a : Nat} {d : Int32} {σ τ : Store} (hk : k < 6) (he : e < 256) (h0 : σ a 0 = nI k) (h1 : σ a 1 = nI e) (h2 : σ a 2 = d) : ∃ r, fX7_worth a σ = some r ∧ fX9_worth (nI k) (nI e) d τ = some r := by
  unfold fX7_worth fX9_worth
  rw [h0, h1, h2, bits8 (by omega), bits9 (by omega)]
  simp only [sbd_e]
  have e5 : (99 : Int32) - d - 5 = 94 - d := by
    rw [Int32.sub_sub, Int32.add_comm d 5, ← Int32.sub_sub]
    rfl
  rw [e5]
  have : k = 0 ∨ k = 1 ∨ k = 2 ∨ k = 3 ∨ k = 4 ∨ k = 5 := by omega
  rcases this with rfl | rfl | rfl | rfl | rfl | rfl <;> exact ⟨_, rfl, rfl⟩
theorem BR.wf {B nw nt nx S : Nat} {σ τ : Store} (h : BR B nw nt nx S σ τ) {w f : Nat} (hw : w < nw) (hf : f < 6) : σ (B + (3 + w)) f = τ 1 (8 + 6 * w + f) := h.1.1.wd h.1.2.1.1 hw hf
theorem BR.tf {B nw nt nx S : Nat} {σ τ : Store} (h : BR B nw nt nx S σ τ) {w f : Nat} (hw : w < nt) (hf : f < 2) : σ (B + (13 + w)) f = τ 1 (68 + 2 * w + f) := h.1.1.tr h.1.2.1.2.1 hw hf
theorem wI {τ : Store} {w f : Nat} {x : Int32} (hw : w < 10) (hf : f < 6) (hx : x = nI f) : fX9_wordIs (nI w) x τ = some (τ 1 (8 + 6 * w + f)) := by rw [hx]; exact wordIs_e hw hf
theorem tI {τ : Store} {t f : Nat} {x : Int32} (hw : t < 6) (hf : f < 2) (hx : x = nI f) : fX9_travellerIs (nI t) x τ = some (τ 1 (68 + 2 * t + f)) := by rw [hx]; exact travIs_e hw hf
theorem o_told {S : Nat} {σ τ : Store} (R : Rel S σ τ) (a b : Int32) : ∃ r σ' τ', fX8_told a b σ = some (r, σ') ∧ fX9_told a b τ = some (r, τ') ∧ Rel S σ' τ' := by
  obtain ⟨nw, nt, nx, hR, hD, hX⟩ := R
  have hsz := hR.1.2.1
  have same : ∀ r : Int32, ∃ r' σ' τ', some (r, σ) = some (r', σ') ∧ some (r, τ) = some (r', τ') ∧ Rel S σ' τ' := fun r => ⟨r, σ, τ, rfl, rfl, ⟨_, _, _, hR, hD, hX⟩⟩
  unfold fX8_told fX9_told
  rw [hasW8 hR, isW9 hR, sbd_e, sbd_e]
  by_cases h1 : inN a nw = true
  · rw [if_pos h1, if_pos h1]
    obtain ⟨w, hw, rfl⟩ := inN_t (by omega) h1
    rw [six_e (by omega) (by omega), wrd_e (by omega), within9, sbd_e, show wth b 0 8 = inN b 9 from wth_lit (m := 8) (by omega)]
    by_cases h2 : inN b 9 = true
    · rw [if_pos h2]
      obtain ⟨k, hk, rfl⟩ := inN_t (by omega) h2
      have w0 := hR.wf hw (f := 0) (by omega)
      have w1 := hR.wf hw (f := 1) (by omega)
      have w2 := hR.wf hw (f := 2) (by omega)
      have w3 := hR.wf hw (f := 3) (by omega)
      have w4 := hR.wf hw (f := 4) (by omega)
      have w5 := hR.wf hw (f := 5) (by omega)
      have hk9 : k = 0 ∨ k = 1 ∨ k = 2 ∨ k = 3 ∨ k = 4 ∨ k = 5 ∨ k = 6 ∨ k = 7 ∨ k = 8 := by omega
      rcases hk9 with rfl | rfl | rfl | rfl | rfl | rfl | rfl | rfl | rfl
      · rw [if_pos (by decide), if_neg (by decide), if_neg (by decide), if_neg (by decide), wordIs_e (f := 0) (by omega) (by omega), sbd_e, w0]; exact same _
      · rw [if_neg (by decide), if_pos (by decide), if_neg (by decide), if_neg (by decide), if_neg (by decide), wordIs_e (f := 1) (by omega) (by omega), sbd_e, w1]; exact same _
      · rw [if_neg (by decide), if_neg (by decide), if_pos (by decide), if_neg (by decide), if_neg (by decide), if_neg (by decide), wordIs_e (f := 2) (by omega) (by omega), sbd_e, w2]; exact same _
      · rw [if_neg (by decide), if_neg (by decide), if_neg (by decide), if_pos (by decide), if_neg (by decide), if_neg (by decide), if_neg (by decide), wordIs_e (f := 3) (by omega) (by omega), sbd_e, w3]; exact same _
      · rw [if_neg (by decide), if_neg (by decide), if_neg (by decide), if_neg (by decide), if_pos (by decide), if_neg (by decide), if_neg (by decide), if_neg (by decide), wordIs_e (f := 4) (by omega) (by omega), sbd_e, w4]; exact same _
      · rw [if_neg (by decide), if_neg (by decide), if_neg (by decide), if_neg (by decide), if_neg (by decide), if_pos (by decide), if_neg (by decide), if_neg (by decide), if_neg (by decide), wordIs_e (f := 5) (by omega) (by omega), sbd_e, w5]; exact same _
      · rw [if_neg (by decide), if_neg (by decide), if_neg (by decide), if_neg (by decide), if_neg (by decide), if_neg (by decide), if_pos (by decide), if_pos (by decide)]
        obtain ⟨r, σ', τ', c1, c2, c3, c4⟩ := costs_sim hR.1 hw
        rw [c1, c2, sbd2_e, sbd2_e]
        exact ⟨r, σ', τ', rfl, rfl, Rel.nowD hX ⟨hR.1.same (fun j hj => c3 j (by omega)) |> fun z => (by rw [c4 1 (by omega) (by omega)]; exact z), by rw [c4 1 (by omega) (by omega)]; exact hR.2.1, by rw [c4 1 (by omega) (by omega)]; exact hR.2.2⟩ (hD.same (by rw [c4 1 (by omega) (by omega)])) (fun j h _ _ _ _ _ => c3 j h) ⟨fun j _ _ _ _ _ h h2 _ => c4 j h h2, by rw [c4 0 (by omega) (by omega)], by rw [c4 0 (by omega) (by omega)], by rw [c4 0 (by omega) (by omega)]⟩ (Nat.le_refl _)⟩
      · rw [if_neg (by decide), if_neg (by decide), if_neg (by decide), if_neg (by decide), if_neg (by decide), if_neg (by decide), if_neg (by decide), if_pos (by decide), if_neg (by decide), if_pos (by decide)]
        obtain ⟨kd, hkd, ekd⟩ := hR.2.1.2.2.1 w hw
        obtain ⟨se, hse, ese⟩ := hR.2.1.2.2.2.1 w hw
        obtain ⟨r, c1, c2⟩ := worth_sim (a := 57 + (3 + w)) (σ := σ) (τ := τ) hkd hse (by rw [w0]; exact ekd) (by rw [w1, show 8 + 6 * w + 1 = 9 + 6 * w by omega]; exact ese) rfl
        rw [c1, sbd_e, wI (x := 0) (f := 0) (by omega) (by omega) rfl, wI (x := 1) (f := 1) (by omega) (by omega) rfl, wI (x := 2) (f := 2) (by omega) (by omega) rfl, sbd_e, sbd_e, sbd_e, show 8 + 6 * w + 0 = 8 + 6 * w by omega, show 8 + 6 * w + 1 = 9 + 6 * w by omega, ekd, ese, ← w2, c2, sbd_e]
        exact same _
      · rw [if_neg (by decide), if_neg (by decide), if_neg (by decide), if_neg (by decide), if_neg (by decide), if_neg (by decide), if_neg (by decide), if_neg (by decide), if_pos (by decide), if_neg (by decide), if_neg (by decide), if_pos (by decide), l_4, six_e (by omega) (by omega), snx_e (by omega), hR.1.1.head.2.2.2.2.1]; exact same _
    · rw [if_neg h2]
      have n : ∀ k, k < 9 → ¬ b = nI k := fun k hk z => h2 (by rw [z]; exact inN_n hk (by omega))
      rw [if_neg (show ¬ b = 0 from n 0 (by omega)), if_neg (show ¬ b = 1 from n 1 (by omega)), if_neg (show ¬ b = 2 from n 2 (by omega)), if_neg (show ¬ b = 3 from n 3 (by omega)), if_neg (show ¬ b = 4 from n 4 (by omega)), if_neg (show ¬ b = 5 from n 5 (by omega)), if_neg (show ¬ b = 6 from n 6 (by omega)), if_neg (show ¬ b = 7 from n 7 (by omega)), if_neg (show ¬ b = 8 from n 8 (by omega))]
      exact same _
  · rw [if_neg h1, if_neg h1]
    exact same _
theorem o_as {S : Nat} {σ τ : Store} (R : Rel S σ τ) (a b : Int32) : ∃ r, fX8_as a b σ = some r ∧ fX9_as a b τ = some r := by
  obtain ⟨nw, nt, nx, hR, hD, hX⟩ := R
  have hsz := hR.1.2.1
  unfold fX8_as fX9_as
  rw [hasW8 hR, isW9 hR, sbd_e, sbd_e, kind8, kind9, sbd_e, sbd_e]
  by_cases h1 : inN a nw = true
  · rw [if_pos h1, if_pos h1]
    obtain ⟨w, hw, rfl⟩ := inN_t (by omega) h1
    by_cases h2 : inN b 6 = true
    · rw [if_pos h2, if_pos h2]
      obtain ⟨q, hq, rfl⟩ := inN_t (by omega) h2
      obtain ⟨kd, hkd, ekd⟩ := hR.2.1.2.2.1 w hw
      have w0 := hR.wf hw (f := 0) (by omega)
      have w2 := hR.wf hw (f := 2) (by omega)
      rw [show 8 + 6 * w + 0 = 8 + 6 * w by omega, ekd] at w0
      rw [six_e (by omega) (by omega), six_e (by omega) (by omega), wrd_e (by omega), isu8 hkd hq w0, wI (x := 0) (f := 0) (by omega) (by omega) rfl, sbd_e, sbd_e, show 8 + 6 * w + 0 = 8 + 6 * w by omega, ekd, isu9 hkd hq, sbd_e, w2]
      by_cases h3 : isu kd q = true
      · rw [if_pos h3, if_pos h3, wI (x := 2) (f := 2) (by omega) (by omega) rfl, sbd_e]; exact ⟨_, rfl, rfl⟩
      · rw [if_neg h3, if_neg h3]; exact ⟨_, rfl, rfl⟩
    · rw [if_neg h2, if_neg h2]; exact ⟨_, rfl, rfl⟩
  · rw [if_neg h1, if_neg h1]; exact ⟨_, rfl, rfl⟩
