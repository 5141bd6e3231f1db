def BR (B nw nt nx S : Nat) (σ τ : Store) : Prop := Bo σ (τ 1) B nw nt nx ∧ BdI (τ 1) nw nt ∧ Stm (τ 1) nw S
theorem tb_ge {cm i : Nat} (h : cm < 2 ^ i) : cm.testBit i = false := Nat.testBit_lt_two_pow h
theorem has9 {s i : Nat} (hs : s < 2 ^ 31) (hi : i < 31) (τ : Store) : fX9_has (nI s) (nI i) τ = some (s.testBit i) := by
  unfold fX9_has
  by_cases h : s.testBit i = true
  · rw [if_neg (fun z => z ((shr_b hs hi).mpr h)), h]
  · rw [if_pos (fun z => h ((shr_b hs hi).mp z))]
    cases hx : s.testBit i
    · rfl
    · exact absurd hx h
theorem cross_loop {B nw nt nx t h s1 s2 : Nat} (hsz : nw ≤ 10 ∧ nt ≤ 6 ∧ nx ≤ 14 ∧ 57 ≤ B ∧ B + 19 ≤ 114) (ht : t < nt) (hh : h < 2 ^ nw) (hs1 : s1 < 2 ^ 31) (hs2 : s2 < 2 ^ 31) (hb : ∀ w, w < nw → s1.testBit w = s2.testBit w) (kc : Int32 → Int32 → Store → Option (Int32 × Store)) :
    ∀ (m i cm S : Nat) (σ τ : Store) (n n2 : Nat), i + m = nw → m < n → m < n2 → cm < 2 ^ i → CR B nw nt nx t h σ τ cm S →
    ∃ cm' σ' τ', fX0_crosses_L5 B (B + (13 + t)) (nI s1) kc n (nI cm) (nI i) σ = kc (nI cm') (nI nw) σ' ∧ fX9_crosses_L5 (nI t) (nI s2) n2 (nI cm) (nI i) τ = some (nI cm', τ') ∧ cm' < 2 ^ nw ∧ CR B nw nt nx t h σ' τ' cm' (S + m) ∧ fr8 B σ σ' ∧ fr9 τ τ' := by
  intro m
  induction m with
  | zero =>
    intro i cm S σ τ n n2 hi hn hn2 hcm hC
    obtain rfl : i = nw := by omega
    obtain ⟨n, rfl⟩ : ∃ k, n = k + 1 := ⟨n - 1, by omega⟩
    obtain ⟨n2, rfl⟩ : ∃ k, n2 = k + 1 := ⟨n2 - 1, by omega⟩
    have h3 : σ B 3 = nI i := by rw [hC.1.1.head.2.2.2.2.2.1]; exact hC.1.2.2.1
    have h5 : τ 1 5 = nI i := by have := hC.1.2.2.1; rwa [upd_n (by omega)] at this
    refine ⟨cm, σ, τ, ?_, ?_, hcm, hC, fr8.rf, fr9.rf⟩
    · rw [fX0_crosses_L5, h3, if_pos (Int32.le_refl _)]
    · rw [fX9_crosses_L5, l_5, six_e (by omega) (by omega), snx_e (by omega), h5, if_pos (Int32.le_refl _)]
  | succ m ih =>
    intro i cm S σ τ n n2 hi hn hn2 hcm hC
    obtain ⟨n, rfl⟩ : ∃ k, n = k + 1 := ⟨n - 1, by omega⟩
    obtain ⟨n2, rfl⟩ : ∃ k, n2 = k + 1 := ⟨n2 - 1, by omega⟩
    have h3 : σ B 3 = nI nw := by rw [hC.1.1.head.2.2.2.2.2.1]; exact hC.1.2.2.1
    have h5 : τ 1 5 = nI nw := by have := hC.1.2.2.1; rwa [upd_n (by omega)] at this
    have hiw : i < nw := by omega
    have hge : ¬ nI nw ≤ nI i := nI_ge hiw (by omega)
    have hh10 := p10 hh hsz.1
    have hcm10 : cm < 1024 := p10 (n := i) hcm (by omega)
    have hhc : h ||| cm < 1024 := Nat.or_lt_two_pow (n := 10) hh10 hcm10
    have hH : σ (B + (13 + t)) 0 = nI h := by
      have := hC.1.1.tr hsz.2.1 ht (f := 0) (by omega)
      rw [this, show 68 + 2 * t + 0 = 68 + 2 * t by omega, upd_y]
    have eM : fX9_crosses_L5 (nI t) (nI s2) (n2 + 1) (nI cm) (nI i) τ = if s2.testBit i && !(h.testBit i) then
        (sbd2 (fX9_comesIn (nI i) (nI t) τ) fun r30 s31 => if r30 = true then fX9_crosses_L5 (nI t) (nI s2) n2 (nI (cm ||| 2 ^ i)) (nI (i + 1)) (sup s31 1 (68 + 2 * t) (s31 1 (68 + 2 * t) ||| nI (2 ^ i))) else fX9_crosses_L5 (nI t) (nI s2) n2 (nI cm) (nI (i + 1)) s31)
        else fX9_crosses_L5 (nI t) (nI s2) n2 (nI cm) (nI (i + 1)) τ := by
      have et : fX9_travellerIs (nI t) (0 : Int32) τ = some (nI (h ||| cm)) := by
        have := travIs_e (τ := τ) (t := t) (f := 0) (by omega) (by omega)
        rw [show (0 : Int32) = nI 0 from rfl, this, show 68 + 2 * t + 0 = 68 + 2 * t by omega, hC.2.2.2]
      rw [fX9_crosses_L5, l_5, six_e (by omega) (by omega), snx_e (by omega), h5, if_neg hge, et, sbd_e, not_n _ hs2 (by omega), has9 (Nat.lt_of_le_of_lt Nat.and_le_left hs2) (by omega), sbd_e]
      have e2 : (s2 &&& ((h ||| cm) ^^^ (2 ^ 31 - 1))).testBit i = (s2.testBit i && !(h.testBit i)) := by
        rw [Nat.testBit_and, Nat.testBit_xor, Nat.testBit_or, tb_ge hcm, Nat.testBit_two_pow_sub_one]
        simp [show i < 31 by omega]
      have e3 : ((68 : Int32) + 2 * nI t) + 0 = nI (68 + 2 * t) := by rw [l_68, l_2, l_0, pk_mul, nI_add, nI_add]; congr 1
      rw [e2, e3, shl_n i (by omega), fa_or, nI_1]
      simp (disch := omega) only [slt_e, six_e, snx_e]
    rw [eM]
    by_cases hc : (s2.testBit i && !(h.testBit i)) = true
    · rw [if_pos hc]
      have hs2i : s2.testBit i = true := by simp at hc; exact hc.1
      have hhi : h.testBit i = false := by simp at hc; exact hc.2
      have c1 : ¬ (nI s1 &&& ((1 : Int32) <<< (nI i &&& 31))) = 0 := by
        rw [shl_n i (by omega)]
        intro z
        have := (fa_bit (by omega)).mp z
        rw [hb i hiw, hs2i] at this
        cases this
      have c2 : (σ (B + (13 + t)) 0 &&& ((1 : Int32) <<< (nI i &&& 31))) = 0 := by
        rw [hH, shl_n i (by omega)]
        exact (fa_bit (by omega)).mpr hhi
      rw [cin_e _ _ _ _ _ _ _ _ (by rw [h3]; exact hge) c1 c2, six_e (by omega) (by omega), wrd_e (by omega)]
      obtain ⟨b, σ1, τ1, a1, a2, a3, a4, a5⟩ := comes_sim hC ht hiw
      rw [a1, a2, sbd2_e, sbd2_e, nI_1]
      cases b with
      | true =>
        rw [if_pos rfl, if_pos rfl, shl_n i (by omega), fa_or, a3.2.2.2, fa_or, Nat.or_assoc]
        obtain ⟨d1, d2, d3, d4⟩ := a3
        obtain ⟨cm', σ', τ', b1, b2, b3, b4, b5, b6⟩ := ih (i + 1) (cm ||| 2 ^ i) (S + 1) σ1 (sup τ1 1 (68 + 2 * t) (nI (h ||| (cm ||| 2 ^ i)))) n n2 (by omega) (by omega) (by omega) (or_lt (Nat.lt_of_lt_of_le hcm (Nat.pow_le_pow_right (by omega) (by omega))) (by omega)) ⟨by rw [sup_r, fa_upd_twice]; exact d1, by rw [sup_r, fa_upd_twice]; exact d2, by rw [sup_r]; exact d3.up (fun w z => by omega), by rw [sup_s]⟩
        exact ⟨cm', σ', τ', b1, b2, b3, by rw [show S + (m + 1) = S + 1 + m by omega]; exact b4, a4.tr b5, (a5.up (by omega)).tr b6⟩
      | false =>
        rw [if_neg (by decide), if_neg (by decide)]
        obtain ⟨cm', σ', τ', b1, b2, b3, b4, b5, b6⟩ := ih (i + 1) cm (S + 1) σ1 τ1 n n2 (by omega) (by omega) (by omega) (Nat.lt_of_lt_of_le hcm (Nat.pow_le_pow_right (by omega) (by omega))) a3
        exact ⟨cm', σ', τ', b1, b2, b3, by rw [show S + (m + 1) = S + 1 + m by omega]; exact b4, a4.tr b5, a5.tr b6⟩
    · rw [if_neg hc]
      obtain ⟨cm', σ', τ', b1, b2, b3, b4, b5, b6⟩ := ih (i + 1) cm (S + 1) σ τ n n2 (by omega) (by omega) (by omega) (Nat.lt_of_lt_of_le hcm (Nat.pow_le_pow_right (by omega) (by omega))) ⟨hC.1, hC.2.1, hC.2.2.1.mono (by omega), hC.2.2.2⟩
      refine ⟨cm', σ', τ', ?_, b2, b3, by rw [show S + (m + 1) = S + 1 + m by omega]; exact b4, b5, b6⟩
      rw [fX0_crosses_L5, h3, if_neg hge, slt_e, nI_1]
      by_cases c1 : (nI s1 &&& ((1 : Int32) <<< (nI i &&& 31))) = 0
      · rw [if_pos c1]; exact b1
      · rw [if_neg c1]
        have hs1i : s1.testBit i = true := by
          cases hx : s1.testBit i with
          | true => rfl
          | false => exact absurd (by rw [shl_n i (by omega)]; exact (fa_bit (by omega)).mpr hx) c1
        have hhi : h.testBit i = true := by
          rw [← hb i hiw, hs1i] at hc
          cases hx : h.testBit i with
          | true => rfl
          | false => rw [hx] at hc; exact absurd rfl hc
        rw [if_neg (by
          rw [hH, shl_n i (by omega)]
          intro z
          have := (fa_bit (by omega)).mp z
          rw [hhi] at this
          cases this)]
        exact b1
theorem cross_sim {B nw nt nx t s1 s2 S : Nat} {σ τ : Store} (hR : BR B nw nt nx S σ τ) (ht : t < nt) (hs1 : s1 < 2 ^ 31) (hs2 : s2 < 2 ^ 31) (hb : ∀ w, w < nw → s1.testBit w = s2.testBit w) :
    ∃ r σ' τ', fX0_crosses B (B + (13 + t)) (nI s1) σ = some (r, σ') ∧ fX9_crosses (nI t) (nI s2) τ = some (r, τ') ∧ BR B nw nt nx (S + 10) σ' τ' ∧ fr8 B σ σ' ∧ fr9 τ τ' := by
  obtain ⟨hBo, hI, hS⟩ := hR
  obtain ⟨h, hh, hg⟩ := hI.2.2.2.2 t ht
  have hsz := hBo.2.1
  have e0 : upd (τ 1) (68 + 2 * t) (nI h) = τ 1 := fa_upd_same hg
  have hC : CR B nw nt nx t h σ τ 0 S := ⟨by rw [e0]; exact hBo, by rw [e0]; exact hI, hS, by rw [hg, Nat.or_zero]⟩
  obtain ⟨cm, σ1, τ1, b1, b2, b3, b4, b5, b6⟩ := cross_loop hsz ht hh hs1 hs2 hb (fun x61 x62 s63 => (slt (sup s63 (B + (13 + t)) 0 ((s63 (B + (13 + t)) 0) ||| x61)) fun s64 => (some (x61, s64)))) nw 0 0 S σ τ FU FU (by omega) (FU_gt (by omega)) (FU_gt (by omega)) (by decide) hC
  obtain ⟨d1, d2, d3, d4⟩ := b4
  have hH : σ1 (B + (13 + t)) 0 = nI h := by
    have := d1.1.tr hsz.2.1 ht (f := 0) (by omega)
    rw [this, show 68 + 2 * t + 0 = 68 + 2 * t by omega, upd_y]
  obtain ⟨x1, x2⟩ := cx_t t (by omega) 0 (by omega)
  rw [show 68 + 2 * t + 0 = 68 + 2 * t by omega] at x1 x2
  have hlt : h ||| cm < 2 ^ nw := Nat.or_lt_two_pow hh b3
  have e1 : upd (upd (τ1 1) (68 + 2 * t) (nI h)) (68 + 2 * t) (nI (h ||| cm)) = τ1 1 := by rw [fa_upd_twice]; exact fa_upd_same d4
  refine ⟨nI cm, sup σ1 (B + (13 + t)) 0 (nI (h ||| cm)), τ1, ?_, b2, ⟨?_, ?_, d3.mono (by omega)⟩, b5.up (by omega), b6⟩
  · unfold fX0_crosses
    rw [show fX0_crosses_L5 B (B + (13 + t)) (nI s1) _ FU (0 : Int32) (0 : Int32) σ = _ from b1, slt_e, hH, fa_or]
  · have := d1.up (q0 := 68 + 2 * t) (by omega) (by omega) (by omega) x1 x2 (nI (h ||| cm))
    rwa [e1] at this
  · have := d2.holds (t := t) hsz.1 hlt
    rwa [e1] at this
