/-! what a text is asked -/
theorem inN3 {v : Int32} (h : wth v 0 2 = true) : inN v 3 = true := by rw [← wth_lit (m := 2) (by omega)]; exact h
theorem o_why {S : Nat} {σ τ : Store} (R : Rel S σ τ) (a : Int32) : ∃ r, fX8_why a σ = some r ∧ fX9_why a τ = some r := by
  obtain ⟨nw, nt, nx, hR, hD, hX⟩ := R
  obtain ⟨o, c1, c2, c3⟩ := count_sim hR.1 a
  unfold fX8_why fX9_why
  rw [within8, within9, sbd_e, sbd_e, c1, c2]
  by_cases h1 : wth a 0 2 = true
  · rw [if_pos h1, if_pos h1, sbd_e, sbd_e]
    cases o with
    | none => exact ⟨_, rfl, rfl⟩
    | some x =>
      obtain ⟨_, hx, _⟩ := c3 x rfl
      refine ⟨_, rfl, ?_⟩
      show (if (0 : Int32) ≤ nI x then some (nI x) else _) = some (nI x)
      rw [if_pos (Int32.not_lt.mp (nI_n0 (by omega)))]
  · rw [if_neg h1, if_neg h1]; exact ⟨_, rfl, rfl⟩
theorem o_textTold {S : Nat} {σ τ : Store} (R : Rel S σ τ) (a b : Int32) : ∃ r, fX8_textTold a b σ = some r ∧ fX9_textTold a b τ = some r := by
  obtain ⟨nw, nt, nx, hR, hD, hX⟩ := R
  have hsz := hR.1.2.1
  unfold fX8_textTold fX9_textTold
  rw [within8, within8, l_7, six_e (by omega) (by omega), within9, within9, snx_e (by omega), sbd_e, sbd_e, sbd_e, sbd_e, hR.1.1.head.2.2.2.2.2.2.2, hR.1.2.2.2.1, wth_n (by omega)]
  by_cases h1 : inN a nx = true
  · rw [if_pos h1, if_pos h1]
    obtain ⟨x, hx, rfl⟩ := inN_t (by omega) h1
    by_cases h2 : wth b 0 1 = true
    · rw [if_pos h2, if_pos h2]
      obtain ⟨k, hk, rfl⟩ := inN_t (n := 2) (by omega) (show inN b 2 = true by rw [← wth_lit (m := 1) (by omega)]; exact h2)
      obtain ⟨ky, len, t1, t2, t3, t4, t5, t6, t7, t8, t9⟩ := hR.1.2.2.2.2 x hx
      rw [l_80, l_100, pk_mul, nI_add, nI_add, six_e (by omega) (by omega), six_e (by omega) (by omega), six_e (by omega) (by omega), snx_e (by omega), snx_e (by omega), t4, t6]
      by_cases hk0 : k = 0
      · subst hk0
        rw [if_neg (fun z => z rfl), show 80 + 100 * x + 0 = 80 + 100 * x by omega, t5]; exact ⟨_, rfl, rfl⟩
      · obtain rfl : k = 1 := by omega
        rw [if_pos (show ¬ nI 1 = 0 by decide), show 80 + 100 * x + 1 = 81 + 100 * x by omega]; exact ⟨_, rfl, rfl⟩
    · rw [if_neg h2, if_neg h2]; exact ⟨_, rfl, rfl⟩
  · rw [if_neg h1, if_neg h1]; exact ⟨_, rfl, rfl⟩
theorem Rel.scr {S nw nt nx : Nat} {σ τ σ' τ' : Store} (hX : Rst S nx σ τ) (hD : DyO (τ 1)) (hR : BR 57 nw nt nx S σ τ) (h8 : ∀ j, j ≠ 20 → σ' j = σ j) (h9 : ∀ j, j ≠ 9 → j ≠ 10 → τ' j = τ j) : Rel S σ' τ' :=
  Rel.nowD hX (hR.same (fun j hj => by
    by_cases h : j = 20
    · omega
    · exact h8 j h) (h9 1 (by omega) (by omega))) (by rw [h9 1 (by omega) (by omega)]; exact hD) (fun j a _ _ _ _ _ => h8 j a) ⟨fun j _ _ _ _ _ c d _ => h9 j c d, by rw [h9 0 (by omega) (by omega)], by rw [h9 0 (by omega) (by omega)], by rw [h9 0 (by omega) (by omega)]⟩ (Nat.le_refl _)
theorem o_bill {S : Nat} {σ τ : Store} (R : Rel S σ τ) (a : Int32) : ∃ r σ' τ', fX8_bill a σ = some (r, σ') ∧ fX9_bill a τ = some (r, τ') ∧ Rel S σ' τ' := by
  have R0 := R
  obtain ⟨nw, nt, nx, hR, hD, hX⟩ := R
  have hsz := hR.1.2.1
  unfold fX8_bill fX9_bill
  rw [hasT8 hR, isT9 hR, sbd_e, sbd_e]
  by_cases h1 : inN a nt = true
  · rw [if_pos h1, if_pos h1]
    obtain ⟨t, ht, rfl⟩ := inN_t (by omega) h1
    obtain ⟨h, hh, eh⟩ := hR.2.1.2.2.2.2 t ht
    have hh10 := p10 hh hsz.1
    obtain ⟨o, c1, c2, c3⟩ := count_sim hR.1 1
    rw [c1, c2, six_e (by omega) (by omega), sbd_e, sbd_e, tI (x := 1) (f := 1) (by omega) (by omega) rfl, sbd_e, l_0, six_e (by omega) (by omega), slt_e, snx_e (by omega), tI (x := nI 0) (f := 0) (by omega) (by omega) rfl, sbd_e, show 68 + 2 * t + 0 = 68 + 2 * t by omega, sup_j (by omega), eh, bits9 hh10, sbd_e, l_1, six_e (by omega) (by omega), slt_e, snx_e (by omega), trv_e (by omega), hR.tf ht (f := 1) (by omega), hR.tf ht (f := 0) (by omega), show 68 + 2 * t + 0 = 68 + 2 * t by omega, eh, bits8 hh10]
    cases o with
    | none =>
      rw [if_neg (fun z => z rfl), if_neg (show ¬ nI 0 ≤ encM none by decide), six_e (by omega) (by omega), sup_k (by omega), sup_s]
      exact ⟨_, _, _, rfl, rfl, Rel.scr hX hD hR (fun _ _ => rfl) (fun j h9 _ => by rw [sup_o h9, sup_o h9])⟩
    | some x =>
      obtain ⟨hx, hx14, hk⟩ := c3 x rfl
      have e1 : (sup (sup τ 9 0 (τ 1 (68 + 2 * t + 1))) 9 1 (nI (pcn h))) 1 = τ 1 := by rw [sup_o (by omega), sup_o (by omega)]
      obtain ⟨v, σ1, τ1, v1, v2, v3, v4⟩ := value_sim (σ := σ) (τ := sup (sup τ 9 0 (τ 1 (68 + 2 * t + 1))) 9 1 (nI (pcn h))) hx14 (by rw [e1]; exact hR.1.2.2.2.2 x hx) (f1 := τ 1 (68 + 2 * t + 1)) (f2 := nI (pcn h)) (f3 := nI 0) (by rw [sup_k (by omega), sup_s]) sup_s (fun z => by rw [hk] at z; exact absurd z (by decide))
      rw [show encC (some x) = nI x from rfl, show encM (some x) = nI x from rfl, if_pos (nI_nm (by omega)), if_pos (show nI 0 ≤ nI x from Int32.not_lt.mp (nI_n0 (by omega))), sbd_e, v1, v2, sbd2_e, sbd2_e]
      exact ⟨_, _, _, rfl, rfl, Rel.scr hX hD hR v3 (fun j h9 h10 => by rw [v4 j h10, sup_o h9, sup_o h9])⟩
  · rw [if_neg h1, if_neg h1]; exact ⟨_, _, _, rfl, rfl, R0⟩
theorem o_fine {S : Nat} {σ τ : Store} (R : Rel S σ τ) : ∃ r σ' τ', fX8_fine σ = some (r, σ') ∧ fX9_fine τ = some (r, τ') ∧ Rel S σ' τ' := by
  obtain ⟨nw, nt, nx, hR, hD, hX⟩ := R
  have hsz := hR.1.2.1
  obtain ⟨l, hl, hl4⟩ := hR.2.1.2.1
  have hl10 := p10 hl hsz.1
  obtain ⟨o, c1, c2, c3⟩ := count_sim hR.1 2
  obtain ⟨s, s1, s2⟩ := stamps_sim hR
  unfold fX8_fine fX9_fine
  rw [c1, c2, s1, s2, sbd_e, sbd_e, sbd_e, sbd_e, l_0, six_e (by omega) (by omega), slt_e, snx_e (by omega), l_4, six_e (by omega) (by omega), snx_e (by omega), sup_j (by omega), hl4, bits9 hl10, sbd_e, l_1, six_e (by omega) (by omega), slt_e, snx_e (by omega), hR.1.1.head.2.2.2.2.1, hl4, bits8 hl10]
  cases o with
  | none =>
    rw [if_neg (fun z => z rfl), if_neg (show ¬ nI 0 ≤ encM none by decide), six_e (by omega) (by omega), sup_k (by omega), sup_s]
    exact ⟨_, _, _, rfl, rfl, Rel.scr hX hD hR (fun _ _ => rfl) (fun j h9 _ => by rw [sup_o h9, sup_o h9])⟩
  | some x =>
    obtain ⟨hx, hx14, hk⟩ := c3 x rfl
    have e1 : (sup (sup τ 9 0 s) 9 1 (nI (pcn l))) 1 = τ 1 := by rw [sup_o (by omega), sup_o (by omega)]
    obtain ⟨v, σ1, τ1, v1, v2, v3, v4⟩ := value_sim (σ := σ) (τ := sup (sup τ 9 0 s) 9 1 (nI (pcn l))) hx14 (by rw [e1]; exact hR.1.2.2.2.2 x hx) (f1 := s) (f2 := nI (pcn l)) (f3 := nI 0) (by rw [sup_k (by omega), sup_s]) sup_s (fun z => by rw [hk] at z; exact absurd z (by decide))
    rw [show encC (some x) = nI x from rfl, show encM (some x) = nI x from rfl, if_pos (nI_nm (by omega)), if_pos (show nI 0 ≤ nI x from Int32.not_lt.mp (nI_n0 (by omega))), sbd_e, v1, v2, sbd2_e, sbd2_e]
    exact ⟨_, _, _, rfl, rfl, Rel.scr hX hD hR v3 (fun j h9 h10 => by rw [v4 j h10, sup_o h9, sup_o h9])⟩
/-! the tape -/
def TaL (L : Nat) (σ τ : Store) : Prop := σ 0 10 = nI L ∧ τ 0 6 = nI L ∧ ∀ k, k < L → σ 23 k = τ 5 k ∧ ∃ b, b < 256 ∧ τ 5 k = nI b
def frT (σ τ σ' τ' : Store) : Prop := (∀ j, j ≠ 0 → j ≠ 23 → σ' j = σ j) ∧ (∀ k, k ≠ 10 → σ' 0 k = σ 0 k) ∧ (∀ j, j ≠ 0 → j ≠ 5 → τ' j = τ j) ∧ (∀ k, k ≠ 6 → τ' 0 k = τ 0 k)
theorem frT.rf {σ τ : Store} : frT σ τ σ τ := ⟨fun _ _ _ => rfl, fun _ _ => rfl, fun _ _ _ => rfl, fun _ _ => rfl⟩
theorem frT.tr {σ τ σ1 τ1 σ2 τ2 : Store} (h : frT σ τ σ1 τ1) (g : frT σ1 τ1 σ2 τ2) : frT σ τ σ2 τ2 :=
  ⟨fun j a b => by rw [g.1 j a b, h.1 j a b], fun k a => by rw [g.2.1 k a, h.2.1 k a], fun j a b => by rw [g.2.2.1 j a b, h.2.2.1 j a b], fun k a => by rw [g.2.2.2 k a, h.2.2.2 k a]⟩
theorem Rel.tape {S nw nt nx L : Nat} {σ τ σ' τ' : Store} (hX : Rst S nx σ τ) (hD : DyO (τ 1)) (hR : BR 57 nw nt nx S σ τ) (h : frT σ τ σ' τ') (hL : L ≤ 96) (hT : TaL L σ' τ') : Rel S σ' τ' := by
  obtain ⟨i1, i2, i3, i4, i5⟩ := hX
  obtain ⟨c0, e0, d0, f0⟩ := h
  exact ⟨nw, nt, nx, hR.same (fun j hj => by
    by_cases h : j = 23
    · omega
    · exact c0 j (by omega) (by omega)) (d0 1 (by omega) (by omega)), by rw [d0 1 (by omega) (by omega)]; exact hD, i1.same (e0 12 (by omega)) (f0 2 (by omega)) (fun j hj => c0 j (by omega) (by omega)) (d0 2 (by omega) (by omega)), ⟨L, hL, hT⟩, fun s hs => (i3 s hs).same (c0 _ (by omega) (by omega)) (c0 _ (by omega) (by omega)) (d0 _ (by omega) (by omega)) (d0 _ (by omega) (by omega)) (d0 _ (by omega) (by omega)), fun s hs => (i4 s hs).same (c0 _ (by omega) (by omega)) (c0 _ (by omega) (by omega)) (c0 _ (by omega) (by omega)) (c0 _ (by omega) (by omega)) (d0 _ (by omega) (by omega)) (d0 _ (by omega) (by omega)), i5.same (e0 11 (by omega)) (f0 28 (by omega)) (c0 56 (by omega) (by omega)) (d0 17 (by omega) (by omega))⟩
theorem byte_n (x : Int32) : ∃ b, b < 256 ∧ (x &&& (255 : Int32)) = nI b := by
  refine ⟨(x &&& (255 : Int32)).toBitVec.toNat, ?_, ?_⟩
  · have e : (x &&& (255 : Int32)).toBitVec = x.toBitVec &&& 255#32 := rfl
    rw [e, BitVec.toNat_and]
    exact Nat.lt_of_le_of_lt Nat.and_le_right (by decide)
  · unfold nI
    apply Int32.toBitVec_inj.mp
    show (x &&& (255 : Int32)).toBitVec = BitVec.ofNat 32 (x &&& (255 : Int32)).toBitVec.toNat
    simp
theorem lay_step {L : Nat} {σ τ : Store} (hL : L < 96) (h : TaL L σ τ) (v i : Int32) (hi : ¬ i < 0) (n n2 : Nat) : ∃ σ' τ', fX8_addBytes_L3 v (n + 1) i σ = fX8_addBytes_L3 v n (i + -8) σ' ∧ fX9_lays_L3 v (n2 + 1) i τ = fX9_lays_L3 v n2 (i + -8) τ' ∧ TaL (L + 1) σ' τ' ∧ frT σ τ σ' τ' := by
  obtain ⟨h1, h2, h3⟩ := h
  obtain ⟨b, hb, eb⟩ := byte_n (v >>> (i &&& 31))
  refine ⟨sup (sup σ 23 L (nI b)) 0 10 (nI (L + 1)), sup (sup τ 5 L (nI b)) 0 6 (nI (L + 1)), ?_, ?_, ⟨sup_s, sup_s, fun k hk => ?_⟩, fun j a c => by rw [sup_o a, sup_o c], fun k a => by rw [sup_k a, sup_j (by omega)], fun j a c => by rw [sup_o a, sup_o c], fun k a => by rw [sup_k a, sup_j (by omega)]⟩
  · rw [fX8_addBytes_L3, if_neg hi, h1, six_e (by omega) (by omega), slt_e, slt_e, snx_e (by omega), sup_j (σ := σ) (j := 23) (by omega), h1, nI_1, eb]
  · rw [fX9_lays_L3, if_neg hi, h2, six_e (by omega) (by omega), slt_e, slt_e, snx_e (by omega), sup_j (σ := τ) (j := 5) (by omega), h2, nI_1, eb]
  · rw [sup_j (j := 0) (by omega), sup_j (j := 0) (by omega), sup_e, sup_e]
    by_cases h : k = L
    · simp only [h, and_self, if_true]; exact ⟨trivial, b, hb, rfl⟩
    · simp only [h, and_false, if_false]; exact h3 k (by omega)
theorem lays_sim {L : Nat} {σ τ : Store} (hL : L + 4 ≤ 96) (h : TaL L σ τ) (v : Int32) : ∃ σ' τ', fX8_addBytes v σ = some σ' ∧ fX9_lays v τ = some τ' ∧ TaL (L + 4) σ' τ' ∧ frT σ τ σ' τ' := by
  obtain ⟨σ1, τ1, a1, a2, a3, a4⟩ := lay_step (by omega) h v 24 (by decide) 4999 4999
  obtain ⟨σ2, τ2, b1, b2, b3, b4⟩ := lay_step (by omega) a3 v 16 (by decide) 4998 4998
  obtain ⟨σ3, τ3, c1, c2, c3, c4⟩ := lay_step (by omega) b3 v 8 (by decide) 4997 4997
  obtain ⟨σ4, τ4, d1, d2, d3, d4⟩ := lay_step (by omega) c3 v 0 (by decide) 4996 4996
  refine ⟨σ4, τ4, ?_, ?_, d3, ((a4.tr b4).tr c4).tr d4⟩
  · unfold fX8_addBytes
    rw [show fX8_addBytes_L3 v FU 24 σ = _ from a1, show fX8_addBytes_L3 v 4999 (24 + -8) σ1 = _ from b1, show fX8_addBytes_L3 v 4998 (16 + -8) σ2 = _ from c1, show fX8_addBytes_L3 v 4997 (8 + -8) σ3 = _ from d1, fX8_addBytes_L3, if_pos (by decide)]
  · unfold fX9_lays
    rw [show fX9_lays_L3 v FU 24 τ = _ from a2, show fX9_lays_L3 v 4999 (24 + -8) τ1 = _ from b2, show fX9_lays_L3 v 4998 (16 + -8) τ2 = _ from c2, show fX9_lays_L3 v 4997 (8 + -8) τ3 = _ from d2, fX9_lays_L3, if_pos (by decide)]
theorem o_feed {S : Nat} {σ τ : Store} (R : Rel S σ τ) (a b c : Int32) : ∃ r σ' τ', fX8_feed a b c σ = some (r, σ') ∧ fX9_feed a b c τ = some (r, τ') ∧ Rel S σ' τ' := by
  have R0 := R
  obtain ⟨nw, nt, nx, hR, hD, hX⟩ := R
  obtain ⟨L, l1, l2⟩ := hX.2.1
  unfold fX8_feed fX9_feed
  rw [l2.1, l2.2.1, l_12, l_96, nI_add]
  by_cases h : L + 12 ≤ 96
  · obtain ⟨σ1, τ1, a1, a2, a3, a4⟩ := lays_sim (by omega) l2 a
    obtain ⟨σ2, τ2, b1, b2, b3, b4⟩ := lays_sim (by omega) a3 b
    obtain ⟨σ3, τ3, c1, c2, c3, c4⟩ := lays_sim (by omega) b3 c
    rw [if_pos (nI_le h (by omega)), if_pos (nI_le h (by omega)), a1, a2, sbd_e, sbd_e, b1, b2, sbd_e, sbd_e, c1, c2, sbd_e, sbd_e, c3.1, c3.2.1]
    exact ⟨_, _, _, rfl, rfl, Rel.tape hX hD hR ((a4.tr b4).tr c4) (by omega) c3⟩
  · rw [if_neg (nI_ge (by omega) (by omega)), if_neg (nI_ge (by omega) (by omega))]
    exact ⟨_, _, _, rfl, rfl, R0⟩
theorem o_trim {S : Nat} {σ τ : Store} (R : Rel S σ τ) (a : Int32) : ∃ r σ' τ', fX8_trim a σ = some (r, σ') ∧ fX9_trim a τ = some (r, τ') ∧ Rel S σ' τ' := by
  have R0 := R
  obtain ⟨nw, nt, nx, hR, hD, hX⟩ := R
  obtain ⟨L, l1, l2⟩ := hX.2.1
  unfold fX8_trim fX9_trim
  rw [within8, within9, sbd_e, sbd_e, l2.1, l2.2.1, wth_lit (by omega)]
  by_cases h : inN a (L + 1) = true
  · rw [if_pos h, if_pos h]
    obtain ⟨k, hk, rfl⟩ := inN_t (by omega) h
    refine ⟨_, _, _, rfl, rfl, Rel.tape hX hD hR (L := k) ⟨fun j a _ => sup_o a, fun k a => sup_k a, fun j a _ => sup_o a, fun k a => sup_k a⟩ (by omega) ⟨sup_s, sup_s, fun i hi => ?_⟩⟩
    rw [sup_j (by omega), sup_j (by omega)]
    exact l2.2.2 i (by omega)
  · rw [if_neg h, if_neg h]; exact ⟨_, _, _, rfl, rfl, R0⟩
