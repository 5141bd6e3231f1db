/-! a leaf on both sides -/
theorem l63_no {ky : Nat} {τ : Store} (hky : ky < 3) (h2 : τ 0 13 = nI ky) (h : ¬ τ 0 11 = 1 ∨ ¬ τ 0 10 = τ 0 9 + 1) (K : Int32 → Int32 → Option Store) : fX9_readLeaf_L63 τ K FU (-1) 0 = K (-1) 0 := by
  obtain ⟨s1, s2⟩ := sl3 ky hky
  rw [show FU = 4999 + 1 from rfl, fX9_readLeaf_L63, h2, six_e (by omega) (by omega), snx_e (by omega)]
  unfold fJ0_length_8abf5
  rw [sbd_e, if_neg (show ¬ nI (sLen.getD (3 + ky) 0) ≤ (0 : Int32) from (nI_ge (show 0 < sLen.getD (3 + ky) 0 by omega) (by omega) : ¬ nI (sLen.getD (3 + ky) 0) ≤ nI 0))]
  rcases h with h | h
  · rw [if_pos h]
  · by_cases h1 : τ 0 11 = 1
    · rw [if_neg (fun z => z h1), if_pos h]
    · rw [if_pos h1]
theorem leaf_no {L ky b n p e k len : Nat} {c : Nat → Nat} {σ τ : Store} {sb : Bool} (h : PS L ky c b n σ τ p e k len sb) {X Y : Option Store} (h8 : X = sbd (fX2_fail σ) fun s => some s) (h9 : Y = lf9 τ (-1) (-1)) : ∃ σ' τ', X = some σ' ∧ Y = some τ' ∧ Post L ky c b n σ τ p len σ' τ' := by
  obtain ⟨f1, ⟨f2, ⟨q, q1, q2, q3⟩, f4⟩, f5⟩ := h.fail
  refine ⟨sup σ 24 4 (nI p), sup (sup τ 0 16 (τ 0 16 + 1)) 0 12 1, by rw [h8, f1, sbd_e], by rw [h9, lf_no h.2.2.1.2], ⟨f5.1, fun j x y => by rw [sup_o x, sup_o x], fun f x => by rw [sup_k (by omega), sup_k (by omega)]⟩, Or.inl ⟨f2, ⟨q, q1, q2, ?_⟩, by rw [sup_s]; decide⟩⟩
  rw [sup_k (by omega), sup_k (by omega), ← q3, sup_k (by omega)]
theorem leaf_yes {L ky b n p e k len : Nat} {c : Nat → Nat} {σ τ : Store} (h : PS L ky c b n σ τ p e k len false) (hk : k ≠ 0) (hl : len ≤ p) {s m : Int32} (hs : stR ky s m) (h3 : -3 ≤ s) {X Y : Option Store} (h8 : X = sbd (fX2_addStep s σ) fun s12 => (slt (sup s12 24 3 ((s12 24 3) + (1 : Int32))) fun s13 => (sbd (fX2_advance s13) fun s14 => (some s14)))) (h9 : Y = sbd (fX9_next (sup τ 0 16 (τ 0 16 + 1))) fun s => fX9_step m s) : ∃ σ' τ', X = some σ' ∧ Y = some τ' ∧ Post L ky c b n σ τ p len σ' τ' := by
  have h0 := h
  obtain ⟨⟨t8, t9⟩, ⟨k1, k2, k3⟩, ⟨f1, f2⟩, ⟨a1, a2, a3, a4, a5, a6, a7⟩, ⟨b1, b2, b3, b4, b5, b6⟩, ⟨l1, l2, l3, l4, l5⟩, ⟨d1, d2⟩⟩ := h0
  have hL := t8.1
  have hpe := b4 hk
  obtain ⟨σs, τs, s1, s2, s3, s4, s5, s6⟩ := h.step (by omega) hs
  have e3 : σs 24 3 = σ 24 3 := by
    rw [s3.2.2.2.2.2.1.2.2.2.1, l4]
    have ets := s2
    unfold fX9_step at ets
    rw [f2, if_neg (fun z => z rfl), l3, six_e (by omega) (by omega), slt_e, slt_e] at ets
    injection ets with ets
    rw [← ets, sup_k (by omega), sup_j (by omega)]
  have hlv := s3.leaves (τ 0 16 + 1)
  obtain ⟨σ3, τ3, p', e', k', sb', g1, g2, g3, g4, g5, g6⟩ := hlv.adv
  have hsw := swap_step (k := k) (x := τ 0 16 + 1) t9 b2 f2 a4 (by omega) a7 l3 (by omega) s2 g2
  refine ⟨σ3, τ3, ?_, by rw [h9, hsw], ⟨?_, ?_, ?_⟩, Or.inr ⟨p', e', k', len + 1, sb', g3, by omega, by omega, ?_, ?_⟩⟩
  · rw [h8, s1, sbd_e, slt_e, e3, l4, g1, sbd_e]
  · intro j x y; rw [g6.1 j x y, sup_o x, s4.1 j x y]
  · intro j x y; rw [g6.2.1 j x y, sup_o x, s4.2.1 j x y]
  · intro f x; rw [g6.2.2 f x, sup_k (by omega), s4.2.2 f x]
  · have e25 : σ3 25 = σs 25 := by rw [g5, sup_o (by omega)]
    rw [e25]
    refine ⟨by omega, s5, fun i h1 h2 => ?_⟩
    obtain rfl : i = len := by omega
    rw [s6]
    have hs3 := (fa_le _ _).mp h3
    have e : (-3 : Int32).toInt = -3 := rfl
    have e4 : (-4 : Int32).toInt = -4 := rfl
    exact ⟨fun z => by rw [z] at hs3; omega, fun z => by have := (fa_lt _ _).mp z; omega⟩
  · have e25 : σ3 25 = σs 25 := by rw [g5, sup_o (by omega)]
    rw [e25]
    have : dpt (σs 25) (len + 1) = if -3 ≤ σs 25 len then dpt (σs 25) len + 1 else if σs 25 len = -4 then dpt (σs 25) len else dpt (σs 25) len - 1 := rfl
    rw [this, s6, if_pos h3, dpt_cong (s := σ 25) (s' := σs 25) s5]
theorem sb_0 {sb : Bool} : ((b2i sb) = (0 : Int32)) ↔ sb = false := by cases sb <;> decide
theorem leaf_sim {L ky b n p e k len : Nat} {c : Nat → Nat} {σ τ : Store} {sb : Bool} (h : PS L ky c b n σ τ p e k len sb) (hl : len ≤ p) : ∃ σ' τ', fX2_leaf σ = some σ' ∧ fX9_readLeaf τ = some τ' ∧ Post L ky c b n σ τ p len σ' τ' := by
  have h0 := h
  obtain ⟨⟨t8, t9⟩, ⟨k1, k2, k3⟩, ⟨f1, f2⟩, ⟨a1, a2, a3, a4, a5, a6, a7⟩, ⟨b1, b2, b3, b4, b5, b6⟩, ⟨l1, l2, l3, l4, l5⟩, ⟨d1, d2⟩⟩ := h0
  have hL := t8.1
  have no8 : ∀ z : Int32, (z = -1000000005 ∨ sb = true) → (sjn (fun k33 : Unit → Option Store => (if z = (-1000000005 : Int32) then (k33 ()) else (if (σ 24 10) = 0 then (sbd (fX2_addStep z σ) fun s12 => (slt (sup s12 24 3 ((s12 24 3) + (1 : Int32))) fun s13 => (sbd (fX2_advance s13) fun s14 => (some s14)))) else (k33 ())))) (fun (_u : Unit) => (sbd (fX2_fail σ) fun s9 => (some s9)))) = sbd (fX2_fail σ) fun s => some s := by
    intro z hz
    rw [sjn_e]
    by_cases h1 : z = -1000000005
    · rw [if_pos h1]
    · have hs : sb = true := by
        rcases hz with z | z
        · exact absurd z h1
        · exact z
      rw [if_neg h1, a6, if_neg (fun z => by rw [sb_0.mp z] at hs; cases hs)]
  have no9 : (¬ τ 0 11 = 1 ∨ ¬ τ 0 10 = τ 0 9 + 1) → ∀ y : Int32, fX9_readLeaf_L63 τ (fun x42 x43 => lf9 τ y x42) FU (-1) 0 = lf9 τ y (-1) := fun hh y => l63_no k1 k3 hh _
  have m9 : fX9_readLeaf τ = (sjn (fun k59 : Int32 → Option Store => (if ¬ (τ 0 11) = (2 : Int32) then (k59 (-1 : Int32)) else (if (4 : Int32) < ((τ 0 10) - (τ 0 9)) then (k59 (-1 : Int32)) else (slt (τ 0 9) fun x55 => (fX9_readLeaf_L30 τ (fun x65 x66 => (k59 x65)) FU (0 : Int32) x55))))) (fun (y1_59 : Int32) => (fX9_readLeaf_L63 τ (fun x42 x43 => lf9 τ y1_59 x42) FU (-1 : Int32) (0 : Int32)))) := rfl
  have hk4 : k = 0 ∨ k = 1 ∨ k = 2 ∨ k = 3 := by omega
  have l11 : ∀ j, j ≠ k → j < 4 → ¬ τ 0 11 = nI j := fun j hj hj4 z => by
    rw [a7] at z
    have := nI_inj (by cases sb <;> simp <;> omega) (by omega) z
    cases sb <;> simp at this <;> omega
  unfold fX2_leaf
  rw [m9, sjn_e, sjn_e, a5]
  rcases hk4 with rfl | rfl | rfl | rfl
  · have n8 : fX2_nameHere σ = some (-1000000005) := by unfold fX2_nameHere; rw [a5, if_pos (by decide)]
    rw [if_pos (by decide), n8, sbd_e, if_pos (show ¬ τ 0 11 = (2 : Int32) from l11 2 (by omega) (by omega))]
    dsimp only
    rw [no9 (Or.inl (l11 1 (by omega) (by omega)))]
    exact leaf_no h (no8 _ (Or.inl rfl)) rfl
  · rw [if_pos (by decide), if_pos (show ¬ τ 0 11 = (2 : Int32) from l11 2 (by omega) (by omega))]
    have hpe := b4 (by omega)
    by_cases h1 : e = p + 1
    · have n8 : fX2_nameHere σ = some (nmE (nmx ky (c p))) := by
        unfold fX2_nameHere
        rw [a5, if_neg (show ¬ ¬ nI 1 = 1 by decide), a3, a1, nI_subN (by omega), if_pos (show nI (e - p) = 1 by rw [show e - p = 1 by omega]; rfl)]
        exact name8 k1 k2 a1 (by omega) (t8.2.2 p (by omega)).1
      rw [n8, sbd_e]
      cases sb with
      | true =>
        dsimp only
        rw [no9 (Or.inl (by rw [a7]; decide))]
        exact leaf_no h (no8 _ (Or.inr rfl)) rfl
      | false =>
        have hsc : srt (c p) = 1 := b5 rfl p (by omega) (by omega)
        have hc256 := (t8.2.2 p (by omega)).2
        have m63 := name9 k1 k3 a2 (by omega) (t9.2.2 p (by omega)).1 (by rw [a4, h1]) a7 (fun x42 x43 => lf9 τ (-1) x42) (sLen.getD (3 + ky) 0) 0 FU (-1) (by omega) (FU_gt (by have := (sl3 ky k1).2; omega))
        rw [mfd_tab ky k1 (c p) hc256 hsc] at m63
        dsimp only
        rw [show fX9_readLeaf_L63 τ _ FU (-1) (0 : Int32) = _ from m63]
        have ht := nam_tab ky k1 (c p) hc256 hsc
        cases hn : nmx ky (c p) with
        | none => exact leaf_no h (no8 _ (Or.inl rfl)) rfl
        | some i =>
          rw [hn] at ht
          obtain ⟨i3, im⟩ := of_decide_eq_true (show decide (i < 3 ∧ (-1 - nI i, -10 + nI i) ∈ nmL ky) = true from ht)
          have i012 : i = 0 ∨ i = 1 ∨ i = 2 := by omega
          have hz : ¬ nmE (some i) = -1000000005 ∧ -3 ≤ nmE (some i) := by rcases i012 with rfl | rfl | rfl <;> decide
          refine leaf_yes h (by omega) hl (s := nmE (some i)) (m := -10 + nI i) (Or.inr (Or.inl im)) hz.2 ?_ ?_
          · rw [sjn_e, if_neg hz.1, a6, if_pos (by decide)]
          · exact lf_yes f2 (Or.inr ⟨rfl, Int32.not_lt.mp (nI_n0 (by omega)), rfl⟩)
    · have n8 : fX2_nameHere σ = some (-1000000005) := by
        unfold fX2_nameHere
        rw [a5, if_neg (show ¬ ¬ nI 1 = 1 by decide), a3, a1, nI_subN (by omega), if_neg (fun z => by have := nI_inj (b := 1) (by omega) (by omega) z; omega)]
      rw [n8, sbd_e]
      dsimp only
      rw [no9 (Or.inr (by rw [a4, a2, nI_1]; exact fun z => by have := nI_inj (by omega) (by omega) z; omega))]
      exact leaf_no h (no8 _ (Or.inl rfl)) rfl
  · rw [if_neg (show ¬ ¬ nI 2 = 2 by decide)]
    have hpe := b4 (by omega)
    unfold fX2_numberHere
    rw [a3, a1, nI_subN (by omega), a4, a2, nI_subN (by omega), l_4]
    by_cases h4 : e - p ≤ 4
    · obtain ⟨v, v1, v2, v3⟩ := num_loop t8 t9 a3 a4 b2 (by omega) (b5 rfl) (fun x65 x66 => fX9_readLeaf_L63 τ (fun x42 x43 => lf9 τ x65 x42) FU (-1 : Int32) (0 : Int32)) (e - p) p 0 FU FU (by omega) (by omega) (FU_gt (by omega)) (FU_gt (by omega)) (by rw [Nat.sub_self]; decide)
      have v4 : v < 10000 := Nat.lt_of_lt_of_le v1 (Nat.pow_le_pow_right (n := 10) (by omega) h4)
      rw [if_pos (nI_le h4 (by omega)), slt_e, show fX2_numberHere_L23 σ FU (0 : Int32) (nI p) = _ from v2, sbd_e]
      cases sb with
      | true =>
        rw [a7, if_pos (by decide)]
        dsimp only
        rw [no9 (Or.inl (by rw [a7]; decide))]
        exact leaf_no h (no8 _ (Or.inr rfl)) rfl
      | false =>
        rw [a7, if_neg (show ¬ ¬ nI (if false = true then 4 else 2) = 2 by decide), if_neg (nI_nlt (by omega) (by omega)), slt_e, show fX9_readLeaf_L30 τ _ FU (0 : Int32) (nI p) = _ from v3]
        dsimp only
        rw [no9 (Or.inl (by rw [a7]; decide))]
        refine leaf_yes h (by omega) hl (s := nI v) (m := nI v) (Or.inl ⟨v, v4, rfl, rfl⟩) (Int32.not_lt.mp (nI_nlt3 v4)) ?_ ?_
        · rw [sjn_e, if_neg (nI_nm (by omega)), a6, if_pos (by decide)]
        · exact lf_yes f2 (Or.inl ⟨Int32.not_lt.mp (nI_n0 (by omega)), rfl⟩)
    · rw [if_neg (nI_ge (by omega) (by omega)), sbd_e, if_pos (nI_lt (by omega) (by omega)), ite_self]
      dsimp only
      rw [no9 (Or.inl (l11 1 (by omega) (by omega)))]
      exact leaf_no h (no8 _ (Or.inl rfl)) rfl
  · have n8 : fX2_nameHere σ = some (-1000000005) := by unfold fX2_nameHere; rw [a5, if_pos (by decide)]
    rw [if_pos (by decide), n8, sbd_e, if_pos (show ¬ τ 0 11 = (2 : Int32) from l11 2 (by omega) (by omega))]
    dsimp only
    rw [no9 (Or.inl (l11 1 (by omega) (by omega)))]
    exact leaf_no h (no8 _ (Or.inl rfl)) rfl
