theorem must_e (z : Bool) (s : Store) : (sbd (fX9_must z s) fun s20 => (some s20 : Option Store)) = fX9_must z s := some_e
theorem parse_sim {L : Nat} {c : Nat → Nat} {σ τ : Store} (hL : L ≤ 96) (h8 : ∀ i, i < L → σ 23 i = nI (c i) ∧ c i < 256) (h9 : ∀ i, i < L → τ 5 i = nI (c i)) (h6 : τ 0 6 = nI L) : ∃ σ' τ', fX2_parse (nI L) σ = some σ' ∧ fX9_readAll τ = some τ' ∧ FP σ τ σ' τ' ∧ PO σ' τ' := by
  obtain ⟨o1, o2, o3, o4, o5, o6, o7, o8⟩ := tok_ok c (L := L) (e := 0) (by omega)
  have b0 : T8 L c (sup σ 24 6 (nI L)) := ⟨hL, sup_s, fun i hi => by rw [sup_j (by omega)]; exact h8 i hi⟩
  have b1 : T8 L c (sup (sup (sup (sup (sup (sup σ 24 6 (nI L)) 24 1 0) 24 3 0) 24 4 (-1)) 24 8 0) 24 9 0) := ((((b0.up (by omega)).up (by omega)).up (by omega)).up (by omega)).up (by omega)
  have b2 : T9 L c τ := ⟨hL, h6, fun i hi => ⟨h9 i hi, (h8 i hi).2⟩⟩
  have b3 : T9 L c (sup (sup (sup (sup (sup (sup (sup τ 0 10 0) 0 11 0) 0 12 (b2i false)) 0 14 0) 0 15 0) 0 16 0) 0 17 0) := ((((((b2.up (by omega)).up (by omega)).up (by omega)).up (by omega)).up (by omega)).up (by omega)).up (by omega)
  have a8 := adv8 b1 (e := 0) (by omega) (by rw [sup_k (by omega), sup_s]; rfl) (k := 0) (by omega) sup_s
  have a9 := adv9 b3 (e := 0) (by omega) (by simp (config := {decide := true}) only [sup_e, if_true, if_false] <;> rfl) (k := 0) (by omega) (by simp (config := {decide := true}) only [sup_e, if_true, if_false] <;> rfl)
  rw [show (isw 0 && isw (tk c L 0) && decide (tp c L 0 = 0)) = false from rfl] at a8 a9
  rw [if_neg (show ¬ false = true by decide)] at a9
  have t8 := ((((b1.up (f := 7) (x := nI (tp c L 0)) (by omega)).up (f := 9) (x := nI (tk c L 0)) (by omega)).up (f := 8) (x := nI (te c L 0)) (by omega)).up (f := 10) (x := b2i false) (by omega))
  have t9 := ((((b3.up (f := 9) (x := nI (tp c L 0)) (by omega)).up (f := 11) (x := nI (tk c L 0)) (by omega)).up (f := 10) (x := nI (te c L 0)) (by omega)).up (f := 11) (x := nI (tk c L 0)) (by omega))
  obtain ⟨s7, hs7⟩ : ∃ x, x = sup (sup (sup (sup (sup (sup (sup (sup (sup (sup σ 24 6 (nI L)) 24 1 0) 24 3 0) 24 4 (-1)) 24 8 0) 24 9 0) 24 7 (nI (tp c L 0))) 24 9 (nI (tk c L 0))) 24 8 (nI (te c L 0))) 24 10 (b2i false) := ⟨_, rfl⟩
  obtain ⟨r8, hr8⟩ : ∃ x, x = sup (sup (sup (sup (sup (sup (sup (sup (sup (sup (sup τ 0 10 0) 0 11 0) 0 12 (b2i false)) 0 14 0) 0 15 0) 0 16 0) 0 17 0) 0 9 (nI (tp c L 0))) 0 11 (nI (tk c L 0))) 0 10 (nI (te c L 0))) 0 11 (nI (tk c L 0)) := ⟨_, rfl⟩
  rw [← hs7] at a8 t8
  rw [← hr8] at a9 t9
  have e1 : s7 24 1 = nI 0 := by rw [hs7]; simp (config := {decide := true}) only [sup_e, if_true, if_false] <;> rfl
  have e3 : s7 24 3 = nI 0 := by rw [hs7]; simp (config := {decide := true}) only [sup_e, if_true, if_false] <;> rfl
  have e4 : s7 24 4 = -1 := by rw [hs7]; simp (config := {decide := true}) only [sup_e, if_true, if_false]
  have e7 : s7 24 7 = nI (tp c L 0) := by rw [hs7]; simp (config := {decide := true}) only [sup_e, if_true, if_false]
  have e8 : s7 24 8 = nI (te c L 0) := by rw [hs7]; simp (config := {decide := true}) only [sup_e, if_true, if_false]
  have e9 : s7 24 9 = nI (tk c L 0) := by rw [hs7]; simp (config := {decide := true}) only [sup_e, if_true, if_false]
  have e10 : s7 24 10 = b2i false := by rw [hs7]; simp (config := {decide := true}) only [sup_e, if_true, if_false]
  have ef : ∀ j, j ≠ 24 → s7 j = σ j := fun j hj => by rw [hs7, sup_o hj, sup_o hj, sup_o hj, sup_o hj, sup_o hj, sup_o hj, sup_o hj, sup_o hj, sup_o hj, sup_o hj]
  have g9 : r8 0 9 = nI (tp c L 0) := by rw [hr8]; simp (config := {decide := true}) only [sup_e, if_true, if_false]
  have g10 : r8 0 10 = nI (te c L 0) := by rw [hr8]; simp (config := {decide := true}) only [sup_e, if_true, if_false]
  have g11 : r8 0 11 = nI (tk c L 0) := by rw [hr8]; simp (config := {decide := true}) only [sup_e, if_true, if_false]
  have g12 : r8 0 12 = 0 := by rw [hr8]; simp (config := {decide := true}) only [sup_e, if_true, if_false] <;> rfl
  have g14 : r8 0 14 = nI 0 := by rw [hr8]; simp (config := {decide := true}) only [sup_e, if_true, if_false] <;> rfl
  have g15 : r8 0 15 = nI 0 := by rw [hr8]; simp (config := {decide := true}) only [sup_e, if_true, if_false] <;> rfl
  have g16 : r8 0 16 = nI 0 := by rw [hr8]; simp (config := {decide := true}) only [sup_e, if_true, if_false] <;> rfl
  have g17 : r8 0 17 = nI 0 := by rw [hr8]; simp (config := {decide := true}) only [sup_e, if_true, if_false] <;> rfl
  have gf : ∀ j, j ≠ 0 → r8 j = τ j := fun j hj => by rw [hr8, sup_o hj, sup_o hj, sup_o hj, sup_o hj, sup_o hj, sup_o hj, sup_o hj, sup_o hj, sup_o hj, sup_o hj, sup_o hj]
  have gg : ∀ f, f < 9 ∨ 17 < f → r8 0 f = τ 0 f := fun f hf => by rw [hr8, sup_k (by omega), sup_k (by omega), sup_k (by omega), sup_k (by omega), sup_k (by omega), sup_k (by omega), sup_k (by omega), sup_k (by omega), sup_k (by omega), sup_k (by omega), sup_k (by omega)]
  clear hs7 hr8
  have kh := keyh8 t8 e7 e8 o5 o6 o3 e9
  have sp : ∀ ky, ky < 3 → fX9_spells ky r8 = some (kq (tp c L 0) (te c L 0) (tk c L 0) c ky) := fun ky hky => spell9 t9 hky g9 g10 o5 o6 o3 g11
  have fp0 : FP σ τ s7 r8 := ⟨fun j x _ => ef j x, fun j x _ => gf j x, gg⟩
  unfold fX2_parse fX9_readAll
  simp only [slt_e]
  rw [a8, a9, sbd_e, sbd_e, kh, sbd_e]
  have six3 : ∀ (i : Nat) (F : Option Store), i < 3 → six 3 (nI i) F = F := fun i F hi => six_e hi (by omega)
  rw [show (0 : Int32) = nI 0 from rfl, show (1 : Int32) = nI 1 from rfl, show (2 : Int32) = nI 2 from rfl]
  simp only [six3 0 _ (by omega), six3 1 _ (by omega), six3 2 _ (by omega), snx_e (show 0 < 4096 by omega), snx_e (show 1 < 4096 by omega), snx_e (show 2 < 4096 by omega), sp 0 (by omega), sp 1 (by omega), sp 2 (by omega), sbd_e]
  have fin : ∀ ky, ky < 3 → ∃ σ' τ', (sbd (fX2_advance (sup s7 24 2 (nI ky))) fun s11 => (sbd (fX2_expression (0 : Int32) (0 : Int32) (0 : Int32) s11) fun s12 => (if (s12 24 9) = 0 then (some s12) else (sbd (fX2_fail s12) fun s14 => (some s14))))) = some σ' ∧ (sjn (fun k108 : Bool → Option Store => (if (sup r8 0 13 (nI ky) 0 13) < (0 : Int32) then (k108 false) else (k108 true))) (fun (z0_108 : Bool) => (sbd (fX9_must z0_108 (sup r8 0 13 (nI ky))) fun s20 => (if ¬ (s20 0 12) = 0 then (some s20) else (sbd (fX9_readOr s20) fun s22 => (sjn (fun k135 : Bool → Option Store => (if ¬ (s22 0 11) = 0 then (k135 false) else (k135 true))) (fun (z0_135 : Bool) => (sbd (fX9_must z0_135 s22) fun s24 => (some s24))))))))) = some τ' ∧ FP σ τ σ' τ' ∧ PO σ' τ' := by
    intro ky hky
    have h : PS L ky c 0 0 (sup s7 24 2 (nI ky)) (sup r8 0 13 (nI ky)) (tp c L 0) (te c L 0) (tk c L 0) 0 false := by
      refine ⟨⟨t8.up (by omega), t9.up (by omega)⟩, ⟨hky, sup_s, sup_s⟩, ⟨by rw [sup_k (by omega), e4], by rw [sup_k (by omega), g12]⟩, ⟨by rw [sup_k (by omega), e7], by rw [sup_k (by omega), g9], by rw [sup_k (by omega), e8], by rw [sup_k (by omega), g10], by rw [sup_k (by omega), e9], by rw [sup_k (by omega), e10], by rw [sup_k (by omega), g11]; rfl⟩, ⟨o5, o6, o3, o7, o8, fun z => by cases z⟩, ⟨by omega, by rw [sup_k (by omega), e1], by rw [sup_k (by omega), g17], by rw [sup_k (by omega), sup_k (by omega), e3, g16], fun i hi => absurd hi (by omega)⟩, ⟨by rw [sup_k (by omega), g14], by rw [sup_k (by omega), g15]⟩⟩
    obtain ⟨σ', τ', k1, k2, k3, k4⟩ := key_on h
    refine ⟨σ', τ', k1, ?_, ⟨fun j x y => by rw [k3.1 j x y, sup_o x, ef j x], fun j x y => by rw [k3.2.1 j x y, sup_o x, gf j x], fun f hf => by rw [k3.2.2 f hf, sup_k (by omega), gg f hf]⟩, k4⟩
    rw [sjn_e, sup_s, if_neg (nI_n0 (by omega))]
    exact k2
  rw [sjn_e, sup_s]
  unfold kfst
  by_cases q0 : kq (tp c L 0) (te c L 0) (tk c L 0) c 0 = true
  · rw [if_pos q0, if_pos q0]
    dsimp only
    rw [if_pos (nI_nm (by omega))]
    exact fin 0 (by omega)
  · rw [if_neg q0, if_neg q0]
    by_cases q1 : kq (tp c L 0) (te c L 0) (tk c L 0) c 1 = true
    · rw [if_pos q1, if_pos q1]
      dsimp only
      rw [if_pos (nI_nm (by omega))]
      exact fin 1 (by omega)
    · rw [if_neg q1, if_neg q1]
      by_cases q2 : kq (tp c L 0) (te c L 0) (tk c L 0) c 2 = true
      · rw [if_pos q2, if_pos q2]
        dsimp only
        rw [if_pos (nI_nm (by omega))]
        exact fin 2 (by omega)
      · rw [if_neg q2, if_neg q2]
        dsimp only
        rw [if_neg (fun z => z rfl), sjn_e, sup_s, if_pos (by decide)]
        dsimp only
        rw [must_f (by rw [sup_k (by omega), g12]), sbd_e, sup_s, if_pos (by decide)]
        have hfl : fX2_fail (sup s7 24 2 (-1000000005)) = some (sup (sup s7 24 2 (-1000000005)) 24 4 (nI (tp c L 0))) := by
          unfold fX2_fail
          rw [sup_k (by omega), e4, if_neg (by decide), slt_e, sup_k (by omega), e7]
        rw [hfl, sbd_e]
        refine ⟨_, _, rfl, rfl, ⟨fun j x y => by rw [sup_o x, sup_o x, ef j x], fun j x y => by rw [sup_o x, sup_o x, gf j x], fun f hf => by rw [sup_k (by omega), sup_k (by omega), gg f hf]⟩, Or.inl ⟨tp c L 0, by omega, sup_s, by rw [sup_s]; decide, ?_⟩⟩
        rw [sup_k (by omega), sup_k (by omega), g9]
