theorem must_e (z : Bool) (s : Store) : (sbd (fX9_must z s) fun s20 => (some s20 : Option Store)) = fX9_must z s := some_e
theorem parse_sim {L : Nat} {c : Nat → Nat} {σ τ : Store} (hL : L ≤ 96) (h8 : ∀ i, i < L → σ 23 i = nI (c i) ∧ c i < 256) (h9 : ∀ i, i < L → τ 5 i = nI (c i)) (h6 : τ 0 6 = nI L) : ∃ σ' τ', fX2_parse (nI L) σ = some σ' ∧ fX9_readAll τ = some τ' ∧ FP σ τ σ' τ' ∧ PO σ' τ' := by
  obtain ⟨o1, o2, o3, o4, o5, o6, o7, o8⟩ := tok_ok c (L := L) (e := 0) (by omega)
  have b0 : T8 L c (sup σ 24 6 (nI L)) := ⟨hL, sup_s, fun i hi => by rw [sup_j (by omega)]; exact h8 i hi⟩
  have b1 : T8 L c (sup (sup (sup (sup (sup (sup σ 24 6 (nI L)) 24 1 0) 24 3 0) 24 4 (-1)) 24 8 0) 24 9 0) := ((((b0.up (by omega)).up (by omega)).up (by omega)).up (by omega)).up (by omega)
  have b2 : T9 L c τ := ⟨hL, h6, fun i hi => ⟨h9 i hi, (h8 i hi).2⟩⟩
  have b3 : T9 L c (sup (sup (sup (sup (sup (sup (sup τ 0 10 0) 0 11 0) 0 12 (b2i false)) 0 14 0) 0 15 0) 0 16 0) 0 17 0) := ((((((b2.up (by omega)).up (by omega)).up (by omega)).up (by omega)).up (by omega)).up (by omega)).up (by omega)
  have a8 := adv8 b1 (e := 0) (by omega) (by rw [sup_k (by omega), sup_s]; rfl) (k := 0) (by omega) sup_s
  have a9 := adv9 b3 (e := 0) (by omega) (by simp (config := {decide := true}) only [sup_e, if_true, if_false] <;> rfl) (k := 0) (by omega) (by simp (config := {decide := true}) only [sup_e, if_true, if_false] <;> rfl)
  rw [show (isw 0 && isw (tk c L 0) && decide (tp c L 0 = 0)) = false from rfl] at a8 a9
  rw [if_neg (show ¬ false = true by decide)] at a9
  have t8 := ((((b1.up (f := 7) (x := nI (tp c L 0)) (by omega)).up (f := 9) (x := nI (tk c L 0)) (by omega)).up (f := 8) (x := nI (te c L 0)) (by omega)).up (f := 10) (x := b2i false) (by omega))
  have t9 := ((((b3.up (f := 9) (x := nI (tp c L 0)) (by omega)).up (f := 11) (x := nI (tk c L 0)) (by omega)).up (f := 10) (x := nI (te c L 0)) (by omega)).up (f := 11) (x := nI (tk c L 0)) (by omega))
  obtain ⟨s7, hs7⟩ : ∃ x, x = sup (sup (sup (sup (sup (sup (sup (sup (sup (sup σ 24 6 (nI L)) 24 1 0) 24 3 0) 24 4 (-1)) 24 8 0) 24 9 0) 24 7 (nI (tp c L 0))) 24 9 (nI (tk c L 0))) 24 8 (nI (te c L 0))) 24 10 (b2i false) := ⟨_, rfl⟩
  obtain ⟨r8, hr8⟩ : ∃ x, x = sup (sup (sup (sup (sup (sup (sup (sup (sup (sup (sup τ 0 10 0) 0 11 0) 0 12 (b2i false)) 0 14 0) 0 15 0) 0 16 0) 0 17 0) 0 9 (nI (tp c L 0))) 0 11 (nI (tk c L 0))) 0 10 (nI (te c L 0))) 0 11 (nI (tk c L 0)) := ⟨_, rfl⟩
  rw [← hs7] at a8 t8
  rw [← hr8] at a9 t9
  have e1 : s7 24 1 = nI 0 := by rw [hs7]; simp (config := {decide := true}) only [sup_e, if_true, if_false] <;> rfl
  have e3 : s7 24 3 = nI 0 := by rw [hs7]; simp (config := {decide := true}) only [sup_e, if_true, if_false] <;> rfl
  have e4 : s7 24 4 = -1 := by rw [hs7]; simp (config := {decide := true}) only [sup_e, if_true, if_false]
  have e7 : s7 24 7 = nI (tp c L 0) := by rw [hs7]; simp (config := {decide := true}) only [sup_e, if_true, if_false]
  have e8 : s7 24 8 = nI (te c L 0) := by rw [hs7]; simp (config := {decide := true}) only [sup_e, if_true, if_false]
  have e9 : s7 24 9 = nI (tk c L 0) := by rw [hs7]; simp (config := {decide := true}) only [sup_e, if_true, if_false]
  have e10 : s7 24 10 = b2i false := by rw [hs7]; simp (config := {decide := true}) only [sup_e, if_true, if_false]
  have ef : ∀ j, j ≠ 24 → s7 j = σ j := fun j hj => by rw [hs7, sup_o hj, sup_o hj, sup_o hj, sup_o hj, sup_o hj, sup_o hj, sup_o hj, sup_o hj, sup_o hj, sup_o hj]
  have g9 : r8 0 9 = nI (tp c L 0) := by rw [hr8]; simp (config := {decide := true}) only [sup_e, if_true, if_false]
  have g10 : r8 0 10 = nI (te c L 0) := by rw [hr8]; simp (config := {decide := true}) only [sup_e, if_true, if_false]
  have g11 : r8 0 11 = nI (tk c L 0) := by rw [hr8]; simp (config := {decide := true}) only [sup_e, if_true, if_false]
  have g12 : r8 0 12 = 0 := by rw [hr8]; simp (config := {decide := true}) only [sup_e, if_true, if_false] <;> rfl
  have g14 : r8 0 14 = nI 0 := by rw [hr8]; simp (config := {decide := true}) only [sup_e, if_true, if_false] <;> rfl
  have g15 : r8 0 15 = nI 0 := by rw [hr8]; simp (config := {decide := true}) only [sup_e, if_true, if_false] <;> rfl
  have g16 : r8 0 16 = nI 0 := by rw [hr8]; simp (config := {decide := true}) only [sup_e, if_true, if_false] <;> rfl
  have g17 : r8 0 17 = nI 0 := by rw [hr8]; simp (config := {decide := true}) only [sup_e, if_true, if_false] <;> rfl
  have gf : ∀ j, j ≠ 0 → r8 j = τ j := fun j hj => by rw [hr8, sup_o hj, sup_o hj, sup_o hj, sup_o hj, sup_o hj, sup_o hj, sup_o hj, sup_o hj, sup_o hj, sup_o hj, sup_o hj]
  have gg : ∀ f, f < 9 ∨ 17 < f → r8 0 f = τ 0 f := fun f hf => by rw [hr8, sup_k (by omega), sup_k (by omega), sup_k (by omega), sup_k (by omega), sup_k (by omega), sup_k (by omega), sup_k (by omega), sup_k (by omega), sup_k (by omega), sup_k (by omega), sup_k (by omega)]
  clear hs7 hr8
  have kh := keyh8 t8 e7 e8 o5 o6 o3 e9
  have sp : ∀ ky, ky < 3 → fX9_spells ky r8 = some (kq (tp c L 0) (te c L 0) (tk c L 0) c ky) := fun ky hky => spell9 t9 hky g9 g10 o5 o6 o3 g11
  have fp0 : FP σ τ s7 r8 := ⟨fun j x _ => ef j x, fun j x _ => gf j x, gg⟩
  unfold fX2_parse fX9_readAll
  simp only [slt_e]
  rw [a8, a9, sbd_e, sbd_e, kh, sbd_e]
  have six3 : ∀ (i : Nat) (F : Option Store), i < 3 → six 3 (nI i) F = F := fun i F hi => six_e hi (by omega)
  rw [show (0 : Int32) = nI 0 from rfl, show (1 : Int32) = nI 1 from rfl, show (2 : Int32) = nI 2 from rfl]
  simp only [six3 0 _ (by omega), six3 1 _ (by omega), six3 2 _ (by omega), snx_e (show 0 < 4096 by omega), snx_e (show 1 < 4096 by omega), snx_e (show 2 < 4096 by omega), sp 0 (by omega), sp 1 (by omega), sp 2 (by omega), sbd_e]
  done
