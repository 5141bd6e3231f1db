/-! the whole reading -/
def PO (σ' τ' : Store) : Prop := (∃ q, q ≤ 96 ∧ σ' 24 4 = nI q ∧ ¬ τ' 0 12 = 0 ∧ τ' 0 9 = nI q) ∨ (∃ ky len, ky < 3 ∧ 1 ≤ len ∧ len ≤ 96 ∧ σ' 24 4 = -1 ∧ τ' 0 12 = 0 ∧ σ' 24 1 = nI len ∧ τ' 0 17 = nI len ∧ σ' 24 2 = nI ky ∧ τ' 0 13 = nI ky ∧ σ' 24 3 = τ' 0 16 ∧ (∀ i, i < len → stR ky (σ' 25 i) (τ' 8 i)) ∧ (∀ i, i < len → (σ' 25 i = -4 → 1 ≤ dpt (σ' 25) i) ∧ (σ' 25 i < -4 → 2 ≤ dpt (σ' 25) i)) ∧ dpt (σ' 25) len = 1)
theorem PF.po {L : Nat} {c : Nat → Nat} {σ τ : Store} (h : PF L c σ τ) : PO σ τ := by
  obtain ⟨-, ⟨q, q1, q2, q3⟩, q4⟩ := h
  exact Or.inl ⟨q, q1, q2, q4, q3⟩
/-- from the key on -/
theorem key_on {L ky p e k : Nat} {c : Nat → Nat} {σ τ : Store} (h : PS L ky c 0 0 σ τ p e k 0 false) : ∃ σ' τ', (sbd (fX2_advance σ) fun s11 => (sbd (fX2_expression (0 : Int32) (0 : Int32) (0 : Int32) s11) fun s12 => (if (s12 24 9) = 0 then (some s12) else (sbd (fX2_fail s12) fun s14 => (some s14))))) = some σ' ∧ (sbd (fX9_must true τ) fun s20 => (if ¬ (s20 0 12) = 0 then (some s20) else (sbd (fX9_readOr s20) fun s22 => (sjn (fun k135 : Bool → Option Store => (if ¬ (s22 0 11) = 0 then (k135 false) else (k135 true))) (fun (z0_135 : Bool) => (sbd (fX9_must z0_135 s22) fun s24 => (some s24))))))) = some τ' ∧ FP σ τ σ' τ' ∧ PO σ' τ' := by
  obtain ⟨σ1, τ1, p1, e1, k1, sb1, a1, a2, a3, a4, a5, a6⟩ := h.adv
  obtain ⟨σ2, τ2, b1, b2, b3, b4⟩ := expr_sim σ1 τ1 p1 e1 k1 0 sb1 a3 (by omega)
  rw [a1, sbd_e, show fX2_expression (0 : Int32) (0 : Int32) (0 : Int32) σ1 = _ from b1, sbd_e, must_t h.2.2.1.2, a2, sbd_e, if_neg (show ¬ ¬ τ1 0 12 = 0 from fun z => z a3.2.2.1.2), b2, sbd_e, sjn_e]
  simp only [some_e]
  rcases b4 with b4 | ⟨p', e', k', len', sb', d1, d2, d3, d4, d5⟩
  · refine ⟨σ2, sup τ2 0 12 1, ?_, ?_, (a6.tr b3).up (by omega), ?_⟩
    · rw [b4.fail8, ite_self]
    · rw [must_x b4.2.2, must_x b4.2.2, ite_self]
    · obtain ⟨-, ⟨q, q1, q2, q3⟩, q4⟩ := b4
      exact Or.inl ⟨q, q1, q2, by rw [sup_s]; decide, by rw [sup_k (by omega), q3]⟩
  · obtain ⟨y1, y2, y3, y4, y5, y6⟩ := d1.eL
    have a9 := d1.2.2.2.1.2.2.2.2.1
    have a11 := d1.2.2.2.1.2.2.2.2.2.2
    have hk3 := d1.2.2.2.2.1.2.2.1
    have hsb := d1.2.2.2.2.1.2.2.2.2.2
    by_cases hk : k' = 0
    · subst hk
      have hs : sb' = false := by
        cases sb' with
        | false => rfl
        | true => have := hsb rfl; cases this
      subst hs
      have ht0 : τ2 0 11 = 0 := by rw [a11]; rfl
      have h9 := adv9 d1.1.2 y3 d1.2.2.2.1.2.2.2.1 (k := 0) (by omega) a11
      obtain ⟨l1, l2, l3, l4, l5⟩ := d1.2.2.2.2.2.1
      have fp := a6.tr b3
      rw [if_pos (show σ2 24 9 = 0 by rw [a9]; rfl), if_neg (show ¬ ¬ τ2 0 11 = 0 from fun z => z ht0), must_t d1.2.2.1.2, h9]
      have hd0 : dpt (σ1 25) 0 = 0 := rfl
      rw [hd0] at d4 d5
      have h1 : 1 ≤ len' := by have := dpt_le (σ2 25) len'; omega
      refine ⟨σ2, _, rfl, rfl, (((fp.up (by omega)).up (by omega)).up (by omega)).up (by omega), Or.inr ⟨ky, len', h.2.1.1, h1, y5, d1.2.2.1.1, ?_, l2, ?_, d1.2.1.2.1, ?_, ?_, fun i hi => ?_, fun i hi => ?_, d5⟩⟩
      · rw [sup_k (by omega), sup_k (by omega), sup_k (by omega), sup_k (by omega), d1.2.2.1.2]
      · rw [sup_k (by omega), sup_k (by omega), sup_k (by omega), sup_k (by omega), l3]
      · rw [sup_k (by omega), sup_k (by omega), sup_k (by omega), sup_k (by omega), d1.2.1.2.2]
      · rw [sup_k (by omega), sup_k (by omega), sup_k (by omega), sup_k (by omega), l4]
      · rw [sup_j (by omega), sup_j (by omega), sup_j (by omega), sup_j (by omega)]; exact l5 i hi
      · have := d4.2.2 i (Nat.zero_le _) hi
        exact ⟨fun z => by have := this.1 z; omega, fun z => by have := this.2 z; omega⟩
    · obtain ⟨f1, f2, f3⟩ := d1.fail
      have ht0 : ¬ τ2 0 11 = 0 := by
        rw [a11]
        intro z
        have := nI_inj (b := 0) (by cases sb' <;> simp <;> omega) (by omega) z
        cases sb' <;> simp at this <;> omega
      refine ⟨_, _, by rw [if_neg (fun z => by rw [a9] at z; exact hk (nI_inj (b := 0) (by omega) (by omega) z)), f1], by rw [if_pos ht0, must_f d1.2.2.1.2], (a6.tr b3).tr f3, f2.po⟩
