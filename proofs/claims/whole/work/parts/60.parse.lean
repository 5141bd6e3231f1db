/-! the state of a reading, on both sides -/
def PS (L ky : Nat) (c : Nat → Nat) (b n : Nat) (σ τ : Store) (p e k len : Nat) (sb : Bool) : Prop :=
  (T8 L c σ ∧ T9 L c τ) ∧ (ky < 3 ∧ σ 24 2 = nI ky ∧ τ 0 13 = nI ky) ∧ (σ 24 4 = -1 ∧ τ 0 12 = 0) ∧
  (σ 24 7 = nI p ∧ τ 0 9 = nI p ∧ σ 24 8 = nI e ∧ τ 0 10 = nI e ∧ σ 24 9 = nI k ∧ σ 24 10 = b2i sb ∧ τ 0 11 = nI (if sb then 4 else k)) ∧
  (p ≤ e ∧ e ≤ L ∧ k ≤ 3 ∧ (k ≠ 0 → p < e) ∧ (isw k = true → ∀ i, p ≤ i → i < e → srt (c i) = k) ∧ (sb = true → isw k = true)) ∧
  (len ≤ 96 ∧ σ 24 1 = nI len ∧ τ 0 17 = nI len ∧ σ 24 3 = τ 0 16 ∧ ∀ i, i < len → stR ky (σ 25 i) (τ 8 i)) ∧ (τ 0 14 = nI b ∧ τ 0 15 = nI n)
def FP (σ τ σ' τ' : Store) : Prop := (∀ j, j ≠ 24 → j ≠ 25 → σ' j = σ j) ∧ (∀ j, j ≠ 0 → j ≠ 8 → τ' j = τ j) ∧ (∀ f, f < 9 ∨ 17 < f → τ' 0 f = τ 0 f)
theorem FP.rf {σ τ : Store} : FP σ τ σ τ := ⟨fun _ _ _ => rfl, fun _ _ _ => rfl, fun _ _ => rfl⟩
theorem FP.tr {a b a1 b1 a2 b2 : Store} (h : FP a b a1 b1) (g : FP a1 b1 a2 b2) : FP a b a2 b2 := ⟨fun j x y => by rw [g.1 j x y, h.1 j x y], fun j x y => by rw [g.2.1 j x y, h.2.1 j x y], fun f x => by rw [g.2.2 f x, h.2.2 f x]⟩
def CW (L : Nat) (c : Nat → Nat) (σ : Store) : Prop := T8 L c σ ∧ ∃ p e k len : Nat, σ 24 7 = nI p ∧ σ 24 8 = nI e ∧ σ 24 9 = nI k ∧ e ≤ L ∧ k ≤ 3 ∧ (k = 3 → p < L) ∧ len ≤ 96 ∧ σ 24 1 = nI len
def PF (L : Nat) (c : Nat → Nat) (σ τ : Store) : Prop := CW L c σ ∧ (∃ q, q ≤ 96 ∧ σ 24 4 = nI q ∧ τ 0 9 = nI q) ∧ ¬ τ 0 12 = 0
theorem PS.cw {L ky b n p e k len : Nat} {c : Nat → Nat} {σ τ : Store} {sb : Bool} (h : PS L ky c b n σ τ p e k len sb) : CW L c σ := by
  obtain ⟨⟨t8, t9⟩, hk, hf, ⟨a1, a2, a3, a4, a5, a6, a7⟩, ⟨b1, b2, b3, b4, b5, b6⟩, ⟨l1, l2, l3, l4, l5⟩, hd⟩ := h
  have := t8.1
  exact ⟨t8, p, e, k, len, a1, a3, a5, b2, b3, fun z => by have := b4 (by omega); omega, by omega, l2⟩
/-- the next piece -/
theorem PS.adv {L ky b n p e k len : Nat} {c : Nat → Nat} {σ τ : Store} (h : PS L ky c b n σ τ p e k len false) : ∃ σ' τ' p' e' k' sb', fX2_advance σ = some σ' ∧ fX9_next τ = some τ' ∧ PS L ky c b n σ' τ' p' e' k' len sb' ∧ e ≤ p' ∧ σ' 25 = σ 25 ∧ FP σ τ σ' τ' := by
  obtain ⟨⟨t8, t9⟩, ⟨k1, k2, k3⟩, ⟨f1, f2⟩, ⟨a1, a2, a3, a4, a5, a6, a7⟩, ⟨b1, b2, b3, b4, b5, b6⟩, ⟨l1, l2, l3, l4, l5⟩, ⟨d1, d2⟩⟩ := h
  obtain ⟨o1, o2, o3, o4, o5, o6, o7, o8⟩ := tok_ok c b2
  refine ⟨_, _, tp c L e, te c L e, tk c L e, isw k && isw (tk c L e) && decide (tp c L e = e), adv8 t8 b2 a3 (by omega) a5, adv9 t9 b2 a4 (k := k) (by omega) a7, ⟨⟨(((t8.up (by omega)).up (by omega)).up (by omega)).up (by omega), (((t9.up (by omega)).up (by omega)).up (by omega)).up (by omega)⟩, ⟨k1, ?_, ?_⟩, ⟨?_, ?_⟩, ⟨?_, ?_, ?_, ?_, ?_, ?_, ?_⟩, ⟨o5, o6, o3, o7, o8, ?_⟩, ⟨by omega, ?_, ?_, ?_, ?_⟩, ?_, ?_⟩, o1, ?_, ?_, ?_, ?_⟩
  · rw [sup_k (by omega), sup_k (by omega), sup_k (by omega), sup_k (by omega), k2]
  · rw [sup_k (by omega), sup_k (by omega), sup_k (by omega), sup_k (by omega), k3]
  · rw [sup_k (by omega), sup_k (by omega), sup_k (by omega), sup_k (by omega), f1]
  · rw [sup_k (by omega), sup_k (by omega), sup_k (by omega), sup_k (by omega), f2]
  · rw [sup_k (by omega), sup_k (by omega), sup_k (by omega), sup_s]
  · rw [sup_k (by omega), sup_k (by omega), sup_k (by omega), sup_s]
  · rw [sup_k (by omega), sup_s]
  · rw [sup_k (by omega), sup_s]
  · rw [sup_k (by omega), sup_k (by omega), sup_s]
  · rw [sup_s]
  · rw [sup_s]
  · intro z
    simp only [Bool.and_eq_true] at z
    exact z.1.2
  · rw [sup_k (by omega), sup_k (by omega), sup_k (by omega), sup_k (by omega), l2]
  · rw [sup_k (by omega), sup_k (by omega), sup_k (by omega), sup_k (by omega), l3]
  · rw [sup_k (by omega), sup_k (by omega), sup_k (by omega), sup_k (by omega), sup_k (by omega), sup_k (by omega), sup_k (by omega), sup_k (by omega), l4]
  · intro i hi
    rw [sup_o (by omega), sup_o (by omega), sup_o (by omega), sup_o (by omega), sup_o (by omega), sup_o (by omega), sup_o (by omega), sup_o (by omega)]
    exact l5 i hi
  · rw [sup_k (by omega), sup_k (by omega), sup_k (by omega), sup_k (by omega), d1]
  · rw [sup_k (by omega), sup_k (by omega), sup_k (by omega), sup_k (by omega), d2]
  · rw [sup_o (by omega), sup_o (by omega), sup_o (by omega), sup_o (by omega)]
  · intro j x y; rw [sup_o x, sup_o x, sup_o x, sup_o x]
  · intro j x y; rw [sup_o x, sup_o x, sup_o x, sup_o x]
  · intro f x; rw [sup_k (by omega), sup_k (by omega), sup_k (by omega), sup_k (by omega)]
/-- the class alone steps on -/
theorem CW.adv {L : Nat} {c : Nat → Nat} {σ : Store} (h : CW L c σ) : ∃ σ', fX2_advance σ = some σ' ∧ CW L c σ' ∧ σ' 24 4 = σ 24 4 ∧ ∀ j, j ≠ 24 → j ≠ 25 → σ' j = σ j := by
  obtain ⟨t8, p, e, k, len, a1, a2, a3, a4, a5, a6, a7, a8⟩ := h
  obtain ⟨o1, o2, o3, o4, o5, o6, o7, o8⟩ := tok_ok c a4
  refine ⟨_, adv8 t8 a4 a2 (by omega) a3, ⟨(((t8.up (by omega)).up (by omega)).up (by omega)).up (by omega), tp c L e, te c L e, tk c L e, len, ?_, ?_, ?_, o6, o3, fun z => by have := o7 (by omega); omega, a7, ?_⟩, ?_, ?_⟩
  · rw [sup_k (by omega), sup_k (by omega), sup_k (by omega), sup_s]
  · rw [sup_k (by omega), sup_s]
  · rw [sup_k (by omega), sup_k (by omega), sup_s]
  · rw [sup_k (by omega), sup_k (by omega), sup_k (by omega), sup_k (by omega), a8]
  · rw [sup_k (by omega), sup_k (by omega), sup_k (by omega), sup_k (by omega)]
  · intro j x y; rw [sup_o x, sup_o x, sup_o x, sup_o x]
theorem must_t {τ : Store} (h : τ 0 12 = 0) : fX9_must true τ = fX9_next τ := by
  unfold fX9_must
  rw [sjn_e, h, if_neg (fun z => z rfl), if_pos rfl]
  dsimp only
  rw [show sup τ 0 12 (b2i false) = τ by rw [show b2i false = τ 0 12 from h.symm, sup_self], slt_e, h, if_neg (fun z => z rfl)]
  cases fX9_next τ <;> rfl
theorem must_f {τ : Store} (h : τ 0 12 = 0) : fX9_must false τ = some (sup τ 0 12 1) := by
  unfold fX9_must
  rw [sjn_e, h, if_neg (fun z => z rfl), if_neg (by decide)]
  dsimp only
  rw [slt_e, sup_s, if_pos (by decide)]; rfl
theorem must_x {τ : Store} (h : ¬ τ 0 12 = 0) (z : Bool) : fX9_must z τ = some (sup τ 0 12 1) := by
  unfold fX9_must
  rw [sjn_e, if_pos h]
  dsimp only
  rw [slt_e, sup_s, if_pos (by decide)]; rfl
theorem step_x {τ : Store} (h : ¬ τ 0 12 = 0) (m : Int32) : fX9_step m τ = some τ := by unfold fX9_step; rw [if_pos h]
theorem sign_x {τ : Store} (h : ¬ τ 0 12 = 0) (m : Int32) : fX9_isSign m τ = some false := by unfold fX9_isSign; rw [if_pos h]
/-- both sides fail at the piece where they stand -/
theorem PS.fail {L ky b n p e k len : Nat} {c : Nat → Nat} {σ τ : Store} {sb : Bool} (h : PS L ky c b n σ τ p e k len sb) : fX2_fail σ = some (sup σ 24 4 (nI p)) ∧ PF L c (sup σ 24 4 (nI p)) (sup τ 0 12 1) ∧ FP σ τ (sup σ 24 4 (nI p)) (sup τ 0 12 1) := by
  have hw := h.cw
  obtain ⟨⟨t8, t9⟩, ⟨k1, k2, k3⟩, ⟨f1, f2⟩, ⟨a1, a2, a3, a4, a5, a6, a7⟩, ⟨b1, b2, b3, b4, b5, b6⟩, hl, hd⟩ := h
  have := t8.1
  refine ⟨?_, ⟨⟨t8.up (by omega), ?_⟩, ⟨p, by omega, sup_s, by rw [sup_k (by omega), a2]⟩, by rw [sup_s]; decide⟩, fun j x y => sup_o x, fun j x y => sup_o x, fun f x => sup_k (by omega)⟩
  · unfold fX2_fail
    rw [f1, if_neg (by decide), slt_e, a1]
  · obtain ⟨-, p1, e1, k1, len1, q1, q2, q3, q4, q5, q6, q7, q8⟩ := hw
    exact ⟨p1, e1, k1, len1, by rw [sup_k (by omega), q1], by rw [sup_k (by omega), q2], by rw [sup_k (by omega), q3], q4, q5, q6, q7, by rw [sup_k (by omega), q8]⟩
theorem PF.fail8 {L : Nat} {c : Nat → Nat} {σ τ : Store} (h : PF L c σ τ) : fX2_fail σ = some σ := by
  obtain ⟨-, ⟨q, q1, q2, q3⟩, -⟩ := h
  unfold fX2_fail
  rw [q2, if_pos (Int32.not_lt.mp (nI_n0 (by omega)))]
theorem CW.sign {L : Nat} {c : Nat → Nat} {σ : Store} (h : CW L c σ) : ∃ r, fX2_signHere σ = some r := by
  obtain ⟨t8, p, e, k, len, a1, a2, a3, a4, a5, a6, a7, a8⟩ := h
  have := t8.1
  unfold fX2_signHere
  rw [a3, l_3]
  by_cases hk : k = 3
  · have := a6 hk
    rw [hk, if_neg (fun z => z rfl), a1, six_e (by omega) (by omega)]; exact ⟨_, rfl⟩
  · rw [if_pos (fun z => hk (nI_inj (by omega) (by omega) z))]; exact ⟨_, rfl⟩
theorem PS.sign8 {L ky b n p e k len : Nat} {c : Nat → Nat} {σ τ : Store} {sb : Bool} (h : PS L ky c b n σ τ p e k len sb) : fX2_signHere σ = some (if k = 3 then nI (c p) else 0) := by
  obtain ⟨⟨t8, t9⟩, ⟨k1, k2, k3⟩, ⟨f1, f2⟩, ⟨a1, a2, a3, a4, a5, a6, a7⟩, ⟨b1, b2, b3, b4, b5, b6⟩, hl, hd⟩ := h
  have := t8.1
  unfold fX2_signHere
  rw [a5, l_3]
  by_cases hk : k = 3
  · have := b4 (by omega)
    rw [if_pos hk, hk, if_neg (fun z => z rfl), a1, six_e (by omega) (by omega), snx_e (by omega), (t8.2.2 p (by omega)).1]
  · rw [if_neg hk, if_pos (fun z => hk (nI_inj (by omega) (by omega) z))]
theorem PS.sign9 {L ky b n p e k len : Nat} {c : Nat → Nat} {σ τ : Store} {sb : Bool} (h : PS L ky c b n σ τ p e k len sb) (x : Int32) : fX9_isSign x τ = some (decide (k = 3 ∧ nI (c p) = x)) := by
  obtain ⟨⟨t8, t9⟩, ⟨k1, k2, k3⟩, ⟨f1, f2⟩, ⟨a1, a2, a3, a4, a5, a6, a7⟩, ⟨b1, b2, b3, b4, b5, b6⟩, hl, hd⟩ := h
  have := t8.1
  unfold fX9_isSign
  rw [f2, if_neg (fun z => z rfl), a7, l_3]
  by_cases hk : k = 3
  · have := b4 (by omega)
    have hsb : sb = false := by
      cases sb with
      | false => rfl
      | true => have := b6 rfl; rw [hk] at this; cases this
    rw [hsb, hk, if_neg (show ¬ false = true by decide), if_neg (show ¬ ¬ nI 3 = nI 3 from fun z => z rfl), a2, six_e (by omega) (by omega), snx_e (by omega), (t9.2.2 p (by omega)).1]
    by_cases hx : nI (c p) = x
    · rw [if_neg (fun z => z hx), decide_eq_true ⟨rfl, hx⟩]
    · rw [if_pos hx, decide_eq_false (fun z => hx z.2)]
  · rw [if_pos (fun z => by
      have := nI_inj (by cases sb <;> simp <;> omega) (by omega) z
      cases sb <;> simp at this <;> omega), decide_eq_false (fun z => hk z.1)]
/-- a step is written on both sides -/
theorem PS.step {L ky b n p e k len : Nat} {c : Nat → Nat} {σ τ : Store} {sb : Bool} (h : PS L ky c b n σ τ p e k len sb) (hl : len < 96) {s m : Int32} (hs : stR ky s m) : ∃ σ' τ', fX2_addStep s σ = some σ' ∧ fX9_step m τ = some τ' ∧ PS L ky c b n σ' τ' p e k (len + 1) sb ∧ FP σ τ σ' τ' ∧ (∀ i, i < len → σ' 25 i = σ 25 i) ∧ σ' 25 len = s := by
  obtain ⟨⟨t8, t9⟩, ⟨k1, k2, k3⟩, ⟨f1, f2⟩, ⟨a1, a2, a3, a4, a5, a6, a7⟩, ⟨b1, b2, b3, b4, b5, b6⟩, ⟨l1, l2, l3, l4, l5⟩, ⟨d1, d2⟩⟩ := h
  have := t8.1
  refine ⟨sup (sup σ 25 len s) 24 1 (nI (len + 1)), sup (sup τ 8 len m) 0 17 (nI (len + 1)), ?_, ?_, ⟨⟨⟨t8.1, by rw [sup_k (by omega), sup_j (by omega)]; exact t8.2.1, fun i hi => by rw [sup_j (by omega), sup_j (by omega)]; exact t8.2.2 i hi⟩, ⟨t9.1, by rw [sup_k (by omega), sup_j (by omega)]; exact t9.2.1, fun i hi => by rw [sup_j (by omega), sup_j (by omega)]; exact t9.2.2 i hi⟩⟩, ⟨k1, by rw [sup_k (by omega), sup_j (by omega), k2], by rw [sup_k (by omega), sup_j (by omega), k3]⟩, ⟨by rw [sup_k (by omega), sup_j (by omega), f1], by rw [sup_k (by omega), sup_j (by omega), f2]⟩, ⟨by rw [sup_k (by omega), sup_j (by omega), a1], by rw [sup_k (by omega), sup_j (by omega), a2], by rw [sup_k (by omega), sup_j (by omega), a3], by rw [sup_k (by omega), sup_j (by omega), a4], by rw [sup_k (by omega), sup_j (by omega), a5], by rw [sup_k (by omega), sup_j (by omega), a6], by rw [sup_k (by omega), sup_j (by omega), a7]⟩, ⟨b1, b2, b3, b4, b5, b6⟩, ⟨hl, sup_s, sup_s, by rw [sup_k (by omega), sup_j (by omega), sup_k (by omega), sup_j (by omega), l4], fun i hi => ?_⟩, ⟨by rw [sup_k (by omega), sup_j (by omega), d1], by rw [sup_k (by omega), sup_j (by omega), d2]⟩⟩, ⟨fun j x y => by rw [sup_o x, sup_o y], fun j x y => by rw [sup_o x, sup_o y], fun f x => by rw [sup_k (by omega), sup_j (by omega)]⟩, fun i hi => by rw [sup_j (by omega), sup_k (by omega)], by rw [sup_j (by omega), sup_s]⟩
  · unfold fX2_addStep
    rw [l2, if_neg (show ¬ (96 : Int32) ≤ nI len from (nI_ge (show len < 96 by omega) (by omega) : ¬ nI 96 ≤ nI len)), six_e (by omega) (by omega), slt_e, slt_e, snx_e (by omega), sup_j (σ := σ) (by omega), l2, nI_1]
  · unfold fX9_step
    rw [f2, if_neg (fun z => z rfl), l3, six_e (by omega) (by omega), slt_e, slt_e, snx_e (by omega), sup_j (σ := τ) (by omega), l3, nI_1]
  · rw [sup_j (j := 24) (by omega), sup_j (j := 0) (by omega)]
    by_cases hi2 : i = len
    · rw [hi2, sup_s, sup_s]; exact hs
    · rw [sup_k hi2, sup_k hi2]; exact l5 i (by omega)
/-- the class alone writes a step -/
theorem CW.step {L : Nat} {c : Nat → Nat} {σ : Store} (h : CW L c σ) (s : Int32) : ∃ σ', fX2_addStep s σ = some σ' ∧ CW L c σ' ∧ σ' 24 4 = σ 24 4 ∧ ∀ j, j ≠ 24 → j ≠ 25 → σ' j = σ j := by
  have h0 := h
  obtain ⟨t8, p, e, k, len, a1, a2, a3, a4, a5, a6, a7, a8⟩ := h
  unfold fX2_addStep
  rw [a8]
  by_cases hl : 96 ≤ len
  · rw [if_pos (show (96 : Int32) ≤ nI len from (nI_le hl (by omega) : nI 96 ≤ nI len))]
    exact ⟨σ, rfl, h0, rfl, fun _ _ _ => rfl⟩
  · rw [if_neg (show ¬ (96 : Int32) ≤ nI len from (nI_ge (show len < 96 by omega) (by omega) : ¬ nI 96 ≤ nI len)), six_e (by omega) (by omega), slt_e, slt_e, snx_e (by omega), sup_j (σ := σ) (by omega), a8, nI_1]
    exact ⟨_, rfl, ⟨⟨t8.1, by rw [sup_k (by omega), sup_j (by omega)]; exact t8.2.1, fun i hi => by rw [sup_j (by omega), sup_j (by omega)]; exact t8.2.2 i hi⟩, p, e, k, len + 1, by rw [sup_k (by omega), sup_j (by omega), a1], by rw [sup_k (by omega), sup_j (by omega), a2], by rw [sup_k (by omega), sup_j (by omega), a3], a4, a5, a6, by omega, sup_s⟩, by rw [sup_k (by omega), sup_j (by omega)], fun j x y => by rw [sup_o x, sup_o y]⟩
