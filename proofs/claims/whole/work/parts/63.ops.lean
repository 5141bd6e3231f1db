/-! one operator, and rows of operators -/
theorem op_lt : ∀ q, q ∈ opL → q.1 < (-4 : Int32) := by decide
theorem PS.eL {L ky b n p e k len : Nat} {c : Nat → Nat} {σ τ : Store} {sb : Bool} (h : PS L ky c b n σ τ p e k len sb) : p ≤ e ∧ e ≤ 96 ∧ e ≤ L ∧ L ≤ 96 ∧ len ≤ 96 ∧ (k ≠ 0 → p < e) := ⟨h.2.2.2.2.1.1, Nat.le_trans h.2.2.2.2.1.2.1 h.1.1.1, h.2.2.2.2.1.2.1, h.1.1.1, h.2.2.2.2.2.1.1, h.2.2.2.2.1.2.2.2.1⟩
theorem PS.sb3 {L ky b n p e len : Nat} {c : Nat → Nat} {σ τ : Store} {sb : Bool} (h : PS L ky c b n σ τ p e 3 len sb) : sb = false := by
  cases sb with
  | false => rfl
  | true => have := h.2.2.2.2.1.2.2.2.2.2 rfl; cases this
theorem op_step {L ky b n p e len B : Nat} {c : Nat → Nat} {σ τ : Store} {sb : Bool} {rC rM : Store → Option Store} {s m : Int32}
    (ih : ∀ σ τ p e k len sb, PS L ky c b n σ τ p e k len sb → len ≤ p → ∃ σ' τ', rC σ = some σ' ∧ rM τ = some τ' ∧ Post L ky c b n σ τ p len σ' τ')
    (h : PS L ky c b n σ τ p e 3 len sb) (hl : len ≤ p) (hB : dpt (σ 25) len = B + 1) (hop : (s, m) ∈ opL) :
    ∃ σ3 τ3, (sbd (fX2_advance σ) fun s28 => (sbd (rC s28) fun s29 => fX2_addStep s s29)) = some σ3 ∧ (sbd (fX9_must true τ) fun s34 => (sbd (rM s34) fun s35 => fX9_step m s35)) = some τ3 ∧ FP σ τ σ3 τ3 ∧
      (PF L c σ3 τ3 ∨ ∃ p' e' k' len' sb', PS L ky c b n σ3 τ3 p' e' k' len' sb' ∧ p < p' ∧ len' + p ≤ len + p' ∧ GS (σ 25) (σ3 25) len len' B ∧ dpt (σ3 25) len' = B + 1) := by
  have hsb := h.sb3
  subst hsb
  obtain ⟨z1, z2, z3, z4, z5, z6⟩ := h.eL
  obtain ⟨σ1, τ1, p1, e1, k1, sb1, a1, a2, a3, a4, a5, a6⟩ := h.adv
  have zz := z6 (by omega)
  obtain ⟨σ2, τ2, b1, b2, b3, b4⟩ := ih σ1 τ1 p1 e1 k1 len sb1 a3 (by omega)
  rw [a1, sbd_e, b1, sbd_e, must_t h.2.2.1.2, a2, sbd_e, b2, sbd_e]
  rcases b4 with b4 | ⟨p', e', k', len', sb', d1, d2, d3, d4, d5⟩
  · obtain ⟨q1, q2, q3⟩ := b4
    obtain ⟨σ3, f1, f2, f3, f4⟩ := q1.step s
    exact ⟨σ3, τ2, f1, step_x q3 m, ⟨fun j x y => by rw [f4 j x y, b3.1 j x y, a6.1 j x y], (a6.tr b3).2⟩, Or.inl ⟨f2, by rw [f3]; exact q2, q3⟩⟩
  · obtain ⟨y1, y2, y3, y4, y5, y6⟩ := d1.eL
    rw [a5] at d4 d5
    rw [hB] at d4 d5
    obtain ⟨σ3, τ3, f1, f2, f3, f4, f5, f6⟩ := d1.step (s := s) (m := m) (by omega) (Or.inr (Or.inr (Or.inr hop)))
    have hlt := op_lt _ hop
    have hlt : s < -4 := hlt
    have hlti := (fa_lt _ _).mp hlt
    have e4 : (-4 : Int32).toInt = -4 := rfl
    have e3 : (-3 : Int32).toInt = -3 := rfl
    have hdp : dpt (σ3 25) len' = B + 1 + 1 := by rw [dpt_cong (s := σ2 25) (s' := σ3 25) f5, d5]
    refine ⟨σ3, τ3, f1, f2, (a6.tr b3).tr f4, Or.inr ⟨p', e', k', len' + 1, sb', f3, by omega, by omega, ?_, ?_⟩⟩
    · refine GS.tr (d4.mono (by omega)) ⟨by omega, f5, fun i h1 h2 => ?_⟩
      obtain rfl : i = len' := by omega
      rw [f6, hdp]
      exact ⟨fun _ => by omega, fun _ => by omega⟩
    · have : dpt (σ3 25) (len' + 1) = if -3 ≤ σ3 25 len' then dpt (σ3 25) len' + 1 else if σ3 25 len' = -4 then dpt (σ3 25) len' else dpt (σ3 25) len' - 1 := rfl
      rw [this, f6, if_neg (fun z => by have := (fa_le _ _).mp z; omega), if_neg (fun z => by rw [z] at hlti; omega), hdp]; rfl
theorem loop_x {L : Nat} {c : Nat → Nat} {σ τ : Store} (h : PF L c σ τ) {rE : Int32 → Int32 → Int32 → Store → Option Store} {v1 v2 v3 v4 i : Int32} {f : Nat} : fX2_expression_L37 rE v1 v2 v3 v4 (f + 1) i σ = some σ := by
  obtain ⟨-, ⟨q, q1, q2, q3⟩, -⟩ := h
  rw [fX2_expression_L37, q2]
  by_cases hi : v4 ≤ i
  · rw [if_pos hi]
  · rw [if_neg hi, if_pos (Int32.not_lt.mp (nI_n0 (by omega)))]
/-- the operators of a level, by their signs -/
def opc (l x : Nat) : Option Int32 := if l = 0 ∧ x = 124 then some (-20) else if l = 1 ∧ x = 38 then some (-21) else if l = 2 ∧ x = 60 then some (-22) else if l = 2 ∧ x = 61 then some (-23) else if l = 2 ∧ x = 62 then some (-24) else if l = 3 ∧ x = 43 then some (-25) else if l = 3 ∧ x = 45 then some (-26) else if l = 4 ∧ x = 42 then some (-27) else if l = 4 ∧ x = 47 then some (-28) else none
theorem opc_tab : ∀ l, l < 5 → ∀ x, x < 256 → ((opc l x).all fun m => decide ((-nI x, m) ∈ opL)) = true := by decide +kernel
def levN (r : Int32) : Int32 := (fX2_levelOf r (fun _ _ => 0)).getD 99
theorem lev_e (r : Int32) (σ : Store) : fX2_levelOf r σ = some (levN r) := by
  have e : fX2_levelOf r (fun _ _ => 0) = fX2_levelOf r σ := rfl
  unfold levN
  rw [e]
  cases hx : fX2_levelOf r σ with
  | some v => rfl
  | none =>
    exfalso
    unfold fX2_levelOf at hx
    by_cases h1 : r = 38
    · rw [if_pos h1] at hx; cases hx
    rw [if_neg h1] at hx
    by_cases h2 : r = 42
    · rw [if_pos h2] at hx; cases hx
    rw [if_neg h2] at hx
    by_cases h3 : r = 43
    · rw [if_pos h3] at hx; cases hx
    rw [if_neg h3] at hx
    by_cases h4 : r = 45
    · rw [if_pos h4] at hx; cases hx
    rw [if_neg h4] at hx
    by_cases h5 : r = 47
    · rw [if_pos h5] at hx; cases hx
    rw [if_neg h5] at hx
    by_cases h6 : r = 60
    · rw [if_pos h6] at hx; cases hx
    rw [if_neg h6] at hx
    by_cases h7 : r = 61
    · rw [if_pos h7] at hx; cases hx
    rw [if_neg h7] at hx
    by_cases h8 : r = 62
    · rw [if_pos h8] at hx; cases hx
    rw [if_neg h8] at hx
    by_cases h9 : r = 124
    · rw [if_pos h9] at hx; cases hx
    rw [if_neg h9] at hx; cases hx
theorem lev_tab : ∀ l, l < 5 → ∀ x, x < 256 → ((levN (nI x) = nI l) ↔ (opc l x).isSome = true) := by decide +kernel
theorem lev_0 : ∀ l, l < 5 → ¬ levN 0 = nI l := by decide +kernel
/-- which operator stands here -/
def ohere (l k x : Nat) : Option Int32 := if k = 3 then opc l x else none
theorem head8 {L ky b n p e k len : Nat} {c : Nat → Nat} {σ τ : Store} {sb : Bool} (h : PS L ky c b n σ τ p e k len sb) {l : Nat} (hl : l < 5) {rE : Int32 → Int32 → Int32 → Store → Option Store} {v2 v3 v4 : Int32} {f : Nat} {i : Int32} (hi : ¬ v4 ≤ i) : fX2_expression_L37 rE (nI l) v2 v3 v4 (f + 1) i σ = match ohere l k (c p) with
    | none => some σ
    | some _ => sbd (sbd (fX2_advance σ) fun s28 => (sbd (rE (nI l + 1) v2 v3 s28) fun s29 => fX2_addStep (-nI (c p)) s29)) fun s30 => fX2_expression_L37 rE (nI l) v2 v3 v4 f (i + 1) s30 := by
  have ht := h.1.1
  obtain ⟨z1, z2, z3, z4, z5, z6⟩ := h.eL
  rw [fX2_expression_L37, if_neg hi, h.2.2.1.1, if_neg (by decide), h.sign8, sbd_e, lev_e, sbd_e]
  unfold ohere
  by_cases hk : k = 3
  · have hc := (ht.2.2 p (by have := z6 (by omega); omega)).2
    rw [if_pos hk, if_pos hk]
    have hv := lev_tab l hl (c p) hc
    cases ho : opc l (c p) with
    | none =>
      rw [ho] at hv
      rw [if_pos (fun z => by have := hv.mp z; cases this)]
    | some m =>
      rw [ho] at hv
      rw [if_neg (fun z => z (hv.mpr rfl)), sbd_e]
      cases fX2_advance σ with
      | none => rfl
      | some s28 =>
        simp only [sbd_e]
        cases rE (nI l + 1) v2 v3 s28 with
        | none => rfl
        | some s29 => rfl
  · rw [if_neg hk, if_neg hk, if_pos (lev_0 l hl)]

/-- the model's row of operators, as the class's is asked -/
def MLp (L ky : Nat) (c : Nat → Nat) (b n l : Nat) (rM : Store → Option Store) (ML : Nat → Store → Option Store) : Prop :=
  (∀ f τ, ¬ τ 0 12 = 0 → ML (f + 1) τ = some τ) ∧ ∀ f σ τ p e k len sb, PS L ky c b n σ τ p e k len sb → ML (f + 1) τ = match ohere l k (c p) with
    | none => some τ
    | some m => sbd (sbd (fX9_must true τ) fun s34 => (sbd (rM s34) fun s35 => fX9_step m s35)) fun s36 => ML f s36
theorem op_loop {L ky b n l : Nat} {c : Nat → Nat} (hl5 : l < 5) {rE : Int32 → Int32 → Int32 → Store → Option Store} {rM : Store → Option Store} {ML : Nat → Store → Option Store} (hML : MLp L ky c b n l rM ML)
    (ih : ∀ σ τ p e k len sb, PS L ky c b n σ τ p e k len sb → len ≤ p → ∃ σ' τ', rE (nI l + 1) (nI b) (nI n) σ = some σ' ∧ rM τ = some τ' ∧ Post L ky c b n σ τ p len σ' τ') {B : Nat} :
    ∀ (m p e k len i f f2 : Nat) (sb : Bool) (σ τ : Store), L ≤ p + m → m < f → m < f2 → i ≤ p → PS L ky c b n σ τ p e k len sb → len ≤ p → dpt (σ 25) len = B + 1 →
    ∃ σ' τ', fX2_expression_L37 rE (nI l) (nI b) (nI n) 96 f (nI i) σ = some σ' ∧ ML f2 τ = some τ' ∧ FP σ τ σ' τ' ∧ (PF L c σ' τ' ∨ ∃ p' e' k' len' sb', PS L ky c b n σ' τ' p' e' k' len' sb' ∧ p ≤ p' ∧ len' + p ≤ len + p' ∧ GS (σ 25) (σ' 25) len len' B ∧ dpt (σ' 25) len' = B + 1) := by
  intro m
  induction m with
  | zero =>
    intro p e k len i f f2 sb σ τ hm hf hf2 hi h hl hB
    obtain ⟨f, rfl⟩ : ∃ k, f = k + 1 := ⟨f - 1, by omega⟩
    obtain ⟨f2, rfl⟩ : ∃ k, f2 = k + 1 := ⟨f2 - 1, by omega⟩
    obtain ⟨z1, z2, z3, z4, z5, z6⟩ := h.eL
    have hk : k = 0 := by
      by_cases hk : k = 0
      · exact hk
      · have := z6 hk; omega
    have ho : ohere l k (c p) = none := by unfold ohere; rw [if_neg (by omega)]
    refine ⟨σ, τ, ?_, ?_, FP.rf, Or.inr ⟨p, e, k, len, sb, h, Nat.le_refl _, Nat.le_refl _, GS.rf, hB⟩⟩
    · by_cases hc : (96 : Int32) ≤ nI i
      · rw [fX2_expression_L37, if_pos hc]
      · rw [head8 h hl5 hc, ho]
    · rw [hML.2 f2 σ τ p e k len sb h, ho]
  | succ m im =>
    intro p e k len i f f2 sb σ τ hm hf hf2 hi h hl hB
    obtain ⟨f, rfl⟩ : ∃ k, f = k + 1 := ⟨f - 1, by omega⟩
    obtain ⟨f2, rfl⟩ : ∃ k, f2 = k + 1 := ⟨f2 - 1, by omega⟩
    obtain ⟨z1, z2, z3, z4, z5, z6⟩ := h.eL
    cases ho : ohere l k (c p) with
    | none =>
      refine ⟨σ, τ, ?_, ?_, FP.rf, Or.inr ⟨p, e, k, len, sb, h, Nat.le_refl _, Nat.le_refl _, GS.rf, hB⟩⟩
      · by_cases hc : (96 : Int32) ≤ nI i
        · rw [fX2_expression_L37, if_pos hc]
        · rw [head8 h hl5 hc, ho]
      · rw [hML.2 f2 σ τ p e k len sb h, ho]
    | some mm =>
      have hk : k = 3 := by
        unfold ohere at ho
        by_cases hk : k = 3
        · exact hk
        · rw [if_neg hk] at ho; cases ho
      subst hk
      have hpe := z6 (by omega)
      have ho2 : opc l (c p) = some mm := by
        unfold ohere at ho
        rw [if_pos rfl] at ho; exact ho
      have htab := opc_tab l hl5 (c p) (h.1.1.2.2 p (by omega)).2
      rw [ho2] at htab
      have hop : (-nI (c p), mm) ∈ opL := of_decide_eq_true (show decide ((-nI (c p), mm) ∈ opL) = true from htab)
      have hc : ¬ (96 : Int32) ≤ nI i := (nI_ge (show i < 96 by omega) (by omega) : ¬ nI 96 ≤ nI i)
      obtain ⟨σ3, τ3, a1, a2, a3, a4⟩ := op_step (rC := fun s28 => rE (nI l + 1) (nI b) (nI n) s28) (rM := rM) (s := -nI (c p)) (m := mm) ih h hl hB hop
      rw [head8 h hl5 hc, ho, hML.2 f2 σ τ p e 3 len sb h, ho]
      show ∃ σ' τ', (sbd (sbd (fX2_advance σ) fun s28 => (sbd (rE (nI l + 1) (nI b) (nI n) s28) fun s29 => fX2_addStep (-nI (c p)) s29)) fun s30 => fX2_expression_L37 rE (nI l) (nI b) (nI n) 96 f (nI i + 1) s30) = some σ' ∧ (sbd (sbd (fX9_must true τ) fun s34 => (sbd (rM s34) fun s35 => fX9_step mm s35)) fun s36 => ML f2 s36) = some τ' ∧ _
      rw [a1, a2, sbd_e, sbd_e, nI_1]
      rcases a4 with a4 | ⟨p', e', k', len', sb', b1, b2, b3, b4, b5⟩
      · obtain ⟨f, rfl⟩ : ∃ k, f = k + 1 := ⟨f - 1, by omega⟩
        obtain ⟨f2, rfl⟩ : ∃ k, f2 = k + 1 := ⟨f2 - 1, by omega⟩
        exact ⟨σ3, τ3, loop_x a4, hML.1 f2 τ3 a4.2.2, a3, Or.inl a4⟩
      · obtain ⟨σ', τ', d1, d2, d3, d4⟩ := im p' e' k' len' (i + 1) f f2 sb' σ3 τ3 (by omega) (by omega) (by omega) (by omega) b1 (by omega) b5
        refine ⟨σ', τ', d1, d2, a3.tr d3, ?_⟩
        rcases d4 with d4 | ⟨p2, e2, k2, len2, sb2, g1, g2, g3, g4, g5⟩
        · exact Or.inl d4
        · exact Or.inr ⟨p2, e2, k2, len2, sb2, g1, by omega, by omega, b4.tr g4, g5⟩
