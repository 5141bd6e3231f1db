/-! the levels -/
def Lev (L ky : Nat) (c : Nat → Nat) (b n : Nat) (rC rM : Store → Option Store) : Prop := ∀ σ τ p e k len sb, PS L ky c b n σ τ p e k len sb → len ≤ p → ∃ σ' τ', rC σ = some σ' ∧ rM τ = some τ' ∧ Post L ky c b n σ τ p len σ' τ'
theorem lev_up {L ky b n l : Nat} {c : Nat → Nat} (hl5 : l < 5) {rE : Int32 → Int32 → Int32 → Store → Option Store} {rM : Store → Option Store} {ML : Nat → Store → Option Store} (hML : MLp L ky c b n l rM ML) (ih : Lev L ky c b n (rE (nI l + 1) (nI b) (nI n)) rM) :
    Lev L ky c b n (fun σ => sbd (rE (nI l + 1) (nI b) (nI n) σ) fun s2 => fX2_expression_L37 rE (nI l) (nI b) (nI n) 96 FU 0 s2) (fun τ => sbd (rM τ) fun s1 => ML FU s1) := by
  intro σ τ p e k len sb h hl
  obtain ⟨σ1, τ1, a1, a2, a3, a4⟩ := ih σ τ p e k len sb h hl
  dsimp only
  rw [a1, a2, sbd_e, sbd_e]
  rcases a4 with a4 | ⟨p', e', k', len', sb', b1, b2, b3, b4, b5⟩
  · exact ⟨σ1, τ1, loop_x (f := 4999) a4, hML.1 4999 τ1 a4.2.2, a3, Or.inl a4⟩
  · have hL := b1.eL
    obtain ⟨σ', τ', d1, d2, d3, d4⟩ := op_loop hl5 hML ih (B := dpt (σ 25) len) 96 p' e' k' len' 0 FU FU sb' σ1 τ1 (by omega) (FU_gt (by omega)) (FU_gt (by omega)) (by omega) b1 (by omega) b5
    refine ⟨σ', τ', d1, d2, a3.tr d3, ?_⟩
    rcases d4 with d4 | ⟨p2, e2, k2, len2, sb2, g1, g2, g3, g4, g5⟩
    · exact Or.inl d4
    · exact Or.inr ⟨p2, e2, k2, len2, sb2, g1, by omega, by omega, b4.tr g4, g5⟩
theorem PS.cp {L ky b n p e k len : Nat} {c : Nat → Nat} {σ τ : Store} {sb : Bool} (h : PS L ky c b n σ τ p e k len sb) (hk : k = 3) : c p < 256 := by
  have := h.eL
  exact (h.1.1.2.2 p (by have := this.2.2.2.2.2 (by omega); omega)).2
theorem nI_lit {x m : Nat} (hx : x < 256) (hm : m < 256) : (nI x = nI m) ↔ x = m := ⟨fun z => nI_inj (by omega) (by omega) z, fun z => by rw [z]⟩
theorem dsg {k x m : Nat} (hx : k = 3 → x < 256) (hm : m < 256) : decide (k = 3 ∧ nI x = nI m) = decide (k = 3 ∧ x = m) := by
  by_cases hk : k = 3
  · rw [decide_eq_decide, nI_lit (hx hk) hm]
  · rw [decide_eq_false (fun z => hk z.1), decide_eq_false (fun z => hk z.1)]
theorem op_0 (x : Nat) : opc 0 x = if x = 124 then some (-20) else none := by unfold opc; simp
theorem op_1 (x : Nat) : opc 1 x = if x = 38 then some (-21) else none := by unfold opc; simp
theorem op_2 (x : Nat) : opc 2 x = if x = 60 then some (-22) else if x = 61 then some (-23) else if x = 62 then some (-24) else none := by unfold opc; simp
theorem op_3 (x : Nat) : opc 3 x = if x = 43 then some (-25) else if x = 45 then some (-26) else none := by unfold opc; simp
theorem op_4 (x : Nat) : opc 4 x = if x = 42 then some (-27) else if x = 47 then some (-28) else none := by unfold opc; simp
theorem ml_0 {L ky b n : Nat} {c : Nat → Nat} {rM : Store → Option Store} : MLp L ky c b n 0 rM (fX9_readOr_L4 rM) := by
  refine ⟨fun f τ h => by rw [fX9_readOr_L4, sign_x h, sbd_e, if_neg (by decide)], fun f σ τ p e k len sb h => ?_⟩
  rw [fX9_readOr_L4, h.sign9, sbd_e, show (124 : Int32) = nI 124 from rfl, dsg h.cp (by omega)]
  unfold ohere
  by_cases hk : k = 3
  · rw [if_pos hk, op_0]
    by_cases hx : c p = 124
    · rw [if_pos hx, if_pos (decide_eq_true ⟨hk, hx⟩)]
      dsimp only
      cases fX9_must true τ with
      | none => rfl
      | some s1 =>
        simp only [sbd_e]
        cases rM s1 <;> rfl
    · rw [if_neg hx, if_neg (fun z => hx (of_decide_eq_true z).2)]
  · rw [if_neg hk, if_neg (fun z => hk (of_decide_eq_true z).1)]
theorem ml_1 {L ky b n : Nat} {c : Nat → Nat} {rM : Store → Option Store} : MLp L ky c b n 1 rM (fX9_readAnd_L4 rM) := by
  refine ⟨fun f τ h => by rw [fX9_readAnd_L4, sign_x h, sbd_e, if_neg (by decide)], fun f σ τ p e k len sb h => ?_⟩
  rw [fX9_readAnd_L4, h.sign9, sbd_e, show (38 : Int32) = nI 38 from rfl, dsg h.cp (by omega)]
  unfold ohere
  by_cases hk : k = 3
  · rw [if_pos hk, op_1]
    by_cases hx : c p = 38
    · rw [if_pos hx, if_pos (decide_eq_true ⟨hk, hx⟩)]
      dsimp only
      cases fX9_must true τ with
      | none => rfl
      | some s1 =>
        simp only [sbd_e]
        cases rM s1 <;> rfl
    · rw [if_neg hx, if_neg (fun z => hx (of_decide_eq_true z).2)]
  · rw [if_neg hk, if_neg (fun z => hk (of_decide_eq_true z).1)]
theorem PS.at9 {L ky b n p e k len : Nat} {c : Nat → Nat} {σ τ : Store} {sb : Bool} (h : PS L ky c b n σ τ p e k len sb) (hk : k = 3) : τ 0 9 = nI p ∧ p < 96 ∧ τ 5 p = nI (c p) := by
  obtain ⟨z1, z2, z3, z4, z5, z6⟩ := h.eL
  have := z6 (by omega)
  exact ⟨h.2.2.2.1.2.1, by omega, (h.1.2.2.2 p (by omega)).1⟩
theorem ml_3 {L ky b n : Nat} {c : Nat → Nat} {rM : Store → Option Store} : MLp L ky c b n 3 rM (fX9_readSum_L4 rM) := by
  refine ⟨fun f τ h => by rw [fX9_readSum_L4, sign_x h, sbd_e, sjn_e, if_neg (by decide), sign_x h, sbd_e, if_neg (by decide)], fun f σ τ p e k len sb h => ?_⟩
  rw [fX9_readSum_L4, h.sign9, sbd_e, sjn_e, h.sign9, sbd_e, show (43 : Int32) = nI 43 from rfl, show (45 : Int32) = nI 45 from rfl, dsg h.cp (by omega), dsg h.cp (by omega)]
  unfold ohere
  by_cases hk : k = 3
  · obtain ⟨g1, g2, g3⟩ := h.at9 hk
    have hcp := h.cp hk
    rw [if_pos hk, op_3]
    by_cases hx : c p = 43
    · rw [if_pos hx, if_pos (decide_eq_true ⟨hk, hx⟩)]
      dsimp only
      rw [g1, six_e (by omega) (by omega), sjn_e, snx_e (by omega), g3, hx, if_neg (fun z => z rfl)]
      cases fX9_must true τ with
      | none => rfl
      | some s1 =>
        simp only [sbd_e]
        cases rM s1 <;> rfl
    · rw [if_neg hx, if_neg (fun z => hx (of_decide_eq_true z).2)]
      by_cases hy : c p = 45
      · rw [if_pos hy, if_pos (decide_eq_true ⟨hk, hy⟩)]
        dsimp only
        rw [g1, six_e (by omega) (by omega), sjn_e, snx_e (by omega), g3, hy, if_pos (by decide)]
        cases fX9_must true τ with
        | none => rfl
        | some s1 =>
          simp only [sbd_e]
          cases rM s1 <;> rfl
      · rw [if_neg hy, if_neg (fun z => hy (of_decide_eq_true z).2)]
  · rw [if_neg hk, if_neg (fun z => hk (of_decide_eq_true z).1), if_neg (fun z => hk (of_decide_eq_true z).1)]
theorem ml_4 {L ky b n : Nat} {c : Nat → Nat} {rM : Store → Option Store} : MLp L ky c b n 4 rM (fX9_readTerm_L4 rM) := by
  refine ⟨fun f τ h => by rw [fX9_readTerm_L4, sign_x h, sbd_e, sjn_e, if_neg (by decide), sign_x h, sbd_e, if_neg (by decide)], fun f σ τ p e k len sb h => ?_⟩
  rw [fX9_readTerm_L4, h.sign9, sbd_e, sjn_e, h.sign9, sbd_e, show (42 : Int32) = nI 42 from rfl, show (47 : Int32) = nI 47 from rfl, dsg h.cp (by omega), dsg h.cp (by omega)]
  unfold ohere
  by_cases hk : k = 3
  · obtain ⟨g1, g2, g3⟩ := h.at9 hk
    have hcp := h.cp hk
    rw [if_pos hk, op_4]
    by_cases hx : c p = 42
    · rw [if_pos hx, if_pos (decide_eq_true ⟨hk, hx⟩)]
      dsimp only
      rw [g1, six_e (by omega) (by omega), sjn_e, snx_e (by omega), g3, hx, if_neg (fun z => z rfl)]
      cases fX9_must true τ with
      | none => rfl
      | some s1 =>
        simp only [sbd_e]
        cases rM s1 <;> rfl
    · rw [if_neg hx, if_neg (fun z => hx (of_decide_eq_true z).2)]
      by_cases hy : c p = 47
      · rw [if_pos hy, if_pos (decide_eq_true ⟨hk, hy⟩)]
        dsimp only
        rw [g1, six_e (by omega) (by omega), sjn_e, snx_e (by omega), g3, hy, if_pos (by decide)]
        cases fX9_must true τ with
        | none => rfl
        | some s1 =>
          simp only [sbd_e]
          cases rM s1 <;> rfl
      · rw [if_neg hy, if_neg (fun z => hy (of_decide_eq_true z).2)]
  · rw [if_neg hk, if_neg (fun z => hk (of_decide_eq_true z).1), if_neg (fun z => hk (of_decide_eq_true z).1)]
/-- the test level: one operator at most -/
def tst (rS : Store → Option Store) (s1 : Store) : Option Store := (sbd (fX9_isSign (60 : Int32) s1) fun r2 => (sjn (fun k31 : Unit → Option Store => (if r2 = true then (k31 ()) else (sbd (fX9_isSign (61 : Int32) s1) fun r19 => (if r19 = true then (k31 ()) else (sbd (fX9_isSign (62 : Int32) s1) fun r21 => (if r21 = true then (k31 ()) else (some s1))))))) (fun (_u : Unit) => (six 96 (s1 0 9) (sjn (fun k71 : Int32 → Option Store => (if ¬ (s1 5 (snx (s1 0 9))) = (60 : Int32) then (six 96 (s1 0 9) (if ¬ (s1 5 (snx (s1 0 9))) = (61 : Int32) then (k71 (-24 : Int32)) else (k71 (-23 : Int32)))) else (k71 (-22 : Int32)))) (fun (z0_71 : Int32) => (sbd (fX9_must true s1) fun s12 => (sbd (rS s12) fun s13 => (sbd (fX9_step z0_71 s13) fun s14 => (some s14))))))))))
theorem some_e {x : Option Store} : (sbd x fun s => some s) = x := by cases x <;> rfl
theorem tst_x {rS : Store → Option Store} {τ : Store} (h : ¬ τ 0 12 = 0) : tst rS τ = some τ := by
  unfold tst
  rw [sign_x h, sbd_e, sjn_e, if_neg (by decide), sign_x h, sbd_e, if_neg (by decide), sign_x h, sbd_e, if_neg (by decide)]
theorem tst_e {L ky b n p e k len : Nat} {c : Nat → Nat} {σ τ : Store} {sb : Bool} (h : PS L ky c b n σ τ p e k len sb) {rS : Store → Option Store} : tst rS τ = match ohere 2 k (c p) with
    | none => some τ
    | some m => sbd (fX9_must true τ) fun s34 => (sbd (rS s34) fun s35 => fX9_step m s35) := by
  unfold tst
  rw [h.sign9, sbd_e, sjn_e, h.sign9, sbd_e, h.sign9, sbd_e, show (60 : Int32) = nI 60 from rfl, show (61 : Int32) = nI 61 from rfl, show (62 : Int32) = nI 62 from rfl, dsg h.cp (by omega), dsg h.cp (by omega), dsg h.cp (by omega)]
  unfold ohere
  by_cases hk : k = 3
  · obtain ⟨g1, g2, g3⟩ := h.at9 hk
    have hcp := h.cp hk
    rw [if_pos hk, op_2]
    by_cases hx : c p = 60
    · rw [if_pos hx, if_pos (decide_eq_true ⟨hk, hx⟩)]
      dsimp only
      simp only [some_e]
      rw [g1, six_e (by omega) (by omega), sjn_e, snx_e (by omega), g3, hx, if_neg (fun z => z rfl)]
    · rw [if_neg hx, if_neg (fun z => hx (of_decide_eq_true z).2)]
      have hxn : ¬ nI (c p) = nI 60 := fun z => hx ((nI_lit hcp (by omega)).mp z)
      by_cases hy : c p = 61
      · rw [if_pos hy, if_pos (decide_eq_true ⟨hk, hy⟩)]
        dsimp only
        simp only [some_e]
        rw [g1, six_e (by omega) (by omega), sjn_e, snx_e (by omega), g3, if_pos hxn, six_e (by omega) (by omega), hy, if_neg (fun z => z rfl)]
      · rw [if_neg hy, if_neg (fun z => hy (of_decide_eq_true z).2)]
        have hyn : ¬ nI (c p) = nI 61 := fun z => hy ((nI_lit hcp (by omega)).mp z)
        by_cases hz : c p = 62
        · rw [if_pos hz, if_pos (decide_eq_true ⟨hk, hz⟩)]
          dsimp only
          simp only [some_e]
          rw [g1, six_e (by omega) (by omega), sjn_e, snx_e (by omega), g3, if_pos hxn, six_e (by omega) (by omega), if_pos hyn]
        · rw [if_neg hz, if_neg (fun z => hz (of_decide_eq_true z).2)]
  · rw [if_neg hk, if_neg (fun z => hk (of_decide_eq_true z).1), if_neg (fun z => hk (of_decide_eq_true z).1), if_neg (fun z => hk (of_decide_eq_true z).1)]
theorem lev_2 {L ky b n : Nat} {c : Nat → Nat} {rE : Int32 → Int32 → Int32 → Store → Option Store} {rM : Store → Option Store} (ih : Lev L ky c b n (rE (nI 2 + 1) (nI b) (nI n)) rM) :
    Lev L ky c b n (fun σ => sbd (rE (nI 2 + 1) (nI b) (nI n) σ) fun s2 => fX2_expression_L37 rE (nI 2) (nI b) (nI n) 1 FU 0 s2) (fun τ => sbd (rM τ) fun s1 => tst rM s1) := by
  intro σ τ p e k len sb h hl
  obtain ⟨σ1, τ1, a1, a2, a3, a4⟩ := ih σ τ p e k len sb h hl
  dsimp only
  rw [a1, a2, sbd_e, sbd_e]
  rcases a4 with a4 | ⟨p', e', k', len', sb', b1, b2, b3, b4, b5⟩
  · exact ⟨σ1, τ1, loop_x (f := 4999) a4, tst_x a4.2.2, a3, Or.inl a4⟩
  · have hL := b1.eL
    rw [tst_e b1, show FU = 4999 + 1 from rfl, head8 b1 (l := 2) (by omega) (by decide)]
    cases ho : ohere 2 k' (c p') with
    | none => exact ⟨σ1, τ1, rfl, rfl, a3, Or.inr ⟨p', e', k', len', sb', b1, b2, b3, b4, b5⟩⟩
    | some mm =>
      have hk : k' = 3 := by
        unfold ohere at ho
        by_cases hk : k' = 3
        · exact hk
        · rw [if_neg hk] at ho; cases ho
      subst hk
      have ho2 : opc 2 (c p') = some mm := by
        unfold ohere at ho
        rw [if_pos rfl] at ho; exact ho
      have htab := opc_tab 2 (by omega) (c p') (b1.cp rfl)
      rw [ho2] at htab
      have hop : (-nI (c p'), mm) ∈ opL := of_decide_eq_true (show decide ((-nI (c p'), mm) ∈ opL) = true from htab)
      obtain ⟨σ3, τ3, c1, c2, c3, c4⟩ := op_step (rC := fun s28 => rE (nI 2 + 1) (nI b) (nI n) s28) (rM := rM) (s := -nI (c p')) (m := mm) ih b1 (by omega) b5 hop
      dsimp only
      rw [c1, c2, sbd_e, show (4999 : Nat) = 4998 + 1 from rfl, fX2_expression_L37, if_pos (by decide)]
      refine ⟨σ3, τ3, rfl, rfl, a3.tr c3, ?_⟩
      rcases c4 with d4 | ⟨p2, e2, k2, len2, sb2, g1, g2, g3, g4, g5⟩
      · exact Or.inl d4
      · exact Or.inr ⟨p2, e2, k2, len2, sb2, g1, by omega, by omega, b4.tr g4, g5⟩
