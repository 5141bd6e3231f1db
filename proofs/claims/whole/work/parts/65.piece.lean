/-! a piece: not, brackets, a leaf -/
def rdK (d : Nat) : Nat → Store → Option Store
  | 0 => (fX9_knot d).1
  | 1 => (fX9_knot d).2.1
  | 2 => (fX9_knot d).2.2.1
  | 3 => (fX9_knot d).2.2.2.1
  | 4 => (fX9_knot d).2.2.2.2.1
  | _ => (fX9_knot d).2.2.2.2.2
theorem rd0 (d : Nat) (τ : Store) : rdK (d + 1) 0 τ = sbd (rdK d 1 τ) fun s1 => fX9_readOr_L4 (rdK d 1) FU s1 := rfl
theorem rd1 (d : Nat) (τ : Store) : rdK (d + 1) 1 τ = sbd (rdK d 2 τ) fun s1 => fX9_readAnd_L4 (rdK d 2) FU s1 := rfl
theorem rd2 (d : Nat) (τ : Store) : rdK (d + 1) 2 τ = sbd (rdK d 3 τ) fun s1 => tst (rdK d 3) s1 := rfl
theorem rd3 (d : Nat) (τ : Store) : rdK (d + 1) 3 τ = sbd (rdK d 4 τ) fun s1 => fX9_readSum_L4 (rdK d 4) FU s1 := rfl
theorem rd4 (d : Nat) (τ : Store) : rdK (d + 1) 4 τ = sbd (rdK d 5 τ) fun s1 => fX9_readTerm_L4 (rdK d 5) FU s1 := rfl
theorem rd5 (d : Nat) (τ : Store) : rdK (d + 1) 5 τ = fX9_readPiece_B (rdK d 0) (rdK d 1) (rdK d 2) (rdK d 3) (rdK d 4) (rdK d 5) τ := rfl
def lfx (τ : Store) : Store := sup (sup τ 0 16 (τ 0 16 + 1)) 0 12 1
def XS (ky : Nat) (τ : Store) : Prop := ky < 3 ∧ ¬ τ 0 12 = 0 ∧ τ 0 11 = nI 3 ∧ τ 0 13 = nI ky
theorem XS.up {ky : Nat} {τ : Store} (h : XS ky τ) {f : Nat} {x : Int32} (hf : f = 14 ∨ f = 15) : XS ky (sup τ 0 f x) := ⟨h.1, by rw [sup_k (by omega)]; exact h.2.1, by rw [sup_k (by omega)]; exact h.2.2.1, by rw [sup_k (by omega)]; exact h.2.2.2⟩
theorem lfx_12 {τ : Store} : ¬ lfx τ 0 12 = 0 := by unfold lfx; rw [sup_s]; decide
theorem leaf_x {ky : Nat} {τ : Store} (h : XS ky τ) : fX9_readLeaf τ = some (lfx τ) := by
  obtain ⟨k1, h12, h11, h13⟩ := h
  have m9 : fX9_readLeaf τ = (sjn (fun k59 : Int32 → Option Store => (if ¬ (τ 0 11) = (2 : Int32) then (k59 (-1 : Int32)) else (if (4 : Int32) < ((τ 0 10) - (τ 0 9)) then (k59 (-1 : Int32)) else (slt (τ 0 9) fun x55 => (fX9_readLeaf_L30 τ (fun x65 x66 => (k59 x65)) FU (0 : Int32) x55))))) (fun (y1_59 : Int32) => (fX9_readLeaf_L63 τ (fun x42 x43 => lf9 τ y1_59 x42) FU (-1 : Int32) (0 : Int32)))) := rfl
  rw [m9, sjn_e, if_pos (by rw [h11]; decide)]
  dsimp only
  rw [l63_no k1 h13 (Or.inl (by rw [h11]; decide))]
  unfold lf9
  rw [slt_e, sjn_e, if_neg (by decide), if_pos (by decide)]
  dsimp only
  rw [must_x (by rw [sup_k (by omega)]; exact h12), sbd_e, sjn_e, if_pos (by decide)]
  dsimp only
  rw [step_x (by rw [sup_s]; decide), sbd_e]; rfl
theorem read_x5 {ky d : Nat} {τ : Store} (h : XS ky τ) : rdK (d + 1) 5 τ = some (lfx τ) := by
  rw [rd5]
  unfold fX9_readPiece_B
  rw [sign_x h.2.1, sbd_e, if_neg (by decide), sign_x h.2.1, sbd_e, if_neg (by decide), leaf_x h, sbd_e]
theorem read_x0 {ky d : Nat} {τ : Store} (h : XS ky τ) : rdK (d + 6) 0 τ = some (lfx τ) := by
  have e4 : rdK (d + 2) 4 τ = some (lfx τ) := by
    rw [show d + 2 = (d + 1) + 1 from rfl, rd4, read_x5 h, sbd_e]
    exact (ml_4 (L := 0) (ky := 0) (b := 0) (n := 0) (c := fun _ => 0)).1 4999 _ lfx_12
  have e3 : rdK (d + 3) 3 τ = some (lfx τ) := by
    rw [show d + 3 = (d + 2) + 1 from rfl, rd3, e4, sbd_e]
    exact (ml_3 (L := 0) (ky := 0) (b := 0) (n := 0) (c := fun _ => 0)).1 4999 _ lfx_12
  have e2 : rdK (d + 4) 2 τ = some (lfx τ) := by
    rw [show d + 4 = (d + 3) + 1 from rfl, rd2, e3, sbd_e]
    exact tst_x lfx_12
  have e1 : rdK (d + 5) 1 τ = some (lfx τ) := by
    rw [show d + 5 = (d + 4) + 1 from rfl, rd1, e2, sbd_e]
    exact (ml_1 (L := 0) (ky := 0) (b := 0) (n := 0) (c := fun _ => 0)).1 4999 _ lfx_12
  rw [show d + 6 = (d + 5) + 1 from rfl, rd0, e1, sbd_e]
  exact (ml_0 (L := 0) (ky := 0) (b := 0) (n := 0) (c := fun _ => 0)).1 4999 _ lfx_12
theorem PS.neg {L ky b n p e k len : Nat} {c : Nat → Nat} {σ τ : Store} {sb : Bool} (h : PS L ky c b n σ τ p e k len sb) (n' : Nat) : PS L ky c b n' σ (sup τ 0 15 (nI n')) p e k len sb := by
  obtain ⟨⟨t8, t9⟩, ⟨k1, k2, k3⟩, ⟨f1, f2⟩, ⟨a1, a2, a3, a4, a5, a6, a7⟩, hb, ⟨l1, l2, l3, l4, l5⟩, ⟨d1, d2⟩⟩ := h
  exact ⟨⟨t8, t9.up (by omega)⟩, ⟨k1, k2, by rw [sup_k (by omega), k3]⟩, ⟨f1, by rw [sup_k (by omega), f2]⟩, ⟨a1, by rw [sup_k (by omega), a2], a3, by rw [sup_k (by omega), a4], a5, a6, by rw [sup_k (by omega), a7]⟩, hb, ⟨l1, l2, by rw [sup_k (by omega), l3], by rw [sup_k (by omega), l4], fun i hi => by rw [sup_j (by omega)]; exact l5 i hi⟩, ⟨by rw [sup_k (by omega), d1], by rw [sup_s]⟩⟩
theorem PS.brk {L ky b n p e k len : Nat} {c : Nat → Nat} {σ τ : Store} {sb : Bool} (h : PS L ky c b n σ τ p e k len sb) (b' : Nat) : PS L ky c b' n σ (sup τ 0 14 (nI b')) p e k len sb := by
  obtain ⟨⟨t8, t9⟩, ⟨k1, k2, k3⟩, ⟨f1, f2⟩, ⟨a1, a2, a3, a4, a5, a6, a7⟩, hb, ⟨l1, l2, l3, l4, l5⟩, ⟨d1, d2⟩⟩ := h
  exact ⟨⟨t8, t9.up (by omega)⟩, ⟨k1, k2, by rw [sup_k (by omega), k3]⟩, ⟨f1, by rw [sup_k (by omega), f2]⟩, ⟨a1, by rw [sup_k (by omega), a2], a3, by rw [sup_k (by omega), a4], a5, a6, by rw [sup_k (by omega), a7]⟩, hb, ⟨l1, l2, by rw [sup_k (by omega), l3], by rw [sup_k (by omega), l4], fun i hi => by rw [sup_j (by omega)]; exact l5 i hi⟩, ⟨by rw [sup_s], by rw [sup_k (by omega), d2]⟩⟩
theorem PF.up {L : Nat} {c : Nat → Nat} {σ τ : Store} (h : PF L c σ τ) {f : Nat} {x : Int32} (hf : f = 14 ∨ f = 15) : PF L c σ (sup τ 0 f x) := by
  obtain ⟨a, ⟨q, q1, q2, q3⟩, d⟩ := h
  exact ⟨a, ⟨q, q1, q2, by rw [sup_k (by omega), q3]⟩, by rw [sup_k (by omega)]; exact d⟩
theorem FP.up {a b a1 b1 : Store} (h : FP a b a1 b1) {f : Nat} {x : Int32} (hf : 9 ≤ f ∧ f ≤ 17) : FP a b a1 (sup b1 0 f x) := ⟨h.1, fun j x y => by rw [sup_o x, h.2.1 j x y], fun g x => by rw [sup_k (by omega), h.2.2 g x]⟩
theorem leaf_3 {L ky b n p e len : Nat} {c : Nat → Nat} {σ τ : Store} {sb : Bool} (h : PS L ky c b n σ τ p e 3 len sb) : fX2_leaf σ = some (sup σ 24 4 (nI p)) := by
  obtain ⟨f1, -, -⟩ := h.fail
  have a5 := h.2.2.2.1.2.2.2.2.1
  unfold fX2_leaf
  rw [sjn_e, a5, if_pos (by decide)]
  unfold fX2_nameHere
  rw [a5, if_pos (by decide), sbd_e]
  dsimp only
  rw [sjn_e, if_pos rfl]
  dsimp only
  rw [f1, sbd_e]
theorem PS.xs {L ky b n p e len : Nat} {c : Nat → Nat} {σ τ : Store} {sb : Bool} (h : PS L ky c b n σ τ p e 3 len sb) : XS ky (sup τ 0 12 1) := by
  have hsb := h.sb3
  subst hsb
  exact ⟨h.2.1.1, by rw [sup_s]; decide, by rw [sup_k (by omega)]; exact h.2.2.2.1.2.2.2.2.2.2, by rw [sup_k (by omega)]; exact h.2.1.2.2⟩
theorem step4 (s : Nat → Int32) (len : Nat) (h : s len = -4) : dpt s (len + 1) = dpt s len := by
  have : dpt s (len + 1) = if -3 ≤ s len then dpt s len + 1 else if s len = -4 then dpt s len else dpt s len - 1 := rfl
  rw [this, h, if_neg (by decide), if_pos rfl]
theorem not_sim {L ky b n N M p e len : Nat} {c : Nat → Nat} {σ τ : Store} {sb : Bool} (hn : n < 8) (ihP : Lev L ky c b (n + 1) ((fX2_knot N).2 (nI b) (nI (n + 1))) (rdK M 5)) (h : PS L ky c b n σ τ p e 3 len sb) (hl : len ≤ p) :
    ∃ σ' τ', (sbd (fX2_advance σ) fun s20 => (sbd ((fX2_knot N).2 (nI b) (nI n + 1) s20) fun s21 => (sbd (fX2_addStep (-4 : Int32) s21) fun s22 => (some s22)))) = some σ' ∧ (sbd (fX9_must true τ) fun s4 => (slt (sup s4 0 15 ((s4 0 15) + (1 : Int32))) fun s5 => (sbd (rdK M 5 s5) fun s6 => (slt (sup s6 0 15 ((s6 0 15) - (1 : Int32))) fun s7 => (sbd (fX9_step (-29 : Int32) s7) fun s8 => (some s8)))))) = some τ' ∧ Post L ky c b n σ τ p len σ' τ' := by
  have hsb := h.sb3
  subst hsb
  obtain ⟨z1, z2, z3, z4, z5, z6⟩ := h.eL
  have zz := z6 (by omega)
  obtain ⟨σ1, τ1, p1, e1, k1, sb1, a1, a2, a3, a4, a5, a6⟩ := h.adv
  obtain ⟨σ2, τ2, b1, b2, b3, b4⟩ := ihP σ1 (sup τ1 0 15 (nI (n + 1))) p1 e1 k1 len sb1 (a3.neg (n + 1)) (by omega)
  rw [a1, sbd_e, nI_1, b1, sbd_e, must_t h.2.2.1.2, a2, sbd_e, slt_e, a3.2.2.2.2.2.2.2, nI_1, b2, sbd_e, slt_e]
  have fp : FP σ τ σ2 τ2 := ((a6.up (f := 15) (x := nI (n + 1)) (by omega))).tr b3
  simp only [some_e]
  rcases b4 with b4 | ⟨p', e', k', len', sb', d1, d2, d3, d4, d5⟩
  · obtain ⟨σ3, f1, f2, f3, f4⟩ := b4.1.step (-4)
    have b5 := b4.up (f := 15) (x := τ2 0 15 - 1) (Or.inr rfl)
    refine ⟨σ3, sup τ2 0 15 (τ2 0 15 - 1), f1, step_x b5.2.2 _, ⟨fun j x y => by rw [f4 j x y, fp.1 j x y], (fp.up (f := 15) (by omega)).2⟩, Or.inl ⟨f2, by rw [f3]; exact b5.2.1, b5.2.2⟩⟩
  · rw [d1.2.2.2.2.2.2.2, nI_pred]
    have d1' := d1.neg n
    obtain ⟨y1, y2, y3, y4, y5, y6⟩ := d1'.eL
    obtain ⟨σ3, τ3, f1, f2, f3, f4, f5, f6⟩ := d1'.step (s := -4) (m := -29) (by omega) (Or.inr (Or.inr (Or.inl ⟨rfl, rfl⟩)))
    rw [a5] at d4 d5
    refine ⟨σ3, τ3, f1, f2, (fp.up (f := 15) (x := nI n) (by omega)).tr f4, Or.inr ⟨p', e', k', len' + 1, sb', f3, by omega, by omega, ?_, ?_⟩⟩
    · refine d4.tr ⟨by omega, f5, fun i h1 h2 => ?_⟩
      obtain rfl : i = len' := by omega
      rw [f6, dpt_cong (s := σ2 25) (s' := σ3 25) f5, d5]
      exact ⟨fun _ => Nat.le_refl _, fun z => absurd z (by decide)⟩
    · rw [step4 _ _ f6, dpt_cong (s := σ2 25) (s' := σ3 25) f5, d5]

theorem brk_sim {L ky b n N M p e len : Nat} {c : Nat → Nat} {σ τ : Store} {sb : Bool} (hb : b < 8) (ihE : Lev L ky c (b + 1) n ((fX2_knot N).1 (nI 0) (nI (b + 1)) (nI n)) (rdK M 0)) (h : PS L ky c b n σ τ p e 3 len sb) (hl : len ≤ p) :
    ∃ σ' τ', (sbd (fX2_advance σ) fun s15 => (sbd ((fX2_knot N).1 (0 : Int32) (nI b + 1) (nI n) s15) fun s16 => (sbd (fX2_close s16) fun s17 => (some s17)))) = some σ' ∧ (sbd (fX9_must true τ) fun s13 => (slt (sup s13 0 14 ((s13 0 14) + (1 : Int32))) fun s14 => (sbd (rdK M 0 s14) fun s15 => (sbd (fX9_isSign (41 : Int32) s15) fun r16 => (sbd (fX9_must r16 s15) fun s17 => (slt (sup s17 0 14 ((s17 0 14) - (1 : Int32))) fun s18 => (some s18))))))) = some τ' ∧ Post L ky c b n σ τ p len σ' τ' := by
  have hsb := h.sb3
  subst hsb
  obtain ⟨z1, z2, z3, z4, z5, z6⟩ := h.eL
  have zz := z6 (by omega)
  obtain ⟨σ1, τ1, p1, e1, k1, sb1, a1, a2, a3, a4, a5, a6⟩ := h.adv
  obtain ⟨σ2, τ2, b1, b2, b3, b4⟩ := ihE σ1 (sup τ1 0 14 (nI (b + 1))) p1 e1 k1 len sb1 (a3.brk (b + 1)) (by omega)
  rw [a1, sbd_e, nI_1, show (0 : Int32) = nI 0 from rfl, b1, sbd_e, must_t h.2.2.1.2, a2, sbd_e, slt_e, a3.2.2.2.2.2.2.1, nI_1, b2, sbd_e]
  have fp : FP σ τ σ2 τ2 := ((a6.up (f := 14) (x := nI (b + 1)) (by omega))).tr b3
  simp only [some_e]
  rcases b4 with b4 | ⟨p', e', k', len', sb', d1, d2, d3, d4, d5⟩
  · rw [sign_x b4.2.2, sbd_e, must_x b4.2.2, sbd_e, slt_e]
    obtain ⟨r, hr⟩ := b4.1.sign
    unfold fX2_close
    rw [hr, sbd_e]
    simp only [some_e]
    have b5 : ∀ x : Int32, ¬ sup (sup τ2 0 12 1) 0 14 x 0 12 = 0 := fun x => by rw [sup_k (by omega), sup_s]; decide
    obtain ⟨q1, ⟨q, q2, q3, q4⟩, q5⟩ := b4
    by_cases hr2 : r = 41
    · obtain ⟨σ3, f1, f2, f3, f4⟩ := q1.adv
      rw [if_neg (fun z => z hr2), f1]
      exact ⟨_, _, rfl, rfl, ⟨fun j x y => by rw [f4 j x y, fp.1 j x y], ((fp.up (f := 12) (by omega)).up (f := 14) (by omega)).2⟩, Or.inl ⟨f2, ⟨q, q2, by rw [f3, q3], by rw [sup_k (by omega), sup_k (by omega), q4]⟩, b5 _⟩⟩
    · rw [if_pos hr2, PF.fail8 (L := L) (c := c) (τ := τ2) ⟨q1, ⟨q, q2, q3, q4⟩, q5⟩]
      exact ⟨_, _, rfl, rfl, (fp.up (f := 12) (by omega)).up (f := 14) (by omega), Or.inl ⟨q1, ⟨q, q2, q3, by rw [sup_k (by omega), sup_k (by omega), q4]⟩, b5 _⟩⟩
  · obtain ⟨y1, y2, y3, y4, y5, y6⟩ := d1.eL
    rw [d1.sign9, sbd_e, show (41 : Int32) = nI 41 from rfl, dsg d1.cp (by omega)]
    unfold fX2_close
    rw [d1.sign8, sbd_e, show (41 : Int32) = nI 41 from rfl]
    simp only [some_e]
    rw [a5] at d4 d5
    by_cases hc : k' = 3 ∧ c p' = 41
    · obtain ⟨hk, hx⟩ := hc
      subst hk
      have hs2 := d1.sb3
      subst hs2
      have y7 := y6 (by omega)
      obtain ⟨σ3, τ3, p3, e3, k3, sb3, f1, f2, f3, f4, f5, f6⟩ := d1.adv
      rw [if_pos rfl, hx, if_neg (fun z => z rfl), f1, decide_eq_true ⟨rfl, rfl⟩, must_t d1.2.2.1.2, f2, sbd_e, slt_e, f3.2.2.2.2.2.2.1, nI_pred]
      refine ⟨_, _, rfl, rfl, ((fp.tr f6).up (f := 14) (by omega)), Or.inr ⟨p3, e3, k3, len', sb3, f3.brk b, by omega, by omega, ?_, ?_⟩⟩
      · rw [f5]; exact d4
      · rw [f5]; exact d5
    · have hr : ¬ (if k' = 3 then nI (c p') else 0) = nI 41 := by
        by_cases hk : k' = 3
        · rw [if_pos hk]; exact fun z => hc ⟨hk, (nI_lit (d1.cp hk) (by omega)).mp z⟩
        · rw [if_neg hk]; decide
      obtain ⟨f1, f2, f3⟩ := d1.fail
      rw [if_pos hr, f1, decide_eq_false hc, must_f d1.2.2.1.2, sbd_e, slt_e]
      exact ⟨_, _, rfl, rfl, (fp.tr f3).up (f := 14) (by omega), Or.inl (f2.up (Or.inl rfl))⟩
/-- a piece that may not go deeper -/
theorem deep {L ky b n p e len : Nat} {c : Nat → Nat} {σ τ τ' : Store} {sb : Bool} (h : PS L ky c b n σ τ p e 3 len sb) (h1 : ∀ j, j ≠ 0 → τ' j = τ j) (h2 : ∀ f, f < 9 ∨ 17 < f → τ' 0 f = τ 0 f) (h9 : τ' 0 9 = τ 0 9) (h12 : ¬ τ' 0 12 = 0) : Post L ky c b n σ τ p len (sup σ 24 4 (nI p)) τ' := by
  obtain ⟨f1, ⟨f2, ⟨q, q1, q2, q3⟩, f4⟩, f5⟩ := h.fail
  refine ⟨⟨f5.1, fun j x _ => h1 j x, h2⟩, Or.inl ⟨f2, ⟨q, q1, q2, ?_⟩, h12⟩⟩
  rw [h9, ← q3, sup_k (by omega)]
theorem piece_sim {L ky b n N M : Nat} {c : Nat → Nat} (hb : b ≤ 8) (hn : n ≤ 8)
    (ihP : n < 8 → Lev L ky c b (n + 1) ((fX2_knot N).2 (nI b) (nI (n + 1))) (rdK M 5)) (ihE : b < 8 → Lev L ky c (b + 1) n ((fX2_knot N).1 (nI 0) (nI (b + 1)) (nI n)) (rdK M 0))
    (hM5 : n = 8 → 1 ≤ M) (hM0 : b = 8 → 6 ≤ M) : Lev L ky c b n ((fX2_knot (N + 1)).2 (nI b) (nI n)) (rdK (M + 1) 5) := by
  intro σ τ p e k len sb h hl
  have c0 : (fX2_knot (N + 1)).2 (nI b) (nI n) σ = fX2_piece_B (fX2_knot N).1 (fX2_knot N).2 (nI b) (nI n) σ := rfl
  rw [c0, rd5]
  unfold fX2_piece_B fX9_readPiece_B
  rw [h.sign8, sbd_e, sjn_e, h.sign9, sbd_e, h.sign9, sbd_e, show (33 : Int32) = nI 33 from rfl, show (40 : Int32) = nI 40 from rfl, dsg h.cp (by omega), dsg h.cp (by omega)]
  by_cases hk : k = 3
  · subst hk
    have hcp := h.cp rfl
    rw [if_pos rfl]
    by_cases hx : c p = 33
    · rw [hx, if_neg (fun z => z rfl), if_pos (decide_eq_true ⟨rfl, rfl⟩)]
      rw [sjn_e, h.2.2.2.2.2.2.2]
      by_cases hn8 : n < 8
      · have g8 : ¬ (8 : Int32) ≤ nI n := (nI_ge hn8 (by omega) : ¬ nI 8 ≤ nI n)
        rw [if_neg g8, sjn_e, if_neg g8]
        exact not_sim hn8 (ihP hn8) h hl
      · obtain rfl : n = 8 := by omega
        obtain ⟨M, rfl⟩ : ∃ k, M = k + 1 := ⟨M - 1, by have := hM5 rfl; omega⟩
        have g8 : (8 : Int32) ≤ nI 8 := by decide
        rw [if_pos g8]
        dsimp only
        rw [if_pos (show ¬ nI 33 = nI 40 by decide), sjn_e, if_pos g8]
        dsimp only
        rw [leaf_3 h, sbd_e, must_f h.2.2.1.2, sbd_e, slt_e, read_x5 (h.xs.up (Or.inr rfl)), sbd_e, slt_e, step_x (by rw [sup_k (by omega)]; exact lfx_12), sbd_e]
        refine ⟨_, _, rfl, rfl, deep h (fun j hj => ?_) (fun f hf => ?_) ?_ ?_⟩
        · unfold lfx; rw [sup_o hj, sup_o hj, sup_o hj, sup_o hj, sup_o hj]
        · unfold lfx; rw [sup_k (by omega), sup_k (by omega), sup_k (by omega), sup_k (by omega), sup_k (by omega)]
        · unfold lfx; rw [sup_k (by omega), sup_k (by omega), sup_k (by omega), sup_k (by omega), sup_k (by omega)]
        · rw [sup_k (by omega)]; exact lfx_12
    · have hx0 : ¬ nI (c p) = nI 33 := fun z => hx ((nI_lit hcp (by omega)).mp z)
      rw [if_pos hx0, if_neg (fun z => hx (of_decide_eq_true z).2)]
      dsimp only
      rw [sjn_e]
      by_cases hy : c p = 40
      · rw [hy, if_neg (fun z => z rfl), if_pos (decide_eq_true ⟨rfl, rfl⟩), sjn_e, h.2.2.2.2.2.2.1]
        by_cases hb8 : b < 8
        · have g8 : ¬ (8 : Int32) ≤ nI b := (nI_ge hb8 (by omega) : ¬ nI 8 ≤ nI b)
          rw [if_neg g8, if_neg g8]
          exact brk_sim hb8 (ihE hb8) h hl
        · obtain rfl : b = 8 := by omega
          obtain ⟨M, rfl⟩ : ∃ k, M = k + 6 := ⟨M - 6, by have := hM0 rfl; omega⟩
          have g8 : (8 : Int32) ≤ nI 8 := by decide
          rw [if_pos g8, if_pos g8]
          dsimp only
          rw [leaf_3 h, sbd_e, must_f h.2.2.1.2, sbd_e, slt_e, read_x0 (h.xs.up (Or.inl rfl)), sbd_e, sign_x lfx_12, sbd_e, must_x lfx_12, sbd_e, slt_e]
          refine ⟨_, _, rfl, rfl, deep h (fun j hj => ?_) (fun f hf => ?_) ?_ ?_⟩
          · unfold lfx; rw [sup_o hj, sup_o hj, sup_o hj, sup_o hj, sup_o hj, sup_o hj]
          · unfold lfx; rw [sup_k (by omega), sup_k (by omega), sup_k (by omega), sup_k (by omega), sup_k (by omega), sup_k (by omega)]
          · unfold lfx; rw [sup_k (by omega), sup_k (by omega), sup_k (by omega), sup_k (by omega), sup_k (by omega), sup_k (by omega)]
          · rw [sup_k (by omega), sup_s]; decide
      · have hy0 : ¬ nI (c p) = nI 40 := fun z => hy ((nI_lit hcp (by omega)).mp z)
        rw [if_pos hy0, if_neg (fun z => hy (of_decide_eq_true z).2)]
        simp only [some_e]
        exact leaf_sim h hl
  · rw [if_neg hk, if_pos (by decide), if_neg (fun z => hk (of_decide_eq_true z).1)]
    dsimp only
    rw [sjn_e, if_pos (by decide), if_neg (fun z => hk (of_decide_eq_true z).1)]
    simp only [some_e]
    exact leaf_sim h hl
