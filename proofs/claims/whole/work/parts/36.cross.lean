def BdI (g : Nat → Int32) (nw nt : Nat) : Prop := g 6 = nI nt ∧ (∃ l, l < 2 ^ nw ∧ g 4 = nI l) ∧ (∀ w, w < nw → ∃ k, k < 6 ∧ g (8 + 6 * w) = nI k) ∧ (∀ w, w < nw → ∃ e, e < 256 ∧ g (9 + 6 * w) = nI e) ∧ (∀ t, t < nt → ∃ h, h < 2 ^ nw ∧ g (68 + 2 * t) = nI h)
def Stm (g : Nat → Int32) (nw S : Nat) : Prop := ∀ w, w < nw → ∃ s, s ≤ S ∧ g (12 + 6 * w) = nI s
theorem upd_n {f : Nat → Int32} {k j : Nat} {x : Int32} (h : j ≠ k) : upd f k x j = f j := if_neg h
theorem upd_y {f : Nat → Int32} {k : Nat} {x : Int32} : upd f k x k = x := if_pos rfl
theorem BdI.up {g : Nat → Int32} {nw nt q0 : Nat} {x : Int32} (h : BdI g nw nt) (h0 : q0 ≠ 4 ∧ q0 ≠ 6) (hw : ∀ w, w < nw → q0 ≠ 8 + 6 * w ∧ q0 ≠ 9 + 6 * w) (ht : ∀ t, t < nt → q0 ≠ 68 + 2 * t) : BdI (upd g q0 x) nw nt := by
  obtain ⟨a, b, c, d, e⟩ := h
  exact ⟨by rw [upd_n (Ne.symm h0.2), a], by rw [upd_n (Ne.symm h0.1)]; exact b, fun w z => by rw [upd_n (Ne.symm (hw w z).1)]; exact c w z, fun w z => by rw [upd_n (Ne.symm (hw w z).2)]; exact d w z, fun t z => by rw [upd_n (Ne.symm (ht t z))]; exact e t z⟩
theorem BdI.learn {g : Nat → Int32} {nw nt l : Nat} (h : BdI g nw nt) (hl : l < 2 ^ nw) : BdI (upd g 4 (nI l)) nw nt := by
  obtain ⟨a, b, c, d, e⟩ := h
  exact ⟨by rw [upd_n (by omega), a], ⟨l, hl, upd_y⟩, fun w z => by rw [upd_n (by omega)]; exact c w z, fun w z => by rw [upd_n (by omega)]; exact d w z, fun t z => by rw [upd_n (by omega)]; exact e t z⟩
theorem BdI.holds {g : Nat → Int32} {nw nt h t : Nat} (hb : BdI g nw nt) (hnw : nw ≤ 10) (hl : h < 2 ^ nw) : BdI (upd g (68 + 2 * t) (nI h)) nw nt := by
  obtain ⟨a, b, c, d, e⟩ := hb
  exact ⟨by rw [upd_n (by omega), a], by rw [upd_n (by omega)]; exact b, fun w z => by rw [upd_n (by omega)]; exact c w z, fun w z => by rw [upd_n (by omega)]; exact d w z, fun t' z => by
    by_cases q : t' = t
    · subst q; exact ⟨h, hl, upd_y⟩
    · rw [upd_n (by omega)]; exact e t' z⟩
theorem BdI.same {g g' : Nat → Int32} {nw nt : Nat} (h : BdI g nw nt) (hnw : nw ≤ 10) (hnt : nt ≤ 6) (hg : ∀ q, q < 80 → g' q = g q) : BdI g' nw nt := by
  obtain ⟨a, b, c, d, e⟩ := h
  exact ⟨by rw [hg 6 (by omega), a], by rw [hg 4 (by omega)]; exact b, fun w z => by rw [hg _ (by omega)]; exact c w z, fun w z => by rw [hg _ (by omega)]; exact d w z, fun t z => by rw [hg _ (by omega)]; exact e t z⟩
theorem Stm.up {g : Nat → Int32} {nw S q0 : Nat} {x : Int32} (h : Stm g nw S) (hw : ∀ w, w < nw → q0 ≠ 12 + 6 * w) : Stm (upd g q0 x) nw S := fun w z => by rw [upd_n (Ne.symm (hw w z))]; exact h w z
theorem Stm.mono {g : Nat → Int32} {nw S S' : Nat} (h : Stm g nw S) (hS : S ≤ S') : Stm g nw S' := fun w z => by obtain ⟨s, h1, h2⟩ := h w z; exact ⟨s, by omega, h2⟩
theorem Stm.inc {g : Nat → Int32} {nw S w : Nat} (h : Stm g nw S) (hw : w < nw) : Stm (upd g (12 + 6 * w) (g (12 + 6 * w) + 1)) nw (S + 1) := fun v z => by
  by_cases q : v = w
  · subst q
    obtain ⟨s, h1, h2⟩ := h v z
    exact ⟨s + 1, by omega, by rw [upd_y, h2, nI_1]⟩
  · rw [upd_n (by omega)]
    obtain ⟨s, h1, h2⟩ := h v z
    exact ⟨s, by omega, h2⟩
theorem or_lt {a w n : Nat} (ha : a < 2 ^ n) (hw : w < n) : a ||| 2 ^ w < 2 ^ n := Nat.or_lt_two_pow ha (Nat.pow_lt_pow_right (by omega) hw)
theorem p10 {n a : Nat} (h : a < 2 ^ n) (hn : n ≤ 10) : a < 1024 := Nat.lt_of_lt_of_le h (Nat.pow_le_pow_right (by omega) hn)
/-- the relation within a crossing: the model's traveller already holds what came -/
def CR (B nw nt nx t h : Nat) (σ τ : Store) (cm S : Nat) : Prop := Bo σ (upd (τ 1) (68 + 2 * t) (nI h)) B nw nt nx ∧ BdI (upd (τ 1) (68 + 2 * t) (nI h)) nw nt ∧ Stm (τ 1) nw S ∧ τ 1 (68 + 2 * t) = nI (h ||| cm)
def fr8 (B : Nat) (σ σ' : Store) : Prop := ∀ j, j ≠ 20 → ¬ (B ≤ j ∧ j < B + 19) → σ' j = σ j
def fr9 (τ τ' : Store) : Prop := (∀ j, j ≠ 1 → j ≠ 9 → j ≠ 10 → τ' j = τ j) ∧ ∀ q, (80 ≤ q ∨ q = 1) → τ' 1 q = τ 1 q
def fr9d (τ τ' : Store) : Prop := (∀ j, j ≠ 1 → j ≠ 9 → j ≠ 10 → τ' j = τ j) ∧ ∀ q, 80 ≤ q → τ' 1 q = τ 1 q
theorem fr9.d {τ τ' : Store} (h : fr9 τ τ') : fr9d τ τ' := ⟨h.1, fun q hq => h.2 q (Or.inl hq)⟩
theorem fr9d.tr {a b c : Store} (h : fr9d a b) (h2 : fr9d b c) : fr9d a c := ⟨fun j x y z => (h2.1 j x y z).trans (h.1 j x y z), fun q x => (h2.2 q x).trans (h.2 q x)⟩
theorem fr9d.rf {τ : Store} : fr9d τ τ := ⟨fun _ _ _ _ => rfl, fun _ _ => rfl⟩
theorem fr9d.up {a b : Store} (h : fr9d a b) {q0 : Nat} {x : Int32} (ho : q0 < 80) : fr9d a (sup b 1 q0 x) := ⟨fun j y z u => by rw [sup_o y]; exact h.1 j y z u, fun q hq => by rw [sup_k (by omega)]; exact h.2 q hq⟩
theorem fr8.rf {B : Nat} {σ : Store} : fr8 B σ σ := fun _ _ _ => rfl
theorem fr9.rf {τ : Store} : fr9 τ τ := ⟨fun _ _ _ _ => rfl, fun _ _ => rfl⟩
theorem fr8.tr {B : Nat} {a b c : Store} (h : fr8 B a b) (h2 : fr8 B b c) : fr8 B a c := fun j x y => (h2 j x y).trans (h j x y)
theorem fr9.tr {a b c : Store} (h : fr9 a b) (h2 : fr9 b c) : fr9 a c := ⟨fun j x y z => (h2.1 j x y z).trans (h.1 j x y z), fun q x => (h2.2 q x).trans (h.2 q x)⟩
theorem fr8.up {B : Nat} {a b : Store} (h : fr8 B a b) {o f : Nat} {x : Int32} (ho : o < 19) : fr8 B a (sup b (B + o) f x) := fun j z y => by rw [sup_o (by omega)]; exact h j z y
theorem fr9.up {a b : Store} (h : fr9 a b) {q0 : Nat} {x : Int32} (ho : q0 < 80 ∧ q0 ≠ 1) : fr9 a (sup b 1 q0 x) := ⟨fun j y z u => by rw [sup_o y]; exact h.1 j y z u, fun q hq => by rw [sup_k (by omega)]; exact h.2 q hq⟩
theorem CR.up {B nw nt nx t h cm S : Nat} {σ τ : Store} (hC : CR B nw nt nx t h σ τ cm S) {q0 o f : Nat} (hq0 : q0 < 80) (h4 : q0 ≠ 4 ∧ q0 ≠ 5 ∧ q0 ≠ 6 ∧ q0 ≠ 7) (hw : ∀ w, w < nw → q0 ≠ 8 + 6 * w ∧ q0 ≠ 9 + 6 * w ∧ q0 ≠ 12 + 6 * w) (ht : ∀ t, t < nt → q0 ≠ 68 + 2 * t) (htt : t < nt) (ho : cxo q0 = o) (hf : cxf q0 = f) (x : Int32) : CR B nw nt nx t h (sup σ (B + o) f x) (sup τ 1 q0 x) cm S := by
  obtain ⟨a, b, c, d⟩ := hC
  have e : upd (sup τ 1 q0 x 1) (68 + 2 * t) (nI h) = upd (upd (τ 1) (68 + 2 * t) (nI h)) q0 x := by rw [sup_r, fa_upd_swap _ (ht t htt)]
  exact ⟨by rw [e]; exact a.up hq0 h4.2.1 h4.2.2.2 ho hf x, by rw [e]; exact b.up ⟨h4.1, h4.2.2.1⟩ (fun w z => ⟨(hw w z).1, (hw w z).2.1⟩) ht, by rw [sup_r]; exact c.up (fun w z => (hw w z).2.2), by rw [sup_k (Ne.symm (ht t htt)), d]⟩
theorem CR.stamp {B nw nt nx t h cm S w : Nat} {σ τ : Store} (hC : CR B nw nt nx t h σ τ cm S) (hw : w < nw) (hn : nw ≤ 10) : CR B nw nt nx t h (sup σ (B + (3 + w)) 4 (τ 1 (12 + 6 * w) + 1)) (sup τ 1 (12 + 6 * w) (τ 1 (12 + 6 * w) + 1)) cm (S + 1) := by
  obtain ⟨a, b, c, d⟩ := hC
  obtain ⟨e1, e2⟩ := cx_w w (by omega) 4 (by omega)
  rw [show 8 + 6 * w + 4 = 12 + 6 * w by omega] at e1 e2
  have e : upd (sup τ 1 (12 + 6 * w) (τ 1 (12 + 6 * w) + 1) 1) (68 + 2 * t) (nI h) = upd (upd (τ 1) (68 + 2 * t) (nI h)) (12 + 6 * w) (τ 1 (12 + 6 * w) + 1) := by rw [sup_r, fa_upd_swap _ (by omega)]
  exact ⟨by rw [e]; exact a.up (by omega) (by omega) (by omega) e1 e2 _, by rw [e]; exact b.up ⟨by omega, by omega⟩ (fun v z => ⟨by omega, by omega⟩) (fun v z => by omega), by rw [sup_r]; exact c.inc hw, by rw [sup_k (by omega), d]⟩
theorem CR.learn {B nw nt nx t h cm S l : Nat} {σ τ : Store} (hC : CR B nw nt nx t h σ τ cm S) (hl : l < 2 ^ nw) : CR B nw nt nx t h (sup σ B 6 (nI l)) (sup τ 1 4 (nI l)) cm S := by
  obtain ⟨a, b, c, d⟩ := hC
  have e : upd (sup τ 1 4 (nI l) 1) (68 + 2 * t) (nI h) = upd (upd (τ 1) (68 + 2 * t) (nI h)) 4 (nI l) := by rw [sup_r, fa_upd_swap _ (by omega)]
  exact ⟨by rw [e]; exact a.up (q0 := 4) (o := 0) (f := 6) (by omega) (by omega) (by omega) rfl rfl _, by rw [e]; exact b.learn hl, by rw [sup_r]; exact c.up (fun w z => by omega), by rw [sup_k (by omega), d]⟩
theorem CR.same {B nw nt nx t h cm S : Nat} {σ τ σ' τ' : Store} (hC : CR B nw nt nx t h σ τ cm S) (h1 : ∀ j, j ≠ 20 → σ' j = σ j) (h2 : τ' 1 = τ 1) : CR B nw nt nx t h σ' τ' cm S := by
  obtain ⟨a, b, c, d⟩ := hC
  unfold CR
  rw [h2]
  have hb := a.2.1
  exact ⟨a.same (fun j hj => h1 j (by omega)), b, c, d⟩
/-- the class's part of a crossing, for one word -/
def cin (B o1 w : Nat) (x : Int32) (σ : Store) : Option (Bool × Store) :=
  sbd (fX0_isTurned B σ) fun r46 => if r46 = true then some (true, σ) else sbd2 (fX0_slipsBy B w σ) fun r49 s50 => if r49 = true then some (true, s50) else if s50 w 3 ≤ s50 w 5 then some (false, s50) else
    sbd2 (fX0_costsOf B w s50) fun r54 s55 => slt (sup s55 o1 1 (s50 o1 1 + r54)) fun s56 => slt (sup s56 w 4 (s56 w 4 + 1)) fun s57 => slt (sup s57 w 5 (s57 w 5 + 1)) fun s58 => slt (sup s58 B 6 (s58 B 6 ||| x)) fun s59 => some (true, s59)
theorem cin_e (B o1 : Nat) (v2 i3 i4 : Int32) (k : Int32 → Int32 → Store → Option (Int32 × Store)) (n : Nat) (τ : Store) (h1 : ¬ τ B 3 ≤ i4) (h2 : ¬ (v2 &&& ((1 : Int32) <<< (i4 &&& 31))) = 0) (h3 : (τ o1 0 &&& ((1 : Int32) <<< (i4 &&& 31))) = 0) :
    fX0_crosses_L5 B o1 v2 k (n + 1) i3 i4 τ = six 10 i4 (sbd2 (cin B o1 (wrd B i4) ((1 : Int32) <<< (i4 &&& 31)) τ) fun b s => if b = true then fX0_crosses_L5 B o1 v2 k n (i3 ||| ((1 : Int32) <<< (i4 &&& 31))) (i4 + 1) s else fX0_crosses_L5 B o1 v2 k n i3 (i4 + 1) s) := by
  rw [fX0_crosses_L5, if_neg h1, slt_e, if_neg h2, if_pos h3]
  congr 1
  unfold cin
  cases fX0_isTurned B τ with
  | none => rfl
  | some b =>
    rw [sbd_e, sbd_e]
    cases b with
    | true => rfl
    | false =>
      rw [if_neg (by decide), if_neg (by decide)]
      cases fX0_slipsBy B (wrd B i4) τ with
      | none => rfl
      | some p =>
        obtain ⟨b, s⟩ := p
        rw [sbd2_e, sbd2_e]
        cases b with
        | true => rfl
        | false =>
          simp only [Bool.false_eq_true, if_false]
          by_cases hq : s (wrd B i4) 3 ≤ s (wrd B i4) 5
          · simp only [hq, if_true]; rfl
          · simp only [hq, if_false]
            cases fX0_costsOf B (wrd B i4) s with
            | none => rfl
            | some p => rfl
