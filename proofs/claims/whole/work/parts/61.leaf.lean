/-! leaves -/
def nmx (ky x : Nat) : Option Nat := if nI x = tb2.getD (3 * ky) 0 then some 0 else if nI x = tb2.getD (3 * ky + 1) 0 then some 1 else if nI x = tb2.getD (3 * ky + 2) 0 then some 2 else none
def nmE : Option Nat → Int32
  | none => -1000000005
  | some i => -1 - nI i
def nmM : Option Nat → Int32
  | none => -1
  | some i => nI i
theorem nam_tab : ∀ ky, ky < 3 → ∀ x, x < 256 → srt x = 1 → ((nmx ky x).all fun i => decide (i < 3 ∧ (-1 - nI i, -10 + nI i) ∈ nmL ky)) = true := by decide +kernel
theorem name8 {ky p x : Nat} {σ : Store} (hky : ky < 3) (h2 : σ 24 2 = nI ky) (h7 : σ 24 7 = nI p) (hp : p < 96) (hx : σ 23 p = nI x) : fX2_nameHere_L26 σ FU 0 = some (nmE (nmx ky x)) := by
  have st : ∀ (i n : Nat), i < 3 → fX2_nameHere_L26 σ (n + 1) (nI i) = if ¬ nI x = tb2.getD (3 * ky + i) 0 then fX2_nameHere_L26 σ n (nI (i + 1)) else some (-1 - nI i) := by
    intro i n hi
    rw [fX2_nameHere_L26, l_3, if_neg (nI_ge hi (by omega)), h2, pk_mul, nI_add, h7, six_e (by omega) (by omega), six_e (by omega) (by omega), snx_e (by omega), snx_e (by omega), hx, nI_1]
  rw [show FU = 4996 + 1 + 1 + 1 + 1 from rfl, show (0 : Int32) = nI 0 from rfl, st 0 _ (by omega), st 1 _ (by omega), st 2 _ (by omega)]
  unfold nmx
  by_cases a0 : nI x = tb2.getD (3 * ky) 0
  · rw [if_neg (show ¬ ¬ nI x = tb2.getD (3 * ky + 0) 0 from fun z => z a0), if_pos a0]; rfl
  · rw [if_pos (show ¬ nI x = tb2.getD (3 * ky + 0) 0 from a0), if_neg a0]
    by_cases a1 : nI x = tb2.getD (3 * ky + 1) 0
    · rw [if_neg (fun z => z a1), if_pos a1]; rfl
    · rw [if_pos a1, if_neg a1]
      by_cases a2 : nI x = tb2.getD (3 * ky + 2) 0
      · rw [if_neg (fun z => z a2), if_pos a2]; rfl
      · rw [if_pos a2, if_neg a2, fX2_nameHere_L26, if_pos (by decide)]; rfl
def mfd (ky x : Nat) : Nat → Nat → Int32 → Int32
  | 0, _, a => a
  | m + 1, i, a => mfd ky x m (i + 1) (if ¬ nI x = (sByt.getD (3 + ky) []).getD i 0 then a else nI i)
theorem mfd_tab : ∀ ky, ky < 3 → ∀ x, x < 256 → srt x = 1 → mfd ky x (sLen.getD (3 + ky) 0) 0 (-1) = nmM (nmx ky x) := by decide +kernel
theorem sl3 : ∀ ky, ky < 3 → 1 ≤ sLen.getD (3 + ky) 0 ∧ sLen.getD (3 + ky) 0 ≤ 3 := by decide
theorem name9 {ky p x : Nat} {τ : Store} (hky : ky < 3) (h2 : τ 0 13 = nI ky) (h7 : τ 0 9 = nI p) (hp : p < 96) (hx : τ 5 p = nI x) (h10 : τ 0 10 = nI (p + 1)) (h11 : τ 0 11 = nI 1) (K : Int32 → Int32 → Option Store) : ∀ (m i n : Nat) (a : Int32), i + m = sLen.getD (3 + ky) 0 → m < n → fX9_readLeaf_L63 τ K n a (nI i) = K (mfd ky x m i a) (nI (sLen.getD (3 + ky) 0)) := by
  obtain ⟨s1, s2⟩ := sl3 ky hky
  intro m
  induction m with
  | zero =>
    intro i n a hi hn
    obtain ⟨n, rfl⟩ : ∃ k, n = k + 1 := ⟨n - 1, by omega⟩
    rw [fX9_readLeaf_L63, h2, six_e (by omega) (by omega), snx_e (by omega)]
    unfold fJ0_length_8abf5
    rw [sbd_e, if_pos (nI_le (by omega) (by omega)), show i = sLen.getD (3 + ky) 0 by omega]; rfl
  | succ m ih =>
    intro i n a hi hn
    obtain ⟨n, rfl⟩ : ∃ k, n = k + 1 := ⟨n - 1, by omega⟩
    rw [fX9_readLeaf_L63, h2, six_e (k := ky) (by omega) (by omega), snx_e (k := ky) (by omega)]
    unfold fJ0_length_8abf5 fJ0_charAt_5068e
    rw [sbd_e, if_neg (nI_ge (by omega) (by omega)), h11, if_neg (show ¬ ¬ nI 1 = 1 by decide), h10, h7, nI_1, if_neg (fun z => z rfl), six_e (k := p) (by omega) (by omega), six_e (k := ky) (by omega) (by omega), six_e (k := i) (by omega) (by omega), sbd_e, snx_e (k := p) (by omega), hx, snx_e (k := i) (by omega), nI_1]
    unfold mfd
    by_cases hc : nI x = (sByt.getD (3 + ky) []).getD i 0
    · rw [if_neg (fun z => z hc), if_neg (fun z => z hc)]; exact ih (i + 1) n _ (by omega) (by omega)
    · rw [if_pos hc, if_pos hc]; exact ih (i + 1) n _ (by omega) (by omega)
theorem srt_2 {c : Nat} (h : srt c = 2) : 48 ≤ c ∧ c ≤ 57 := by
  unfold srt at h
  by_cases h1 : 97 ≤ c ∧ c ≤ 122
  · rw [if_pos h1] at h; omega
  · rw [if_neg h1] at h
    by_cases h2 : 48 ≤ c ∧ c ≤ 57
    · exact h2
    · rw [if_neg h2] at h
      by_cases h3 : c = 32
      · rw [if_pos h3] at h; omega
      · rw [if_neg h3] at h; omega
theorem num_loop {L p e : Nat} {c : Nat → Nat} {σ τ : Store} (t8 : T8 L c σ) (t9 : T9 L c τ) (h8 : σ 24 8 = nI e) (h9 : τ 0 10 = nI e) (he : e ≤ L) (h4 : e ≤ p + 4) (hd : ∀ i, p ≤ i → i < e → srt (c i) = 2) (K : Int32 → Int32 → Option Store) : ∀ (m i v n n2 : Nat), i + m = e → p ≤ i → m < n → m < n2 → v + 1 ≤ 10 ^ (i - p) →
    ∃ v', v' < 10 ^ (e - p) ∧ fX2_numberHere_L23 σ n (nI v) (nI i) = some (nI v') ∧ fX9_readLeaf_L30 τ K n2 (nI v) (nI i) = K (nI v') (nI e) := by
  have hL := t8.1
  intro m
  induction m with
  | zero =>
    intro i v n n2 hi hpi hn hn2 hv
    obtain rfl : i = e := by omega
    obtain ⟨n, rfl⟩ : ∃ k, n = k + 1 := ⟨n - 1, by omega⟩
    obtain ⟨n2, rfl⟩ : ∃ k, n2 = k + 1 := ⟨n2 - 1, by omega⟩
    exact ⟨v, by omega, by rw [fX2_numberHere_L23, h8, if_pos (Int32.le_refl _)], by rw [fX9_readLeaf_L30, h9, if_pos (Int32.le_refl _)]⟩
  | succ m ih =>
    intro i v n n2 hi hpi hn hn2 hv
    obtain ⟨n, rfl⟩ : ∃ k, n = k + 1 := ⟨n - 1, by omega⟩
    obtain ⟨n2, rfl⟩ : ∃ k, n2 = k + 1 := ⟨n2 - 1, by omega⟩
    obtain ⟨d1, d2⟩ := srt_2 (hd i hpi (by omega))
    have hp10 : 10 ^ (i + 1 - p) = 10 * 10 ^ (i - p) := by rw [show i + 1 - p = (i - p) + 1 by omega, Nat.pow_succ, Nat.mul_comm]
    obtain ⟨v', w1, w2, w3⟩ := ih (i + 1) (10 * v + (c i - 48)) n n2 (by omega) (by omega) (by omega) (by omega) (by rw [hp10]; omega)
    refine ⟨v', w1, ?_, ?_⟩
    · rw [fX2_numberHere_L23, h8, if_neg (nI_ge (by omega) (by omega)), six_e (by omega) (by omega), slt_e, snx_e (by omega), (t8.2.2 i (by omega)).1, l_10, pk_mul, nI_add, show (48 : Int32) = nI 48 from rfl, nI_subN (by omega), show 10 * v + c i - 48 = 10 * v + (c i - 48) by omega, nI_1]
      exact w2
    · rw [fX9_readLeaf_L30, h9, if_neg (nI_ge (by omega) (by omega)), six_e (by omega) (by omega), slt_e, snx_e (by omega), (t9.2.2 i (by omega)).1, l_10, pk_mul, nI_add, show (48 : Int32) = nI 48 from rfl, nI_subN (by omega), show 10 * v + c i - 48 = 10 * v + (c i - 48) by omega, nI_1]
      exact w3
def lf9 (σ : Store) (y1_59 x42 : Int32) : Option Store := (slt (sup σ 0 16 ((σ 0 16) + (1 : Int32))) fun s44 => (sjn (fun k161 : Bool → Option Store => (if 0 ≤ y1_59 then (k161 true) else (if x42 < 0 then (k161 false) else (k161 true)))) (fun (z0_161 : Bool) => (sbd (fX9_must z0_161 s44) fun s47 => (sjn (fun k177 : Int32 → Option Store => (if y1_59 < 0 then (k177 ((-10 : Int32) + x42)) else (k177 y1_59))) (fun (z0_177 : Int32) => (sbd (fX9_step z0_177 s47) fun s49 => (some s49))))))))
theorem lf_no {τ : Store} (h : τ 0 12 = 0) : lf9 τ (-1) (-1) = some (sup (sup τ 0 16 (τ 0 16 + 1)) 0 12 1) := by
  unfold lf9
  rw [slt_e, sjn_e, if_neg (by decide), if_pos (by decide)]
  dsimp only
  rw [must_f (by rw [sup_k (by omega), h]), sbd_e, sjn_e, if_pos (by decide)]
  dsimp only
  rw [step_x (by rw [sup_s]; decide), sbd_e]
theorem lf_yes {τ : Store} {y x m : Int32} (h : τ 0 12 = 0) (hm : (0 ≤ y ∧ m = y) ∨ (y = -1 ∧ 0 ≤ x ∧ m = -10 + x)) : lf9 τ y x = sbd (fX9_next (sup τ 0 16 (τ 0 16 + 1))) fun s => fX9_step m s := by
  have e : ∀ s : Store, (sbd (fX9_step m s) fun s49 => some s49) = fX9_step m s := fun s => by cases fX9_step m s <;> rfl
  unfold lf9
  rcases hm with ⟨h1, rfl⟩ | ⟨rfl, h2, rfl⟩
  · rw [slt_e, sjn_e, if_pos h1]
    dsimp only
    rw [must_t (by rw [sup_k (by omega), h])]
    simp only [sjn_e, if_neg (Int32.not_lt.mpr h1), e]
  · rw [slt_e, sjn_e, if_neg (by decide), if_neg (Int32.not_lt.mpr h2)]
    dsimp only
    rw [must_t (by rw [sup_k (by omega), h])]
    simp only [sjn_e, if_pos (show (-1 : Int32) < 0 by decide), e]

theorem dpt_cong {s s' : Nat → Int32} : ∀ {k : Nat}, (∀ i, i < k → s' i = s i) → dpt s' k = dpt s k
  | 0, _ => rfl
  | k + 1, h => by
    have ih := dpt_cong (s := s) (s' := s') (k := k) (fun i hi => h i (by omega))
    unfold dpt
    rw [ih, h k (by omega)]
def GS (s s' : Nat → Int32) (len len' B : Nat) : Prop := len ≤ len' ∧ (∀ i, i < len → s' i = s i) ∧ ∀ i, len ≤ i → i < len' → (s' i = -4 → B + 1 ≤ dpt s' i) ∧ (s' i < -4 → B + 2 ≤ dpt s' i)
theorem GS.rf {s : Nat → Int32} {len B : Nat} : GS s s len len B := ⟨Nat.le_refl _, fun _ _ => rfl, fun i h1 h2 => absurd (Nat.lt_of_le_of_lt h1 h2) (Nat.lt_irrefl _)⟩
theorem GS.tr {s s1 s2 : Nat → Int32} {l l1 l2 B : Nat} (h : GS s s1 l l1 B) (g : GS s1 s2 l1 l2 B) : GS s s2 l l2 B := by
  obtain ⟨a1, a2, a3⟩ := h
  obtain ⟨b1, b2, b3⟩ := g
  refine ⟨by omega, fun i hi => by rw [b2 i (by omega), a2 i hi], fun i h1 h2 => ?_⟩
  by_cases hi : i < l1
  · rw [b2 i hi, dpt_cong (s := s1) (s' := s2) (k := i) (fun j hj => b2 j (by omega))]
    exact a3 i h1 hi
  · exact b3 i (by omega) h2
theorem GS.mono {s s' : Nat → Int32} {l l' B B' : Nat} (h : GS s s' l l' B) (hB : B' ≤ B) : GS s s' l l' B' := ⟨h.1, h.2.1, fun i h1 h2 => ⟨fun z => by have := (h.2.2 i h1 h2).1 z; omega, fun z => by have := (h.2.2 i h1 h2).2 z; omega⟩⟩
/-- what a reading of one whole piece comes to -/
def Post (L ky : Nat) (c : Nat → Nat) (b n : Nat) (σ τ : Store) (p len : Nat) (σ' τ' : Store) : Prop := FP σ τ σ' τ' ∧ (PF L c σ' τ' ∨ ∃ p' e' k' len' sb', PS L ky c b n σ' τ' p' e' k' len' sb' ∧ p < p' ∧ len' + p ≤ len + p' ∧ GS (σ 25) (σ' 25) len len' (dpt (σ 25) len) ∧ dpt (σ' 25) len' = dpt (σ 25) len + 1)
theorem PS.leaves {L ky b n p e k len : Nat} {c : Nat → Nat} {σ τ : Store} {sb : Bool} (h : PS L ky c b n σ τ p e k len sb) (x : Int32) : PS L ky c b n (sup σ 24 3 x) (sup τ 0 16 x) p e k len sb := by
  obtain ⟨⟨t8, t9⟩, ⟨k1, k2, k3⟩, ⟨f1, f2⟩, ⟨a1, a2, a3, a4, a5, a6, a7⟩, hb, ⟨l1, l2, l3, l4, l5⟩, ⟨d1, d2⟩⟩ := h
  exact ⟨⟨t8.up (by omega), t9.up (by omega)⟩, ⟨k1, by rw [sup_k (by omega), k2], by rw [sup_k (by omega), k3]⟩, ⟨by rw [sup_k (by omega), f1], by rw [sup_k (by omega), f2]⟩, ⟨by rw [sup_k (by omega), a1], by rw [sup_k (by omega), a2], by rw [sup_k (by omega), a3], by rw [sup_k (by omega), a4], by rw [sup_k (by omega), a5], by rw [sup_k (by omega), a6], by rw [sup_k (by omega), a7]⟩, hb, ⟨l1, by rw [sup_k (by omega), l2], by rw [sup_k (by omega), l3], by rw [sup_s, sup_s], fun i hi => by rw [sup_j (by omega), sup_j (by omega)]; exact l5 i hi⟩, ⟨by rw [sup_k (by omega), d1], by rw [sup_k (by omega), d2]⟩⟩
/-- the model may write its step before or after it goes on -/
theorem swap_step {L e k len : Nat} {c : Nat → Nat} {τ τs τ3 : Store} {m x : Int32} (t9 : T9 L c τ) (he : e ≤ L) (h12 : τ 0 12 = 0) (h10 : τ 0 10 = nI e) (hk : k ≤ 4) (h11 : τ 0 11 = nI k) (h17 : τ 0 17 = nI len) (hl : len < 96) (hs : fX9_step m τ = some τs) (ha : fX9_next (sup τs 0 16 x) = some τ3) : (sbd (fX9_next (sup τ 0 16 x)) fun s => fX9_step m s) = some τ3 := by
  have ets : τs = sup (sup τ 8 len m) 0 17 (nI (len + 1)) := by
    unfold fX9_step at hs
    rw [h12, if_neg (fun z => z rfl), h17, six_e (by omega) (by omega), slt_e, slt_e, snx_e (by omega), sup_j (σ := τ) (by omega), h17, nI_1] at hs
    injection hs with hs
    exact hs.symm
  have t9s : T9 L c (sup τs 0 16 x) := by
    rw [ets]
    refine ⟨t9.1, ?_, fun i hi => ?_⟩
    · rw [sup_k (by omega), sup_k (by omega), sup_j (by omega)]; exact t9.2.1
    · rw [sup_j (by omega), sup_j (by omega), sup_j (by omega)]; exact t9.2.2 i hi
  rw [adv9 t9s he (by rw [sup_k (by omega), ets, sup_k (by omega), sup_j (by omega), h10]) hk (by rw [sup_k (by omega), ets, sup_k (by omega), sup_j (by omega), h11])] at ha
  injection ha with ha
  rw [adv9 (t9.up (by omega)) he (by rw [sup_k (by omega), h10]) hk (by rw [sup_k (by omega), h11]), sbd_e, ← ha, ets]
  unfold fX9_step
  rw [sup_k (k' := 12) (by omega), sup_k (k' := 12) (by omega), sup_k (k' := 12) (by omega), sup_k (k' := 12) (by omega), sup_k (k' := 12) (by omega), h12, if_neg (fun z => z rfl), sup_k (k' := 17) (by omega), sup_k (k' := 17) (by omega), sup_k (k' := 17) (by omega), sup_k (k' := 17) (by omega), sup_k (k' := 17) (by omega), h17, six_e (by omega) (by omega), slt_e, slt_e, snx_e (by omega)]
  rw [sup_j (j := 8) (by omega), sup_k (k' := 17) (by omega), sup_k (k' := 17) (by omega), sup_k (k' := 17) (by omega), sup_k (k' := 17) (by omega), sup_k (k' := 17) (by omega), h17, nI_1]
  refine congrArg some (funext fun j => funext fun f => ?_)
  by_cases j0 : j = 0
  · subst j0
    by_cases f17 : f = 17
    · subst f17
      simp (config := {decide := true}) only [sup_e, if_true, if_false]
    · simp (config := {decide := true}) only [sup_e, f17, and_false, false_and, if_false]
  · by_cases j8 : j = 8
    · subst j8
      simp (config := {decide := true}) only [sup_e, and_false, false_and, if_false]
    · simp (config := {decide := true}) only [sup_e, j0, j8, and_false, false_and, if_false]
