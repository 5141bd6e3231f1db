/-! the key of a text -/
def kml (ky p : Nat) (c : Nat → Nat) : Nat → Nat → Bool
  | 0, _ => true
  | m + 1, i => if nI (c (p + i)) = tb1.getD (4 * ky + i) 0 then kml ky p c m (i + 1) else false
theorem tb_eq : ∀ ky, ky < 3 → ∀ i, i < 4 → tb1.getD (4 * ky + i) 0 = (sByt.getD ky []).getD i 0 ∧ sLen.getD ky 0 = 4 := by decide
theorem key8 {L ky p : Nat} {c : Nat → Nat} {σ : Store} (hT : T8 L c σ) (hky : ky < 3) (h7 : σ 24 7 = nI p) (hp : p + 4 ≤ L) (K : Bool → Int32 → Option Int32) : ∀ (m i n : Nat), i + m = 4 → m + 1 < n → ∃ y, fX2_keyHere_L36 (nI ky) σ K n true (nI i) = K (kml ky p c m i) y := by
  have hL := hT.1
  intro m
  induction m with
  | zero =>
    intro i n hi hn
    obtain ⟨n, rfl⟩ : ∃ k, n = k + 1 := ⟨n - 1, by omega⟩
    obtain rfl : i = 4 := by omega
    exact ⟨nI 4, by rw [fX2_keyHere_L36, if_pos rfl, if_pos (by decide)]; rfl⟩
  | succ m ih =>
    intro i n hi hn
    obtain ⟨n, rfl⟩ : ∃ k, n = k + 1 + 1 := ⟨n - 2, by omega⟩
    rw [fX2_keyHere_L36, if_pos rfl, l_4, if_neg (nI_ge (by omega) (by omega)), h7, nI_add, pk_mul, nI_add, six_e (by omega) (by omega), six_e (by omega) (by omega), snx_e (by omega), snx_e (by omega), (hT.2.2 (p + i) (by omega)).1, nI_1]
    unfold kml
    by_cases hc : nI (c (p + i)) = tb1.getD (4 * ky + i) 0
    · rw [if_neg (fun z => z hc), if_pos hc]; exact ih (i + 1) (n + 1) (by omega) (by omega)
    · rw [if_pos hc, if_neg hc]; exact ⟨_, by rw [fX2_keyHere_L36, if_neg (by decide)]⟩
theorem key9 {L ky p : Nat} {c : Nat → Nat} {τ : Store} (hT : T9 L c τ) (hky : ky < 3) (h7 : τ 0 9 = nI p) (hp : p + 4 ≤ L) : ∀ (m i n : Nat), i + m = 4 → m + 1 < n → fX9_spells_L32 ky τ n true (nI i) = some (kml ky p c m i) := by
  have hL := hT.1
  have h4 := (tb_eq ky hky 0 (by omega)).2
  intro m
  induction m with
  | zero =>
    intro i n hi hn
    obtain ⟨n, rfl⟩ : ∃ k, n = k + 1 := ⟨n - 1, by omega⟩
    obtain rfl : i = 4 := by omega
    rw [fX9_spells_L32]
    unfold fJ0_length_8abf5
    rw [sbd_e, h4, if_pos (Int32.le_refl _)]; rfl
  | succ m ih =>
    intro i n hi hn
    obtain ⟨n, rfl⟩ : ∃ k, n = k + 1 + 1 := ⟨n - 2, by omega⟩
    rw [fX9_spells_L32]
    unfold fJ0_length_8abf5 fJ0_charAt_5068e
    rw [sbd_e, h4, if_neg (nI_ge (by omega) (by omega)), if_pos rfl, h7, nI_add, six_e (k := p + i) (by omega) (by omega), six_e (k := i) (by omega) (by omega), sbd_e, snx_e (k := p + i) (by omega), snx_e (k := i) (by omega), (hT.2.2 (p + i) (by omega)).1, nI_1, ← (tb_eq ky hky i (by omega)).1]
    unfold kml
    by_cases hc : nI (c (p + i)) = tb1.getD (4 * ky + i) 0
    · rw [if_neg (fun z => z hc), if_pos hc]; exact ih (i + 1) (n + 1) (by omega) (by omega)
    · rw [if_pos hc, if_neg hc, fX9_spells_L32]
      unfold fJ0_length_8abf5
      rw [sbd_e, if_neg (show ¬ false = true by decide), ite_self]
/-- is the key spelled here -/
def kq (p e k : Nat) (c : Nat → Nat) (ky : Nat) : Bool := if k = 1 ∧ e = p + 4 then kml ky p c 4 0 else false
theorem spell9 {L ky p e k : Nat} {c : Nat → Nat} {τ : Store} (hT : T9 L c τ) (hky : ky < 3) (h9 : τ 0 9 = nI p) (h10 : τ 0 10 = nI e) (hpe : p ≤ e) (he : e ≤ L) (hk : k ≤ 3) (h11 : τ 0 11 = nI k) : fX9_spells ky τ = some (kq p e k c ky) := by
  have hL := hT.1
  have h4 := (tb_eq ky hky 0 (by omega)).2
  have hf : fX9_spells_L32 ky τ FU false (0 : Int32) = some false := by
    rw [show FU = 4999 + 1 from rfl, fX9_spells_L32]
    unfold fJ0_length_8abf5
    rw [sbd_e, if_neg (show ¬ false = true by decide), ite_self]
  unfold fX9_spells kq
  rw [sjn_e, h11, h10, h9, nI_subN hpe]
  unfold fJ0_length_8abf5
  rw [sbd_e, h4]
  by_cases hk1 : k = 1
  · rw [hk1, if_neg (show ¬ ¬ nI 1 = 1 by decide)]
    by_cases he4 : e = p + 4
    · rw [if_neg (fun z => z (by rw [he4, show p + 4 - p = 4 by omega])), if_pos ⟨rfl, he4⟩]
      exact key9 hT hky h9 (by omega) 4 0 FU (by omega) (FU_gt (by omega))
    · rw [if_pos (fun z => by have := nI_inj (by omega) (by omega) z; omega), if_neg (fun z => he4 z.2)]
      exact hf
  · rw [if_pos (show ¬ nI k = (1 : Int32) from fun z => hk1 (nI_inj (b := 1) (by omega) (by omega) z)), if_neg (show ¬ (k = 1 ∧ e = p + 4) from fun z => hk1 z.1)]
    exact hf
def kfst (q : Nat → Bool) : Option Nat := if q 0 = true then some 0 else if q 1 = true then some 1 else if q 2 = true then some 2 else none
theorem keyh8 {L p e k : Nat} {c : Nat → Nat} {σ : Store} (hT : T8 L c σ) (h7 : σ 24 7 = nI p) (h8 : σ 24 8 = nI e) (hpe : p ≤ e) (he : e ≤ L) (hk : k ≤ 3) (h9 : σ 24 9 = nI k) : fX2_keyHere σ = some (match kfst (kq p e k c) with | some i => nI i | none => -1000000005) := by
  have hL := hT.1
  have st : ∀ (i n : Nat), i < 3 → fX2_keyHere_L2 σ (n + 1) (nI i) = if kq p e k c i = true then some (nI i) else fX2_keyHere_L2 σ n (nI (i + 1)) := by
    intro i n hi
    have hf : ∀ K : Bool → Int32 → Option Int32, fX2_keyHere_L36 (nI i) σ K FU false (0 : Int32) = K false 0 := fun K => by
      rw [show FU = 4999 + 1 from rfl, fX2_keyHere_L36, if_neg (by decide)]
    rw [fX2_keyHere_L2, l_3, if_neg (nI_ge hi (by omega)), sjn_e, h9, h8, h7, nI_subN hpe]
    unfold kq
    by_cases hk1 : k = 1
    · rw [hk1, if_neg (show ¬ ¬ nI 1 = 1 by decide)]
      by_cases he4 : e = p + 4
      · rw [if_neg (fun z => z (by rw [he4, show p + 4 - p = 4 by omega]; rfl)), if_pos (show 1 = 1 ∧ e = p + 4 from ⟨rfl, he4⟩)]
        obtain ⟨y, hy⟩ := key8 hT hi h7 (by omega) (fun x65 x66 => (if x65 = true then (some (nI i)) else (fX2_keyHere_L2 σ n (nI i + (1 : Int32))))) 4 0 FU (by omega) (FU_gt (by omega))
        refine Eq.trans hy ?_
        rw [nI_1]
      · rw [if_pos (show ¬ nI (e - p) = (4 : Int32) from fun z => by have := nI_inj (b := 4) (by omega) (by omega) z; omega), if_neg (show ¬ (1 = 1 ∧ e = p + 4) from fun z => he4 z.2)]
        refine Eq.trans (hf _) ?_
        rw [nI_1]
    · rw [if_pos (show ¬ nI k = (1 : Int32) from fun z => hk1 (nI_inj (b := 1) (by omega) (by omega) z)), if_neg (show ¬ (k = 1 ∧ e = p + 4) from fun z => hk1 z.1)]
      refine Eq.trans (hf _) ?_
      rw [nI_1]
  unfold fX2_keyHere kfst
  rw [show FU = 4996 + 1 + 1 + 1 + 1 from rfl, show (0 : Int32) = nI 0 from rfl, st 0 _ (by omega), st 1 _ (by omega), st 2 _ (by omega)]
  by_cases a0 : kq p e k c 0 = true
  · rw [if_pos a0, if_pos a0]
  · rw [if_neg a0, if_neg a0]
    by_cases a1 : kq p e k c 1 = true
    · rw [if_pos a1, if_pos a1]
    · rw [if_neg a1, if_neg a1]
      by_cases a2 : kq p e k c 2 = true
      · rw [if_pos a2, if_pos a2]
      · rw [if_neg a2, if_neg a2, fX2_keyHere_L2, if_pos (by decide)]
