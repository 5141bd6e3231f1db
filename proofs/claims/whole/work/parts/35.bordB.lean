def pcn (l : Nat) : Nat := (List.range 10).foldl (fun a i => a + (l.testBit i).toNat) 0
theorem bits_mono {a b r : Int32} : ∀ (n m : Nat), fX9_bits_L4 n a b = some r → fX9_bits_L4 (n + m) a b = some r := by
  intro n
  induction n generalizing a b with
  | zero => intro m h; cases h
  | succ n ih =>
    intro m h
    rw [show n + 1 + m = (n + m) + 1 by omega]
    rw [fX9_bits_L4] at h ⊢
    by_cases hb : b = 0
    · rw [if_pos hb] at h ⊢; exact h
    · rw [if_neg hb, slt_e] at h ⊢
      exact ih m h
theorem bits_tab : ∀ l, l < 1024 → fX9_bits_L4 11 0 (nI l) = some (nI (pcn l)) := by decide +kernel
theorem bits9 {l : Nat} (h : l < 1024) (σ : Store) : fX9_bits (nI l) σ = some (nI (pcn l)) := bits_mono 11 4989 (bits_tab l h)
theorem bits_tab8 : ∀ l, l < 1024 → fJ6_bitCount_0f7a4 (nI l) (fun _ _ => 0) = some (nI (pcn l)) := by decide +kernel
theorem bits8 {l : Nat} (h : l < 1024) (σ : Store) : fJ6_bitCount_0f7a4 (nI l) σ = some (nI (pcn l)) := bits_tab8 l h
theorem pcn_le : ∀ l, l < 1024 → pcn l ≤ 10 := by decide +kernel
/-! kinds -/
def isu (k q : Nat) : Bool := q == 0 || q == k || (k == 3 && q == 1) || (k == 4 && q == 2)
theorem isu_tab9 : ∀ k, k < 6 → ∀ q, q < 6 → fX9_isUnder (nI k) (nI q) (fun _ _ => 0) = some (isu k q) := by decide +kernel
theorem isu_ind (v : Int32) (σ σ' : Store) (k : Int32 → Option Bool) : ∀ (n : Nat) (i : Int32), fX9_isUnder_L2 v σ k n i = fX9_isUnder_L2 v σ' k n i := by
  intro n
  induction n with
  | zero => intro i; rfl
  | succ n ih =>
    intro i
    rw [fX9_isUnder_L2, fX9_isUnder_L2]
    simp only [ih]
    rfl
theorem isu9 {k q : Nat} (hk : k < 6) (hq : q < 6) (σ : Store) : fX9_isUnder (nI k) (nI q) σ = some (isu k q) := by
  rw [← isu_tab9 k hk q hq]
  unfold fX9_isUnder
  exact isu_ind _ _ _ _ _ _
theorem isu_tab8 : ∀ k, k < 6 → ∀ q, q < 6 → fX7_isOf 0 (nI q) (fun _ _ => nI k) = some (isu k q) := by decide +kernel
theorem isu8 {k q a : Nat} (hk : k < 6) (hq : q < 6) {σ : Store} (h : σ a 0 = nI k) : fX7_isOf a (nI q) σ = some (isu k q) := by
  rw [← isu_tab8 k hk q hq]
  unfold fX7_isOf
  rw [h]
/-! draws -/
def zn (z : Int32) : Int32 := z * 1103515245 + 12345
theorem sushr8 (x : Int32) : ∃ m, m < 2 ^ 24 ∧ sushr x 8 = nI m := by
  refine ⟨(x.toUInt32 >>> ((8 : Int32).toUInt32 &&& Int32.toUInt32 31)).toNat, ?_, ?_⟩
  · have e : (8 : Int32).toUInt32 &&& Int32.toUInt32 31 = 8 := rfl
    rw [e, UInt32.toNat_shiftRight]
    have := UInt32.toNat_lt x.toUInt32
    show x.toUInt32.toNat >>> 8 < _
    rw [Nat.shiftRight_eq_div_pow]
    omega
  · unfold sushr nI
    generalize x.toUInt32 >>> ((8 : Int32).toUInt32 &&& Int32.toUInt32 31) = u
    apply Int32.toBitVec_inj.mp
    show u.toBitVec = BitVec.ofNat 32 u.toNat
    show u.toBitVec = BitVec.ofNat 32 u.toBitVec.toNat
    simp
theorem draw8 {B : Nat} {σ : Store} : fX0_draw B σ = some (sushr (zn (σ B 10)) 8, sup σ B 10 (zn (σ B 10))) := by
  unfold fX0_draw
  rw [slt_e, sup_s]
  rfl
theorem drawn9 {d : Int32} (hd : ¬ d = 0) {τ : Store} : fX9_drawn d τ = some (sushr (zn (τ 1 0)) 8 - sushr (zn (τ 1 0)) 8 / d * d, sup τ 1 0 (zn (τ 1 0))) := by
  unfold fX9_drawn sdz
  rw [l_0, six_e (by omega) (by omega), six_e (by omega) (by omega), slt_e, snx_e (by omega), six_e (by omega) (by omega), sup_s, if_neg (by rw [← l_0]; exact hd)]
  rfl
theorem mod_n {d : Nat} (x : Int32) (h0 : 0 < d) (hd : d < 2 ^ 31) : ∃ m, m < d ∧ sushr x 8 - sushr x 8 / nI d * nI d = nI m := by
  obtain ⟨m, hm, e⟩ := sushr8 x
  rw [e, pk_rem (by omega) h0 hd]
  exact ⟨m % d, Nat.mod_lt _ h0, rfl⟩
/-! is the man turned -/
theorem turned_sim {σ τ : Store} {B nw nt nx l : Nat} (h : Bo σ (τ 1) B nw nt nx) (hl : l < 1024) (hl4 : τ 1 4 = nI l) : ∃ b, fX0_isTurned B σ = some b ∧ fX9_isTurned τ = some b := by
  refine ⟨decide (¬ nI (pcn l) < τ 1 2), ?_, ?_⟩
  · unfold fX0_isTurned
    rw [h.1.head.2.2.2.2.1, hl4, bits8 hl, sbd_e, h.1.head.2.2.1]
    by_cases hc : nI (pcn l) < τ 1 2 <;> simp [hc]
  · unfold fX9_isTurned
    rw [l_4, l_2, six_e (by omega) (by omega), snx_e (by omega), hl4, bits9 hl, sbd_e, six_e (by omega) (by omega), snx_e (by omega)]
    by_cases hc : nI (pcn l) < τ 1 2 <;> simp [hc]
