/-! computing the functional programs -/
theorem slt_e {β α : Type} {x : β} {k : β → Option α} : slt x k = k x := rfl
theorem sbd_e {β α : Type} {x : β} {k : β → Option α} : sbd (some x) k = k x := rfl
theorem sbd2_e {β γ α : Type} {x : β} {y : γ} {k : β → γ → Option α} : sbd2 (some (x, y)) k = k x y := rfl
theorem sjn_e {κ α : Type} {b : κ → Option α} {r : κ} : sjn b r = b r := rfl
theorem six_e {α : Type} {n k : Nat} {F : Option α} (h : k < n) (hn : n ≤ 4096) : six n (nI k) F = F := by
  unfold six
  rw [nI_toInt (by omega)]
  exact if_pos ⟨by omega, by omega⟩
theorem snx_e {k : Nat} (h : k < 4096) : snx (nI k) = k := nI_clamp (by omega)
theorem sup_e {σ : Store} {j k j' k' : Nat} {x : Int32} : sup σ j k x j' k' = if j' = j ∧ k' = k then x else σ j' k' := by
  unfold sup srow upd
  by_cases h : j' = j
  · subst h
    by_cases h2 : k' = k
    · simp [h2]
    · simp [h2]
  · simp [h]
theorem sup_s {σ : Store} {j k : Nat} {x : Int32} : sup σ j k x j k = x := by rw [sup_e, if_pos ⟨rfl, rfl⟩]
theorem sup_j {σ : Store} {j k j' k' : Nat} {x : Int32} (h : j' ≠ j) : sup σ j k x j' k' = σ j' k' := by rw [sup_e, if_neg (fun z => h z.1)]
theorem sup_k {σ : Store} {j k k' j' : Nat} {x : Int32} (h : k' ≠ k) : sup σ j k x j' k' = σ j' k' := by rw [sup_e, if_neg (fun z => h z.2)]
def wth (v l h : Int32) : Bool := decide (l ≤ v ∧ v ≤ h)
def inN (v : Int32) (n : Nat) : Bool := decide (0 ≤ v.toInt ∧ v.toInt < (n : Int))
theorem within8 (v l h : Int32) (σ : Store) : fX8_within v l h σ = some (wth v l h) := by
  unfold fX8_within wth
  by_cases h1 : v < l
  · rw [if_pos h1, decide_eq_false (fun z => absurd z.1 (Int32.not_le.mpr h1))]
  · rw [if_neg h1]
    by_cases h2 : h < v
    · rw [if_pos h2, decide_eq_false (fun z => absurd z.2 (Int32.not_le.mpr h2))]
    · rw [if_neg h2, decide_eq_true ⟨Int32.not_lt.mp h1, Int32.not_lt.mp h2⟩]
theorem within9 (v l h : Int32) (σ : Store) : fX9_within v l h σ = some (wth v l h) := within8 v l h σ
theorem wth_lit {v : Int32} {m : Nat} (hm : m < 2 ^ 31 - 1) : wth v 0 (nI m) = inN v (m + 1) := by
  unfold wth inN
  have e : (0 : Int32).toInt = 0 := rfl
  congr 1
  rw [Int32.le_iff_toInt_le, Int32.le_iff_toInt_le, nI_toInt (by omega), e]
  exact propext ⟨fun h => ⟨h.1, by omega⟩, fun h => ⟨h.1, by omega⟩⟩
theorem wth_n {v : Int32} {n : Nat} (hn : n < 2 ^ 31) : wth v 0 (nI n - 1) = inN v n := by
  cases n with
  | zero =>
    unfold wth inN
    have e : (0 : Int32).toInt = 0 := rfl
    have e2 : (nI 0 - 1).toInt = -1 := rfl
    congr 1
    rw [Int32.le_iff_toInt_le, Int32.le_iff_toInt_le, e, e2]
    exact propext ⟨fun h => by omega, fun h => by omega⟩
  | succ n => rw [nI_pred]; exact wth_lit (by omega)
theorem inN_t {v : Int32} {n : Nat} (hn : n < 2 ^ 31) (h : inN v n = true) : ∃ k : Nat, k < n ∧ v = nI k := by
  have h := of_decide_eq_true h
  exact vp_in_of (vp_in_iff.mpr h) hn
theorem inN_n {k n : Nat} (h : k < n) (hn : n < 2 ^ 31) : inN (nI k) n = true := by
  unfold inN
  rw [nI_toInt (by omega)]
  exact decide_eq_true ⟨by omega, by omega⟩
theorem nI_inj {a b : Nat} (ha : a < 2 ^ 31) (hb : b < 2 ^ 31) (h : nI a = nI b) : a = b := (nI_eq ha hb).mp h
theorem shl_n : ∀ w, w < 31 → ((1 : Int32) <<< (nI w &&& 31)) = nI (2 ^ w) := by decide +kernel
theorem not_n (h : Nat) {s : Nat} (hs : s < 2 ^ 31) (hh : h < 2 ^ 31) : nI s &&& (nI h ^^^ (-1)) = nI (s &&& (h ^^^ (2 ^ 31 - 1))) := by
  have e : (-1 : Int32) = nI (2 ^ 31 - 1) ^^^ nI (2 ^ 31) := by decide
  rw [e, fb_xorI, fb_xorI, fa_and]
  apply congrArg nI
  apply Nat.eq_of_testBit_eq
  intro i
  simp only [Nat.testBit_and, Nat.testBit_xor, Nat.testBit_two_pow]
  by_cases hi : i < 31
  · have : (31 : Nat) ≠ i := by omega
    simp [this]
  · have h1 : s.testBit i = false := Nat.testBit_lt_two_pow (Nat.lt_of_lt_of_le hs (Nat.pow_le_pow_right (by omega) (by omega)))
    simp [h1]
theorem shr_b {s w : Nat} (hs : s < 2 ^ 31) (hw : w < 31) : (((nI s >>> (nI w &&& 31)) &&& 1) = 1) ↔ s.testBit w = true := by
  have e31 : (nI w &&& 31) = nI w := by
    have : ∀ w, w < 31 → (nI w &&& 31) = nI w := by decide +kernel
    exact this w hw
  have key : nI s >>> (nI w &&& 31) = nI (s >>> w) := by
    apply Int32.toInt_inj.mp
    rw [e31]
    have h1 : ∀ w, w < 31 → ((nI w).toBitVec.smod 32).toNat = w := by decide +kernel
    have h2 : (nI s >>> nI w).toInt = (nI s).toInt >>> w := by
      show ((nI s).toBitVec.sshiftRight' ((nI w).toBitVec.smod 32)).toInt = _
      rw [BitVec.sshiftRight', BitVec.toInt_sshiftRight, h1 w hw]
      rfl
    rw [h2, nI_toInt hs, nI_toInt (Nat.lt_of_le_of_lt (Nat.shiftRight_le _ _) hs)]
    rfl
  rw [key, show (1 : Int32) = nI 1 from rfl, fa_and, nI_eq (Nat.lt_of_le_of_lt (Nat.and_le_right) (by decide)) (by decide)]
  rw [Nat.testBit, Nat.and_comm 1]
  rw [Nat.and_one_is_mod]
  simp
