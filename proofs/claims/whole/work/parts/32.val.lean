/-! the relation of the two stores: a border, its texts -/
def cxo (q : Nat) : Nat := if q < 8 then 0 else if q < 68 then 3 + (q - 8) / 6 else 13 + (q - 68) / 2
def cxf (q : Nat) : Nat := if q < 8 then [10, 9, 7, 8, 6, 3, 4, 5].getD q 0 else if q < 68 then (q - 8) % 6 else (q - 68) % 2
theorem cx_inj : ∀ p, p < 80 → ∀ q, q < 80 → cxo p = cxo q → cxf p = cxf q → p = q := by decide +kernel
theorem cx_lt : ∀ q, q < 80 → cxo q < 19 := by decide +kernel
theorem cx_w : ∀ w, w < 10 → ∀ f, f < 6 → cxo (8 + 6 * w + f) = 3 + w ∧ cxf (8 + 6 * w + f) = f := by decide +kernel
theorem cx_t : ∀ t, t < 6 → ∀ f, f < 2 → cxo (68 + 2 * t + f) = 13 + t ∧ cxf (68 + 2 * t + f) = f := by decide +kernel
def liv (nw nt q : Nat) : Prop := q < 8 + 6 * nw ∨ (68 ≤ q ∧ q < 68 + 2 * nt)
theorem liv_lt {nw nt q : Nat} (h1 : nw ≤ 10) (h2 : nt ≤ 6) (h : liv nw nt q) : q < 80 := by unfold liv at h; omega
def BdV (σ : Store) (g : Nat → Int32) (B nw nt : Nat) : Prop := ∀ q, liv nw nt q → σ (B + cxo q) (cxf q) = g q
theorem upd_e {f : Nat → Int32} {k j : Nat} {x : Int32} : upd f k x j = if j = k then x else f j := rfl
theorem sup_r {σ : Store} {j k : Nat} {x : Int32} : sup σ j k x j = upd (σ j) k x := by unfold sup srow; simp
theorem sup_o {σ : Store} {j k j' : Nat} {x : Int32} (h : j' ≠ j) : sup σ j k x j' = σ j' := by unfold sup srow; simp [h]
theorem BdV.up {σ : Store} {g : Nat → Int32} {B nw nt : Nat} (h : BdV σ g B nw nt) (hw : nw ≤ 10) (ht : nt ≤ 6) {q0 o f : Nat} (hq0 : q0 < 80) (ho : cxo q0 = o) (hf : cxf q0 = f) (x : Int32) : BdV (sup σ (B + o) f x) (upd g q0 x) B nw nt := by
  intro q hq
  have hq8 := liv_lt hw ht hq
  rw [sup_e, upd_e]
  by_cases e : q = q0
  · subst e
    rw [if_pos ⟨by rw [ho], hf⟩, if_pos rfl]
  · rw [if_neg e, if_neg (fun z => e (cx_inj q hq8 q0 hq0 (by rw [ho]; omega) (by rw [hf]; exact z.2))), h q hq]
theorem BdV.out {σ : Store} {g : Nat → Int32} {B nw nt : Nat} (h : BdV σ g B nw nt) (hw : nw ≤ 10) (ht : nt ≤ 6) {j k : Nat} (hj : j < B ∨ B + 19 ≤ j) (x : Int32) : BdV (sup σ j k x) g B nw nt := by
  intro q hq
  have := cx_lt q (liv_lt hw ht hq)
  rw [sup_j (by omega), h q hq]
theorem BdV.same {σ σ' : Store} {g g' : Nat → Int32} {B nw nt : Nat} (h : BdV σ g B nw nt) (hw : nw ≤ 10) (ht : nt ≤ 6) (h1 : ∀ j, B ≤ j → j < B + 19 → σ' j = σ j) (h2 : ∀ q, q < 80 → g' q = g q) : BdV σ' g' B nw nt := by
  intro q hq
  have hq8 := liv_lt hw ht hq
  have := cx_lt q hq8
  rw [h1 _ (by omega) (by omega), h2 q hq8, h q hq]
theorem BdV.head {σ : Store} {g : Nat → Int32} {B nw nt : Nat} (h : BdV σ g B nw nt) : σ B 10 = g 0 ∧ σ B 9 = g 1 ∧ σ B 7 = g 2 ∧ σ B 8 = g 3 ∧ σ B 6 = g 4 ∧ σ B 3 = g 5 ∧ σ B 4 = g 6 ∧ σ B 5 = g 7 := by
  have k : ∀ q, q < 8 → liv nw nt q := fun q hq => Or.inl (by omega)
  exact ⟨h 0 (k 0 (by omega)), h 1 (k 1 (by omega)), h 2 (k 2 (by omega)), h 3 (k 3 (by omega)), h 4 (k 4 (by omega)), h 5 (k 5 (by omega)), h 6 (k 6 (by omega)), h 7 (k 7 (by omega))⟩
theorem BdV.wd {σ : Store} {g : Nat → Int32} {B nw nt : Nat} (h : BdV σ g B nw nt) (hw : nw ≤ 10) {w f : Nat} (h1 : w < nw) (h2 : f < 6) : σ (B + (3 + w)) f = g (8 + 6 * w + f) := by
  obtain ⟨e1, e2⟩ := cx_w w (by omega) f h2
  have := h (8 + 6 * w + f) (Or.inl (by omega))
  rwa [e1, e2] at this
theorem BdV.tr {σ : Store} {g : Nat → Int32} {B nw nt : Nat} (h : BdV σ g B nw nt) (ht : nt ≤ 6) {t f : Nat} (h1 : t < nt) (h2 : f < 2) : σ (B + (13 + t)) f = g (68 + 2 * t + f) := by
  obtain ⟨e1, e2⟩ := cx_t t (by omega) f h2
  have := h (68 + 2 * t + f) (Or.inr (by omega))
  rwa [e1, e2] at this
theorem wrd_e {B w : Nat} (h : w < 4096) : wrd B (nI w) = B + (3 + w) := by unfold wrd; rw [snx_e h]; omega
theorem trv_e {B w : Nat} (h : w < 4096) : trv B (nI w) = B + (13 + w) := by unfold trv; rw [snx_e h]; omega
theorem stp_e {w : Nat} (h : w < 4096) : stp (nI w) = 3 + w := by unfold stp; rw [snx_e h]
theorem shr_e {w : Nat} (h : w < 4096) : shr (nI w) = 27 + w := by unfold shr; rw [snx_e h]
theorem slo_e {w : Nat} (h : w < 4096) : slo (nI w) = 36 + w := by unfold slo; rw [snx_e h]
/-! texts -/
def opL : List (Int32 × Int32) := [(-124, -20), (-38, -21), (-60, -22), (-61, -23), (-62, -24), (-43, -25), (-45, -26), (-42, -27), (-47, -28)]
def nmL (ky : Nat) : List (Int32 × Int32) := if ky = 0 then [(-1, -10), (-2, -9), (-3, -8)] else [(-1, -10), (-2, -9)]
def stR (ky : Nat) (s m : Int32) : Prop := (∃ v, v < 10000 ∧ s = nI v ∧ m = nI v) ∨ (s, m) ∈ nmL ky ∨ (s = -4 ∧ m = -29) ∨ (s, m) ∈ opL
def dpt (c : Nat → Int32) : Nat → Nat
  | 0 => 0
  | k + 1 => if -3 ≤ c k then dpt c k + 1 else if c k = -4 then dpt c k else dpt c k - 1
def TxR (σ : Store) (g : Nat → Int32) (x : Nat) : Prop := ∃ ky len : Nat, ky < 3 ∧ 1 ≤ len ∧ len ≤ 96 ∧ σ 18 x = nI ky ∧ g (80 + 100 * x) = nI ky ∧ σ 19 x = g (81 + 100 * x) ∧ σ 17 x = nI len ∧ g (82 + 100 * x) = nI len ∧ (∀ k, k < len → stR ky (σ (3 + x) k) (g (83 + 100 * x + k))) ∧ (∀ k, k < len → (σ (3 + x) k = -4 → 1 ≤ dpt (σ (3 + x)) k) ∧ (σ (3 + x) k < -4 → 2 ≤ dpt (σ (3 + x)) k)) ∧ dpt (σ (3 + x)) len = 1
theorem dpt_le (c : Nat → Int32) : ∀ k, dpt c k ≤ k
  | 0 => Nat.le_refl 0
  | k + 1 => by
    have := dpt_le c k
    unfold dpt
    split
    · omega
    · split <;> omega
theorem nm1 (p : Nat) : nI p - 1 + 1 = nI p := by rw [Int32.sub_add_cancel]
theorem np1 (p : Nat) : nI (p + 1) - 1 = nI p := nI_pred p
theorem joined_done {s m a b : Int32} (h : (s, m) ∈ opL) (σ τ : Store) : ∃ r, fX1_joined (-s) a b σ = some r ∧ fX9_done m a b τ = some r := by
  unfold opL at h
  simp only [List.mem_cons, Prod.mk.injEq, List.not_mem_nil, or_false] at h
  rcases h with ⟨rfl, rfl⟩ | ⟨rfl, rfl⟩ | ⟨rfl, rfl⟩ | ⟨rfl, rfl⟩ | ⟨rfl, rfl⟩ | ⟨rfl, rfl⟩ | ⟨rfl, rfl⟩ | ⟨rfl, rfl⟩ | ⟨rfl, rfl⟩
  all_goals (unfold fX1_joined fX9_done; simp (config := {decide := true}) only [if_true, if_false, ite_true, ite_false])
  · by_cases h1 : a = 0 <;> by_cases h2 : b = 0 <;> simp [h1, h2]
  · by_cases h1 : a = 0 <;> by_cases h2 : b = 0 <;> simp [h1, h2]
  · by_cases h1 : b ≤ a <;> simp [h1]
  · by_cases h1 : a = b <;> simp [h1]
  · by_cases h1 : a ≤ b <;> simp [h1]
  · exact ⟨_, rfl, rfl⟩
  · exact ⟨_, rfl, rfl⟩
  · exact ⟨_, rfl, rfl⟩
  · by_cases h2 : b = 0 <;> simp [h2, sdz]
theorem nI_nlt3 {v : Nat} (hv : v < 10000) : ¬ nI v < (-3 : Int32) := by
  rw [fa_lt, nI_toInt (by omega), show (-3 : Int32).toInt = -3 from rfl]
  omega
theorem nI_n0 {v : Nat} (hv : v < 2 ^ 31) : ¬ nI v < 0 := nI_pos hv
theorem leaf_n {v : Nat} (hv : v < 10000) (a b c : Int32) (σ : Store) : fX1_leaf (nI v) a b c σ = some (nI v) := by
  have h : ∀ z : Int32, z.toInt < 0 → ¬ nI v = z := fun z hz e => by
    have := congrArg Int32.toInt e
    rw [nI_toInt (by omega)] at this
    omega
  unfold fX1_leaf
  rw [if_neg (h _ (by decide)), if_neg (h _ (by decide)), if_neg (h _ (by decide))]
