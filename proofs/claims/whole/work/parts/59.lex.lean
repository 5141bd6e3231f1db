/-! the pieces of a text, read on both sides -/
theorem l_32 : (32 : Int32) = nI 32 := rfl
theorem sup_sup {σ : Store} {j k : Nat} {x y : Int32} : sup (sup σ j k x) j k y = sup σ j k y := by
  funext j' k'
  rw [sup_e, sup_e, sup_e]
  by_cases h : j' = j ∧ k' = k
  · rw [if_pos h, if_pos h]
  · rw [if_neg h, if_neg h, if_neg h]
def srt (c : Nat) : Nat := if 97 ≤ c ∧ c ≤ 122 then 1 else if 48 ≤ c ∧ c ≤ 57 then 2 else if c = 32 then 4 else 3
def T8 (L : Nat) (c : Nat → Nat) (σ : Store) : Prop := L ≤ 96 ∧ σ 24 6 = nI L ∧ ∀ i, i < L → σ 23 i = nI (c i) ∧ c i < 256
def T9 (L : Nat) (c : Nat → Nat) (τ : Store) : Prop := L ≤ 96 ∧ τ 0 6 = nI L ∧ ∀ i, i < L → τ 5 i = nI (c i) ∧ c i < 256
theorem T8.up {L : Nat} {c : Nat → Nat} {σ : Store} (h : T8 L c σ) {f : Nat} {x : Int32} (hf : f ≠ 6) : T8 L c (sup σ 24 f x) := ⟨h.1, by rw [sup_k (by omega)]; exact h.2.1, fun i hi => by rw [sup_j (by omega)]; exact h.2.2 i hi⟩
theorem T9.up {L : Nat} {c : Nat → Nat} {τ : Store} (h : T9 L c τ) {f : Nat} {x : Int32} (hf : f ≠ 6) : T9 L c (sup τ 0 f x) := ⟨h.1, by rw [sup_k (by omega)]; exact h.2.1, fun i hi => by rw [sup_j (by omega)]; exact h.2.2 i hi⟩
theorem srt_tab : ∀ x, x < 256 → (if nI x < 97 ∨ 122 < nI x then (if nI x < 48 ∨ 57 < nI x then (if nI x = 32 then 4 else 3) else 2) else 1) = srt x := by decide +kernel
theorem sort8 {L : Nat} {c : Nat → Nat} {σ : Store} (h : T8 L c σ) (q : Nat) (hq : q < 4096) : fX2_sortAt (nI q) σ = some (nI (if q < L then srt (c q) else 0)) := by
  unfold fX2_sortAt
  rw [if_neg (nI_n0 (by omega)), h.2.1]
  have hL := h.1
  by_cases h1 : q < L
  · obtain ⟨t1, t2⟩ := h.2.2 q h1
    rw [if_pos (nI_lt h1 (by omega)), if_pos h1, six_e (by omega) (by omega), slt_e, snx_e (by omega), t1, sjn_e, sjn_e, ← srt_tab (c q) t2]
    by_cases a1 : nI (c q) < 97
    · rw [if_pos a1, if_pos (Or.inl a1)]
      by_cases b1 : nI (c q) < 48
      · rw [if_pos b1, if_pos (Or.inl b1)]
        by_cases d : nI (c q) = 32
        · rw [if_neg (fun z => z d), if_pos d]; rfl
        · rw [if_pos d, if_neg d]; rfl
      · rw [if_neg b1]
        by_cases b2 : 57 < nI (c q)
        · rw [if_pos b2, if_pos (Or.inr b2)]
          by_cases d : nI (c q) = 32
          · rw [if_neg (fun z => z d), if_pos d]; rfl
          · rw [if_pos d, if_neg d]; rfl
        · rw [if_neg b2, if_neg (fun z => by rcases z with z | z; exact b1 z; exact b2 z)]; rfl
    · rw [if_neg a1]
      by_cases a2 : 122 < nI (c q)
      · rw [if_pos a2, if_pos (Or.inr a2)]
        by_cases b1 : nI (c q) < 48
        · rw [if_pos b1, if_pos (Or.inl b1)]
          by_cases d : nI (c q) = 32
          · rw [if_neg (fun z => z d), if_pos d]; rfl
          · rw [if_pos d, if_neg d]; rfl
        · rw [if_neg b1]
          by_cases b2 : 57 < nI (c q)
          · rw [if_pos b2, if_pos (Or.inr b2)]
            by_cases d : nI (c q) = 32
            · rw [if_neg (fun z => z d), if_pos d]; rfl
            · rw [if_pos d, if_neg d]; rfl
          · rw [if_neg b2, if_neg (fun z => by rcases z with z | z; exact b1 z; exact b2 z)]; rfl
      · rw [if_neg a2, if_neg (fun z => by rcases z with z | z; exact a1 z; exact a2 z)]; rfl
  · rw [if_neg (nI_nlt (by omega) (by omega)), if_neg h1]; rfl
theorem byte9 {L : Nat} {c : Nat → Nat} {τ : Store} (h : T9 L c τ) (q : Nat) (hq : q < 4096) : fX9_byteAt (nI q) τ = some (if q < L then nI (c q) else -1) := by
  unfold fX9_byteAt
  have hL := h.1
  rw [h.2.1]
  by_cases h1 : q < L
  · rw [if_neg (nI_ge h1 (by omega)), if_pos h1, six_e (by omega) (by omega), snx_e (by omega), (h.2.2 q h1).1]
  · rw [if_pos (nI_le (by omega) (by omega)), if_neg h1]
theorem sof_tab : ∀ x, x < 256 → x ≠ 32 → fX9_sortOf (nI x) (fun _ _ => 0) = some (nI (srt x)) := by decide +kernel
theorem sof_32 : fX9_sortOf (nI 32) (fun _ _ => 0) = some (nI 3) := by decide +kernel
theorem sof_st (x : Int32) (τ τ' : Store) : fX9_sortOf x τ = fX9_sortOf x τ' := rfl
theorem srt_lt (c : Nat) : 1 ≤ srt c ∧ srt c ≤ 4 := by
  unfold srt
  by_cases h1 : 97 ≤ c ∧ c ≤ 122
  · rw [if_pos h1]; omega
  · rw [if_neg h1]
    by_cases h2 : 48 ≤ c ∧ c ≤ 57
    · rw [if_pos h2]; omega
    · rw [if_neg h2]
      by_cases h3 : c = 32
      · rw [if_pos h3]; omega
      · rw [if_neg h3]; omega
theorem srt_4 {c : Nat} : srt c = 4 ↔ c = 32 := by
  unfold srt
  by_cases h1 : 97 ≤ c ∧ c ≤ 122
  · rw [if_pos h1]; omega
  · rw [if_neg h1]
    by_cases h2 : 48 ≤ c ∧ c ≤ 57
    · rw [if_pos h2]; omega
    · rw [if_neg h2]
      by_cases h3 : c = 32
      · rw [if_pos h3]; omega
      · rw [if_neg h3]; omega
/-- the sort that the model gives to a place -/
theorem sof9 {L : Nat} {c : Nat → Nat} {τ : Store} (h : T9 L c τ) (q : Nat) (hq : q < 4096) : (sbd (fX9_byteAt (nI q) τ) fun r => fX9_sortOf r τ) = some (nI (if q < L then (if c q = 32 then 3 else srt (c q)) else 0)) := by
  rw [byte9 h q hq, sbd_e]
  by_cases h1 : q < L
  · rw [if_pos h1, if_pos h1]
    by_cases h2 : c q = 32
    · rw [if_pos h2, h2]; exact sof_32
    · rw [if_neg h2]; exact sof_tab _ (h.2.2 q h1).2 h2
  · rw [if_neg h1, if_neg h1]; rfl
def skp (c : Nat → Nat) : Nat → Nat → Nat
  | 0, p => p
  | m + 1, p => if c p = 32 then skp c m (p + 1) else p
theorem skp_le (c : Nat → Nat) : ∀ m p, p ≤ skp c m p ∧ skp c m p ≤ p + m ∧ (skp c m p < p + m → c (skp c m p) ≠ 32)
  | 0, p => ⟨Nat.le_refl _, Nat.le_refl _, fun z => absurd z (Nat.lt_irrefl _)⟩
  | m + 1, p => by
    unfold skp
    by_cases h : c p = 32
    · rw [if_pos h]
      obtain ⟨a, b, d⟩ := skp_le c m (p + 1)
      exact ⟨by omega, by omega, fun z => d (by omega)⟩
    · rw [if_neg h]; exact ⟨by omega, by omega, fun _ => h⟩
theorem skip8 {L : Nat} {c : Nat → Nat} (K : Store → Option Store) : ∀ (m p n : Nat) (σ : Store), p + m = L → m < n → T8 L c σ → σ 24 7 = nI p → fX2_advance_L18 K n σ = K (sup σ 24 7 (nI (skp c m p))) := by
  intro m
  induction m with
  | zero =>
    intro p n σ hp hn hT h7
    obtain ⟨n, rfl⟩ : ∃ k, n = k + 1 := ⟨n - 1, by omega⟩
    have hL := hT.1
    rw [fX2_advance_L18, hT.2.1, h7, if_pos (nI_le (by omega) (by omega))]
    unfold skp
    rw [← h7, sup_self]
  | succ m ih =>
    intro p n σ hp hn hT h7
    obtain ⟨n, rfl⟩ : ∃ k, n = k + 1 := ⟨n - 1, by omega⟩
    have hL := hT.1
    rw [fX2_advance_L18, hT.2.1, h7, if_neg (nI_ge (by omega) (by omega)), sort8 hT p (by omega), sbd_e, if_pos (show p < L by omega), l_4]
    unfold skp
    by_cases h : c p = 32
    · rw [if_pos h, if_neg (fun z => z (by rw [srt_4.mpr h])), slt_e, nI_1, ih (p + 1) n _ (by omega) (by omega) (hT.up (by omega)) sup_s, sup_sup]
    · rw [if_neg h, if_pos (fun z => h (srt_4.mp (nI_inj (by have := srt_lt (c p); omega) (by omega) z))), ← h7, sup_self]
theorem skip9 {L : Nat} {c : Nat → Nat} (K : Store → Option Store) : ∀ (m p n : Nat) (τ : Store), p + m = L → m < n → T9 L c τ → τ 0 9 = nI p → fX9_next_L13 K n τ = K (sup τ 0 9 (nI (skp c m p))) := by
  intro m
  induction m with
  | zero =>
    intro p n σ hp hn hT h7
    obtain ⟨n, rfl⟩ : ∃ k, n = k + 1 := ⟨n - 1, by omega⟩
    have hL := hT.1
    rw [fX9_next_L13, h7, byte9 hT p (by omega), sbd_e, if_neg (show ¬ p < L by omega), if_pos (by decide)]
    unfold skp
    rw [← h7, sup_self]
  | succ m ih =>
    intro p n σ hp hn hT h7
    obtain ⟨n, rfl⟩ : ∃ k, n = k + 1 := ⟨n - 1, by omega⟩
    have hL := hT.1
    have hc := (hT.2.2 p (by omega)).2
    rw [fX9_next_L13, h7, byte9 hT p (by omega), sbd_e, if_pos (show p < L by omega), l_32]
    unfold skp
    by_cases h : c p = 32
    · rw [if_pos h, if_neg (fun z => z (by rw [h])), slt_e, nI_1, ih (p + 1) n _ (by omega) (by omega) (hT.up (by omega)) sup_s, sup_sup]
    · rw [if_neg h, if_pos (fun z => h (nI_inj (by omega) (by omega) z)), ← h7, sup_self]
def ext (c : Nat → Nat) (k : Nat) : Nat → Nat → Nat
  | 0, e => e
  | m + 1, e => if srt (c e) = k then ext c k m (e + 1) else e
theorem ext_le (c : Nat → Nat) (k : Nat) : ∀ m e, e ≤ ext c k m e ∧ ext c k m e ≤ e + m ∧ ∀ i, e ≤ i → i < ext c k m e → srt (c i) = k
  | 0, e => ⟨Nat.le_refl _, Nat.le_refl _, fun i h1 h2 => absurd (Nat.lt_of_le_of_lt h1 h2) (Nat.lt_irrefl _)⟩
  | m + 1, e => by
    unfold ext
    by_cases h : srt (c e) = k
    · rw [if_pos h]
      obtain ⟨a, b, d⟩ := ext_le c k m (e + 1)
      refine ⟨by omega, by omega, fun i h1 h2 => ?_⟩
      by_cases hi : i = e
      · rw [hi]; exact h
      · exact d i (by omega) h2
    · rw [if_neg h]; exact ⟨by omega, by omega, fun i h1 h2 => absurd (Nat.lt_of_le_of_lt h1 h2) (Nat.lt_irrefl _)⟩
def isw (k : Nat) : Bool := k == 1 || k == 2
theorem isw8 {k : Nat} (hk : k ≤ 4) {σ : Store} (h : σ 24 9 = nI k) : fX2_isWord σ = some (isw k) := by
  unfold fX2_isWord
  rw [h]
  have : k = 0 ∨ k = 1 ∨ k = 2 ∨ k = 3 ∨ k = 4 := by omega
  rcases this with rfl | rfl | rfl | rfl | rfl <;> rfl
theorem isw9 {k : Nat} (hk : k ≤ 4) (τ : Store) : fX9_isRow (nI k) τ = some (isw k) := by
  have : k = 0 ∨ k = 1 ∨ k = 2 ∨ k = 3 ∨ k = 4 := by omega
  rcases this with rfl | rfl | rfl | rfl | rfl <;> rfl
theorem isw_t {k : Nat} (h : isw k = true) : k = 1 ∨ k = 2 := by
  unfold isw at h
  simp only [Bool.or_eq_true, beq_iff_eq] at h
  exact h
theorem ext8 {L k : Nat} {c : Nat → Nat} (hk : isw k = true) (K : Store → Option Store) : ∀ (m e n : Nat) (σ : Store), e + m = L → m < n → T8 L c σ → σ 24 8 = nI e → σ 24 9 = nI k → fX2_advance_L94 K n σ = K (sup σ 24 8 (nI (ext c k m e))) := by
  have hk4 := isw_t hk
  intro m
  induction m with
  | zero =>
    intro p n σ hp hn hT h7 h9
    obtain ⟨n, rfl⟩ : ∃ k, n = k + 1 := ⟨n - 1, by omega⟩
    have hL := hT.1
    rw [fX2_advance_L94, hT.2.1, h7, if_pos (nI_le (by omega) (by omega))]
    unfold ext
    rw [← h7, sup_self]
  | succ m ih =>
    intro p n σ hp hn hT h7 h9
    obtain ⟨n, rfl⟩ : ∃ k, n = k + 1 := ⟨n - 1, by omega⟩
    have hL := hT.1
    rw [fX2_advance_L94, hT.2.1, h7, if_neg (nI_ge (by omega) (by omega)), isw8 (by omega) h9, sbd_e, hk, if_pos rfl, sort8 hT p (by omega), sbd_e, if_pos (show p < L by omega), h9]
    unfold ext
    by_cases h : srt (c p) = k
    · rw [if_pos h, if_neg (fun z => z (by rw [h])), slt_e, nI_1, ih (p + 1) n _ (by omega) (by omega) (hT.up (by omega)) sup_s (by rw [sup_k (by omega), h9]), sup_sup]
    · rw [if_neg h, if_pos (fun z => h (nI_inj (by have := srt_lt (c p); omega) (by omega) z)), ← h7, sup_self]
theorem ext9 {L k : Nat} {c : Nat → Nat} (hk : isw k = true) (K : Store → Option Store) : ∀ (m e n : Nat) (τ : Store), e + m = L → m < n → T9 L c τ → τ 0 10 = nI e → τ 0 11 = nI k → fX9_next_L102 K n τ = K (sup τ 0 10 (nI (ext c k m e))) := by
  have hk4 := isw_t hk
  intro m
  induction m with
  | zero =>
    intro p n τ hp hn hT h7 h9
    obtain ⟨n, rfl⟩ : ∃ k, n = k + 1 := ⟨n - 1, by omega⟩
    have hL := hT.1
    have hs := sof9 hT p (by omega)
    rw [byte9 hT p (by omega), sbd_e] at hs
    rw [fX9_next_L102, h9, isw9 (by omega), sbd_e, hk, if_pos rfl, h7, byte9 hT p (by omega), sbd_e, hs, sbd_e, if_neg (show ¬ p < L by omega), if_pos (fun z => by have := nI_inj (by omega) (by omega) z; omega)]
    unfold ext
    rw [← h7, sup_self]
  | succ m ih =>
    intro p n τ hp hn hT h7 h9
    obtain ⟨n, rfl⟩ : ∃ k, n = k + 1 := ⟨n - 1, by omega⟩
    have hL := hT.1
    have hs := sof9 hT p (by omega)
    rw [byte9 hT p (by omega), sbd_e] at hs
    rw [fX9_next_L102, h9, isw9 (by omega), sbd_e, hk, if_pos rfl, h7, byte9 hT p (by omega), sbd_e, hs, sbd_e, if_pos (show p < L by omega)]
    unfold ext
    by_cases h : srt (c p) = k
    · have h32 : ¬ c p = 32 := fun z => by rw [srt_4.mpr z] at h; omega
      rw [if_pos h, if_neg h32, if_neg (fun z => z (by rw [h])), slt_e, nI_1, ih (p + 1) n _ (by omega) (by omega) (hT.up (by omega)) sup_s (by rw [sup_k (by omega), h9]), sup_sup]
    · rw [if_neg h, if_pos (fun z => by
        by_cases h32 : c p = 32
        · rw [if_pos h32] at z; have := nI_inj (by omega) (by omega) z; omega
        · rw [if_neg h32] at z; exact h (nI_inj (by have := srt_lt (c p); omega) (by omega) z)), ← h7, sup_self]

theorem ext8_no {k : Nat} (hk : k ≤ 4) (hw : ¬ isw k = true) (K : Store → Option Store) {σ : Store} (h9 : σ 24 9 = nI k) : fX2_advance_L94 K FU σ = K σ := by
  rw [show FU = 4999 + 1 from rfl, fX2_advance_L94, isw8 hk h9, sbd_e, if_neg hw, ite_self]
theorem ext9_no {k : Nat} (hk : k ≤ 4) (hw : ¬ isw k = true) (K : Store → Option Store) {τ : Store} (h9 : τ 0 11 = nI k) : fX9_next_L102 K FU τ = K τ := by
  rw [show FU = 4999 + 1 from rfl, fX9_next_L102, h9, isw9 hk, sbd_e, if_neg hw]
/-- where a piece begins, its sort, its end -/
def tp (c : Nat → Nat) (L e : Nat) : Nat := skp c (L - e) e
def tk (c : Nat → Nat) (L e : Nat) : Nat := if tp c L e < L then srt (c (tp c L e)) else 0
def te (c : Nat → Nat) (L e : Nat) : Nat := if tp c L e < L then (if isw (tk c L e) = true then ext c (tk c L e) (L - (tp c L e + 1)) (tp c L e + 1) else tp c L e + 1) else tp c L e
theorem tok_ok (c : Nat → Nat) {L e : Nat} (he : e ≤ L) : e ≤ tp c L e ∧ tp c L e ≤ L ∧ tk c L e ≤ 3 ∧ (tk c L e = 0 ↔ tp c L e = L) ∧ tp c L e ≤ te c L e ∧ te c L e ≤ L ∧ (tk c L e ≠ 0 → tp c L e < te c L e) ∧ (isw (tk c L e) = true → ∀ i, tp c L e ≤ i → i < te c L e → srt (c i) = tk c L e) := by
  obtain ⟨a1, a2, a3⟩ := skp_le c (L - e) e
  have h0 : tp c L e = skp c (L - e) e := rfl
  rw [← h0] at a1 a2 a3
  by_cases h : tp c L e < L
  · have hk : tk c L e = srt (c (tp c L e)) := if_pos h
    have hs := srt_lt (c (tp c L e))
    have h4 : tk c L e ≠ 4 := fun z => a3 (by omega) (srt_4.mp (by rw [← hk]; exact z))
    have he' : te c L e = if isw (tk c L e) = true then ext c (tk c L e) (L - (tp c L e + 1)) (tp c L e + 1) else tp c L e + 1 := if_pos h
    by_cases hw : isw (tk c L e) = true
    · rw [if_pos hw] at he'
      obtain ⟨b1, b2, b3⟩ := ext_le c (tk c L e) (L - (tp c L e + 1)) (tp c L e + 1)
      rw [← he'] at b1 b2 b3
      refine ⟨a1, by omega, by omega, by omega, by omega, by omega, fun _ => by omega, fun _ i h1 h2 => ?_⟩
      by_cases hi : i = tp c L e
      · rw [hi, hk]
      · exact b3 i (by omega) h2
    · rw [if_neg hw] at he'
      exact ⟨a1, by omega, by omega, by omega, by omega, by omega, fun _ => by omega, fun z => absurd z hw⟩
  · have hk : tk c L e = 0 := if_neg h
    have he' : te c L e = tp c L e := if_neg h
    refine ⟨a1, by omega, by omega, by omega, by omega, by omega, fun z => absurd hk z, fun z => by rw [hk] at z; cases z⟩
theorem adv8 {L e k : Nat} {c : Nat → Nat} {σ : Store} (hT : T8 L c σ) (he : e ≤ L) (h8 : σ 24 8 = nI e) (hk : k ≤ 4) (h9 : σ 24 9 = nI k) : fX2_advance σ = some (sup (sup (sup (sup σ 24 7 (nI (tp c L e))) 24 9 (nI (tk c L e))) 24 8 (nI (te c L e))) 24 10 (b2i (isw k && isw (tk c L e) && decide (tp c L e = e)))) := by
  have hL := hT.1
  obtain ⟨o1, o2, o3, o4, o5, o6, o7, o8⟩ := tok_ok c he
  unfold fX2_advance
  rw [slt_e, isw8 hk h9, sbd_e, slt_e, h8, skip8 _ (L - e) e FU _ (by omega) (FU_gt (by omega)) (hT.up (by omega)) sup_s, sup_sup, show skp c (L - e) e = tp c L e from rfl]
  rw [sup_s, sort8 (hT.up (by omega)) _ (by omega), sbd_e, slt_e, show (if tp c L e < L then srt (c (tp c L e)) else 0) = tk c L e from rfl, sjn_e]
  have hT2 : T8 L c (sup (sup σ 24 7 (nI (tp c L e))) 24 9 (nI (tk c L e))) := (hT.up (by omega)).up (by omega)
  have h7 : sup (sup σ 24 7 (nI (tp c L e))) 24 9 (nI (tk c L e)) 24 7 = nI (tp c L e) := by rw [sup_k (by omega), sup_s]
  have h99 : sup (sup σ 24 7 (nI (tp c L e))) 24 9 (nI (tk c L e)) 24 9 = nI (tk c L e) := sup_s
  have h77 : ∀ (s : Store), s 24 9 = nI (tk c L e) → s 24 7 = nI (tp c L e) → (sjn (fun k165 : Bool → Option Store => (if isw k = true then (sbd (fX2_isWord s) fun r46 => (if r46 = true then (if ¬ (s 24 7) = nI e then (k165 false) else (k165 true)) else (k165 false))) else (k165 false))) (fun (z0_165 : Bool) => (slt (sup s 24 10 (b2i z0_165)) fun s44 => (some s44)))) = some (sup s 24 10 (b2i (isw k && isw (tk c L e) && decide (tp c L e = e)))) := by
    intro s s9 s7
    rw [sjn_e, isw8 (by omega) s9, sbd_e, s7]
    cases isw k with
    | false => rfl
    | true =>
      rw [if_pos rfl]
      cases isw (tk c L e) with
      | false => rfl
      | true =>
        rw [if_pos rfl]
        by_cases hz : tp c L e = e
        · rw [if_neg (fun z => z (by rw [hz])), decide_eq_true hz]; rfl
        · rw [if_pos (fun z => hz (nI_inj (by omega) (by omega) z)), decide_eq_false hz]; rfl
  generalize sup (sup σ 24 7 (nI (tp c L e))) 24 9 (nI (tk c L e)) = s at *
  rw [hT2.2.1, h7]
  by_cases h : tp c L e < L
  · rw [if_neg (nI_ge h (by omega))]
    dsimp only
    rw [slt_e, nI_1]
    have he' : te c L e = if isw (tk c L e) = true then ext c (tk c L e) (L - (tp c L e + 1)) (tp c L e + 1) else tp c L e + 1 := if_pos h
    by_cases hw : isw (tk c L e) = true
    · rw [if_pos hw] at he'
      rw [ext8 hw _ (L - (tp c L e + 1)) (tp c L e + 1) FU _ (by omega) (FU_gt (by omega)) (hT2.up (by omega)) sup_s (by rw [sup_k (by omega), h99]), sup_sup, ← he']
      exact h77 _ (by rw [sup_k (by omega), h99]) (by rw [sup_k (by omega), h7])
    · rw [if_neg hw] at he'
      rw [← he', ext8_no (k := tk c L e) (by omega) hw _ (by rw [sup_k (by omega), h99])]
      exact h77 (sup s 24 8 (nI (te c L e))) (by rw [sup_k (by omega), h99]) (by rw [sup_k (by omega), h7])
  · have he' : te c L e = tp c L e := if_neg h
    rw [if_pos (nI_le (by omega) (by omega))]
    dsimp only
    rw [slt_e, he', show FU = 4999 + 1 from rfl, fX2_advance_L94, sup_s, (hT2.up (f := 8) (by omega)).2.1, if_pos (nI_le (by omega) (by omega))]
    exact h77 _ (by rw [sup_k (by omega), h99]) (by rw [sup_k (by omega), h7])
def rest9 (z0_62 : Bool) (s12 : Store) : Option Store := (sbd (fX9_byteAt (s12 0 9) s12) fun r16 => (sbd (fX9_sortOf r16 s12) fun r17 => (slt (sup s12 0 11 r17) fun s18 => (sjn (fun k99 : Int32 → Option Store => (if ¬ (s18 0 11) = 0 then (k99 ((s18 0 9) + (1 : Int32))) else (k99 (s18 0 9)))) (fun (z0_99 : Int32) => (slt (sup s18 0 10 z0_99) fun s20 => (fX9_next_L102  (fun s39 => (sjn (fun k166 : Int32 → Option Store => (if z0_62 = true then (sbd (fX9_isRow (s39 0 11) s39) fun r45 => (if r45 = true then (k166 (4 : Int32)) else (k166 (s39 0 11)))) else (k166 (s39 0 11)))) (fun (z0_166 : Int32) => (slt (sup s39 0 11 z0_166) fun s43 => (some s43))))) FU s20)))))))
theorem adv9_r {L e : Nat} {c : Nat → Nat} {s : Store} (hT : T9 L c s) (he : e ≤ L) (h7 : s 0 9 = nI (tp c L e)) (z : Bool) : rest9 z s = some (sup (sup (sup s 0 11 (nI (tk c L e))) 0 10 (nI (te c L e))) 0 11 (nI (if z && isw (tk c L e) then 4 else tk c L e))) := by
  have hL := hT.1
  obtain ⟨o1, o2, o3, o4, o5, o6, o7, o8⟩ := tok_ok c he
  have hs := sof9 hT (tp c L e) (by omega)
  rw [byte9 hT _ (by omega), sbd_e] at hs
  have hsk : (if tp c L e < L then (if c (tp c L e) = 32 then 3 else srt (c (tp c L e))) else 0) = tk c L e := by
    unfold tk
    by_cases h : tp c L e < L
    · rw [if_pos h, if_pos h, if_neg (fun z => by
        obtain ⟨a1, a2, a3⟩ := skp_le c (L - e) e
        exact a3 (by have : tp c L e = skp c (L - e) e := rfl
                     omega) z)]
    · rw [if_neg h, if_neg h]
  rw [hsk] at hs
  unfold rest9
  rw [h7, byte9 hT _ (by omega), sbd_e, hs, sbd_e, slt_e, sjn_e, sup_s, sup_k (k' := 9) (by omega), h7]
  have hT2 : T9 L c (sup s 0 11 (nI (tk c L e))) := hT.up (by omega)
  have h99 : sup s 0 11 (nI (tk c L e)) 0 11 = nI (tk c L e) := sup_s
  generalize sup s 0 11 (nI (tk c L e)) = s at *
  have h77 : ∀ (s : Store), s 0 11 = nI (tk c L e) → (sjn (fun k166 : Int32 → Option Store => (if z = true then (sbd (fX9_isRow (s 0 11) s) fun r45 => (if r45 = true then (k166 (4 : Int32)) else (k166 (s 0 11)))) else (k166 (s 0 11)))) (fun (z0_166 : Int32) => (slt (sup s 0 11 z0_166) fun s43 => (some s43)))) = some (sup s 0 11 (nI (if z && isw (tk c L e) then 4 else tk c L e))) := by
    intro s s9
    rw [sjn_e, s9, isw9 (by omega), sbd_e]
    cases z <;> cases isw (tk c L e) <;> rfl
  by_cases h : tp c L e < L
  · have hk0 : ¬ nI (tk c L e) = 0 := fun z => by
      have : tk c L e = 0 := nI_inj (b := 0) (by omega) (by omega) z
      have := o4.mp this
      omega
    rw [if_pos hk0]
    dsimp only
    rw [slt_e, nI_1]
    have he' : te c L e = if isw (tk c L e) = true then ext c (tk c L e) (L - (tp c L e + 1)) (tp c L e + 1) else tp c L e + 1 := if_pos h
    by_cases hw : isw (tk c L e) = true
    · rw [if_pos hw] at he'
      rw [ext9 hw _ (L - (tp c L e + 1)) (tp c L e + 1) FU _ (by omega) (FU_gt (by omega)) (hT2.up (by omega)) sup_s (by rw [sup_k (by omega), h99]), sup_sup, ← he']
      exact h77 _ (by rw [sup_k (by omega), h99])
    · rw [if_neg hw] at he'
      rw [← he', ext9_no (k := tk c L e) (by omega) hw _ (by rw [sup_k (by omega), h99])]
      exact h77 (sup s 0 10 (nI (te c L e))) (by rw [sup_k (by omega), h99])
  · have he' : te c L e = tp c L e := if_neg h
    have hk0 : tk c L e = 0 := if_neg h
    rw [if_neg (fun z => z (by rw [hk0]; rfl))]
    dsimp only
    rw [slt_e, he', ext9_no (k := tk c L e) (by omega) (by rw [hk0]; decide) _ (by rw [sup_k (by omega), h99])]
    exact h77 (sup s 0 10 (nI (tp c L e))) (by rw [sup_k (by omega), h99])
theorem adv9 {L e k : Nat} {c : Nat → Nat} {τ : Store} (hT : T9 L c τ) (he : e ≤ L) (h8 : τ 0 10 = nI e) (hk : k ≤ 4) (h9 : τ 0 11 = nI k) : fX9_next τ = some (sup (sup (sup (sup τ 0 9 (nI (tp c L e))) 0 11 (nI (tk c L e))) 0 10 (nI (te c L e))) 0 11 (nI (if isw k && isw (tk c L e) && decide (tp c L e = e) then 4 else tk c L e))) := by
  have hL := hT.1
  obtain ⟨o1, o2, o3, o4, o5, o6, o7, o8⟩ := tok_ok c he
  unfold fX9_next
  rw [slt_e, slt_e, h8, skip9 _ (L - e) e FU _ (by omega) (FU_gt (by omega)) (hT.up (by omega)) sup_s, sup_sup, show skp c (L - e) e = tp c L e from rfl, sjn_e, sup_s, sup_k (k' := 10) (by omega), h8, h9, isw9 hk, sbd_e]
  have hT1 : T9 L c (sup τ 0 9 (nI (tp c L e))) := hT.up (by omega)
  have r9 := adv9_r hT1 he sup_s
  by_cases hz : tp c L e = e
  · rw [if_neg (fun z => z (by rw [hz]))]
    by_cases hw : isw k = true
    · rw [if_pos hw]
      refine Eq.trans (r9 true) ?_
      rw [hw, decide_eq_true hz, Bool.and_true, Bool.true_and]
    · rw [if_neg hw]
      refine Eq.trans (r9 false) ?_
      rw [b_f hw]; rfl
  · rw [if_pos (fun z => hz (nI_inj (by omega) (by omega) z))]
    refine Eq.trans (r9 false) ?_
    rw [decide_eq_false hz, Bool.and_false]; rfl
