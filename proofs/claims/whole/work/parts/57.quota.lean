/-! the quota -/
theorem sub_toInt {a b : Int32} (h1 : -2 ^ 31 ≤ a.toInt - b.toInt) (h2 : a.toInt - b.toInt < 2 ^ 31) : (a - b).toInt = a.toInt - b.toInt := by
  rw [Int32.toInt_sub]
  exact Int.bmod_eq_of_le (by omega) (by omega)
theorem sabs_n {x : Int32} (h : -2 ^ 31 < x.toInt) : sabs x = nI x.toInt.natAbs := by
  have e0 : (0 : Int32).toInt = 0 := rfl
  have hr := fb_rng x
  unfold sabs
  apply Int32.toInt_inj.mp
  rw [nI_toInt (by omega)]
  by_cases h0 : (0 : Int32) ≤ x
  · rw [if_pos h0]
    have := (fa_le _ _).mp h0
    omega
  · rw [if_neg h0, sub_toInt (by omega) (by omega)]
    have : ¬ (0 : Int32).toInt ≤ x.toInt := fun z => h0 ((fa_le _ _).mpr z)
    omega
theorem dif_n {s : Nat} {v : Int32} (hs : s ≤ 20100000) (hv : vOk v) (hn : ¬ v = -1000000005) : ∃ k, k ≤ 20200000 ∧ sabs (nI s - v) = nI k := by
  obtain ⟨h1, h2⟩ : -99999 ≤ v.toInt ∧ v.toInt ≤ 99999 := by
    rcases hv with h | h
    · exact absurd h hn
    · exact h
  have e : (nI s).toInt = s := nI_toInt (by omega)
  have e2 : (nI s - v).toInt = s - v.toInt := by rw [sub_toInt (by omega) (by omega), e]
  exact ⟨_, by rw [e2]; omega, sabs_n (by omega)⟩
theorem l64_add {d k : Nat} (h : d + k < 2 ^ 31) : (nI d).toInt64 + (nI k).toInt64 = (nI (d + k)).toInt64 := by
  apply Int64.toInt_inj.mp
  rw [lg_i2l_add, Int32.toInt_toInt64, nI_toInt (by omega), nI_toInt (by omega), nI_toInt (by omega)]
  omega
theorem l64_le {d k : Nat} (hd : d < 2 ^ 31) (hk : k < 2 ^ 31) : (0 ≤ lg_cmp (nI k).toInt64 (nI d).toInt64) ↔ d ≤ k := by
  rw [lg_cmp_ge, fa_le64, Int32.toInt_toInt64, Int32.toInt_toInt64, nI_toInt hd, nI_toInt hk]
  omega
/-- one day of the count, after the day has passed in the class -/
def cbq (s w : Nat) (n : Nat) (acc : Int32) (i : Nat) (σ : Store) : Option (Int32 × Store) :=
  sbd (fX3_isNumber (27 + s) (nI i) σ) fun r25 => (if r25 = true then (six 24 (nI i) (slt (acc + (sabs ((σ (95 + (3 + w)) 4) - (σ (fpl (27 + s)) (snx (nI i)))))) fun x28 => (fX8_differences_L34 (27 + s) (95 + (3 + w)) n x28 (nI i + (1 : Int32)) σ))) else (fX8_differences_L34 (27 + s) (95 + (3 + w)) n acc (nI i + (1 : Int32)) σ))
theorem day_key {nw nt nx s w len i d S n n2 : Nat} {σ τ : Store} (hs : s < 4) (hw : w < nw) (hl : len ≤ 24) (K : Int64 → Int32 → Store → Option (Int32 × Store)) (hi : i < len) (hR : BR 95 nw nt nx S σ τ) (hS : S ≤ 20100000) (hd : d ≤ 20200000 * i) (e1 : σ (27 + s) 1 = nI len) (e2 : τ 12 s = nI len) (e3 : ∀ k, k < 24 → σ (31 + s) k = τ 13 (24 * s + k) ∧ vOk (τ 13 (24 * s + k))) :
    ∃ d' σ1 τ1, d' ≤ 20200000 * (i + 1) ∧ fX0_dayPasses 95 σ = some σ1 ∧ BR 95 nw nt nx (S + 60) σ1 τ1 ∧ fr8 95 σ σ1 ∧ fr9d τ τ1 ∧ cbq s w n (nI d) i σ = fX8_differences_L34 (27 + s) (95 + (3 + w)) n (nI d') (nI (i + 1)) σ ∧ fX9_quota_L92 (nI s) (nI w) K (n2 + 1) (nI d).toInt64 (nI i) τ = fX9_quota_L92 (nI s) (nI w) K n2 (nI d').toInt64 (nI (i + 1)) τ1 := by
  have hsz := hR.1.2.1
  obtain ⟨st, s1, s2⟩ := hR.2.2 w hw
  have wf := hR.wf (w := w) (f := 4) hw (by omega)
  rw [show 8 + 6 * w + 4 = 12 + 6 * w by omega] at wf
  obtain ⟨σ1, τ1, a1, a2, a3, a4, a5⟩ := day1_sim hR
  obtain ⟨k3, v3⟩ := e3 i (by omega)
  have mo : fX9_quota_L92 (nI s) (nI w) K (n2 + 1) (nI d).toInt64 (nI i) τ = if ¬ τ 13 (24 * s + i) = -1000000005 then fX9_quota_L92 (nI s) (nI w) K n2 ((nI d).toInt64 + (sabs (nI st - τ 13 (24 * s + i))).toInt64) (nI (i + 1)) τ1 else fX9_quota_L92 (nI s) (nI w) K n2 ((nI d).toInt64 + 0) (nI (i + 1)) τ1 := by
    rw [fX9_quota_L92, six_e (k := s) (by omega) (by omega), snx_e (k := s) (by omega), e2, if_neg (nI_ge (by omega) (by omega)), l_24, pk_mul, nI_add, six_e (k := 24 * s + i) (by omega) (by omega), slt_e, snx_e (k := 24 * s + i) (by omega), sjn_e, wI (x := 4) (f := 4) (by omega) (by omega) rfl, show 8 + 6 * w + 4 = 12 + 6 * w by omega, s2]
    simp only [sbd_e, slt_e, a2, nI_1]
  unfold cbq
  rw [numb8 e1 hl (by omega), sbd_e, fpl_s hs, wf, s2, snx_e (k := i) (by omega), k3, mo, nI_1]
  by_cases c3 : τ 13 (24 * s + i) = -1000000005
  · refine ⟨d, σ1, τ1, by omega, a1, a3, a4, a5, ?_, ?_⟩
    · rw [if_neg (fun z => (of_decide_eq_true z).2 c3)]
    · rw [if_neg (fun z => z c3), Int64.add_zero]
  · obtain ⟨k, hk, ek⟩ := dif_n (s := st) (by omega) v3 c3
    refine ⟨d + k, σ1, τ1, by omega, a1, a3, a4, a5, ?_, ?_⟩
    · rw [if_pos (decide_eq_true ⟨hi, c3⟩), six_e (by omega) (by omega), slt_e, ek, nI_add]
    · rw [if_pos c3, ek, l64_add (by omega)]
theorem diff_body {nw nt nx s w len : Nat} (hs : s < 4) (hw : w < nw) (hl : len ≤ 24) (K : Int64 → Int32 → Store → Option (Int32 × Store)) : ∀ (m i d S : Nat) (σ τ : Store) (n n2 : Nat), i + m + 1 = len → m < n → m + 1 < n2 → BR 95 nw nt nx S σ τ → S + 60 * m ≤ 20100000 → d ≤ 20200000 * i → σ (27 + s) 1 = nI len → τ 12 s = nI len → (∀ k, k < 24 → σ (31 + s) k = τ 13 (24 * s + k) ∧ vOk (τ 13 (24 * s + k))) →
    ∃ d' σ' τ', cbq s w n (nI d) i σ = some (nI d', σ') ∧ fX9_quota_L92 (nI s) (nI w) K n2 (nI d).toInt64 (nI i) τ = K (nI d').toInt64 (nI len) τ' ∧ fr8 95 σ σ' ∧ fr9d τ τ' ∧ d' ≤ 20200000 * len := by
  intro m
  induction m with
  | zero =>
    intro i d S σ τ n n2 hi hn hn2 hR hS hd e1 e2 e3
    obtain ⟨n, rfl⟩ : ∃ k, n = k + 1 := ⟨n - 1, by omega⟩
    obtain ⟨n2, rfl⟩ : ∃ k, n2 = k + 1 + 1 := ⟨n2 - 2, by omega⟩
    obtain ⟨d', σ1, τ1, k1, k2, k3, k4, k5, k6, k7⟩ := day_key (n := n + 1) (n2 := n2 + 1) hs hw hl K (show i < len by omega) hR (by omega) hd e1 e2 e3
    obtain rfl : len = i + 1 := by omega
    refine ⟨d', σ, τ1, ?_, ?_, fr8.rf, k5, k1⟩
    · rw [k6, fX8_differences_L34, e1, if_pos (Int32.le_refl _)]
    · rw [k7, fX9_quota_L92, six_e (by omega) (by omega), snx_e (by omega), k5.1 12 (by omega) (by omega) (by omega), e2, if_pos (Int32.le_refl _)]
  | succ m ih =>
    intro i d S σ τ n n2 hi hn hn2 hR hS hd e1 e2 e3
    obtain ⟨n, rfl⟩ : ∃ k, n = k + 1 := ⟨n - 1, by omega⟩
    obtain ⟨n2, rfl⟩ : ∃ k, n2 = k + 1 := ⟨n2 - 1, by omega⟩
    obtain ⟨d1, σ1, τ1, k1, k2, k3, k4, k5, k6, k7⟩ := day_key (n := n + 1) (n2 := n2) hs hw hl K (show i < len by omega) hR (by omega) hd e1 e2 e3
    have c8 (j : Nat) (h : j < 57 ∧ j ≠ 20) : σ1 j = σ j := k4 j h.2 (by omega)
    have c9 (j : Nat) (h : 11 ≤ j) : τ1 j = τ j := k5.1 j (by omega) (by omega) (by omega)
    obtain ⟨d', σ', τ', i1, i2, i3, i4, i5⟩ := ih (i + 1) d1 (S + 60) σ1 τ1 n n2 (by omega) (by omega) (by omega) k3 (by omega) k1 (by rw [c8 _ (by omega), e1]) (by rw [c9 12 (by omega), e2]) (fun k hk => by rw [c8 _ (by omega), c9 13 (by omega)]; exact e3 k hk)
    refine ⟨d', σ', τ', ?_, by rw [k7, i2], k4.tr i3, k5.tr i4, i5⟩
    rw [k6, fX8_differences_L34, e1, if_neg (nI_ge (by omega) (by omega)), sjn_e, if_neg (show ¬ nI (i + 1) ≤ (0 : Int32) from (nI_ge (show 0 < i + 1 by omega) (by omega) : ¬ nI (i + 1) ≤ nI 0)), k2, sbd_e]
    exact i1
theorem unthink2 {τ1 τ2 : Store} (h3 : ∀ k, k < 80 → τ1 3 k = τ1 1 k) (hf : fr9d τ1 τ2) (v : Int32) :
    ∃ τ3, fX9_putBack v τ2 = some (v, τ3) ∧ τ3 1 = τ1 1 ∧ ∀ j, j ≠ 9 → j ≠ 10 → τ3 j = τ1 j := by
  obtain ⟨τ3, b1, b2, b3, b4⟩ := copy_e (a := 3) (b := 1) (na := 80) (nb := 1480) (N := 80) (by omega) (by omega) (by omega) (by omega) (by omega) τ2
  have e1 : τ3 1 = τ1 1 := by
    funext k
    by_cases hk : k < 80
    · rw [b4 k hk, hf.1 3 (by omega) (by omega) (by omega), h3 k hk]
    · rw [b3 k (by omega), hf.2 k (by omega)]
  refine ⟨τ3, ?_, e1, fun j j9 j10 => ?_⟩
  · unfold fX9_putBack
    rw [show fX9_copyRow 3 80 1 1480 (80 : Int32) τ2 = _ from b1, sbd_e]
  · by_cases j1 : j = 1
    · rw [j1, e1]
    · rw [b2 j j1, hf.1 j j1 j9 j10]
/-- one quota tried on both sides -/
theorem diff_sim {nw nt nx s w len S q n2 : Nat} {σ τ : Store} (hs : s < 4) (hw : w < nw) (hl : len ≤ 24) (K : Int64 → Int32 → Store → Option (Int32 × Store)) (hR : BR 57 nw nt nx S σ τ) (hS : S ≤ 20000000) (e1 : σ (27 + s) 1 = nI len) (e2 : τ 12 s = nI len) (e3 : ∀ k, k < 24 → σ (31 + s) k = τ 13 (24 * s + k) ∧ vOk (τ 13 (24 * s + k))) (hn : len < n2) :
    ∃ d' σ' τ', fX8_differences (27 + s) (nI w) (nI q) σ = some (nI d', σ') ∧ fX9_quota_L92 (nI s) (nI w) K n2 0 0 (sup τ 1 (8 + 6 * w + 3) (nI q)) = K (nI d').toInt64 (nI len) τ' ∧ (∀ j, j ≠ 20 → ¬ (95 ≤ j ∧ j < 114) → σ' j = σ j) ∧ fr9d τ τ' ∧ d' < 2 ^ 31 := by
  have hsz := hR.1.2.1
  obtain ⟨σ1, a1, a2, a3⟩ := bec_sim (A := 95) (B := 57) (σ := σ) (g := τ 1) hR (by omega) (by omega)
  have hR1 : BR 95 nw nt nx S σ1 τ := a2
  have hR2 := hR1.fld hw (Or.inr rfl) (nI q)
  unfold fX8_differences
  rw [a1, sbd_e, six_e (by omega) (by omega), slt_e, wrd_e (by omega)]
  have c8 (j : Nat) (h : ¬ (95 ≤ j ∧ j < 114)) : sup σ1 (95 + (3 + w)) 3 (nI q) j = σ j := by rw [sup_o (by omega), a3 j (by omega)]
  by_cases h0 : len = 0
  · subst h0
    obtain ⟨n2, rfl⟩ : ∃ k, n2 = k + 1 := ⟨n2 - 1, by omega⟩
    refine ⟨0, _, _, by rw [show FU = 4999 + 1 from rfl, fX8_differences_L34, c8 _ (by omega), e1, if_pos (by decide)]; rfl, ?_, fun j _ h => c8 j h, fr9d.rf.up (q0 := 8 + 6 * w + 3) (x := nI q) (by omega), by omega⟩
    rw [fX9_quota_L92, six_e (by omega) (by omega), snx_e (by omega), sup_j (by omega), e2, if_pos (by decide)]
    rfl
  · obtain ⟨d', σ', τ', i1, i2, i3, i4, i5⟩ := diff_body hs hw hl K (len - 1) 0 0 S _ _ 4999 n2 (by omega) (by omega) (by omega) hR2 (by omega) (by omega) (by rw [c8 _ (by omega), e1]) (by rw [sup_j (by omega), e2]) (fun k hk => by rw [c8 _ (by omega), sup_j (by omega)]; exact e3 k hk)
    refine ⟨d', σ', τ', ?_, i2, fun j h1 h2 => by rw [i3 j h1 (by omega), c8 j h2], (fr9d.rf.up (by omega)).tr i4, by omega⟩
    rw [show FU = 4999 + 1 from rfl, fX8_differences_L34, c8 _ (by omega), e1, if_neg (show ¬ nI len ≤ (0 : Int32) from (nI_ge (show 0 < len by omega) (by omega) : ¬ nI len ≤ nI 0)), sjn_e, if_pos (by decide)]
    exact i1

theorem quo9 {s w q n : Nat} (hw : w < 10) (hq : q < 21) {i4 : Int32} {i5 : Int64} {τ : Store} {k : Int32 → Int64 → Int32 → Store → Option (Int32 × Store)} : fX9_quota_L63 (nI s) (nI w) k (n + 1) i4 i5 (nI q) τ = fX9_quota_L92 (nI s) (nI w) (fun x127 x128 s129 => (sjn (fun k180 : Int32 → Int64 → Option (Int32 × Store) => (if (lg_cmp i5 (0 : Int64)) < 0 then (k180 (nI q) x127) else (if 0 ≤ (lg_cmp x127 i5) then (k180 i4 i5) else (k180 (nI q) x127)))) (fun (y4_180 : Int32) (y5_180 : Int64) => (sbd2 (fX9_putBack y4_180 s129) fun r132 s133 => (fX9_quota_L63 (nI s) (nI w) k n r132 y5_180 (nI q + (1 : Int32)) s133))))) FU 0 0 (sup τ 1 (8 + 6 * w + 3) (nI q)) := by
  rw [fX9_quota_L63, l_20, if_neg (nI_nlt (by omega) (by omega)), l_8, l_6, pk_mul, nI_add, l_3, nI_add, six_e (by omega) (by omega), slt_e, snx_e (by omega)]
theorem quota_loop {nw nt nx s w len S : Nat} (hs : s < 4) (hw : w < nw) (hl : len ≤ 24) (hS : S ≤ 20000000) (kc : Int32 → Int32 → Int32 → Store → Option (Int32 × Store)) (km : Int32 → Int64 → Int32 → Store → Option (Int32 × Store)) : ∀ (m q b d : Nat) (σ τ : Store) (n n2 : Nat), q + m = 21 → m < n → m < n2 → BR 57 nw nt nx S σ τ → σ (27 + s) 1 = nI len → τ 12 s = nI len → (∀ k, k < 24 → σ (31 + s) k = τ 13 (24 * s + k) ∧ vOk (τ 13 (24 * s + k))) → (∀ k, k < 80 → τ 3 k = τ 1 k) → d < 2 ^ 31 →
    ∃ b' d' σ' τ', fX8_quota_L65 (nI s) (nI w) kc n (nI b) (nI d) (nI q) σ = kc (nI b') (nI d') (nI 21) σ' ∧ fX9_quota_L63 (nI s) (nI w) km n2 (nI b) (nI d).toInt64 (nI q) τ = km (nI b') (nI d').toInt64 (nI 21) τ' ∧ (∀ j, j ≠ 20 → ¬ (95 ≤ j ∧ j < 114) → σ' j = σ j) ∧ (∀ j, j ≠ 9 → j ≠ 10 → τ' j = τ j) := by
  intro m
  induction m with
  | zero =>
    intro q b d σ τ n n2 hi hn hn2 hR e1 e2 e3 h3 hd
    obtain rfl : q = 21 := by omega
    obtain ⟨n, rfl⟩ : ∃ k, n = k + 1 := ⟨n - 1, by omega⟩
    obtain ⟨n2, rfl⟩ : ∃ k, n2 = k + 1 := ⟨n2 - 1, by omega⟩
    exact ⟨b, d, σ, τ, by rw [fX8_quota_L65, if_pos (by decide)], by rw [fX9_quota_L63, if_pos (by decide)], fun _ _ _ => rfl, fun _ _ _ => rfl⟩
  | succ m ih =>
    intro q b d σ τ n n2 hi hn hn2 hR e1 e2 e3 h3 hd
    have hsz := hR.1.2.1
    obtain ⟨n, rfl⟩ : ∃ k, n = k + 1 := ⟨n - 1, by omega⟩
    obtain ⟨n2, rfl⟩ : ∃ k, n2 = k + 1 := ⟨n2 - 1, by omega⟩
    obtain ⟨d1, σ1, τ1, a1, a2, a3, a4, a5⟩ := diff_sim (q := q) hs hw hl (fun x127 x128 s129 => (sjn (fun k180 : Int32 → Int64 → Option (Int32 × Store) => (if (lg_cmp (nI d).toInt64 (0 : Int64)) < 0 then (k180 (nI q) x127) else (if 0 ≤ (lg_cmp x127 (nI d).toInt64) then (k180 (nI b) (nI d).toInt64) else (k180 (nI q) x127)))) (fun (y4_180 : Int32) (y5_180 : Int64) => (sbd2 (fX9_putBack y4_180 s129) fun r132 s133 => (fX9_quota_L63 (nI s) (nI w) km n2 r132 y5_180 (nI q + (1 : Int32)) s133))))) hR hS e1 e2 e3 (show len < FU from FU_gt (by omega))
    have nxt : ∀ (b2 d2 : Nat), d2 < 2 ^ 31 → ∃ b' d' σ' τ', fX8_quota_L65 (nI s) (nI w) kc n (nI b2) (nI d2) (nI (q + 1)) σ1 = kc (nI b') (nI d') (nI 21) σ' ∧ (sbd2 (fX9_putBack (nI b2) τ1) fun r132 s133 => (fX9_quota_L63 (nI s) (nI w) km n2 r132 (nI d2).toInt64 (nI (q + 1)) s133)) = km (nI b') (nI d').toInt64 (nI 21) τ' ∧ (∀ j, j ≠ 20 → ¬ (95 ≤ j ∧ j < 114) → σ' j = σ j) ∧ (∀ j, j ≠ 9 → j ≠ 10 → τ' j = τ j) := by
      intro b2 d2 hd2
      obtain ⟨τ2, p1, p2, p3⟩ := unthink2 h3 a4 (nI b2)
      obtain ⟨b', d', σ', τ', i1, i2, i3, i4⟩ := ih (q + 1) b2 d2 σ1 τ2 n n2 (by omega) (by omega) (by omega) (hR.same (fun j hj => a3 j (by omega) (by omega)) p2) (by rw [a3 _ (by omega) (by omega), e1]) (by rw [p3 12 (by omega) (by omega), e2]) (fun k hk => by rw [a3 _ (by omega) (by omega), p3 13 (by omega) (by omega)]; exact e3 k hk) (fun k hk => by rw [p2, p3 3 (by omega) (by omega)]; exact h3 k hk) hd2
      exact ⟨b', d', σ', τ', i1, by rw [p1, sbd2_e, i2], fun j h1 h2 => by rw [i3 j h1 h2, a3 j h1 h2], fun j h1 h2 => by rw [i4 j h1 h2, p3 j h1 h2]⟩
    rw [fX8_quota_L65, l_20, if_neg (nI_nlt (by omega) (by omega)), six_e (by omega) (by omega), shr_e (by omega), a1, sbd2_e, quo9 (by omega) (by omega), a2, sjn_e, nI_1, if_neg (show ¬ lg_cmp (nI d).toInt64 0 < 0 from fun z => by
      have := (lg_cmp_lt _ _).mp z
      rw [fa_lt64, Int32.toInt_toInt64, nI_toInt hd] at this
      have e0 : (0 : Int64).toInt = 0 := rfl
      omega)]
    by_cases hc : d ≤ d1
    · rw [if_pos (nI_le hc a5), if_pos ((l64_le hd a5).mpr hc)]; exact nxt b d hd
    · rw [if_neg (nI_ge (by omega) hd), if_neg (fun z => hc ((l64_le hd a5).mp z))]; exact nxt q d1 a5
theorem o_quota {S : Nat} {σ τ : Store} (R : Rel S σ τ) (hS : S ≤ 20000000) (a b c : Int32) : ∃ r σ' τ', fX8_quota a b c σ = some (r, σ') ∧ fX9_quota a b c τ = some (r, τ') ∧ Rel S σ' τ' := by
  have R0 := R
  obtain ⟨nw, nt, nx, hR, hD, hX⟩ := R
  have hsz := hR.1.2.1
  unfold fX8_quota fX9_quota
  rw [sheet8, sheet9, sbd_e, sbd_e, hasW8 hR, isW9 hR, sbd_e, sbd_e, within8, within9, sbd_e, sbd_e]
  by_cases h1 : inN a 4 = true
  · rw [if_pos h1, if_pos h1]
    obtain ⟨s, hs, rfl⟩ := inN_t (by omega) h1
    by_cases h2 : inN b nw = true
    · rw [if_pos h2, if_pos h2]
      obtain ⟨w, hw, rfl⟩ := inN_t (by omega) h2
      by_cases h3 : wth c 0 1 = true
      · rw [if_pos h3, if_pos h3]
        obtain ⟨⟨len, l1, l2, l3⟩, ⟨t0, ht⟩, hc⟩ := hX.2.2.1 s hs
        rw [shr_e (by omega), snx_e (by omega), miss8 t0]
        simp only [six_e (show s < 4 from hs) (show 4 ≤ 4096 by omega), sbd_e]
        have neg : ∀ {t : Int32}, (t = -1 ∨ t = 0 ∨ t = 1) → (t = -1 ∧ ¬ 0 ≤ t) ∨ (¬ t = -1 ∧ 0 ≤ t) := fun h => by rcases h with rfl | rfl | rfl <;> decide
        rcases neg ht with ⟨k1, k2⟩ | ⟨k1, k2⟩
        · rw [if_neg k2, if_pos (decide_eq_true k1)]
          exact ⟨_, _, _, rfl, rfl, R0⟩
        · rw [if_pos k2, if_neg (fun z => k1 (of_decide_eq_true z))]
          obtain ⟨τ1, q1, q2, q3, q4⟩ := copy_e (a := 1) (b := 3) (na := 1480) (nb := 80) (N := 80) (by omega) (by omega) (by omega) (by omega) (by omega) τ
          have hR1 : BR 57 nw nt nx S σ τ1 := hR.same (fun _ _ => rfl) (q2 1 (by omega))
          have hc1 : ∀ k, k < 24 → σ (31 + s) k = τ1 13 (24 * s + k) ∧ vOk (τ1 13 (24 * s + k)) := fun k hk => by rw [q2 13 (by omega)]; exact hc k hk
          have h31 : ∀ k, k < 80 → τ1 3 k = τ1 1 k := fun k hk => by rw [q4 k hk, q2 1 (by omega)]
          obtain ⟨d0, σ2, τ2, a1, a2, a3, a4, a5⟩ := diff_sim (q := 0) hs hw l1 (fun x127 x128 s129 => (sjn (fun k180 : Int32 → Int64 → Option (Int32 × Store) => (if (lg_cmp (-1) (0 : Int64)) < 0 then (k180 (nI 0) x127) else (if 0 ≤ (lg_cmp x127 (-1)) then (k180 (0 : Int32) (-1)) else (k180 (nI 0) x127)))) (fun (y4_180 : Int32) (y5_180 : Int64) => (sbd2 (fX9_putBack y4_180 s129) fun r132 s133 => (fX9_quota_L63 (nI s) (nI w) (fun x136 x137 x138 s139 => (if ¬ c = 0 then (some ((x137).toInt32, s139)) else (some (x136, s139)))) 4999 r132 y5_180 (nI 0 + (1 : Int32)) s133))))) hR1 hS l2 (by rw [q2 12 (by omega), l3]) hc1 (show len < FU from FU_gt (by omega))
          obtain ⟨τ3, p1, p2, p3⟩ := unthink2 h31 a4 (nI 0)
          obtain ⟨b', d', σ', τ', i1, i2, i3, i4⟩ := quota_loop hs hw l1 hS (fun x28 x29 x30 s31 => (if ¬ c = 0 then (some (x29, s31)) else (some (x28, s31)))) (fun x136 x137 x138 s139 => (if ¬ c = 0 then (some ((x137).toInt32, s139)) else (some (x136, s139)))) 20 1 0 d0 σ2 τ3 FU 4999 (by omega) (FU_gt (by omega)) (by omega) (hR1.same (fun j hj => a3 j (by omega) (by omega)) p2) (by rw [a3 _ (by omega) (by omega), l2]) (by rw [p3 12 (by omega) (by omega), q2 12 (by omega), l3]) (fun k hk => by rw [a3 _ (by omega) (by omega), p3 13 (by omega) (by omega)]; exact hc1 k hk) (fun k hk => by rw [p2, p3 3 (by omega) (by omega)]; exact h31 k hk) a5
          rw [show fX8_differences (27 + s) (nI w) (0 : Int32) σ = _ from a1, sbd2_e, show fX9_copyRow 1 1480 3 80 (80 : Int32) τ = _ from q1, sbd_e, show fX9_quota_L63 (nI s) (nI w) _ FU (0 : Int32) (-1) (0 : Int32) τ1 = _ from quo9 (q := 0) (n := 4999) (by omega) (by omega)]
          rw [show fX9_quota_L92 (nI s) (nI w) _ FU 0 0 (sup τ1 1 (8 + 6 * w + 3) (nI 0)) = _ from a2, sjn_e, if_pos (by decide)]
          dsimp only
          rw [p1, sbd2_e, nI_1, show fX8_quota_L65 (nI s) (nI w) _ FU (0 : Int32) (nI d0) (1 : Int32) σ2 = _ from i1, i2]
          have fin : Rel S σ' τ' := Rel.back hX hD hR (fun j h1 h2 => by rw [i3 j h1 h2, a3 j h1 h2]) (by rw [i4 1 (by omega) (by omega), p2, q2 1 (by omega)]) (fun j h3 h9 h10 => by rw [i4 j h9 h10, p3 j h9 h10, q2 j h3]) (Nat.le_refl _)
          by_cases hcc : c = 0
          · rw [if_neg (fun z => z hcc), if_neg (fun z => z hcc)]; exact ⟨_, _, _, rfl, rfl, fin⟩
          · rw [if_pos hcc, if_pos hcc, lg_l2i_i2l]; exact ⟨_, _, _, rfl, rfl, fin⟩
      · rw [if_neg h3, if_neg h3]; exact ⟨_, _, _, rfl, rfl, R0⟩
    · rw [if_neg h2, if_neg h2]; exact ⟨_, _, _, rfl, rfl, R0⟩
  · rw [if_neg h1, if_neg h1]; exact ⟨_, _, _, rfl, rfl, R0⟩
