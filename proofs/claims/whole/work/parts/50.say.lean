def sofN (e : Nat → Nat) (s : Nat) : Nat → Nat
  | 0 => 0
  | n + 1 => if s.testBit n then sofN e s n ||| e n else sofN e s n
theorem sofN_lt {e : Nat → Nat} {s : Nat} : ∀ {n : Nat}, (∀ w, w < n → e w < 256) → sofN e s n < 256
  | 0, _ => Nat.zero_lt_succ _
  | n + 1, h => by
    have ih := sofN_lt (e := e) (s := s) (n := n) (fun w hw => h w (by omega))
    unfold sofN
    split
    · exact Nat.or_lt_two_pow (n := 8) ih (h n (by omega))
    · exact ih
theorem has8b {s i : Nat} (hs : s < 2 ^ 31) (hi : i < 31) : (¬ ((nI s >>> (nI i &&& 31)) &&& (1 : Int32)) = (1 : Int32)) ↔ s.testBit i = false := by
  rw [shr_b hs hi]
  cases s.testBit i <;> simp
theorem BR.sen {B nw nt nx S : Nat} {σ τ : Store} (hR : BR B nw nt nx S σ τ) : ∃ e : Nat → Nat, (∀ w, w < nw → e w < 256) ∧ ∀ w, w < nw → τ 1 (9 + 6 * w) = nI (e w) := by
  have h := hR.2.1.2.2.2.1
  refine ⟨fun w => (τ 1 (9 + 6 * w)).toNatClampNeg, fun w hw => ?_, fun w hw => ?_⟩
  · obtain ⟨e, h1, h2⟩ := h w hw
    show (τ 1 (9 + 6 * w)).toNatClampNeg < 256
    rw [h2, nI_clamp (by omega)]; exact h1
  · obtain ⟨e, h1, h2⟩ := h w hw
    show τ 1 (9 + 6 * w) = nI (τ 1 (9 + 6 * w)).toNatClampNeg
    rw [h2, nI_clamp (by omega)]
theorem sens_loop {B nw nt nx S s : Nat} {σ τ : Store} {e : Nat → Nat} (hR : BR B nw nt nx S σ τ) (hs : s < 2 ^ 31) (he : ∀ w, w < nw → τ 1 (9 + 6 * w) = nI (e w)) : ∀ (m i n n2 : Nat), i + m = nw → m < n → m < n2 → fX0_sensesOf_L4 B (nI s) σ n (nI (sofN e s i)) (nI i) = some (nI (sofN e s nw)) ∧ fX9_sensesOf_L4 (nI s) τ n2 (nI (sofN e s i)) (nI i) = some (nI (sofN e s nw)) := by
  have hsz := hR.1.2.1
  have g3 : σ B 3 = nI nw := by rw [hR.1.1.head.2.2.2.2.2.1, hR.1.2.2.1]
  intro m
  induction m with
  | zero =>
    intro i n n2 hi hn hn2
    obtain rfl : i = nw := by omega
    obtain ⟨n, rfl⟩ : ∃ k, n = k + 1 := ⟨n - 1, by omega⟩
    obtain ⟨n2, rfl⟩ : ∃ k, n2 = k + 1 := ⟨n2 - 1, by omega⟩
    exact ⟨by rw [fX0_sensesOf_L4, g3, if_pos (Int32.le_refl _)], by rw [fX9_sensesOf_L4, l_5, six_e (by omega) (by omega), snx_e (by omega), hR.1.2.2.1, if_pos (Int32.le_refl _)]⟩
  | succ m ih =>
    intro i n n2 hi hn hn2
    obtain ⟨n, rfl⟩ : ∃ k, n = k + 1 := ⟨n - 1, by omega⟩
    obtain ⟨n2, rfl⟩ : ∃ k, n2 = k + 1 := ⟨n2 - 1, by omega⟩
    have hge : ¬ nI nw ≤ nI i := nI_ge (by omega) (by omega)
    obtain ⟨i1, i2⟩ := ih (i + 1) n n2 (by omega) (by omega) (by omega)
    have hu : sofN e s (i + 1) = if s.testBit i then sofN e s i ||| e i else sofN e s i := rfl
    rw [fX0_sensesOf_L4, g3, if_neg hge, fX9_sensesOf_L4, l_5, six_e (by omega) (by omega), snx_e (by omega), hR.1.2.2.1, if_neg hge, has9 hs (by omega), sbd_e, nI_1]
    cases hb : s.testBit i with
    | true =>
      rw [hb, if_pos rfl] at hu
      rw [hu] at i1 i2
      rw [if_neg (fun z => by rw [(has8b hs (by omega)).mp z] at hb; cases hb), six_e (by omega) (by omega), slt_e, wrd_e (by omega), hR.wf (w := i) (f := 1) (by omega) (by omega), if_pos rfl, wI (x := 1) (f := 1) (by omega) (by omega) rfl, sbd_e, slt_e, show 8 + 6 * i + 1 = 9 + 6 * i by omega, he i (by omega), fa_or]
      exact ⟨i1, i2⟩
    | false =>
      rw [hb, if_neg (by decide)] at hu
      rw [hu] at i1 i2
      rw [if_pos ((has8b hs (by omega)).mpr hb), if_neg (by decide), slt_e, l_0, fa_or, Nat.or_zero]
      exact ⟨i1, i2⟩
def hvq (e : Nat → Nat) (nw s : Nat) (q : Int32) : Bool := decide ((q &&& (nI (sofN e s nw) ^^^ (-1 : Int32))) = 0)
theorem sens_sim {B nw nt nx S s : Nat} {σ τ : Store} {e : Nat → Nat} (hR : BR B nw nt nx S σ τ) (hs : s < 2 ^ 31) (he : ∀ w, w < nw → τ 1 (9 + 6 * w) = nI (e w)) : fX0_sensesOf B (nI s) σ = some (nI (sofN e s nw)) ∧ fX9_sensesOf (nI s) τ = some (nI (sofN e s nw)) :=
  sens_loop hR hs he nw 0 FU FU (by omega) (FU_gt (by have := hR.1.2.1; omega)) (FU_gt (by have := hR.1.2.1; omega))
theorem have_sim {B nw nt nx S s : Nat} {σ τ : Store} {e : Nat → Nat} (hR : BR B nw nt nx S σ τ) (hs : s < 2 ^ 31) (he : ∀ w, w < nw → τ 1 (9 + 6 * w) = nI (e w)) (q : Int32) : fX0_haveAll B (nI s) q σ = some (hvq e nw s q) ∧ fX9_haveAll (nI s) q τ = some (hvq e nw s q) := by
  obtain ⟨a, b⟩ := sens_sim hR hs he
  unfold fX0_haveAll fX9_haveAll
  rw [a, b]
  simp only [sbd_e]
  unfold hvq
  by_cases h : (q &&& (nI (sofN e s nw) ^^^ (-1 : Int32))) = 0
  · rw [if_neg (fun z => z h), decide_eq_true h]; exact ⟨rfl, rfl⟩
  · rw [if_pos h, decide_eq_false h]; exact ⟨rfl, rfl⟩
theorem o_says {S : Nat} {σ τ : Store} (R : Rel S σ τ) (a b : Int32) : ∃ r, fX8_says a b σ = some r ∧ fX9_says a b τ = some r := by
  obtain ⟨nw, nt, nx, hR, hD, hX⟩ := R
  have hsz := hR.1.2.1
  obtain ⟨e, he1, he⟩ := hR.sen
  unfold fX8_says fX9_says
  rw [hasT8 hR, isT9 hR, sbd_e, sbd_e, sens8, sens9, sbd_e, sbd_e]
  by_cases h1 : inN a nt = true
  · rw [if_pos h1, if_pos h1]
    obtain ⟨t, ht, rfl⟩ := inN_t (by omega) h1
    by_cases h2 : inN b 256 = true
    · rw [if_pos h2, if_pos h2]
      obtain ⟨h, hh, eh⟩ := hR.2.1.2.2.2.2 t ht
      have hh10 := p10 hh hsz.1
      obtain ⟨c1, c2⟩ := have_sim hR (s := h) (by omega) he b
      rw [six_e (by omega) (by omega), trv_e (by omega), hR.tf ht (f := 0) (by omega), tI (x := 0) (f := 0) (by omega) (by omega) rfl, sbd_e, show 68 + 2 * t + 0 = 68 + 2 * t by omega, eh, c1, c2]
      simp only [sbd_e]
      exact opt_same (by split <;> rfl)
    · rw [if_neg h2, if_neg h2]; exact ⟨_, rfl, rfl⟩
  · rw [if_neg h1, if_neg h1]; exact ⟨_, rfl, rfl⟩
/-! sets under a set -/
theorem sub_le {i h : Nat} (hi : i < 2 ^ 31) (hh : h < 2 ^ 31) (hz : (nI i &&& (nI h ^^^ (-1 : Int32))) = 0) : i ≤ h := by
  rw [not_n h hi hh] at hz
  have h0 : i &&& (h ^^^ (2 ^ 31 - 1)) = 0 := nI_inj (b := 0) (Nat.lt_of_le_of_lt Nat.and_le_left hi) (by omega) hz
  have : i &&& h = i := by
    apply Nat.eq_of_testBit_eq
    intro k
    rw [Nat.testBit_and]
    have hk := congrArg (fun z => Nat.testBit z k) h0
    simp only [Nat.testBit_and, Nat.testBit_xor, Nat.testBit_two_pow_sub_one, Nat.zero_testBit] at hk
    by_cases c : k < 31
    · simp only [c, decide_true] at hk
      cases hx : i.testBit k <;> cases hy : h.testBit k <;> simp_all
    · have : i.testBit k = false := Nat.testBit_lt_two_pow (Nat.lt_of_lt_of_le hi (Nat.pow_le_pow_right (by omega) (by omega)))
      rw [this]; rfl
  rw [← this]
  exact Nat.and_le_right
def subq (i h : Nat) : Bool := decide ((nI i &&& (nI h ^^^ (-1 : Int32))) = 0)
theorem subq_le {i h : Nat} (hi : i < 2 ^ 31) (hh : h < 2 ^ 31) (hz : subq i h = true) : i ≤ h := sub_le hi hh (of_decide_eq_true hz)
def mxq (e : Nat → Nat) (nw h n : Nat) (q : Nat) : Nat → Int32
  | 0 => 0
  | i + 1 => if subq i h = true ∧ pcn i ≤ n then smax (mxq e nw h n q i) (nI (pcn (q &&& sofN e i nw))) else mxq e nw h n q i
theorem mxq_stop (e : Nat → Nat) (nw n q : Nat) {h : Nat} (hh : h < 2 ^ 31) : ∀ k, h + 1 + k < 2 ^ 31 → mxq e nw h n q (h + 1 + k) = mxq e nw h n q (h + 1)
  | 0, _ => rfl
  | k + 1, hk => by
    rw [show h + 1 + (k + 1) = (h + 1 + k) + 1 by omega]
    unfold mxq
    rw [if_neg (fun z => by have := subq_le (by omega) hh z.1; omega)]
    exact mxq_stop e nw n q hh k (by omega)
theorem near8 {nw nt nx S h n q : Nat} {σ τ : Store} {e : Nat → Nat} (hR : BR 57 nw nt nx S σ τ) (hh : h < 1024) (hn : n ≤ 10) (hq : q < 256) (he1 : ∀ w, w < nw → e w < 256) (he : ∀ w, w < nw → τ 1 (9 + 6 * w) = nI (e w)) : ∀ (m i f : Nat), i + m = h + 1 → m < f → fX4_mostSenses_L6 (nI h) (nI q) (nI n) σ f (mxq e nw h n q i) (nI i) = some (mxq e nw h n q (h + 1)) := by
  intro m
  induction m with
  | zero =>
    intro i f hi hf
    obtain rfl : i = h + 1 := by omega
    obtain ⟨f, rfl⟩ : ∃ k, f = k + 1 := ⟨f - 1, by omega⟩
    rw [fX4_mostSenses_L6, if_pos (nI_lt (by omega) (by omega))]
  | succ m ih =>
    intro i f hi hf
    obtain ⟨f, rfl⟩ : ∃ k, f = k + 1 := ⟨f - 1, by omega⟩
    have i1 := ih (i + 1) f (by omega) (by omega)
    have hu : mxq e nw h n q (i + 1) = if subq i h = true ∧ pcn i ≤ n then smax (mxq e nw h n q i) (nI (pcn (q &&& sofN e i nw))) else mxq e nw h n q i := rfl
    have hso : sofN e i nw < 256 := sofN_lt he1
    have hand : q &&& sofN e i nw < 1024 := Nat.lt_of_le_of_lt Nat.and_le_left (by omega)
    rw [fX4_mostSenses_L6, if_neg (nI_nlt (by omega) (by omega)), bits8 (by omega), sbd_e, (sens_sim hR (s := i) (by omega) he).1, sbd_e, nI_1, fa_and, bits8 hand, sbd_e, slt_e]
    by_cases c1 : (nI i &&& (nI h ^^^ (-1 : Int32))) = 0
    · rw [if_neg (fun z => z c1)]
      by_cases c2 : pcn i ≤ n
      · rw [if_pos ⟨decide_eq_true c1, c2⟩] at hu
        rw [if_neg (nI_nlt c2 (by omega)), ← hu]; exact i1
      · rw [if_neg (fun z => c2 z.2)] at hu
        rw [if_pos (nI_lt (by omega) (by have := pcn_le i (by omega); omega)), ← hu]; exact i1
    · rw [if_neg (fun z => c1 (of_decide_eq_true z.1))] at hu
      rw [if_pos c1, ← hu]; exact i1
theorem near9 {nw nt nx S h n q t : Nat} {σ τ : Store} {e : Nat → Nat} (hR : BR 57 nw nt nx S σ τ) (ht : t < nt) (hh : h < 1024) (hth : τ 1 (68 + 2 * t) = nI h) (hn : n ≤ 10) (hq : q < 256) (he1 : ∀ w, w < nw → e w < 256) (he : ∀ w, w < nw → τ 1 (9 + 6 * w) = nI (e w)) : ∀ (m i f : Nat), i + m = 2 ^ nw → m < f → fX9_nearest_L34 (nI t) (nI q) (nI n) τ f (mxq e nw h n q i) (nI i) = some (mxq e nw h n q (2 ^ nw)) := by
  have hsz := hR.1.2.1
  have h2 : 2 ^ nw ≤ 1024 := Nat.pow_le_pow_right (by omega) hsz.1
  intro m
  induction m with
  | zero =>
    intro i f hi hf
    obtain rfl : i = 2 ^ nw := by omega
    obtain ⟨f, rfl⟩ : ∃ k, f = k + 1 := ⟨f - 1, by omega⟩
    rw [fX9_nearest_L34, l_5, six_e (by omega) (by omega), snx_e (by omega), hR.1.2.2.1, shl_n nw (by omega), if_pos (Int32.le_refl _)]
  | succ m ih =>
    intro i f hi hf
    obtain ⟨f, rfl⟩ : ∃ k, f = k + 1 := ⟨f - 1, by omega⟩
    have i1 := ih (i + 1) f (by omega) (by omega)
    have hu : mxq e nw h n q (i + 1) = if subq i h = true ∧ pcn i ≤ n then smax (mxq e nw h n q i) (nI (pcn (q &&& sofN e i nw))) else mxq e nw h n q i := rfl
    have hso : sofN e i nw < 256 := sofN_lt he1
    have hand : q &&& sofN e i nw < 1024 := Nat.lt_of_le_of_lt Nat.and_le_left (by omega)
    rw [fX9_nearest_L34, l_5, six_e (by omega) (by omega), snx_e (by omega), hR.1.2.2.1, shl_n nw (by omega), if_neg (nI_ge (by omega) (by omega)), tI (x := 0) (f := 0) (by omega) (by omega) rfl, sbd_e, show 68 + 2 * t + 0 = 68 + 2 * t by omega, hth, bits9 (by omega), sbd_e, (sens_sim hR (s := i) (by omega) he).2, sbd_e, nI_1, fa_and, Nat.and_comm, bits9 hand, sbd_e, slt_e]
    by_cases c1 : (nI i &&& (nI h ^^^ (-1 : Int32))) = 0
    · rw [if_neg (fun z => z c1)]
      by_cases c2 : pcn i ≤ n
      · rw [if_pos ⟨decide_eq_true c1, c2⟩] at hu
        rw [if_neg (nI_nlt c2 (by omega)), ← hu]; exact i1
      · rw [if_neg (fun z => c2 z.2)] at hu
        rw [if_pos (nI_lt (by omega) (by have := pcn_le i (by omega); omega)), ← hu]; exact i1
    · rw [if_neg (fun z => c1 (of_decide_eq_true z.1))] at hu
      rw [if_pos c1, ← hu]; exact i1
theorem o_nearest {S : Nat} {σ τ : Store} (R : Rel S σ τ) (a b c : Int32) : ∃ r, fX8_nearest a b c σ = some r ∧ fX9_nearest a b c τ = some r := by
  obtain ⟨nw, nt, nx, hR, hD, hX⟩ := R
  have hsz := hR.1.2.1
  have p2 : 2 ^ nw ≤ 1024 := Nat.pow_le_pow_right (by omega) hsz.1
  obtain ⟨e, he1, he⟩ := hR.sen
  unfold fX8_nearest fX9_nearest
  rw [hasT8 hR, isT9 hR, sbd_e, sbd_e, sens8, sens9, sbd_e, sbd_e, within8, within9, sbd_e, sbd_e, show wth c 0 10 = inN c 11 from wth_lit (m := 10) (by omega)]
  by_cases h1 : inN a nt = true
  · rw [if_pos h1, if_pos h1]
    obtain ⟨t, ht, rfl⟩ := inN_t (by omega) h1
    by_cases h2 : inN b 256 = true
    · rw [if_pos h2, if_pos h2]
      obtain ⟨q, hq, rfl⟩ := inN_t (by omega) h2
      by_cases h3 : inN c 11 = true
      · rw [if_pos h3, if_pos h3]
        obtain ⟨n, hn, rfl⟩ := inN_t (by omega) h3
        obtain ⟨h, hh, eh⟩ := hR.2.1.2.2.2.2 t ht
        have hh10 := p10 hh hsz.1
        have k1 := near8 hR hh10 (n := n) (by omega) hq he1 he (h + 1) 0 FU (by omega) (FU_gt (by omega))
        have k2 := near9 hR ht hh10 eh (n := n) (by omega) hq he1 he (2 ^ nw) 0 FU (by omega) (FU_gt (by omega))
        have k3 := mxq_stop e nw n q (h := h) (by omega) (2 ^ nw - (h + 1)) (by omega)
        rw [show h + 1 + (2 ^ nw - (h + 1)) = 2 ^ nw by omega] at k3
        unfold fX4_mostSenses
        rw [six_e (by omega) (by omega), trv_e (by omega), hR.tf ht (f := 0) (by omega), show 68 + 2 * t + 0 = 68 + 2 * t by omega, eh, show fX4_mostSenses_L6 (nI h) (nI q) (nI n) σ FU (0 : Int32) (0 : Int32) = _ from k1, sbd_e, show fX9_nearest_L34 (nI t) (nI q) (nI n) τ FU (0 : Int32) (0 : Int32) = _ from k2, k3]
        exact ⟨_, rfl, rfl⟩
      · rw [if_neg h3, if_neg h3]; exact ⟨_, rfl, rfl⟩
    · rw [if_neg h2, if_neg h2]; exact ⟨_, rfl, rfl⟩
  · rw [if_neg h1, if_neg h1]; exact ⟨_, rfl, rfl⟩
