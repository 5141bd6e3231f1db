/-! the fewest words -/
def fwb (ok : Nat → Bool) : Nat → Option Nat
  | 0 => none
  | i + 1 => match fwb ok i with
    | none => if ok i = true then some i else none
    | some b => if ok i = true ∧ pcn i < pcn b then some i else some b
def fwp (ok : Nat → Bool) (n b : Nat) : Prop := ok b = true ∧ b < n ∧ ∀ i, i < n → ok i = true → pcn b ≤ pcn i ∧ (i < b → pcn b < pcn i)
theorem fwb_spec (ok : Nat → Bool) : ∀ n, (fwb ok n = none → ∀ i, i < n → ok i = false) ∧ ∀ b, fwb ok n = some b → fwp ok n b
  | 0 => ⟨fun _ i hi => absurd hi (by omega), fun b hb => (by cases hb)⟩
  | n + 1 => by
    obtain ⟨h1, h2⟩ := fwb_spec ok n
    unfold fwb
    cases hc : fwb ok n with
    | none =>
      have h1 := h1 hc
      by_cases ho : ok n = true
      · simp only [if_pos ho]
        refine ⟨fun z => (by cases z), fun b hb => ?_⟩
        injection hb with hb
        subst hb
        refine ⟨ho, by omega, fun i hi hoi => ?_⟩
        by_cases hin : i < n
        · rw [h1 i hin] at hoi; cases hoi
        · obtain rfl : i = n := by omega
          exact ⟨Nat.le_refl _, fun z => absurd z (by omega)⟩
      · simp only [if_neg ho]
        refine ⟨fun _ i hi => ?_, fun b hb => (by cases hb)⟩
        by_cases hin : i < n
        · exact h1 i hin
        · obtain rfl : i = n := by omega
          exact b_f ho
    | some c =>
      obtain ⟨p1, p2, p3⟩ := h2 c hc
      by_cases ho : ok n = true ∧ pcn n < pcn c
      · simp only [if_pos ho]
        refine ⟨fun z => (by cases z), fun b hb => ?_⟩
        injection hb with hb
        subst hb
        refine ⟨ho.1, by omega, fun i hi hoi => ?_⟩
        by_cases hin : i < n
        · have := p3 i hin hoi
          exact ⟨by omega, fun _ => by omega⟩
        · obtain rfl : i = n := by omega
          exact ⟨Nat.le_refl _, fun z => absurd z (by omega)⟩
      · simp only [if_neg ho]
        refine ⟨fun z => (by cases z), fun b hb => ?_⟩
        injection hb with hb
        subst hb
        refine ⟨p1, by omega, fun i hi hoi => ?_⟩
        by_cases hin : i < n
        · exact p3 i hin hoi
        · obtain rfl : i = n := by omega
          have : ¬ pcn i < pcn c := fun z => ho ⟨hoi, z⟩
          exact ⟨by omega, fun z => absurd z (by omega)⟩
theorem fwb_of {ok : Nat → Bool} {n b : Nat} (h : fwp ok n b) : fwb ok n = some b := by
  obtain ⟨h1, h2⟩ := fwb_spec ok n
  cases hc : fwb ok n with
  | none => have := h1 hc b h.2.1; rw [h.1] at this; cases this
  | some c =>
    obtain ⟨q1, q2, q3⟩ := h2 c hc
    have a1 := q3 b h.2.1 h.1
    have a2 := h.2.2 c q2 q1
    have : c = b := by
      by_cases h1 : c < b
      · have := a2.2 h1; omega
      · by_cases h2 : b < c
        · have := a1.2 h2; omega
        · omega
    rw [this]
theorem fwb_stop (ok : Nat → Bool) (m N : Nat) (h : ∀ i, m ≤ i → i < N → ok i = false) : ∀ k, m + k ≤ N → fwb ok (m + k) = fwb ok m
  | 0, _ => rfl
  | k + 1, hk => by
    have ih := fwb_stop ok m N h k (by omega)
    have hf := h (m + k) (by omega) (by omega)
    have hn : ¬ ok (m + k) = true := by rw [hf]; decide
    have hu : fwb ok (m + (k + 1)) = match fwb ok (m + k) with
      | none => if ok (m + k) = true then some (m + k) else none
      | some b => if ok (m + k) = true ∧ pcn (m + k) < pcn b then some (m + k) else some b := rfl
    rw [hu, ih]
    cases hc : fwb ok m with
    | none => simp only [if_neg hn]
    | some c => exact if_neg (fun z => hn z.1)
theorem fwb_sub {okm okc : Nat → Bool} {n : Nat} (h1 : ∀ i, i < n → okm i = true → okc i = true) (h2 : ∀ b, b < n → okc b = true → okm b = true ∨ ∃ b', b' < n ∧ okc b' = true ∧ pcn b' < pcn b) : fwb okm n = fwb okc n := by
  obtain ⟨c1, c2⟩ := fwb_spec okc n
  cases hc : fwb okc n with
  | none =>
    obtain ⟨m1, m2⟩ := fwb_spec okm n
    cases hm : fwb okm n with
    | none => rfl
    | some b =>
      obtain ⟨q1, q2, q3⟩ := m2 b hm
      have := c1 hc b q2
      rw [h1 b q2 q1] at this; cases this
  | some b =>
    obtain ⟨q1, q2, q3⟩ := c2 b hc
    refine fwb_of ⟨?_, q2, fun i hi ho => q3 i hi (h1 i hi ho)⟩
    rcases h2 b q2 q1 with h | ⟨b', x, y, z⟩
    · exact h
    · have := (q3 b' x y).1; omega
def eF : Option Nat → Int32
  | none => -1000000005
  | some b => nI b
def eM : Option Nat → Int32
  | none => -1
  | some b => nI b
def pF : Option Nat → Int32
  | none => 0
  | some b => nI (pcn b)
def okf (e : Nat → Nat) (nw h H : Nat) (q : Int32) (i : Nat) : Bool := subq i h && hvq e nw (i ||| H) q
theorem nI_nm {b : Nat} (hb : b < 2 ^ 31) : ¬ nI b = (-1000000005 : Int32) := fun z => nI_n0 hb (by rw [z]; decide)
theorem few8 {nw nt nx S h H : Nat} {q : Int32} {σ τ : Store} {e : Nat → Nat} (hR : BR 57 nw nt nx S σ τ) (hh : h < 1024) (hH : H < 1024) (he : ∀ w, w < nw → τ 1 (9 + 6 * w) = nI (e w)) : ∀ (m i f : Nat), i + m = h + 1 → m < f → fX4_fewestOf_L10 (nI h) (nI H) q σ f (eF (fwb (okf e nw h H q) i)) (pF (fwb (okf e nw h H q) i)) (nI i) = some (eF (fwb (okf e nw h H q) (h + 1))) := by
  intro m
  induction m with
  | zero =>
    intro i f hi hf
    obtain rfl : i = h + 1 := by omega
    obtain ⟨f, rfl⟩ : ∃ k, f = k + 1 := ⟨f - 1, by omega⟩
    rw [fX4_fewestOf_L10, if_pos (nI_lt (by omega) (by omega))]
  | succ m ih =>
    intro i f hi hf
    obtain ⟨f, rfl⟩ : ∃ k, f = k + 1 := ⟨f - 1, by omega⟩
    have i1 := ih (i + 1) f (by omega) (by omega)
    have hio : i ||| H < 1024 := Nat.or_lt_two_pow (n := 10) (by omega) hH
    have hv := (have_sim hR (s := i ||| H) (by omega) he q).1
    have hb := (fwb_spec (okf e nw h H q) i).2
    have hu : fwb (okf e nw h H q) (i + 1) = match fwb (okf e nw h H q) i with
      | none => if okf e nw h H q i = true then some i else none
      | some b => if okf e nw h H q i = true ∧ pcn i < pcn b then some i else some b := rfl
    have hoe : okf e nw h H q i = (subq i h && hvq e nw (i ||| H) q) := rfl
    rw [fX4_fewestOf_L10, if_neg (nI_nlt (by omega) (by omega)), bits8 (by omega), sbd_e, sjn_e]
    simp only [nI_1, fa_or, nI_add, hv, sbd_e]
    generalize okf e nw h H q = ok at *
    have p10 := pcn_le i (by omega)
    by_cases c1 : (nI i &&& (nI h ^^^ (-1 : Int32))) = 0
    · rw [show subq i h = true from decide_eq_true c1, Bool.true_and] at hoe
      rw [hoe] at hu
      simp only [c1, not_true_eq_false, if_false]
      cases hc : fwb ok i with
      | none =>
        rw [hc] at hu
        simp only [eF, pF, if_true]
        by_cases c2 : hvq e nw (i ||| H) q = true
        · simp only [c2, if_true] at hu ⊢
          rw [hu] at i1; exact i1
        · simp only [c2, if_false] at hu ⊢
          rw [hu] at i1; exact i1
      | some b =>
        rw [hc] at hu
        have hb := hb b hc
        have hbp := pcn_le b (by have := hb.2.1; omega)
        have hn := nI_nm (b := b) (by have := hb.2.1; omega)
        simp only [eF, pF, hn, if_false]
        by_cases c3 : pcn i < pcn b
        · have hge := nI_ge c3 (show pcn b < 2 ^ 31 by omega)
          by_cases c2 : hvq e nw (i ||| H) q = true
          · simp only [c2, c3, hge, and_self, if_true, if_false] at hu ⊢
            rw [hu] at i1; exact i1
          · simp only [c2, hge, false_and, if_false, if_true] at hu ⊢
            rw [hu] at i1; exact i1
        · have hle : nI (pcn b) ≤ nI (pcn i) := nI_le (by omega) (by omega)
          simp only [c3, hle, and_false, if_false, if_true, Bool.false_eq_true] at hu ⊢
          rw [hu] at i1; exact i1
    · rw [show subq i h = false from decide_eq_false c1, Bool.false_and] at hoe
      rw [hoe] at hu
      have hu2 : fwb ok (i + 1) = fwb ok i := by rw [hu]; cases fwb ok i <;> simp
      rw [hu2] at i1
      simp only [c1, not_false_eq_true, if_true, ite_self]
      exact i1
theorem few9 {nw nt nx S h H : Nat} {q : Int32} {σ τ : Store} {e : Nat → Nat} (hR : BR 57 nw nt nx S σ τ) (hh : h < 1024) (hH : H < 1024) (he : ∀ w, w < nw → τ 1 (9 + 6 * w) = nI (e w)) : ∀ (m i f : Nat), i + m = 2 ^ nw → m < f → fX9_fewest_L6 (nI h) (nI H) q τ f (eM (fwb (okf e nw h H q) i)) (nI i) = some (eM (fwb (okf e nw h H q) (2 ^ nw))) := by
  have hsz := hR.1.2.1
  have h2 : 2 ^ nw ≤ 1024 := Nat.pow_le_pow_right (by omega) hsz.1
  intro m
  induction m with
  | zero =>
    intro i f hi hf
    obtain rfl : i = 2 ^ nw := by omega
    obtain ⟨f, rfl⟩ : ∃ k, f = k + 1 := ⟨f - 1, by omega⟩
    rw [fX9_fewest_L6, l_5, six_e (by omega) (by omega), snx_e (by omega), hR.1.2.2.1, shl_n nw (by omega), if_pos (Int32.le_refl _)]
  | succ m ih =>
    intro i f hi hf
    obtain ⟨f, rfl⟩ : ∃ k, f = k + 1 := ⟨f - 1, by omega⟩
    have i1 := ih (i + 1) f (by omega) (by omega)
    have hio : i ||| H < 1024 := Nat.or_lt_two_pow (n := 10) (by omega) hH
    have hv := (have_sim hR (s := i ||| H) (by omega) he q).2
    have hb := (fwb_spec (okf e nw h H q) i).2
    have hu : fwb (okf e nw h H q) (i + 1) = match fwb (okf e nw h H q) i with
      | none => if okf e nw h H q i = true then some i else none
      | some b => if okf e nw h H q i = true ∧ pcn i < pcn b then some i else some b := rfl
    have hoe : okf e nw h H q i = (subq i h && hvq e nw (i ||| H) q) := rfl
    rw [fX9_fewest_L6, l_5, six_e (by omega) (by omega), snx_e (by omega), hR.1.2.2.1, shl_n nw (by omega), if_neg (nI_ge (by omega) (by omega)), bits9 (by omega)]
    simp only [nI_1, fa_or, nI_add, hv, sbd_e]
    generalize okf e nw h H q = ok at *
    have p10 := pcn_le i (by omega)
    by_cases c1 : (nI i &&& (nI h ^^^ (-1 : Int32))) = 0
    · rw [show subq i h = true from decide_eq_true c1, Bool.true_and] at hoe
      rw [hoe] at hu
      simp only [c1, not_true_eq_false, if_false]
      cases hc : fwb ok i with
      | none =>
        rw [hc] at hu
        have hm1 : (-1 : Int32) < 0 := by decide
        simp only [eM, hm1, if_true]
        by_cases c2 : hvq e nw (i ||| H) q = true
        · simp only [c2, if_true] at hu ⊢
          rw [hu] at i1; exact i1
        · simp only [c2, if_false] at hu ⊢
          rw [hu] at i1; exact i1
      | some b =>
        rw [hc] at hu
        have hb := hb b hc
        have hb10 : b < 1024 := by have := hb.2.1; omega
        have hbp := pcn_le b hb10
        have hbn := nI_n0 (v := b) (by omega)
        simp only [eM, hbn, if_false, bits9 hb10, sbd_e]
        by_cases c2 : hvq e nw (i ||| H) q = true
        · by_cases c3 : pcn i < pcn b
          · have hge := nI_ge c3 (show pcn b < 2 ^ 31 by omega)
            simp only [c2, c3, hge, and_self, if_true, if_false] at hu ⊢
            rw [hu] at i1; exact i1
          · have hle : nI (pcn b) ≤ nI (pcn i) := nI_le (by omega) (by omega)
            simp only [c2, c3, hle, and_false, if_false, if_true] at hu ⊢
            rw [hu] at i1; exact i1
        · simp only [c2, false_and, if_false] at hu ⊢
          rw [hu] at i1; exact i1
    · rw [show subq i h = false from decide_eq_false c1, Bool.false_and] at hoe
      rw [hoe] at hu
      have hu2 : fwb ok (i + 1) = fwb ok i := by rw [hu]; cases fwb ok i <;> simp
      rw [hu2] at i1
      simp only [c1, not_false_eq_true, if_true]
      exact i1
theorem few_sim {nw nt nx S h h' H : Nat} {q : Int32} {σ τ : Store} {e : Nat → Nat} (hR : BR 57 nw nt nx S σ τ) (hh : h < 2 ^ nw) (hh' : h' < 1024) (hH : H < 1024) (he : ∀ w, w < nw → τ 1 (9 + 6 * w) = nI (e w)) (hs : fwb (okf e nw h' H q) (2 ^ nw) = fwb (okf e nw h H q) (2 ^ nw)) :
    ∃ r r', fX4_fewestOf (nI h) (nI H) q σ = some r ∧ fX9_fewest (nI h') (nI H) q τ = some r' ∧ (if 0 ≤ r' then some r' else some (-1000000005 : Int32)) = some r := by
  have hsz := hR.1.2.1
  have p2 : 2 ^ nw ≤ 1024 := Nat.pow_le_pow_right (by omega) hsz.1
  have k1 := few8 hR (h := h) (H := H) (q := q) (by omega) hH he (h + 1) 0 FU (by omega) (FU_gt (by omega))
  have k2 := few9 hR (h := h') (H := H) (q := q) hh' hH he (2 ^ nw) 0 FU (by omega) (FU_gt (by omega))
  have k3 := fwb_stop (okf e nw h H q) (h + 1) (2 ^ nw) (fun i hi hi2 => by
    unfold okf
    cases hc : subq i h with
    | false => rfl
    | true => have := subq_le (by omega) (by omega) hc; omega) (2 ^ nw - (h + 1)) (by omega)
  rw [show h + 1 + (2 ^ nw - (h + 1)) = 2 ^ nw by omega] at k3
  refine ⟨_, _, k1, k2, ?_⟩
  rw [hs, k3]
  have hb := (fwb_spec (okf e nw h H q) (h + 1)).2
  cases hc : fwb (okf e nw h H q) (h + 1) with
  | none => rfl
  | some b =>
    have := (hb b hc).2.1
    show (if 0 ≤ nI b then some (nI b) else _) = some (nI b)
    rw [if_pos (Int32.not_lt.mp (nI_n0 (by omega)))]

theorem o_shortest {S : Nat} {σ τ : Store} (R : Rel S σ τ) (a b : Int32) : ∃ r, fX8_shortest a b σ = some r ∧ fX9_shortest a b τ = some r := by
  obtain ⟨nw, nt, nx, hR, hD, hX⟩ := R
  have hsz := hR.1.2.1
  obtain ⟨e, he1, he⟩ := hR.sen
  unfold fX8_shortest fX9_shortest
  rw [hasT8 hR, isT9 hR, sbd_e, sbd_e, sens8, sens9, sbd_e, sbd_e]
  by_cases h1 : inN a nt = true
  · rw [if_pos h1, if_pos h1]
    obtain ⟨t, ht, rfl⟩ := inN_t (by omega) h1
    by_cases h2 : inN b 256 = true
    · rw [if_pos h2, if_pos h2]
      obtain ⟨h, hh, eh⟩ := hR.2.1.2.2.2.2 t ht
      have hh10 := p10 hh hsz.1
      obtain ⟨r, r', k1, k2, k3⟩ := few_sim hR (q := b) (H := 0) hh hh10 (by omega) he rfl
      rw [six_e (by omega) (by omega), trv_e (by omega), hR.tf ht (f := 0) (by omega), tI (x := 0) (f := 0) (by omega) (by omega) rfl, sbd_e, show 68 + 2 * t + 0 = 68 + 2 * t by omega, eh, show fX4_fewestOf (nI h) (0 : Int32) b σ = _ from k1, show fX9_fewest (nI h) (0 : Int32) b τ = _ from k2]
      simp only [sbd_e]
      exact ⟨r, rfl, k3⟩
    · rw [if_neg h2, if_neg h2]; exact ⟨_, rfl, rfl⟩
  · rw [if_neg h1, if_neg h1]; exact ⟨_, rfl, rfl⟩
/-! the treaty: all words, less those held -/
def orN (f : Nat → Nat) : Nat → Nat
  | 0 => 0
  | n + 1 => orN f n ||| f n
theorem orN_lt {f : Nat → Nat} {nw : Nat} : ∀ {n : Nat}, (∀ t, t < n → f t < 2 ^ nw) → orN f n < 2 ^ nw
  | 0, _ => Nat.two_pow_pos nw
  | n + 1, h => Nat.or_lt_two_pow (orN_lt (fun t ht => h t (by omega))) (h n (by omega))
theorem BR.hld {B nw nt nx S : Nat} {σ τ : Store} (hR : BR B nw nt nx S σ τ) : ∃ f : Nat → Nat, (∀ t, t < nt → f t < 2 ^ nw) ∧ ∀ t, t < nt → τ 1 (68 + 2 * t) = nI (f t) := by
  have h := hR.2.1.2.2.2.2
  have hsz := hR.1.2.1
  refine ⟨fun t => (τ 1 (68 + 2 * t)).toNatClampNeg, fun t ht => ?_, fun t ht => ?_⟩
  · obtain ⟨e, h1, h2⟩ := h t ht
    show (τ 1 (68 + 2 * t)).toNatClampNeg < 2 ^ nw
    rw [h2, nI_clamp (by have := p10 h1 hsz.1; omega)]; exact h1
  · obtain ⟨e, h1, h2⟩ := h t ht
    show τ 1 (68 + 2 * t) = nI (τ 1 (68 + 2 * t)).toNatClampNeg
    rw [h2, nI_clamp (by have := p10 h1 hsz.1; omega)]
theorem held8 {nw nt nx S : Nat} {σ τ : Store} {g : Nat → Nat} (hR : BR 57 nw nt nx S σ τ) (hg : ∀ t, t < nt → τ 1 (68 + 2 * t) = nI (g t)) : ∀ (m i n : Nat), i + m = nt → m < n → fX0_heldByAll_L4 57 σ n (nI (orN g i)) (nI i) = some (nI (orN g nt)) := by
  have hsz := hR.1.2.1
  have g4 : σ 57 4 = nI nt := by rw [hR.1.1.head.2.2.2.2.2.2.1, hR.2.1.1]
  intro m
  induction m with
  | zero =>
    intro i n hi hn
    obtain rfl : i = nt := by omega
    obtain ⟨n, rfl⟩ : ∃ k, n = k + 1 := ⟨n - 1, by omega⟩
    rw [fX0_heldByAll_L4, g4, if_pos (Int32.le_refl _)]
  | succ m ih =>
    intro i n hi hn
    obtain ⟨n, rfl⟩ : ∃ k, n = k + 1 := ⟨n - 1, by omega⟩
    rw [fX0_heldByAll_L4, g4, if_neg (nI_ge (by omega) (by omega)), six_e (by omega) (by omega), slt_e, trv_e (by omega), hR.tf (w := i) (f := 0) (by omega) (by omega), show 68 + 2 * i + 0 = 68 + 2 * i by omega, hg i (by omega), fa_or, nI_1]
    exact ih (i + 1) n (by omega) (by omega)
theorem held9 {nw nt nx S : Nat} {σ τ : Store} {g : Nat → Nat} (hR : BR 57 nw nt nx S σ τ) (hg : ∀ t, t < nt → τ 1 (68 + 2 * t) = nI (g t)) (K : Int32 → Int32 → Option Int32) : ∀ (m i n : Nat), i + m = nt → m < n → fX9_treaty_L14 τ K n (nI (orN g i)) (nI i) = K (nI (orN g nt)) (nI nt) := by
  have hsz := hR.1.2.1
  intro m
  induction m with
  | zero =>
    intro i n hi hn
    obtain rfl : i = nt := by omega
    obtain ⟨n, rfl⟩ : ∃ k, n = k + 1 := ⟨n - 1, by omega⟩
    rw [fX9_treaty_L14, l_6, six_e (by omega) (by omega), snx_e (by omega), hR.2.1.1, if_pos (Int32.le_refl _)]
  | succ m ih =>
    intro i n hi hn
    obtain ⟨n, rfl⟩ : ∃ k, n = k + 1 := ⟨n - 1, by omega⟩
    rw [fX9_treaty_L14, l_6, six_e (by omega) (by omega), snx_e (by omega), hR.2.1.1, if_neg (nI_ge (by omega) (by omega)), tI (x := 0) (f := 0) (by omega) (by omega) rfl, sbd_e, slt_e, show 68 + 2 * i + 0 = 68 + 2 * i by omega, hg i (by omega), fa_or, nI_1]
    exact ih (i + 1) n (by omega) (by omega)

theorem pcn_e (l : Nat) : pcn l = (l.testBit 0).toNat + (l.testBit 1).toNat + (l.testBit 2).toNat + (l.testBit 3).toNat + (l.testBit 4).toNat + (l.testBit 5).toNat + (l.testBit 6).toNat + (l.testBit 7).toNat + (l.testBit 8).toNat + (l.testBit 9).toNat := by
  unfold pcn
  rw [show List.range 10 = [0, 1, 2, 3, 4, 5, 6, 7, 8, 9] from rfl]
  simp only [List.foldl, Nat.zero_add]
theorem pcn_lt {x b : Nat} (h1 : ∀ i, i < 10 → x.testBit i = true → b.testBit i = true) (h2 : ∃ i, i < 10 ∧ b.testBit i = true ∧ x.testBit i = false) : pcn x < pcn b := by
  have hle : ∀ i, i < 10 → (x.testBit i).toNat ≤ (b.testBit i).toNat := fun i hi => by
    have := h1 i hi
    cases hx : x.testBit i with
    | false => exact Nat.zero_le _
    | true => rw [this hx]; exact Nat.le_refl _
  obtain ⟨i, hi, hb, hx⟩ := h2
  have hlt : (x.testBit i).toNat < (b.testBit i).toNat := by rw [hb, hx]; decide
  have a0 := hle 0 (by omega)
  have a1 := hle 1 (by omega)
  have a2 := hle 2 (by omega)
  have a3 := hle 3 (by omega)
  have a4 := hle 4 (by omega)
  have a5 := hle 5 (by omega)
  have a6 := hle 6 (by omega)
  have a7 := hle 7 (by omega)
  have a8 := hle 8 (by omega)
  have a9 := hle 9 (by omega)
  rw [pcn_e, pcn_e]
  have hi10 : i = 0 ∨ i = 1 ∨ i = 2 ∨ i = 3 ∨ i = 4 ∨ i = 5 ∨ i = 6 ∨ i = 7 ∨ i = 8 ∨ i = 9 := by omega
  rcases hi10 with rfl | rfl | rfl | rfl | rfl | rfl | rfl | rfl | rfl | rfl <;> omega
theorem tb31 {x k : Nat} (hx : x < 2 ^ 31) (h : x.testBit k = true) : k < 31 := by
  by_cases c : k < 31
  · exact c
  · rw [Nat.testBit_lt_two_pow (Nat.lt_of_lt_of_le hx (Nat.pow_le_pow_right (by omega) (by omega)))] at h; cases h
theorem cmp_b {b H : Nat} (hb : b < 2 ^ 31) (k : Nat) : (b &&& (H ^^^ (2 ^ 31 - 1))).testBit k = (b.testBit k && !H.testBit k) := by
  rw [Nat.testBit_and, Nat.testBit_xor, Nat.testBit_two_pow_sub_one]
  cases hk : b.testBit k with
  | false => rfl
  | true => simp only [tb31 hb hk, decide_true, Bool.true_and]; cases H.testBit k <;> rfl
theorem subq_iff {i h : Nat} (hi : i < 2 ^ 31) (hh : h < 2 ^ 31) : subq i h = true ↔ ∀ k, i.testBit k = true → h.testBit k = true := by
  unfold subq
  rw [decide_eq_true_iff, not_n h hi hh]
  have hlt : i &&& (h ^^^ (2 ^ 31 - 1)) < 2 ^ 31 := Nat.lt_of_le_of_lt Nat.and_le_left hi
  constructor
  · intro z k hk
    have z0 : i &&& (h ^^^ (2 ^ 31 - 1)) = 0 := nI_inj (b := 0) hlt (by omega) z
    have := congrArg (fun z => Nat.testBit z k) z0
    simp only [cmp_b hi, Nat.zero_testBit, hk, Bool.true_and] at this
    cases h2 : h.testBit k with
    | true => rfl
    | false => rw [h2] at this; cases this
  · intro z
    have z0 : i &&& (h ^^^ (2 ^ 31 - 1)) = 0 := by
      apply Nat.eq_of_testBit_eq
      intro k
      rw [cmp_b hi, Nat.zero_testBit]
      cases hk : i.testBit k with
      | false => rfl
      | true => rw [z k hk]; rfl
    rw [z0]; rfl
theorem treaty_fw {e : Nat → Nat} {nw H : Nat} {q : Int32} (hnw : nw ≤ 10) (hH : H < 2 ^ nw) : fwb (okf e nw ((2 ^ nw - 1) &&& (H ^^^ (2 ^ 31 - 1))) H q) (2 ^ nw) = fwb (okf e nw (2 ^ nw - 1) H q) (2 ^ nw) := by
  have p2 : 2 ^ nw ≤ 1024 := Nat.pow_le_pow_right (by omega) hnw
  have ha : (2 ^ nw - 1) &&& (H ^^^ (2 ^ 31 - 1)) < 2 ^ 31 := Nat.lt_of_le_of_lt Nat.and_le_left (by omega)
  refine fwb_sub (fun i hi ho => ?_) (fun b hb ho => ?_)
  · unfold okf at ho ⊢
    rw [Bool.and_eq_true] at ho ⊢
    refine ⟨(subq_iff (by omega) (by omega)).mpr (fun k hk => ?_), ho.2⟩
    have := (subq_iff (by omega) ha).mp ho.1 k hk
    rw [cmp_b (by omega), Bool.and_eq_true] at this
    exact this.1
  · unfold okf at ho
    rw [Bool.and_eq_true] at ho
    have hs := (subq_iff (by omega) (by omega)).mp ho.1
    by_cases hz : ∃ k, b.testBit k = true ∧ H.testBit k = true
    · right
      obtain ⟨k, k1, k2⟩ := hz
      have hk10 : k < 10 := by
        by_cases c : k < 10
        · exact c
        · rw [Nat.testBit_lt_two_pow (Nat.lt_of_lt_of_le hb (Nat.le_trans p2 (Nat.pow_le_pow_right (n := 2) (by omega) (show 10 ≤ k by omega))))] at k1; cases k1
      have hle : b &&& (H ^^^ (2 ^ 31 - 1)) ≤ b := Nat.and_le_left
      refine ⟨b &&& (H ^^^ (2 ^ 31 - 1)), by omega, ?_, pcn_lt (fun i _ hi => ?_) ⟨k, hk10, k1, ?_⟩⟩
      · unfold okf
        rw [Bool.and_eq_true]
        refine ⟨(subq_iff (by omega) (by omega)).mpr (fun k hk => ?_), ?_⟩
        · rw [cmp_b (by omega), Bool.and_eq_true] at hk
          exact hs k hk.1
        · rw [show (b &&& (H ^^^ (2 ^ 31 - 1))) ||| H = b ||| H from ?_]
          · exact ho.2
          · apply Nat.eq_of_testBit_eq
            intro k
            rw [Nat.testBit_or, Nat.testBit_or, cmp_b (by omega)]
            cases b.testBit k <;> cases H.testBit k <;> rfl
      · rw [cmp_b (by omega), Bool.and_eq_true] at hi
        exact hi.1
      · rw [cmp_b (by omega), k1, k2]; rfl
    · left
      unfold okf
      rw [Bool.and_eq_true]
      refine ⟨(subq_iff (by omega) ha).mpr (fun k hk => ?_), ho.2⟩
      rw [cmp_b (by omega), hs k hk]
      cases hc : H.testBit k with
      | false => rfl
      | true => exact absurd ⟨k, hk, hc⟩ hz
theorem o_treaty {S : Nat} {σ τ : Store} (R : Rel S σ τ) (a : Int32) : ∃ r, fX8_treaty a σ = some r ∧ fX9_treaty a τ = some r := by
  obtain ⟨nw, nt, nx, hR, hD, hX⟩ := R
  have hsz := hR.1.2.1
  have p2 : 2 ^ nw ≤ 1024 := Nat.pow_le_pow_right (by omega) hsz.1
  have p0 : 0 < 2 ^ nw := Nat.two_pow_pos nw
  obtain ⟨e, he1, he⟩ := hR.sen
  obtain ⟨g, hg1, hg⟩ := hR.hld
  unfold fX8_treaty fX9_treaty
  rw [sens8, sens9, sbd_e, sbd_e]
  by_cases h1 : inN a 256 = true
  · rw [if_pos h1, if_pos h1]
    have hH : orN g nt < 2 ^ nw := orN_lt hg1
    have k1 : fX0_heldByAll 57 σ = some (nI (orN g nt)) := held8 hR hg nt 0 FU (by omega) (FU_gt (by omega))
    obtain ⟨r, r', f1, f2, f3⟩ := few_sim hR (q := a) (h := 2 ^ nw - 1) (h' := (2 ^ nw - 1) &&& (orN g nt ^^^ (2 ^ 31 - 1))) (H := orN g nt) (by omega) (Nat.lt_of_le_of_lt Nat.and_le_left (by omega)) (by omega) he (treaty_fw hsz.1 hH)
    have k2 := held9 hR hg (fun x15 _ => (six 1480 (5 : Int32) (sbd (fX9_fewest ((((1 : Int32) <<< ((τ 1 (snx (5 : Int32))) &&& 31)) - (1 : Int32)) &&& (x15 ^^^ (-1 : Int32))) x15 a τ) fun r18 => (if 0 ≤ r18 then (some r18) else (some (-1000000005 : Int32)))))) nt 0 FU (by omega) (FU_gt (by omega))
    rw [show fX9_treaty_L14 τ _ FU (0 : Int32) (0 : Int32) = _ from k2, k1, show fX0_allWords 57 σ = some (nI (2 ^ nw - 1)) by unfold fX0_allWords; rw [hR.1.1.head.2.2.2.2.2.1, hR.1.2.2.1, shl_n nw (by omega), sub1 (by omega)]]
    simp only [sbd_e, f1]
    refine ⟨r, rfl, ?_⟩
    rw [l_5, six_e (by omega) (by omega), snx_e (by omega), hR.1.2.2.1, shl_n nw (by omega), sub1 (by omega), not_n _ (by omega) (by omega), f2, sbd_e]
    exact f3
  · rw [if_neg h1, if_neg h1]; exact ⟨_, rfl, rfl⟩
