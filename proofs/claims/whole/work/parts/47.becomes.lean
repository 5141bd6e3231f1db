theorem wbec {a b : Nat} (h : a ≠ b) (σ : Store) : ∃ σ', fX7_becomes a b σ = some σ' ∧ (∀ j, j ≠ a → σ' j = σ j) ∧ ∀ f, f < 6 → σ' a f = σ b f := by
  unfold fX7_becomes
  simp only [slt_e]
  refine ⟨_, rfl, fun j hj => ?_, fun f hf => ?_⟩
  · simp only [sup_o hj]
  · have : f = 0 ∨ f = 1 ∨ f = 2 ∨ f = 3 ∨ f = 4 ∨ f = 5 := by omega
    rcases this with rfl | rfl | rfl | rfl | rfl | rfl <;> simp [sup_e, Ne.symm h]
theorem tbec {a b : Nat} (h : a ≠ b) (σ : Store) : ∃ σ', fX6_becomes a b σ = some σ' ∧ (∀ j, j ≠ a → σ' j = σ j) ∧ ∀ f, f < 2 → σ' a f = σ b f := by
  unfold fX6_becomes
  simp only [slt_e]
  refine ⟨_, rfl, fun j hj => ?_, fun f hf => ?_⟩
  · simp only [sup_o hj]
  · have : f = 0 ∨ f = 1 := by omega
    rcases this with rfl | rfl <;> simp [sup_e, Ne.symm h]
theorem bec_l1 {A B nw : Nat} (hnw : nw ≤ 10) (hd : A + 19 ≤ B ∨ B + 19 ≤ A) (k : Int32 → Store → Option Store) : ∀ (m i n : Nat) (τ : Store), i + m = nw → m < n → τ A 3 = nI nw →
    ∃ τ', fX0_becomes_L66 A B k n (nI i) τ = k (nI nw) τ' ∧ (∀ j, ¬ (A + (3 + i) ≤ j ∧ j < A + (3 + nw)) → τ' j = τ j) ∧ ∀ w, i ≤ w → w < nw → ∀ f, f < 6 → τ' (A + (3 + w)) f = τ (B + (3 + w)) f := by
  intro m
  induction m with
  | zero =>
    intro i n τ hi hn h3
    obtain rfl : i = nw := by omega
    obtain ⟨n, rfl⟩ : ∃ k, n = k + 1 := ⟨n - 1, by omega⟩
    exact ⟨τ, by rw [fX0_becomes_L66, h3, if_pos (Int32.le_refl _)], fun _ _ => rfl, fun w h1 h2 => by omega⟩
  | succ m ih =>
    intro i n τ hi hn h3
    obtain ⟨n, rfl⟩ : ∃ k, n = k + 1 := ⟨n - 1, by omega⟩
    obtain ⟨s1, e1, e2, e3⟩ := wbec (a := A + (3 + i)) (b := B + (3 + i)) (by omega) τ
    obtain ⟨τ', b1, b2, b3⟩ := ih (i + 1) n s1 (by omega) (by omega) (by rw [e2 A (by omega), h3])
    refine ⟨τ', ?_, fun j hj => ?_, fun w h1 h2 f hf => ?_⟩
    · rw [fX0_becomes_L66, h3, if_neg (nI_ge (by omega) (by omega)), six_e (by omega) (by omega), six_e (by omega) (by omega), wrd_e (by omega), wrd_e (by omega), e1, sbd_e, nI_1]
      exact b1
    · rw [b2 j (by omega), e2 j (by omega)]
    · by_cases h : w = i
      · subst h
        rw [b2 _ (by omega), e3 f hf]
      · rw [b3 w (by omega) h2 f hf, e2 _ (by omega)]
theorem bec_l2 {A B nt : Nat} (hnt : nt ≤ 6) (hd : A + 19 ≤ B ∨ B + 19 ≤ A) : ∀ (m i n : Nat) (τ : Store), i + m = nt → m < n → τ A 4 = nI nt →
    ∃ τ', fX0_becomes_L97 A B n (nI i) τ = some τ' ∧ (∀ j, ¬ (A + (13 + i) ≤ j ∧ j < A + (13 + nt)) → τ' j = τ j) ∧ ∀ w, i ≤ w → w < nt → ∀ f, f < 2 → τ' (A + (13 + w)) f = τ (B + (13 + w)) f := by
  intro m
  induction m with
  | zero =>
    intro i n τ hi hn h3
    obtain rfl : i = nt := by omega
    obtain ⟨n, rfl⟩ : ∃ k, n = k + 1 := ⟨n - 1, by omega⟩
    exact ⟨τ, by rw [fX0_becomes_L97, h3, if_pos (Int32.le_refl _)], fun _ _ => rfl, fun w h1 h2 => by omega⟩
  | succ m ih =>
    intro i n τ hi hn h3
    obtain ⟨n, rfl⟩ : ∃ k, n = k + 1 := ⟨n - 1, by omega⟩
    obtain ⟨s1, e1, e2, e3⟩ := tbec (a := A + (13 + i)) (b := B + (13 + i)) (by omega) τ
    obtain ⟨τ', b1, b2, b3⟩ := ih (i + 1) n s1 (by omega) (by omega) (by rw [e2 A (by omega), h3])
    refine ⟨τ', ?_, fun j hj => ?_, fun w h1 h2 f hf => ?_⟩
    · rw [fX0_becomes_L97, h3, if_neg (nI_ge (by omega) (by omega)), six_e (by omega) (by omega), six_e (by omega) (by omega), trv_e (by omega), trv_e (by omega), e1, sbd_e, nI_1]
      exact b1
    · rw [b2 j (by omega), e2 j (by omega)]
    · by_cases h : w = i
      · subst h
        rw [b2 _ (by omega), e3 f hf]
      · rw [b3 w (by omega) h2 f hf, e2 _ (by omega)]
theorem bec_sim {A B nw nt nx S : Nat} {σ : Store} {g : Nat → Int32} (hB : BG B nw nt nx S σ g) (hA : 57 ≤ A ∧ A + 19 ≤ 114) (hd : A + 19 ≤ B ∨ B + 19 ≤ A) :
    ∃ σ', fX0_becomes A B σ = some σ' ∧ BG A nw nt nx S σ' g ∧ ∀ j, ¬ (A ≤ j ∧ j < A + 19) → σ' j = σ j := by
  obtain ⟨⟨hV, hsz, h5, h7, hT⟩, hI, hS⟩ := hB
  obtain ⟨h0, h1, h2, h3, h4, h5', h6, h7'⟩ := hV.head
  generalize e1 : sup σ A 3 (σ B 3) = s1
  generalize e2 : sup s1 A 4 (s1 B 4) = s2
  generalize e3 : sup s2 A 5 (s2 B 5) = s3
  generalize e4 : sup s3 A 6 (s3 B 6) = s4
  generalize e5 : sup s4 A 7 (s4 B 7) = s5
  generalize e6 : sup s5 A 8 (s5 B 8) = s6
  generalize e7 : sup s6 A 9 (s6 B 9) = s7
  generalize e8 : sup s7 A 10 (s7 B 10) = s8
  have hne : B ≠ A := by omega
  have ho : ∀ j, j ≠ A → s8 j = σ j := fun j hj => by
    rw [← e8, sup_o hj, ← e7, sup_o hj, ← e6, sup_o hj, ← e5, sup_o hj, ← e4, sup_o hj, ← e3, sup_o hj, ← e2, sup_o hj, ← e1, sup_o hj]
  have hh : ∀ f, 3 ≤ f → f ≤ 10 → s8 A f = σ B f := by
    intro f f1 f2
    rw [← e8, ← e7, ← e6, ← e5, ← e4, ← e3, ← e2, ← e1]
    have : f = 3 ∨ f = 4 ∨ f = 5 ∨ f = 6 ∨ f = 7 ∨ f = 8 ∨ f = 9 ∨ f = 10 := by omega
    rcases this with rfl | rfl | rfl | rfl | rfl | rfl | rfl | rfl <;> simp [sup_e, hne]
  obtain ⟨s9, a1, a2, a3⟩ := bec_l1 (A := A) (B := B) hsz.1 hd (fun x21 s22 => (fX0_becomes_L97 A B FU (0 : Int32) s22)) nw 0 FU s8 (by omega) (FU_gt (by omega)) (by rw [hh 3 (by omega) (by omega), h5', h5])
  obtain ⟨s10, b1, b2, b3⟩ := bec_l2 (A := A) (B := B) hsz.2.1 hd nt 0 FU s9 (by omega) (FU_gt (by omega)) (by rw [a2 A (by omega), hh 4 (by omega) (by omega), h6, hI.1])
  have hfin : ∀ j, ¬ (A ≤ j ∧ j < A + 19) → s10 j = σ j := fun j hj => by rw [b2 j (by omega), a2 j (by omega), ho j (by omega)]
  refine ⟨s10, ?_, ⟨⟨fun q hq => ?_, ⟨hsz.1, hsz.2.1, hsz.2.2.1, hA⟩, h5, h7, fun x hx => (hT x hx).same (hfin _ (by omega)) (hfin _ (by omega)) (hfin _ (by omega)) (hfin _ (by omega)) (fun _ _ => rfl)⟩, hI, hS⟩, hfin⟩
  · unfold fX0_becomes
    simp only [slt_e]
    rw [e1, e2, e3, e4, e5, e6, e7, e8]
    show fX0_becomes_L66 A B _ FU (nI 0) s8 = _
    rw [a1]
    exact b1
  · have hq8 := liv_lt hsz.1 hsz.2.1 hq
    have := hV q hq
    by_cases c1 : q < 8
    · have hf : ∀ q, q < 8 → cxo q = 0 ∧ 3 ≤ cxf q ∧ cxf q ≤ 10 := by decide
      obtain ⟨z0, z1, z2⟩ := hf q c1
      rw [z0] at this ⊢
      rw [Nat.add_zero] at this ⊢
      rw [b2 A (by omega), a2 A (by omega), hh _ z1 z2, this]
    · by_cases c2 : q < 68
      · have hx : ∃ w f, w < nw ∧ f < 6 ∧ q = 8 + 6 * w + f := ⟨(q - 8) / 6, (q - 8) % 6, by unfold liv at hq; omega, by omega, by omega⟩
        obtain ⟨w, f, hw, hf, rfl⟩ := hx
        obtain ⟨z1, z2⟩ := cx_w w (by omega) f hf
        rw [z1, z2] at this ⊢
        rw [b2 _ (by omega), a3 w (by omega) hw f hf, ho _ (by omega), this]
      · have hx : ∃ w f, w < nt ∧ f < 2 ∧ q = 68 + 2 * w + f := ⟨(q - 68) / 2, (q - 68) % 2, by unfold liv at hq; omega, by omega, by omega⟩
        obtain ⟨w, f, hw, hf, rfl⟩ := hx
        obtain ⟨z1, z2⟩ := cx_t w (by omega) f hf
        rw [z1, z2] at this ⊢
        rw [b3 w (by omega) hw f hf, a2 _ (by omega), ho _ (by omega), this]
theorem copy_loop {a b na nb N : Nat} (hab : a ≠ b) (h1 : N ≤ na) (h2 : N ≤ nb) (ha : na ≤ 4000) (hb : nb ≤ 4000) : ∀ (m i n : Nat) (τ : Store), i + m = N → m < n →
    ∃ τ', fX9_copyRow_L2 na nb a b (nI N) n (nI i) τ = some τ' ∧ (∀ j, j ≠ b → τ' j = τ j) ∧ (∀ k, k < i ∨ N ≤ k → τ' b k = τ b k) ∧ ∀ k, i ≤ k → k < N → τ' b k = τ a k := by
  intro m
  induction m with
  | zero =>
    intro i n τ hi hn
    obtain rfl : i = N := by omega
    obtain ⟨n, rfl⟩ : ∃ k, n = k + 1 := ⟨n - 1, by omega⟩
    exact ⟨τ, by rw [fX9_copyRow_L2, if_pos (Int32.le_refl _)], fun _ _ => rfl, fun _ _ => rfl, fun k h1 h2 => by omega⟩
  | succ m ih =>
    intro i n τ hi hn
    obtain ⟨n, rfl⟩ : ∃ k, n = k + 1 := ⟨n - 1, by omega⟩
    obtain ⟨τ', b1, b2, b3, b4⟩ := ih (i + 1) n (sup τ b i (τ a i)) (by omega) (by omega)
    refine ⟨τ', ?_, fun j hj => by rw [b2 j hj, sup_o hj], fun k hk => ?_, fun k hk1 hk2 => ?_⟩
    · rw [fX9_copyRow_L2, if_neg (nI_ge (by omega) (by omega)), six_e (by omega) (by omega), six_e (by omega) (by omega), slt_e, snx_e (by omega), nI_1]
      exact b1
    · rw [b3 k (by omega), sup_k (by omega)]
    · by_cases h : k = i
      · subst h
        rw [b3 k (by omega), sup_s]
      · rw [b4 k (by omega) hk2, sup_o hab]
theorem copy_e {a b na nb N : Nat} (hab : a ≠ b) (h1 : N ≤ na) (h2 : N ≤ nb) (ha : na ≤ 4000) (hb : nb ≤ 4000) (τ : Store) :
    ∃ τ', fX9_copyRow a na b nb (nI N) τ = some τ' ∧ (∀ j, j ≠ b → τ' j = τ j) ∧ (∀ k, N ≤ k → τ' b k = τ b k) ∧ ∀ k, k < N → τ' b k = τ a k := by
  obtain ⟨τ', b1, b2, b3, b4⟩ := copy_loop hab h1 h2 ha hb N 0 FU τ (by omega) (FU_gt (by omega))
  exact ⟨τ', b1, b2, fun k hk => b3 k (Or.inr hk), fun k hk => b4 k (Nat.zero_le _) hk⟩
/-- a thought: the model's now is put back -/
theorem think {nw nt nx S : Nat} {σ τ : Store} (hR : BR 57 nw nt nx S σ τ) :
    ∃ σ1 τ1, fX0_becomes 95 57 σ = some σ1 ∧ fX9_copyRow 1 1480 3 80 (80 : Int32) τ = some τ1 ∧ BR 95 nw nt nx S σ1 τ1 ∧ (∀ j, ¬ (95 ≤ j ∧ j < 114) → σ1 j = σ j) ∧ (∀ j, j ≠ 3 → τ1 j = τ j) ∧ (∀ k, k < 80 → τ1 3 k = τ 1 k) := by
  obtain ⟨σ1, a1, a2, a3⟩ := bec_sim (A := 95) (B := 57) (σ := σ) (g := τ 1) hR (by omega) (by omega)
  obtain ⟨τ1, b1, b2, b3, b4⟩ := copy_e (a := 1) (b := 3) (na := 1480) (nb := 80) (N := 80) (by omega) (by omega) (by omega) (by omega) (by omega) τ
  exact ⟨σ1, τ1, a1, b1, by unfold BR; rw [b2 1 (by omega)]; exact a2, fun j hj => a3 j (by omega), b2, b4⟩
theorem unthink {τ τ1 τ2 : Store} (h1 : ∀ j, j ≠ 3 → τ1 j = τ j) (h3 : ∀ k, k < 80 → τ1 3 k = τ 1 k) (hf : fr9d τ1 τ2) (v : Int32) :
    ∃ τ3, fX9_putBack v τ2 = some (v, τ3) ∧ τ3 1 = τ 1 ∧ ∀ j, j ≠ 3 → j ≠ 9 → j ≠ 10 → τ3 j = τ j := by
  obtain ⟨τ3, b1, b2, b3, b4⟩ := copy_e (a := 3) (b := 1) (na := 80) (nb := 1480) (N := 80) (by omega) (by omega) (by omega) (by omega) (by omega) τ2
  have e1 : τ3 1 = τ 1 := by
    funext k
    by_cases hk : k < 80
    · rw [b4 k hk, hf.1 3 (by omega) (by omega) (by omega), h3 k hk]
    · rw [b3 k (by omega), hf.2 k (by omega), h1 1 (by omega)]
  refine ⟨τ3, ?_, e1, fun j j3 j9 j10 => ?_⟩
  · unfold fX9_putBack
    rw [show fX9_copyRow 3 80 1 1480 (80 : Int32) τ2 = _ from b1, sbd_e]
  · by_cases j1 : j = 1
    · rw [j1, e1]
    · rw [b2 j j1, hf.1 j j1 j9 j10, h1 j j3]
theorem Rel.back {S S' nw nt nx : Nat} {σ τ σ2 τ3 : Store} (hX : Rst S nx σ τ) (hD : DyO (τ 1)) (hR : BR 57 nw nt nx S σ τ) (h8 : ∀ j, j ≠ 20 → ¬ (95 ≤ j ∧ j < 114) → σ2 j = σ j) (e1 : τ3 1 = τ 1) (h9 : ∀ j, j ≠ 3 → j ≠ 9 → j ≠ 10 → τ3 j = τ j) (hS : S ≤ S') : Rel S' σ2 τ3 :=
  Rel.nowD hX (show BR 57 nw nt nx S' σ2 τ3 from ⟨by rw [e1]; exact hR.1.same (fun j hj => h8 j (by omega) (by omega)), by rw [e1]; exact hR.2.1, by rw [e1]; exact hR.2.2.mono hS⟩) (by rw [e1]; exact hD) (fun j a _ _ _ _ b => h8 j a b) ⟨fun j _ _ c _ _ e f _ => h9 j c e f, by rw [h9 0 (by omega) (by omega) (by omega)], by rw [h9 0 (by omega) (by omega) (by omega)], by rw [h9 0 (by omega) (by omega) (by omega)]⟩ hS
