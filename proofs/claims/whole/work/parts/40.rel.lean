/-! the relation of the two whole states -/
def BG (B nw nt nx S : Nat) (σ : Store) (g : Nat → Int32) : Prop := Bo σ g B nw nt nx ∧ BdI g nw nt ∧ Stm g nw S
def vOk (v : Int32) : Prop := v = -1000000005 ∨ (-99999 ≤ v.toInt ∧ v.toInt ≤ 99999)
def ShR (σ τ : Store) (s : Nat) : Prop := (∃ len, len ≤ 24 ∧ σ (27 + s) 1 = nI len ∧ τ 12 s = nI len) ∧ (σ (27 + s) 0 = τ 11 s ∧ (τ 11 s = -1 ∨ τ 11 s = 0 ∨ τ 11 s = 1)) ∧ ∀ k, k < 24 → σ (31 + s) k = τ 13 (24 * s + k) ∧ vOk (τ 13 (24 * s + k))
def SlR (σ τ : Store) (s : Nat) : Prop := ∃ h, h < 4 ∧ σ (36 + s) 0 = nI h ∧ τ 15 s = nI h ∧
  (h = 1 → (∃ k, k < 6 ∧ σ (41 + s) 0 = nI k ∧ τ 16 (25 * s) = nI k) ∧ (∃ e, e < 256 ∧ σ (41 + s) 1 = nI e ∧ τ 16 (25 * s + 1) = nI e) ∧ σ (41 + s) 2 = τ 16 (25 * s + 2)) ∧
  (h = 2 → (∃ len, len ≤ 24 ∧ σ (46 + s) 1 = nI len ∧ τ 16 (25 * s) = nI len) ∧ ∀ k, k < 24 → σ (51 + s) k = τ 16 (25 * s + 1 + k)) ∧
  (h = 3 → σ (36 + s) 1 = τ 16 (25 * s))
def TaR (σ τ : Store) : Prop := ∃ L, L ≤ 96 ∧ σ 0 10 = nI L ∧ τ 0 6 = nI L ∧ ∀ k, k < L → σ 23 k = τ 5 k ∧ ∃ b, b < 256 ∧ τ 5 k = nI b
def WaR (σ τ : Store) : Prop := ∃ n, n ≤ 60 ∧ σ 0 11 = nI n ∧ τ 0 28 = nI n ∧ ∀ k, k < n → σ 56 k = τ 17 k
def DyO (g : Nat → Int32) : Prop := ∃ d, d ≤ 9999 ∧ g 1 = nI d
def ImR (S nx : Nat) (σ τ : Store) : Prop := ∃ b : Bool, σ 0 12 = b2i b ∧ τ 0 2 = b2i b ∧ (b = true → ∃ nw' nt' nx', nx' ≤ nx ∧ BG 76 nw' nt' nx' S σ (τ 2) ∧ DyO (τ 2))
def Rst (S nx : Nat) (σ τ : Store) : Prop := ImR S nx σ τ ∧ TaR σ τ ∧ (∀ s, s < 4 → ShR σ τ s) ∧ (∀ s, s < 5 → SlR σ τ s) ∧ WaR σ τ
def Rel (S : Nat) (σ τ : Store) : Prop := ∃ nw nt nx, BR 57 nw nt nx S σ τ ∧ DyO (τ 1) ∧ Rst S nx σ τ
theorem BG.mono {B nw nt nx S S' : Nat} {σ : Store} {g : Nat → Int32} (h : BG B nw nt nx S σ g) (hS : S ≤ S') : BG B nw nt nx S' σ g := ⟨h.1, h.2.1, h.2.2.mono hS⟩
theorem Rst.mono {S S' nx : Nat} {σ τ : Store} (h : Rst S nx σ τ) (hS : S ≤ S') : Rst S' nx σ τ := by
  obtain ⟨⟨b, b1, b2, b3⟩, h⟩ := h
  exact ⟨⟨b, b1, b2, fun z => by obtain ⟨x, y, u, v, w, w2⟩ := b3 z; exact ⟨x, y, u, v, w.mono hS, w2⟩⟩, h⟩
theorem Rel.mono {S S' : Nat} {σ τ : Store} (h : Rel S σ τ) (hS : S ≤ S') : Rel S' σ τ := by
  obtain ⟨nw, nt, nx, a, d, b⟩ := h
  exact ⟨nw, nt, nx, a.mono hS, d, b.mono hS⟩
/-- what the rest asks to stay -/
def st8 (σ σ' : Store) : Prop := ∀ j, j ≠ 20 → j ≠ 22 → j ≠ 24 → j ≠ 25 → ¬ (57 ≤ j ∧ j < 76) → ¬ (95 ≤ j ∧ j < 114) → σ' j = σ j
def st9 (τ τ' : Store) : Prop := (∀ j, j ≠ 0 → j ≠ 1 → j ≠ 3 → j ≠ 4 → j ≠ 8 → j ≠ 9 → j ≠ 10 → j ≠ 14 → τ' j = τ j) ∧ τ' 0 2 = τ 0 2 ∧ τ' 0 6 = τ 0 6 ∧ τ' 0 28 = τ 0 28
theorem st8.rf {σ : Store} : st8 σ σ := fun _ _ _ _ _ _ _ => rfl
theorem st9.rf {τ : Store} : st9 τ τ := ⟨fun _ _ _ _ _ _ _ _ _ => rfl, rfl, rfl, rfl⟩
theorem fr8.st {σ σ' : Store} (h : fr8 57 σ σ') : st8 σ σ' := fun j a _ _ _ b _ => h j a (by omega)
theorem fr9d.st {τ τ' : Store} (h : fr9d τ τ') : st9 τ τ' := ⟨fun j _ b _ _ _ c d _ => h.1 j b c d, by rw [h.1 0 (by omega) (by omega) (by omega)], by rw [h.1 0 (by omega) (by omega) (by omega)], by rw [h.1 0 (by omega) (by omega) (by omega)]⟩
theorem Bo.img {σ σ' : Store} {g : Nat → Int32} {nw nt nx : Nat} (h : Bo σ g 76 nw nt nx) (h1 : st8 σ σ') : Bo σ' g 76 nw nt nx := h.same (fun j z => h1 j (by omega) (by omega) (by omega) (by omega) (by omega) (by omega))
theorem Rst.same {S nx : Nat} {σ τ σ' τ' : Store} (h : Rst S nx σ τ) (h1 : st8 σ σ') (h2 : st9 τ τ') : Rst S nx σ' τ' := by
  obtain ⟨⟨b, b1, b2, b3⟩, ⟨L, l1, l2, l3, l4⟩, c, d, ⟨n, n1, n2, n3, n4⟩⟩ := h
  have e1 : ∀ j, j ≠ 20 → j ≠ 22 → j ≠ 24 → j ≠ 25 → j < 57 → σ' j = σ j := fun j a b c d e => h1 j a b c d (by omega) (by omega)
  have e2 := h2.1
  refine ⟨⟨b, by rw [e1 0 (by omega) (by omega) (by omega) (by omega) (by omega), b1], by rw [h2.2.1, b2], fun z => ?_⟩, ⟨L, l1, by rw [e1 0 (by omega) (by omega) (by omega) (by omega) (by omega), l2], by rw [h2.2.2.1, l3], fun k hk => ?_⟩, fun s hs => ?_, fun s hs => ?_, ⟨n, n1, by rw [e1 0 (by omega) (by omega) (by omega) (by omega) (by omega), n2], by rw [h2.2.2.2, n3], fun k hk => ?_⟩⟩
  · obtain ⟨x, y, u, v, w, w2⟩ := b3 z
    refine ⟨x, y, u, v, ?_⟩
    rw [e2 2 (by omega) (by omega) (by omega) (by omega) (by omega) (by omega) (by omega) (by omega)]
    exact ⟨⟨w.1.img h1, w.2⟩, w2⟩
  · rw [e1 23 (by omega) (by omega) (by omega) (by omega) (by omega), e2 5 (by omega) (by omega) (by omega) (by omega) (by omega) (by omega) (by omega) (by omega)]
    exact l4 k hk
  · unfold ShR
    rw [e1 (27 + s) (by omega) (by omega) (by omega) (by omega) (by omega), e1 (31 + s) (by omega) (by omega) (by omega) (by omega) (by omega), e2 11 (by omega) (by omega) (by omega) (by omega) (by omega) (by omega) (by omega) (by omega), e2 12 (by omega) (by omega) (by omega) (by omega) (by omega) (by omega) (by omega) (by omega), e2 13 (by omega) (by omega) (by omega) (by omega) (by omega) (by omega) (by omega) (by omega)]
    exact c s hs
  · unfold SlR
    rw [e1 (36 + s) (by omega) (by omega) (by omega) (by omega) (by omega), e1 (41 + s) (by omega) (by omega) (by omega) (by omega) (by omega), e1 (46 + s) (by omega) (by omega) (by omega) (by omega) (by omega), e1 (51 + s) (by omega) (by omega) (by omega) (by omega) (by omega), e2 15 (by omega) (by omega) (by omega) (by omega) (by omega) (by omega) (by omega) (by omega), e2 16 (by omega) (by omega) (by omega) (by omega) (by omega) (by omega) (by omega) (by omega)]
    exact d s hs
  · rw [e1 56 (by omega) (by omega) (by omega) (by omega) (by omega), e2 17 (by omega) (by omega) (by omega) (by omega) (by omega) (by omega) (by omega) (by omega)]
    exact n4 k hk
theorem Rel.nowD {S S' nx nw' nt' : Nat} {σ τ σ' τ' : Store} (h : Rst S nx σ τ) (hb : BR 57 nw' nt' nx S' σ' τ') (hd : DyO (τ' 1)) (h1 : st8 σ σ') (h2 : st9 τ τ') (hS : S ≤ S') : Rel S' σ' τ' := ⟨nw', nt', nx, hb, hd, (h.same h1 h2).mono hS⟩
theorem DyO.same {τ τ' : Store} (h : DyO (τ 1)) (hf : τ' 1 1 = τ 1 1) : DyO (τ' 1) := by unfold DyO; rw [hf]; exact h
theorem Rel.now {S S' nx nw' nt' : Nat} {σ τ σ' τ' : Store} (h : Rst S nx σ τ) (hD : DyO (τ 1)) (hb : BR 57 nw' nt' nx S' σ' τ') (h1 : st8 σ σ') (h2 : fr9 τ τ') (hS : S ≤ S') : Rel S' σ' τ' := Rel.nowD h hb (hD.same (h2.2 1 (Or.inr rfl))) h1 h2.d.st hS
/-! the questions that most calls ask first -/
theorem hasW8 {B nw nt nx S : Nat} {σ τ : Store} (h : BR B nw nt nx S σ τ) (w : Int32) : fX0_hasWord B w σ = some (inN w nw) := by
  have hsz := h.1.2.1
  unfold fX0_hasWord
  rw [h.1.1.head.2.2.2.2.2.1, h.1.2.2.1, within8, sbd_e, wth_n (by omega)]
theorem hasT8 {B nw nt nx S : Nat} {σ τ : Store} (h : BR B nw nt nx S σ τ) (w : Int32) : fX0_hasTraveller B w σ = some (inN w nt) := by
  have hsz := h.1.2.1
  unfold fX0_hasTraveller
  rw [h.1.1.head.2.2.2.2.2.2.1, h.2.1.1, within8, sbd_e, wth_n (by omega)]
theorem hasA8 {B nw nt nx S : Nat} {σ τ : Store} (h : BR B nw nt nx S σ τ) (w : Int32) : fX0_hasAll B w σ = some (inN w (2 ^ nw)) := by
  have hsz := h.1.2.1
  have h1 := Nat.one_le_two_pow (n := nw)
  have h2 : 2 ^ nw ≤ 1024 := Nat.pow_le_pow_right (by omega) hsz.1
  unfold fX0_hasAll
  rw [all8 h, sbd_e, within8, sbd_e, wth_lit (by omega), Nat.sub_add_cancel h1]
theorem isW9 {B nw nt nx S : Nat} {σ τ : Store} (h : BR B nw nt nx S σ τ) (w : Int32) : fX9_isWord w τ = some (inN w nw) := by
  have hsz := h.1.2.1
  unfold fX9_isWord
  rw [l_5, six_e (by omega) (by omega), snx_e (by omega), h.1.2.2.1, within9, sbd_e, wth_n (by omega)]
theorem isT9 {B nw nt nx S : Nat} {σ τ : Store} (h : BR B nw nt nx S σ τ) (w : Int32) : fX9_isTraveller w τ = some (inN w nt) := by
  have hsz := h.1.2.1
  unfold fX9_isTraveller
  rw [l_6, six_e (by omega) (by omega), snx_e (by omega), h.2.1.1, within9, sbd_e, wth_n (by omega)]
theorem areW9 {B nw nt nx S : Nat} {σ τ : Store} (h : BR B nw nt nx S σ τ) (w : Int32) : fX9_areWords w τ = some (inN w (2 ^ nw)) := by
  have hsz := h.1.2.1
  have h1 := Nat.one_le_two_pow (n := nw)
  have h2 : 2 ^ nw ≤ 1024 := Nat.pow_le_pow_right (by omega) hsz.1
  unfold fX9_areWords
  rw [l_5, six_e (by omega) (by omega), snx_e (by omega), h.1.2.2.1, shl_n nw (by omega), l_1, pk_sub h1, within9, sbd_e, show wth w 0 (nI (2 ^ nw - 1)) = _ from wth_lit (by omega), Nat.sub_add_cancel h1]
theorem kind8 (v : Int32) (σ : Store) : fX8_isKind v σ = some (inN v 6) := by unfold fX8_isKind; rw [within8, sbd_e]; exact congrArg some (wth_lit (m := 5) (by omega))
theorem kind9 (v : Int32) (σ : Store) : fX9_isKind v σ = some (inN v 6) := kind8 v σ
theorem sens8 (v : Int32) (σ : Store) : fX8_isSenses v σ = some (inN v 256) := by unfold fX8_isSenses; rw [within8, sbd_e]; exact congrArg some (wth_lit (m := 255) (by omega))
theorem sens9 (v : Int32) (σ : Store) : fX9_areSenses v σ = some (inN v 256) := sens8 v σ
theorem sheet8 (v : Int32) (σ : Store) : fX8_isSheet v σ = some (inN v 4) := by unfold fX8_isSheet; rw [within8, sbd_e]; exact congrArg some (wth_lit (m := 3) (by omega))
theorem sheet9 (v : Int32) (σ : Store) : fX9_isSheet v σ = some (inN v 4) := sheet8 v σ
theorem slot8 (v : Int32) (σ : Store) : fX8_isSlot v σ = some (inN v 5) := by unfold fX8_isSlot; rw [within8, sbd_e]; exact congrArg some (wth_lit (m := 4) (by omega))
theorem slot9 (v : Int32) (σ : Store) : fX9_isSlot v σ = some (inN v 5) := slot8 v σ
theorem hund9 (v : Int32) (σ : Store) : fX9_isHundred v σ = some (wth v 0 99) := by unfold fX9_isHundred; rw [within9, sbd_e]
theorem bec9 {q : Nat} (hq : q < 1480) (v : Int32) (τ : Store) : fX9_become (nI q) v τ = some (τ 1 q, sup τ 1 q v) := by
  unfold fX9_become
  rw [six_e hq (by omega), slt_e, six_e hq (by omega), slt_e, snx_e (by omega)]
