theorem FU_gt {n : Nat} (h : n < 5000) : n < FU := h
theorem value_sim {σ τ : Store} {x : Nat} (hx : x < 14) (hT : TxR σ (τ 1) x) {f1 f2 f3 : Int32} (h0 : τ 9 0 = f1) (h1 : τ 9 1 = f2) (h2 : σ 18 x = nI 0 → τ 9 2 = f3) : ∃ v σ' τ', fX1_value (nI x) f1 f2 f3 σ = some (v, σ') ∧ fX9_worked (nI x) τ = some (v, τ') ∧ (∀ j, j ≠ 20 → σ' j = σ j) ∧ (∀ j, j ≠ 10 → τ' j = τ j) := by
  obtain ⟨ky, len, hky, hl1, hl2, a1, a2, a3, a4, a5, a6, a7, a8⟩ := hT
  obtain ⟨σ', τ', e1, e2, e3, e4, e5⟩ := val_loop (x := x) (ky := ky) (len := len) (c := σ (3 + x)) (g := τ 1) (f1 := f1) (f2 := f2) (f3 := f3) hx hl2 a6 a7 a5
    (fun x88 x89 s90 => (six 96 (0 : Int32) (some ((s90 20 (snx (0 : Int32))), s90)))) (fun x68 x69 s70 => (six 100 (0 : Int32) (some ((s70 10 (snx (0 : Int32))), s70))))
    len 0 σ τ FU FU (by omega) (FU_gt (by omega)) (FU_gt (by omega)) a4 rfl rfl h0 h1 (fun z => h2 (by rw [a1, z])) (fun k hk => absurd hk (Nat.not_lt_zero k))
  have z0 : snx (0 : Int32) = 0 := rfl
  refine ⟨σ' 20 0, σ', τ', ?_, ?_, e4, e5⟩
  · unfold fX1_value
    rw [show (-1 : Int32) = nI (dpt (σ (3 + x)) 0) - 1 from rfl, show fX1_value_L6 (nI x) f1 f2 f3 _ FU (nI (dpt (σ (3 + x)) 0) - 1) (0 : Int32) σ = _ from e1, l_0, six_e (by omega) (by omega), snx_e (by omega)]
  · unfold fX9_worked
    rw [slt_e, l_80, l_100, pk_mul, nI_add, show fX9_worked_L13 (nI (80 + 100 * x)) _ FU (0 : Int32) (0 : Int32) τ = _ from e2, l_0, six_e (by omega) (by omega), snx_e (by omega), e3 0 (by rw [a8]; omega)]
/-! which text counts -/
def lastK (f : Nat → Int32) (v : Int32) : Nat → Option Nat
  | 0 => none
  | n + 1 => if f n = v then some n else lastK f v n
def encC (o : Option Nat) : Int32 := match o with
  | some x => nI x
  | none => -1000000005
def encM (o : Option Nat) : Int32 := match o with
  | some x => nI x
  | none => -1
theorem lastK_lt {f : Nat → Int32} {v : Int32} : ∀ {n x : Nat}, lastK f v n = some x → x < n ∧ f x = v
  | 0, x, h => by cases h
  | n + 1, x, h => by
    unfold lastK at h
    by_cases e : f n = v
    · rw [if_pos e] at h; cases h; exact ⟨Nat.lt_succ_self _, e⟩
    · rw [if_neg e] at h
      have := lastK_lt h
      exact ⟨by omega, this.2⟩
theorem lastK_cong {f g : Nat → Int32} {v : Int32} : ∀ {n : Nat}, (∀ k, k < n → f k = g k) → lastK f v n = lastK g v n
  | 0, _ => rfl
  | n + 1, h => by
    unfold lastK
    rw [h n (Nat.lt_succ_self n), lastK_cong (fun k hk => h k (by omega))]
theorem cnt_loopC {v : Int32} {σ : Store} : ∀ (k n : Nat), k ≤ 14 → k < n → fX0_countingText_L7 v σ n (nI k - 1) = some (encC (lastK (σ 18) v k)) := by
  intro k
  induction k with
  | zero =>
    intro n _ hn
    obtain ⟨n, rfl⟩ : ∃ q, n = q + 1 := ⟨n - 1, by omega⟩
    rw [fX0_countingText_L7, if_pos (by decide)]
    rfl
  | succ k ih =>
    intro n hk hn
    obtain ⟨n, rfl⟩ : ∃ q, n = q + 1 := ⟨n - 1, by omega⟩
    rw [fX0_countingText_L7, nI_pred, if_neg (nI_pos (by omega)), six_e (by omega) (by omega), snx_e (by omega)]
    unfold lastK
    by_cases e : σ 18 k = v
    · rw [if_neg (fun z => z e), if_pos e]
      rfl
    · rw [if_pos e, if_neg e, ← Int32.sub_eq_add_neg]
      exact ih n (by omega) (by omega)
theorem cnt_loopM {v : Int32} {τ : Store} {nx : Nat} (hnx : nx ≤ 14) (h7 : τ 1 7 = nI nx) : ∀ (m i n : Nat), i + m = nx → m < n → fX9_counting_L4 v τ n (encM (lastK (fun x => τ 1 (80 + 100 * x)) v i)) (nI i) = some (encM (lastK (fun x => τ 1 (80 + 100 * x)) v nx)) := by
  intro m
  induction m with
  | zero =>
    intro i n hi hn
    obtain rfl : i = nx := by omega
    obtain ⟨n, rfl⟩ : ∃ q, n = q + 1 := ⟨n - 1, by omega⟩
    rw [fX9_counting_L4, l_7, six_e (by omega) (by omega), snx_e (by omega), h7, if_pos (Int32.le_refl _)]
  | succ m ih =>
    intro i n hi hn
    obtain ⟨n, rfl⟩ : ∃ q, n = q + 1 := ⟨n - 1, by omega⟩
    have key := ih (i + 1) n (by omega) (by omega)
    rw [show lastK (fun x => τ 1 (80 + 100 * x)) v (i + 1) = if τ 1 (80 + 100 * i) = v then some i else lastK (fun x => τ 1 (80 + 100 * x)) v i from rfl] at key
    rw [fX9_counting_L4, l_7, six_e (by omega) (by omega), snx_e (by omega), h7, if_neg (nI_ge (by omega) (by omega)), l_80, l_100, l_0, pk_mul, nI_add, nI_add, six_e (by omega) (by omega), snx_e (by omega), nI_1, show 80 + 100 * i + 0 = 80 + 100 * i by omega]
    by_cases e : τ 1 (80 + 100 * i) = v
    · rw [if_pos e] at key
      rw [if_neg (fun z => z e)]
      exact key
    · rw [if_neg e] at key
      rw [if_pos e]
      exact key
/-- what a border needs beside its fields: sizes, texts -/
def Bo (σ : Store) (g : Nat → Int32) (B nw nt nx : Nat) : Prop := BdV σ g B nw nt ∧ (nw ≤ 10 ∧ nt ≤ 6 ∧ nx ≤ 14 ∧ 57 ≤ B ∧ B + 19 ≤ 114) ∧ g 5 = nI nw ∧ g 7 = nI nx ∧ ∀ x, x < nx → TxR σ g x
theorem TxR.same {σ σ' : Store} {g g' : Nat → Int32} {x : Nat} (h : TxR σ g x) (h17 : σ' 17 = σ 17) (h18 : σ' 18 = σ 18) (h19 : σ' 19 = σ 19) (hx : σ' (3 + x) = σ (3 + x)) (hg : ∀ q, 80 ≤ q → g' q = g q) : TxR σ' g' x := by
  unfold TxR at h ⊢
  rw [h17, h18, h19, hx, hg _ (by omega), hg _ (by omega), hg _ (by omega)]
  obtain ⟨ky, len, h1, h2, h3, a1, a2, a3, a4, a5, a6, a7⟩ := h
  exact ⟨ky, len, h1, h2, h3, a1, a2, a3, a4, a5, fun k hk => by rw [hg _ (by omega)]; exact a6 k hk, a7⟩
theorem Bo.same {σ σ' : Store} {g : Nat → Int32} {B nw nt nx : Nat} (h : Bo σ g B nw nt nx) (h1 : ∀ j, (3 ≤ j ∧ j < 20) ∨ (B ≤ j ∧ j < B + 19) → σ' j = σ j) : Bo σ' g B nw nt nx := by
  obtain ⟨a, b, c, e, f⟩ := h
  exact ⟨a.same b.1 b.2.1 (fun j z1 z2 => h1 j (Or.inr ⟨z1, z2⟩)) (fun _ _ => rfl), b, c, e, fun x hx => by
    have := (f x hx)
    exact this.same (h1 _ (by omega)) (h1 _ (by omega)) (h1 _ (by omega)) (h1 _ (by omega)) (fun _ _ => rfl)⟩
theorem Bo.up {σ : Store} {g : Nat → Int32} {B nw nt nx : Nat} (h : Bo σ g B nw nt nx) {q0 o f : Nat} (hq0 : q0 < 80) (h5 : q0 ≠ 5) (h7 : q0 ≠ 7) (ho : cxo q0 = o) (hf : cxf q0 = f) (x : Int32) : Bo (sup σ (B + o) f x) (upd g q0 x) B nw nt nx := by
  obtain ⟨a, b, c, e, ff⟩ := h
  exact ⟨a.up b.1 b.2.1 hq0 ho hf x, b, by rw [upd_e, if_neg (Ne.symm h5), c], by rw [upd_e, if_neg (Ne.symm h7), e], fun y hy => (ff y hy).same (sup_o (by omega)) (sup_o (by omega)) (sup_o (by omega)) (sup_o (by omega)) (fun q hq => by rw [upd_e, if_neg (by omega)])⟩
theorem Bo.less {σ : Store} {g g' : Nat → Int32} {B nw nt nx : Nat} (h : Bo σ g B nw nt nx) (hg : ∀ q, q < 68 ∨ 80 ≤ q → g' q = g q) : Bo σ g' B nw 0 nx := by
  obtain ⟨a, b, c, e, ff⟩ := h
  exact ⟨fun q hq => by
    have h8 := liv_lt b.1 (Nat.zero_le 6) hq
    have : q < 68 := by unfold liv at hq; omega
    rw [hg q (Or.inl this)]
    exact a q (Or.inl (by unfold liv at hq; omega)), ⟨b.1, Nat.zero_le _, b.2.2⟩, by rw [hg 5 (by omega), c], by rw [hg 7 (by omega), e], fun y hy => (ff y hy).same rfl rfl rfl rfl (fun q hq => hg q (Or.inr hq))⟩
theorem count_sim {σ τ : Store} {B nw nt nx : Nat} (h : Bo σ (τ 1) B nw nt nx) (v : Int32) : ∃ o : Option Nat, fX0_countingText B v σ = some (encC o) ∧ fX9_counting v τ = some (encM o) ∧ ∀ x, o = some x → x < nx ∧ x < 14 ∧ σ 18 x = v := by
  obtain ⟨a, b, c, e, f⟩ := h
  refine ⟨lastK (σ 18) v nx, ?_, ?_, fun x hx => ?_⟩
  · unfold fX0_countingText
    rw [slt_e, a.head.2.2.2.2.2.2.2, e]
    exact cnt_loopC nx FU b.2.2.1 (FU_gt (by omega))
  · unfold fX9_counting
    have := cnt_loopM (v := v) b.2.2.1 e nx 0 FU (by omega) (FU_gt (by omega))
    rw [show fX9_counting_L4 v τ FU (-1 : Int32) (0 : Int32) = _ from this]
    rw [lastK_cong (g := σ 18) (fun k hk => by
      obtain ⟨ky, len, -, -, -, a1, a2, -⟩ := f k hk
      rw [a1]; exact a2)]
  · have := lastK_lt hx
    exact ⟨this.1, by omega, this.2⟩
/-! costs -/
def cst (kd td qt p : Int32) : Int32 :=
  if kd = 1 then (if td < qt / 2 then p else 2 * p) else if kd = 2 then p / 2 else if kd = 3 then (if td < qt / 2 then p else 2 * p) + 3 else if kd = 4 then smax 0 (p / 2 - 2) else if kd = 5 then 0 else p
theorem costs7 (a : Nat) (p : Int32) (σ : Store) : fX7_costs a p σ = some (cst (σ a 0) (σ a 5) (σ a 3) p) := by
  unfold fX7_costs cst
  simp only [sjn_e, slt_e]
  by_cases h : σ a 5 < σ a 3 / 2 <;> simp only [h, if_true, if_false] <;> (repeat' split) <;> rfl
theorem smin_c (x y : Int32) : smin x y = smin y x := by
  unfold smin
  by_cases h1 : y < x
  · rw [if_pos h1, if_neg (fun z => Int32.lt_irrefl (Int32.lt_trans h1 z))]
  · rw [if_neg h1]
    by_cases h2 : x < y
    · rw [if_pos h2]
    · rw [if_neg h2]
      exact Int32.le_antisymm (Int32.not_lt.mp h1) (Int32.not_lt.mp h2)
theorem wordIs_e {τ : Store} {w f : Nat} (hw : w < 10) (hf : f < 6) : fX9_wordIs (nI w) (nI f) τ = some (τ 1 (8 + 6 * w + f)) := by
  unfold fX9_wordIs
  rw [l_8, l_6, pk_mul, nI_add, nI_add, six_e (by omega) (by omega), snx_e (by omega)]
theorem travIs_e {τ : Store} {t f : Nat} (ht : t < 6) (hf : f < 2) : fX9_travellerIs (nI t) (nI f) τ = some (τ 1 (68 + 2 * t + f)) := by
  unfold fX9_travellerIs
  rw [l_68, l_2, pk_mul, nI_add, nI_add, six_e (by omega) (by omega), snx_e (by omega)]
theorem costs_sim {σ τ : Store} {B nw nt nx w : Nat} (h : Bo σ (τ 1) B nw nt nx) (hw : w < nw) : ∃ r σ' τ', fX0_costsOf B (B + (3 + w)) σ = some (r, σ') ∧ fX9_costs (nI w) τ = some (r, τ') ∧ (∀ j, j ≠ 20 → σ' j = σ j) ∧ (∀ j, j ≠ 9 → j ≠ 10 → τ' j = τ j) := by
  obtain ⟨o, c1, c2, c3⟩ := count_sim h 0
  have hB := h.2.1
  have g0 := h.1.wd hB.1 hw (f := 0) (by omega)
  have g2 := h.1.wd hB.1 hw (f := 2) (by omega)
  have g3 := h.1.wd hB.1 hw (f := 3) (by omega)
  have g5 := h.1.wd hB.1 hw (f := 5) (by omega)
  have wi : ∀ (s : Store) (f : Nat), f < 6 → fX9_wordIs (nI w) (nI f) s = some (s 1 (8 + 6 * w + f)) := fun s f hf => wordIs_e (by omega) hf
  have fin : ∀ (r1 : Int32) (s2 : Store), s2 1 = τ 1 → (sbd (fX9_wordIs (nI w) 5 s2) fun r3 => sbd (fX9_wordIs (nI w) 3 s2) fun r4 => sjn (fun k30 : Int32 → Option (Int32 × Store) => if r3 < (r4 / (2 : Int32)) then (k30 r1) else (k30 ((2 : Int32) * r1))) (fun (z0_30 : Int32) => (sbd (fX9_wordIs (nI w) (0 : Int32) s2) fun r6 => (if r6 = (1 : Int32) then (some (z0_30, s2)) else (if r6 = (2 : Int32) then (some ((r1 / (2 : Int32)), s2)) else (if r6 = (3 : Int32) then (some ((z0_30 + (3 : Int32)), s2)) else (if r6 = (4 : Int32) then (some ((smax (0 : Int32) ((r1 / (2 : Int32)) - (2 : Int32))), s2)) else (if r6 = (5 : Int32) then (some ((0 : Int32), s2)) else (some (r1, s2)))))))))) = some (cst (σ (B + (3 + w)) 0) (σ (B + (3 + w)) 5) (σ (B + (3 + w)) 3) r1, s2) := by
    intro r1 s2 hs
    rw [show (5 : Int32) = nI 5 from rfl, show (3 : Int32) = nI 3 from rfl, show (0 : Int32) = nI 0 from rfl, wi s2 5 (by omega), wi s2 3 (by omega), wi s2 0 (by omega), sbd_e, sbd_e, sjn_e, hs, g0, g3, g5, ← l_0, ← l_3, ← l_5]
    simp only [sbd_e]
    unfold cst
    by_cases h : τ 1 (8 + 6 * w + 5) < τ 1 (8 + 6 * w + 3) / 2 <;> simp only [h, if_true, if_false] <;> (repeat' split) <;> rfl
  cases o with
  | none =>
    refine ⟨cst (σ (B + (3 + w)) 0) (σ (B + (3 + w)) 5) (σ (B + (3 + w)) 3) (σ (B + (3 + w)) 2), σ, τ, ?_, ?_, fun _ _ => rfl, fun _ _ _ => rfl⟩
    · unfold fX0_costsOf
      rw [c1, sbd_e, if_neg (fun z => z rfl), costs7, sbd_e]
    · unfold fX9_costs fX9_dutyOf
      rw [c2, sbd_e, if_neg (by decide), show (2 : Int32) = nI 2 from rfl, wi τ 2 (by omega), sbd_e, sbd2_e, ← g2, ← l_2]
      exact fin _ τ rfl
  | some x =>
    obtain ⟨hx, hx14, hk⟩ := c3 x rfl
    have hT := h.2.2.2.2 x hx
    generalize hs11 : sup (sup (sup τ 9 0 (τ 1 (8 + 6 * w + 2))) 9 1 (τ 1 (8 + 6 * w + 5))) 9 2 (τ 1 (8 + 6 * w + 3)) = s11
    have e1 : s11 1 = τ 1 := by rw [← hs11, sup_o (by omega), sup_o (by omega), sup_o (by omega)]
    obtain ⟨v, σ', τ', v1, v2, v3, v4⟩ := value_sim (σ := σ) (τ := s11) hx14 (by rw [e1]; exact hT) (f1 := τ 1 (8 + 6 * w + 2)) (f2 := τ 1 (8 + 6 * w + 5)) (f3 := τ 1 (8 + 6 * w + 3)) (by rw [← hs11, sup_k (by omega), sup_k (by omega), sup_s]) (by rw [← hs11, sup_k (by omega), sup_s]) (fun _ => by rw [← hs11, sup_s])
    have eτ : τ' 1 = τ 1 := by rw [v4 1 (by omega), e1]
    refine ⟨cst (σ (B + (3 + w)) 0) (σ (B + (3 + w)) 5) (σ (B + (3 + w)) 3) (smax 0 (smin 999 v)), σ', τ', ?_, ?_, v3, fun j h9 h10 => by rw [v4 j h10, ← hs11, sup_o h9, sup_o h9, sup_o h9]⟩
    · unfold fX0_costsOf
      rw [c1, sbd_e, show encC (some x) = nI x from rfl, if_pos (fun z => by have := congrArg Int32.toInt z; rw [nI_toInt (by omega)] at this; have e : (-1000000005 : Int32).toInt = -1000000005 := rfl; omega), g2, g5, g3, v1, sbd2_e]
      unfold fX8_held
      rw [sbd_e, costs7, sbd_e, v3 _ (by omega), smin_c, g5, g3]
    · unfold fX9_costs fX9_dutyOf
      rw [c2, sbd_e, show encM (some x) = nI x from rfl, if_pos (nI_pos' (by omega)), show (2 : Int32) = nI 2 from rfl, show (5 : Int32) = nI 5 from rfl, show (3 : Int32) = nI 3 from rfl, show (1 : Int32) = nI 1 from rfl, show (0 : Int32) = nI 0 from rfl]
      rw [wi τ 2 (by omega), sbd_e, six_e (by omega) (by omega), slt_e, snx_e (by omega), wi _ 5 (by omega), sbd_e, six_e (by omega) (by omega), slt_e, snx_e (by omega), wi _ 3 (by omega), sbd_e, six_e (by omega) (by omega), slt_e, snx_e (by omega), sup_o (j' := 1) (by omega), sup_o (j' := 1) (by omega), sup_o (j' := 1) (by omega), hs11, v2, sbd2_e, sbd2_e]
      exact fin (smax 0 (smin 999 v)) τ' eτ
