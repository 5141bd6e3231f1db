theorem BR.up {B nw nt nx S : Nat} {σ τ : Store} (hC : BR B nw nt nx S σ τ) {q0 o f : Nat} (hq0 : q0 < 80) (h4 : q0 ≠ 4 ∧ q0 ≠ 5 ∧ q0 ≠ 6 ∧ q0 ≠ 7) (hw : ∀ w, w < nw → q0 ≠ 8 + 6 * w ∧ q0 ≠ 9 + 6 * w ∧ q0 ≠ 12 + 6 * w) (ht : ∀ t, t < nt → q0 ≠ 68 + 2 * t) (ho : cxo q0 = o) (hf : cxf q0 = f) (x : Int32) : BR B nw nt nx S (sup σ (B + o) f x) (sup τ 1 q0 x) := by
  obtain ⟨a, b, c⟩ := hC
  exact ⟨by rw [sup_r]; exact a.up hq0 h4.2.1 h4.2.2.2 ho hf x, by rw [sup_r]; exact b.up ⟨h4.1, h4.2.2.1⟩ (fun w z => ⟨(hw w z).1, (hw w z).2.1⟩) ht, by rw [sup_r]; exact c.up (fun w z => (hw w z).2.2)⟩
theorem BR.mono {B nw nt nx S S' : Nat} {σ τ : Store} (h : BR B nw nt nx S σ τ) (hS : S ≤ S') : BR B nw nt nx S' σ τ := ⟨h.1, h.2.1, h.2.2.mono hS⟩
theorem day_l1 {B nw nt nx S : Nat} (kc : Int32 → Store → Option Store) (km : Int32 → Store → Option Store) : ∀ (m i : Nat) (σ τ : Store) (n n2 : Nat), i + m = nw → m < n → m < n2 → BR B nw nt nx S σ τ →
    ∃ σ' τ', fX0_dayPasses_L2 B kc n (nI i) σ = kc (nI nw) σ' ∧ fX9_daysGo_L9 km n2 (nI i) τ = km (nI nw) τ' ∧ BR B nw nt nx S σ' τ' ∧ fr8 B σ σ' ∧ fr9 τ τ' := by
  intro m
  induction m with
  | zero =>
    intro i σ τ n n2 hi hn hn2 hR
    obtain rfl : i = nw := by omega
    obtain ⟨n, rfl⟩ : ∃ k, n = k + 1 := ⟨n - 1, by omega⟩
    obtain ⟨n2, rfl⟩ : ∃ k, n2 = k + 1 := ⟨n2 - 1, by omega⟩
    refine ⟨σ, τ, ?_, ?_, hR, fr8.rf, fr9.rf⟩
    · rw [fX0_dayPasses_L2, hR.1.1.head.2.2.2.2.2.1, hR.1.2.2.1, if_pos (Int32.le_refl _)]
    · rw [fX9_daysGo_L9, l_5, six_e (by omega) (by omega), snx_e (by omega), hR.1.2.2.1, if_pos (Int32.le_refl _)]
  | succ m ih =>
    intro i σ τ n n2 hi hn hn2 hR
    obtain ⟨n, rfl⟩ : ∃ k, n = k + 1 := ⟨n - 1, by omega⟩
    obtain ⟨n2, rfl⟩ : ∃ k, n2 = k + 1 := ⟨n2 - 1, by omega⟩
    have hsz := hR.1.2.1
    have hge : ¬ nI nw ≤ nI i := nI_ge (by omega) (by omega)
    obtain ⟨y1, y2⟩ := cx_w i (by omega) 5 (by omega)
    have hR2 := hR.up (q0 := 8 + 6 * i + 5) (o := 3 + i) (f := 5) (by omega) (by omega) (fun v z => by omega) (fun v z => by omega) y1 y2 0
    obtain ⟨σ', τ', b1, b2, b3, b4, b5⟩ := ih (i + 1) _ _ n n2 (by omega) (by omega) (by omega) hR2
    refine ⟨σ', τ', ?_, ?_, b3, (fr8.rf.up (by omega)).tr b4, (fr9.rf.up (by omega)).tr b5⟩
    · rw [fX0_dayPasses_L2, hR.1.1.head.2.2.2.2.2.1, hR.1.2.2.1, if_neg hge, six_e (by omega) (by omega), slt_e, wrd_e (by omega), nI_1]
      exact b1
    · rw [fX9_daysGo_L9, l_5, six_e (by omega) (by omega), snx_e (by omega), hR.1.2.2.1, if_neg hge, l_8, l_6, pk_mul, nI_add, nI_add, six_e (by omega) (by omega), slt_e, snx_e (by omega), nI_1]
      exact b2
theorem all8 {B nw nt nx S : Nat} {σ τ : Store} (hR : BR B nw nt nx S σ τ) : fX0_allWords B σ = some (nI (2 ^ nw - 1)) := by
  have hsz := hR.1.2.1
  unfold fX0_allWords
  rw [hR.1.1.head.2.2.2.2.2.1, hR.1.2.2.1, shl_n nw (by omega), l_1, pk_sub (Nat.one_le_two_pow)]
theorem day_l2 {B nw nt nx : Nat} (kc : Int32 → Store → Option Store) (km : Int32 → Store → Option Store) : ∀ (m i S : Nat) (σ τ : Store) (n n2 : Nat), i + m = nt → m < n → m < n2 → BR B nw nt nx S σ τ →
    ∃ σ' τ', fX0_dayPasses_L28 B kc n (nI i) σ = kc (nI nt) σ' ∧ fX9_daysGo_L42 km n2 (nI i) τ = km (nI nt) τ' ∧ BR B nw nt nx (S + 10 * m) σ' τ' ∧ fr8 B σ σ' ∧ fr9 τ τ' := by
  intro m
  induction m with
  | zero =>
    intro i S σ τ n n2 hi hn hn2 hR
    obtain rfl : i = nt := by omega
    obtain ⟨n, rfl⟩ : ∃ k, n = k + 1 := ⟨n - 1, by omega⟩
    obtain ⟨n2, rfl⟩ : ∃ k, n2 = k + 1 := ⟨n2 - 1, by omega⟩
    refine ⟨σ, τ, ?_, ?_, hR, fr8.rf, fr9.rf⟩
    · rw [fX0_dayPasses_L28, hR.1.1.head.2.2.2.2.2.2.1, hR.2.1.1, if_pos (Int32.le_refl _)]
    · rw [fX9_daysGo_L42, l_6, six_e (by omega) (by omega), snx_e (by omega), hR.2.1.1, if_pos (Int32.le_refl _)]
  | succ m ih =>
    intro i S σ τ n n2 hi hn hn2 hR
    obtain ⟨n, rfl⟩ : ∃ k, n = k + 1 := ⟨n - 1, by omega⟩
    obtain ⟨n2, rfl⟩ : ∃ k, n2 = k + 1 := ⟨n2 - 1, by omega⟩
    have hsz := hR.1.2.1
    have hge : ¬ nI nt ≤ nI i := nI_ge (by omega) (by omega)
    have hz : BR B nw nt nx S (sup σ B 10 (zn (τ 1 0))) (sup τ 1 0 (zn (τ 1 0))) := hR.up (q0 := 0) (o := 0) (f := 10) (by omega) (by omega) (fun v z => by omega) (fun v z => by omega) rfl rfl (zn (τ 1 0))
    have ez : σ B 10 = τ 1 0 := hR.1.1.head.1
    obtain ⟨d, hd, ed⟩ := mod_n (d := 1024) (zn (τ 1 0)) (by omega) (by omega)
    have hall : 2 ^ nw - 1 < 1024 := p10 (n := nw) (by have := Nat.one_le_two_pow (n := nw); omega) hsz.1
    obtain ⟨r, σ1, τ1, c1, c2, c3, c4, c5⟩ := cross_sim hz (t := i) (s1 := d &&& (2 ^ nw - 1)) (s2 := d) (by omega) (Nat.lt_of_le_of_lt Nat.and_le_left (by omega)) (by omega) (fun w hw => by rw [Nat.testBit_and, Nat.testBit_two_pow_sub_one]; simp [hw])
    obtain ⟨σ', τ', b1, b2, b3, b4, b5⟩ := ih (i + 1) _ _ _ n n2 (by omega) (by omega) (by omega) c3
    refine ⟨σ', τ', ?_, ?_, by rw [show S + 10 * (m + 1) = S + 10 + 10 * m by omega]; exact b3, ((fr8.rf.up (o := 0) (by omega)).tr c4).tr b4, ((fr9.rf.up (by omega)).tr c5).tr b5⟩
    · rw [fX0_dayPasses_L28, hR.1.1.head.2.2.2.2.2.2.1, hR.2.1.1, if_neg hge, draw8, sbd2_e, ez, all8 hz, sbd_e, slt_e, show (1024 : Int32) = nI 1024 from rfl, ed, fa_and, six_e (by omega) (by omega), trv_e (by omega), c1, sbd2_e, nI_1]
      exact b1
    · rw [fX9_daysGo_L42, l_6, six_e (by omega) (by omega), snx_e (by omega), hR.2.1.1, if_neg hge, drawn9 (by decide), sbd2_e, show (1024 : Int32) = nI 1024 from rfl, ed, c2, sbd2_e, nI_1]
      exact b2
theorem day_sim {B nw nt nx S : Nat} {σ τ : Store} (hR : BR B nw nt nx S σ τ) (K : Store → Option Store) :
    ∃ σ' τ', fX0_dayPasses B σ = some σ' ∧ (fX9_daysGo_L9 (fun x90 s91 => (fX9_daysGo_L42 (fun x110 s111 => (six 1480 (1 : Int32) (six 1480 (1 : Int32) (slt (sup s111 1 (snx (1 : Int32)) ((s111 1 (snx (1 : Int32))) + (1 : Int32))) fun s114 => K s114)))) FU (0 : Int32) s91)) FU (0 : Int32) τ) = K τ' ∧ BR B nw nt nx (S + 60) σ' τ' ∧ fr8 B σ σ' ∧ fr9d τ τ' ∧ τ' 1 1 = τ 1 1 + 1 := by
  have hsz := hR.1.2.1
  obtain ⟨σ1, τ1, a1, a2, a3, a4, a5⟩ := day_l1 (fun x10 s11 => (fX0_dayPasses_L28 B (fun x36 s37 => (slt (sup s37 B 9 ((s37 B 9) + (1 : Int32))) fun s38 => (some s38))) FU (0 : Int32) s11)) (fun x90 s91 => (fX9_daysGo_L42 (fun x110 s111 => (six 1480 (1 : Int32) (six 1480 (1 : Int32) (slt (sup s111 1 (snx (1 : Int32)) ((s111 1 (snx (1 : Int32))) + (1 : Int32))) fun s114 => K s114)))) FU (0 : Int32) s91)) nw 0 σ τ FU FU (by omega) (FU_gt (by omega)) (FU_gt (by omega)) hR
  obtain ⟨σ2, τ2, b1, b2, b3, b4, b5⟩ := day_l2 (fun x36 s37 => (slt (sup s37 B 9 ((s37 B 9) + (1 : Int32))) fun s38 => (some s38))) (fun x110 s111 => (six 1480 (1 : Int32) (six 1480 (1 : Int32) (slt (sup s111 1 (snx (1 : Int32)) ((s111 1 (snx (1 : Int32))) + (1 : Int32))) fun s114 => K s114)))) nt 0 S σ1 τ1 FU FU (by omega) (FU_gt (by omega)) (FU_gt (by omega)) a3
  have hd : BR B nw nt nx (S + 10 * nt) (sup σ2 B 9 (τ2 1 1 + 1)) (sup τ2 1 1 (τ2 1 1 + 1)) := b3.up (q0 := 1) (o := 0) (f := 9) (by omega) (by omega) (fun v z => by omega) (fun v z => by omega) rfl rfl (τ2 1 1 + 1)
  have e9 : σ2 B 9 = τ2 1 1 := b3.1.1.head.2.1
  refine ⟨_, _, ?_, ?_, hd.mono (by omega), (a4.tr b4).tr (fr8.rf.up (o := 0) (by omega)), (a5.tr b5).d.up (by omega), by rw [sup_s, (a5.tr b5).2 1 (Or.inr rfl)]⟩
  · unfold fX0_dayPasses
    rw [show fX0_dayPasses_L2 B _ FU (0 : Int32) σ = _ from a1]
    show fX0_dayPasses_L28 B _ FU (nI 0) σ1 = _
    rw [b1, slt_e, e9]
  · rw [show fX9_daysGo_L9 _ FU (0 : Int32) τ = _ from a2]
    show fX9_daysGo_L42 _ FU (nI 0) τ1 = _
    rw [b2, l_1, six_e (by omega) (by omega), six_e (by omega) (by omega), slt_e, snx_e (by omega)]
