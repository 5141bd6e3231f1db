theorem bor2 {h cm w : Nat} (h1 : (h ||| cm) < 2 ^ 31) (hw : w < 31) : nI (h ||| cm) ||| ((1 : Int32) <<< (nI w &&& 31)) = nI (h ||| (cm ||| 2 ^ w)) := by
  rw [shl_n w hw, fa_or, Nat.or_assoc]
theorem comes_sim {B nw nt nx t h cm S w : Nat} {σ τ : Store} (hC : CR B nw nt nx t h σ τ cm S) (ht : t < nt) (hw : w < nw) : ∃ b σ' τ', cin B (B + (13 + t)) (B + (3 + w)) ((1 : Int32) <<< (nI w &&& 31)) σ = some (b, σ') ∧ fX9_comesIn (nI w) (nI t) τ = some (b, τ') ∧ CR B nw nt nx t h σ' τ' cm (S + 1) ∧ fr8 B σ σ' ∧ fr9 τ τ' := by
  have hsz := hC.1.2.1
  obtain ⟨hb6, ⟨l, hl, hl4⟩, hkd, -, -⟩ := hC.2.1
  rw [upd_n (by omega)] at hl4
  obtain ⟨kd, hkd6, hkd⟩ := hkd w hw
  rw [upd_n (by omega)] at hkd
  have hmono : ∀ {s t' : Store}, CR B nw nt nx t h s t' cm S → CR B nw nt nx t h s t' cm (S + 1) := fun z => ⟨z.1, z.2.1, z.2.2.1.mono (by omega), z.2.2.2⟩
  have hBo : ∀ {s t' : Store} {S' : Nat}, CR B nw nt nx t h s t' cm S' → Bo s (t' 1) B nw 0 nx := fun z => z.1.less (fun q hq => by rw [upd_n (by omega)])
  obtain ⟨bt, t1, t2⟩ := turned_sim (hBo hC) (p10 hl hsz.1) hl4
  cases bt with
  | true =>
    refine ⟨true, σ, τ, ?_, ?_, hmono hC, fr8.rf, fr9.rf⟩
    · unfold cin; rw [t1, sbd_e, if_pos rfl]
    · unfold fX9_comesIn; rw [t2, sbd_e, if_pos rfl]
  | false =>
    -- the second half, from any pair of stores in relation
    have tail : ∀ (s50 s37 : Store), CR B nw nt nx t h s50 s37 cm S → (∃ l, l < 2 ^ nw ∧ s37 1 4 = nI l) → ∃ b σ' τ',
        (if s50 (B + (3 + w)) 3 ≤ s50 (B + (3 + w)) 5 then some (false, s50) else sbd2 (fX0_costsOf B (B + (3 + w)) s50) fun r54 s55 => slt (sup s55 (B + (13 + t)) 1 (s50 (B + (13 + t)) 1 + r54)) fun s56 => slt (sup s56 (B + (3 + w)) 4 (s56 (B + (3 + w)) 4 + 1)) fun s57 => slt (sup s57 (B + (3 + w)) 5 (s57 (B + (3 + w)) 5 + 1)) fun s58 => slt (sup s58 B 6 (s58 B 6 ||| ((1 : Int32) <<< (nI w &&& 31)))) fun s59 => some (true, s59)) = some (b, σ') ∧
        (sbd (fX9_wordIs (nI w) (5 : Int32) s37) fun r10 => (sbd (fX9_wordIs (nI w) (3 : Int32) s37) fun r11 => (if r10 < r11 then (six 1480 (((68 : Int32) + ((2 : Int32) * (nI t))) + (1 : Int32)) (sbd2 (fX9_costs (nI w) s37) fun r14 s15 => (six 1480 (((68 : Int32) + ((2 : Int32) * (nI t))) + (1 : Int32)) (slt (sup s15 1 (snx (((68 : Int32) + ((2 : Int32) * (nI t))) + (1 : Int32))) ((s37 1 (snx (((68 : Int32) + ((2 : Int32) * (nI t))) + (1 : Int32)))) + r14)) fun s17 => (six 1480 (((8 : Int32) + ((6 : Int32) * (nI w))) + (4 : Int32)) (six 1480 (((8 : Int32) + ((6 : Int32) * (nI w))) + (4 : Int32)) (slt (sup s17 1 (snx (((8 : Int32) + ((6 : Int32) * (nI w))) + (4 : Int32))) ((s17 1 (snx (((8 : Int32) + ((6 : Int32) * (nI w))) + (4 : Int32)))) + (1 : Int32))) fun s20 => (six 1480 (((8 : Int32) + ((6 : Int32) * (nI w))) + (5 : Int32)) (six 1480 (((8 : Int32) + ((6 : Int32) * (nI w))) + (5 : Int32)) (slt (sup s20 1 (snx (((8 : Int32) + ((6 : Int32) * (nI w))) + (5 : Int32))) ((s20 1 (snx (((8 : Int32) + ((6 : Int32) * (nI w))) + (5 : Int32)))) + (1 : Int32))) fun s23 => (six 1480 (4 : Int32) (six 1480 (4 : Int32) (slt (sup s23 1 (snx (4 : Int32)) ((s23 1 (snx (4 : Int32))) ||| ((1 : Int32) <<< ((nI w) &&& 31)))) fun s26 => (some (true, s26))))))))))))))) else (some (false, s37))))) = some (b, τ') ∧
        CR B nw nt nx t h σ' τ' cm (S + 1) ∧ fr8 B s50 σ' ∧ fr9 s37 τ' := by
      intro s50 s37 hC ⟨l, hl, hl4⟩
      have g3 := (hBo hC).1.wd hsz.1 hw (f := 3) (by omega)
      have g5 := (hBo hC).1.wd hsz.1 hw (f := 5) (by omega)
      have w5 : fX9_wordIs (nI w) (5 : Int32) s37 = some (s37 1 (8 + 6 * w + 5)) := wordIs_e (f := 5) (by omega) (by omega)
      have w3 : fX9_wordIs (nI w) (3 : Int32) s37 = some (s37 1 (8 + 6 * w + 3)) := wordIs_e (f := 3) (by omega) (by omega)
      rw [w5, w3, sbd_e, sbd_e, g3, g5]
      by_cases hq : s37 1 (8 + 6 * w + 5) < s37 1 (8 + 6 * w + 3)
      · rw [if_neg (Int32.not_le.mpr hq), if_pos hq]
        obtain ⟨r, σ2, τ2, c1, c2, c3, c4⟩ := costs_sim (hBo hC) hw
        have hC2 := hC.same c3 (c4 1 (by omega) (by omega))
        have e1 : ((68 : Int32) + 2 * nI t) + 1 = nI (69 + 2 * t) := by rw [l_68, l_2, pk_mul, nI_add, nI_1]; congr 1; omega
        have e2 : ((8 : Int32) + 6 * nI w) + 4 = nI (12 + 6 * w) := by rw [l_8, l_6, l_4, pk_mul, nI_add, nI_add]; congr 1; omega
        have e3 : ((8 : Int32) + 6 * nI w) + 5 = nI (13 + 6 * w) := by rw [l_8, l_6, l_5, pk_mul, nI_add, nI_add]; congr 1; omega
        rw [c1, c2, e1, e2, e3, l_4, sbd2_e, sbd2_e]
        simp only [slt_e]
        rw [six_e (by omega) (by omega), six_e (by omega) (by omega), six_e (by omega) (by omega), six_e (by omega) (by omega), six_e (by omega) (by omega), six_e (by omega) (by omega), six_e (by omega) (by omega), six_e (by omega) (by omega), snx_e (by omega), snx_e (by omega), snx_e (by omega), snx_e (by omega)]
        obtain ⟨x1, x2⟩ := cx_t t (by omega) 1 (by omega)
        obtain ⟨y1, y2⟩ := cx_w w (by omega) 5 (by omega)
        rw [show 68 + 2 * t + 1 = 69 + 2 * t by omega] at x1 x2
        rw [show 8 + 6 * w + 5 = 13 + 6 * w by omega] at y1 y2
        -- paid
        have p1 : s50 (B + (13 + t)) 1 = s37 1 (69 + 2 * t) := by
          have := hC.1.1.tr hsz.2.1 ht (f := 1) (by omega)
          rw [upd_n (by omega)] at this
          rw [this]
          congr 1; omega
        rw [p1]
        have hC3 := hC2.up (q0 := 69 + 2 * t) (o := 13 + t) (f := 1) (by omega) (by omega) (fun v z => by omega) (fun v z => by omega) ht x1 x2 (s37 1 (69 + 2 * t) + r)
        generalize hs3 : sup σ2 (B + (13 + t)) 1 (s37 1 (69 + 2 * t) + r) = σ3 at hC3 ⊢
        generalize ht3 : sup τ2 1 (69 + 2 * t) (s37 1 (69 + 2 * t) + r) = τ3 at hC3 ⊢
        have q4 : σ3 (B + (3 + w)) 4 = τ3 1 (12 + 6 * w) := by
          have := (hBo hC3).1.wd hsz.1 hw (f := 4) (by omega)
          rw [this]
          congr 1; omega
        rw [q4]
        have hC4 := hC3.stamp hw hsz.1
        generalize hs4 : sup σ3 (B + (3 + w)) 4 (τ3 1 (12 + 6 * w) + 1) = σ4 at hC4 ⊢
        generalize ht4 : sup τ3 1 (12 + 6 * w) (τ3 1 (12 + 6 * w) + 1) = τ4 at hC4 ⊢
        have q5 : σ4 (B + (3 + w)) 5 = τ4 1 (13 + 6 * w) := by
          have := (hBo hC4).1.wd hsz.1 hw (f := 5) (by omega)
          rw [this]
          congr 1; omega
        rw [q5]
        have hC5 := hC4.up (q0 := 13 + 6 * w) (o := 3 + w) (f := 5) (by omega) (by omega) (fun v z => by omega) (fun v z => by omega) ht y1 y2 (τ4 1 (13 + 6 * w) + 1)
        generalize hs5 : sup σ4 (B + (3 + w)) 5 (τ4 1 (13 + 6 * w) + 1) = σ5 at hC5 ⊢
        generalize ht5 : sup τ4 1 (13 + 6 * w) (τ4 1 (13 + 6 * w) + 1) = τ5 at hC5 ⊢
        have q6 : τ5 1 4 = nI l := by
          rw [← ht5, sup_k (by omega), ← ht4, sup_k (by omega), ← ht3, sup_k (by omega), c4 1 (by omega) (by omega), hl4]
        have q7 : σ5 B 6 = nI l := by rw [(hBo hC5).1.head.2.2.2.2.1, q6]
        rw [q6, q7, shl_n w (by omega), fa_or]
        have hC6 := hC5.learn (l := l ||| 2 ^ w) (or_lt hl hw)
        refine ⟨true, _, _, rfl, rfl, hC6, ?_, ?_⟩
        · have b2 : fr8 B s50 σ2 := fun j z _ => c3 j z
          have b3 : fr8 B s50 σ3 := by rw [← hs3]; exact b2.up (by omega)
          have b4 : fr8 B s50 σ4 := by rw [← hs4]; exact b3.up (by omega)
          have b5 : fr8 B s50 σ5 := by rw [← hs5]; exact b4.up (by omega)
          exact b5.up (o := 0) (by omega)
        · have b2 : fr9 s37 τ2 := ⟨fun j _ z u => c4 j z u, fun q _ => by rw [c4 1 (by omega) (by omega)]⟩
          have b3 : fr9 s37 τ3 := by rw [← ht3]; exact b2.up (by omega)
          have b4 : fr9 s37 τ4 := by rw [← ht4]; exact b3.up (by omega)
          have b5 : fr9 s37 τ5 := by rw [← ht5]; exact b4.up (by omega)
          exact b5.up (by omega)
      · rw [if_pos (Int32.not_lt.mp hq), if_neg hq]
        exact ⟨false, s50, s37, rfl, rfl, hmono hC, fr8.rf, fr9.rf⟩
    have k8 : σ (B + (3 + w)) 0 = nI kd := by
      have := (hBo hC).1.wd hsz.1 hw (f := 0) (by omega)
      rw [this, ← hkd]; congr 1
    have k9 : fX9_wordIs (nI w) (0 : Int32) τ = some (nI kd) := by
      have := wordIs_e (τ := τ) (w := w) (f := 0) (by omega) (by omega)
      rw [show (0 : Int32) = nI 0 from rfl, this, show 8 + 6 * w + 0 = 8 + 6 * w by omega, hkd]
    have i8 : fX7_isOf (B + (3 + w)) (2 : Int32) σ = some (isu kd 2) := isu8 (q := 2) hkd6 (by omega) k8
    have i9 : fX9_isUnder (nI kd) (2 : Int32) τ = some (isu kd 2) := isu9 (q := 2) hkd6 (by omega) τ
    by_cases hu : isu kd 2 = true
    · rw [hu] at i8 i9
      have hd := drawn9 (d := 100) (by decide) (τ := τ)
      have hz : CR B nw nt nx t h (sup σ B 10 (zn (τ 1 0))) (sup τ 1 0 (zn (τ 1 0))) cm S := hC.up (q0 := 0) (o := 0) (f := 10) (by omega) (by omega) (fun v z => by omega) (fun v z => by omega) ht rfl rfl (zn (τ 1 0))
      have ez : σ B 10 = τ 1 0 := (hBo hC).1.head.1
      have ec : ∀ x, sup σ B 10 x B 8 = sup τ 1 0 x 1 3 := fun x => by
        rw [sup_k (by omega), sup_k (by omega), (hBo hC).1.head.2.2.2.1]
      have fz8 : fr8 B σ (sup σ B 10 (zn (τ 1 0))) := fr8.rf.up (o := 0) (by omega)
      have fz9 : fr9 τ (sup τ 1 0 (zn (τ 1 0))) := fr9.rf.up (by omega)
      have e8 : fX0_slipsBy B (B + (3 + w)) σ = if (sushr (zn (τ 1 0)) 8 - sushr (zn (τ 1 0)) 8 / 100 * 100) < sup τ 1 0 (zn (τ 1 0)) 1 3 then some (false, sup σ B 10 (zn (τ 1 0))) else some (true, sup σ B 10 (zn (τ 1 0))) := by
        unfold fX0_slipsBy
        rw [i8, sbd_e, if_pos rfl, draw8, sbd2_e, ez, ec]
      by_cases hlt : (sushr (zn (τ 1 0)) 8 - sushr (zn (τ 1 0)) 8 / 100 * 100) < sup τ 1 0 (zn (τ 1 0)) 1 3
      · rw [if_pos hlt] at e8
        obtain ⟨b, σ', τ', a1, a2, a3, a4, a5⟩ := tail _ _ hz ⟨l, hl, by rw [sup_k (by omega), hl4]⟩
        refine ⟨b, σ', τ', ?_, ?_, a3, fz8.tr a4, fz9.tr a5⟩
        · unfold cin
          rw [t1, sbd_e, if_neg (by decide), e8, sbd2_e, if_neg (by decide)]
          exact a1
        · unfold fX9_comesIn
          rw [t2, sbd_e, if_neg (by decide), k9, sbd_e, i9, sbd_e, sjn_e, if_pos rfl, hd, sbd2_e, l_3, six_e (by omega) (by omega), snx_e (by omega), if_pos hlt]
          exact a2
      · rw [if_neg hlt] at e8
        refine ⟨true, _, _, ?_, ?_, hmono hz, fz8, fz9⟩
        · unfold cin
          rw [t1, sbd_e, if_neg (by decide), e8, sbd2_e, if_pos rfl]
        · unfold fX9_comesIn
          rw [t2, sbd_e, if_neg (by decide), k9, sbd_e, i9, sbd_e, sjn_e, if_pos rfl, hd, sbd2_e, l_3, six_e (by omega) (by omega), snx_e (by omega), if_neg hlt]
    · have hu : isu kd 2 = false := by cases hx : isu kd 2 <;> simp_all
      rw [hu] at i8 i9
      obtain ⟨b, σ', τ', a1, a2, a3, a4, a5⟩ := tail σ τ hC ⟨l, hl, hl4⟩
      refine ⟨b, σ', τ', ?_, ?_, a3, a4, a5⟩
      · unfold cin fX0_slipsBy
        rw [t1, sbd_e, if_neg (by decide), i8, sbd_e, if_neg (by decide), sbd2_e, if_neg (by decide)]
        exact a1
      · unfold fX9_comesIn
        rw [t2, sbd_e, if_neg (by decide), k9, sbd_e, i9, sbd_e, sjn_e, if_neg (by decide)]
        exact a2
