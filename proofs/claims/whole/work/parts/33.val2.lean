theorem l_0 : (0 : Int32) = nI 0 := rfl
theorem l_1 : (1 : Int32) = nI 1 := rfl
theorem l_2 : (2 : Int32) = nI 2 := rfl
theorem l_3 : (3 : Int32) = nI 3 := rfl
theorem l_4 : (4 : Int32) = nI 4 := rfl
theorem l_5 : (5 : Int32) = nI 5 := rfl
theorem l_6 : (6 : Int32) = nI 6 := rfl
theorem l_7 : (7 : Int32) = nI 7 := rfl
theorem l_8 : (8 : Int32) = nI 8 := rfl
theorem l_9 : (9 : Int32) = nI 9 := rfl
theorem l_10 : (10 : Int32) = nI 10 := rfl
theorem l_11 : (11 : Int32) = nI 11 := rfl
theorem l_12 : (12 : Int32) = nI 12 := rfl
theorem l_13 : (13 : Int32) = nI 13 := rfl
theorem l_14 : (14 : Int32) = nI 14 := rfl
theorem l_15 : (15 : Int32) = nI 15 := rfl
theorem l_16 : (16 : Int32) = nI 16 := rfl
theorem l_20 : (20 : Int32) = nI 20 := rfl
theorem l_24 : (24 : Int32) = nI 24 := rfl
theorem l_30 : (30 : Int32) = nI 30 := rfl
theorem l_31 : (31 : Int32) = nI 31 := rfl
theorem l_50 : (50 : Int32) = nI 50 := rfl
theorem l_60 : (60 : Int32) = nI 60 := rfl
theorem l_68 : (68 : Int32) = nI 68 := rfl
theorem l_72 : (72 : Int32) = nI 72 := rfl
theorem l_76 : (76 : Int32) = nI 76 := rfl
theorem l_79 : (79 : Int32) = nI 79 := rfl
theorem l_80 : (80 : Int32) = nI 80 := rfl
theorem l_82 : (82 : Int32) = nI 82 := rfl
theorem l_83 : (83 : Int32) = nI 83 := rfl
theorem l_96 : (96 : Int32) = nI 96 := rfl
theorem l_99 : (99 : Int32) = nI 99 := rfl
theorem l_100 : (100 : Int32) = nI 100 := rfl
theorem l_200 : (200 : Int32) = nI 200 := rfl
theorem l_255 : (255 : Int32) = nI 255 := rfl
theorem l_999 : (999 : Int32) = nI 999 := rfl
theorem l_1000 : (1000 : Int32) = nI 1000 := rfl
theorem l_1024 : (1024 : Int32) = nI 1024 := rfl
theorem sub1 {p : Nat} (h : 1 ≤ p) : nI p - 1 = nI (p - 1) := by
  obtain ⟨q, rfl⟩ : ∃ q, p = q + 1 := ⟨p - 1, by omega⟩
  rw [nI_pred]; rfl
theorem add_m1 {p : Nat} (h : 1 ≤ p) : nI p + (-1) = nI (p - 1) := by
  obtain ⟨q, rfl⟩ : ∃ q, p = q + 1 := ⟨p - 1, by omega⟩
  rw [pk_m1]; rfl
theorem val_loop {x ky len : Nat} {c g : Nat → Int32} {f1 f2 f3 : Int32} (hx : x < 14) (hlen : len ≤ 96) (hst : ∀ k, k < len → stR ky (c k) (g (83 + 100 * x + k))) (hwf : ∀ k, k < len → (c k = -4 → 1 ≤ dpt c k) ∧ (c k < -4 → 2 ≤ dpt c k)) (hg : g (82 + 100 * x) = nI len) (kc km : Int32 → Int32 → Store → Option (Int32 × Store)) :
    ∀ (m i : Nat) (σ τ : Store) (n n2 : Nat), i + m = len → m < n → m < n2 → σ 17 x = nI len → σ (3 + x) = c → τ 1 = g → τ 9 0 = f1 → τ 9 1 = f2 → (ky = 0 → τ 9 2 = f3) → (∀ k, k < dpt c i → σ 20 k = τ 10 k) →
    ∃ σ' τ', fX1_value_L6 (nI x) f1 f2 f3 kc n (nI (dpt c i) - 1) (nI i) σ = kc (nI (dpt c len) - 1) (nI len) σ' ∧ fX9_worked_L13 (nI (80 + 100 * x)) km n2 (nI (dpt c i)) (nI i) τ = km (nI (dpt c len)) (nI len) τ' ∧ (∀ k, k < dpt c len → σ' 20 k = τ' 10 k) ∧ (∀ j, j ≠ 20 → σ' j = σ j) ∧ (∀ j, j ≠ 10 → τ' j = τ j) := by
  intro m
  induction m with
  | zero =>
    intro i σ τ n n2 hi hn hn2 h17 hc h1 h90 h91 h92 hrel
    obtain rfl : i = len := by omega
    obtain ⟨n, rfl⟩ : ∃ k, n = k + 1 := ⟨n - 1, by omega⟩
    obtain ⟨n2, rfl⟩ : ∃ k, n2 = k + 1 := ⟨n2 - 1, by omega⟩
    refine ⟨σ, τ, ?_, ?_, hrel, fun _ _ => rfl, fun _ _ => rfl⟩
    · rw [fX1_value_L6, six_e hx (by omega), snx_e (by omega), h17, if_pos (Int32.le_refl _)]
    · rw [fX9_worked_L13, l_2, nI_add, six_e (by omega) (by omega), snx_e (by omega), h1, show 80 + 100 * x + 2 = 82 + 100 * x by omega, hg, if_pos (Int32.le_refl _)]
  | succ m ih =>
    intro i σ τ n n2 hi hn hn2 h17 hc h1 h90 h91 h92 hrel
    have hil : i < len := by omega
    obtain ⟨n, rfl⟩ : ∃ k, n = k + 1 := ⟨n - 1, by omega⟩
    obtain ⟨n2, rfl⟩ : ∃ k, n2 = k + 1 := ⟨n2 - 1, by omega⟩
    have hnle : ¬ nI len ≤ nI i := nI_ge hil (by omega)
    have hdl := dpt_le c i
    -- both heads
    have eC : ∀ p, fX1_value_L6 (nI x) f1 f2 f3 kc (n + 1) p (nI i) σ = _ := fun p => by
      rw [fX1_value_L6, six_e hx (by omega), snx_e (by omega), h17, if_neg hnle, six_e hx (by omega), six_e (by omega) (by omega), slt_e, stp_e (by omega), snx_e (by omega), hc]
    have eM : ∀ p, fX9_worked_L13 (nI (80 + 100 * x)) km (n2 + 1) p (nI i) τ = _ := fun p => by
      rw [fX9_worked_L13, l_2, l_3, nI_add, nI_add, nI_add, six_e (by omega) (by omega), snx_e (by omega), h1, show 80 + 100 * x + 2 = 82 + 100 * x by omega, hg, if_neg hnle, six_e (by omega) (by omega), slt_e, snx_e (by omega), show 80 + 100 * x + 3 + i = 83 + 100 * x + i by omega]
    rw [eC, eM]
    have hs := hst i hil
    obtain ⟨w1, w2⟩ := hwf i hil
    generalize hsv : c i = s at hs w1 w2 ⊢
    generalize hmv : g (83 + 100 * x + i) = mv at hs ⊢
    have hdpt : dpt c (i + 1) = if -3 ≤ c i then dpt c i + 1 else if c i = -4 then dpt c i else dpt c i - 1 := rfl
    rw [hsv] at hdpt
    -- pushing a value on both
    have push : ∀ v : Int32, ¬ s < (-3 : Int32) → ∃ σ' τ', fX1_value_L6 (nI x) f1 f2 f3 kc n (nI (dpt c i)) (nI i + 1) (sup σ 20 (dpt c i) v) = kc (nI (dpt c len) - 1) (nI len) σ' ∧ fX9_worked_L13 (nI (80 + 100 * x)) km n2 (nI (dpt c i) + 1) (nI i + 1) (sup τ 10 (dpt c i) v) = km (nI (dpt c len)) (nI len) τ' ∧ (∀ k, k < dpt c len → σ' 20 k = τ' 10 k) ∧ (∀ j, j ≠ 20 → σ' j = σ j) ∧ (∀ j, j ≠ 10 → τ' j = τ j) := by
      intro v hv
      rw [if_pos (Int32.not_lt.mp hv)] at hdpt
      obtain ⟨σ', τ', e1, e2, e3, e4, e5⟩ := ih (i + 1) (sup σ 20 (dpt c i) v) (sup τ 10 (dpt c i) v) n n2 (by omega) (by omega) (by omega) (by rw [sup_o (by omega), h17]) (by rw [sup_o (by omega), hc]) (by rw [sup_o (by omega), h1]) (by rw [sup_o (by omega), h90]) (by rw [sup_o (by omega), h91]) (fun z => by rw [sup_o (by omega), h92 z]) (fun k hk => by
        rw [hdpt] at hk
        rw [sup_r, sup_r, upd_e, upd_e]
        by_cases hkk : k = dpt c i
        · rw [if_pos hkk, if_pos hkk]
        · rw [if_neg hkk, if_neg hkk, hrel k (by omega)])
      rw [hdpt, np1] at e1
      rw [hdpt] at e2
      refine ⟨σ', τ', ?_, ?_, e3, fun j hj => by rw [e4 j hj, sup_o hj], fun j hj => by rw [e5 j hj, sup_o hj]⟩
      · rw [nI_1]; exact e1
      · rw [nI_1, nI_1]; exact e2
    rcases hs with ⟨v, hv, rfl, rfl⟩ | hs | ⟨rfl, rfl⟩ | hs
    · have h3 : ¬ nI v < (-3 : Int32) := nI_nlt3 hv
      rw [if_neg h3, if_neg (nI_n0 (by omega)), leaf_n hv, sbd_e, nm1, six_e (by omega) (by omega), six_e (by omega) (by omega), slt_e, slt_e, snx_e (by omega)]
      exact push _ h3
    · have hl : ¬ s < (-3 : Int32) ∧ mv < 0 ∧ ¬ mv < (-10 : Int32) ∧ ∃ k v, k < 3 ∧ mv - (-10) = nI k ∧ τ 9 k = v ∧ ∀ σ : Store, fX1_leaf s f1 f2 f3 σ = some v := by
        unfold nmL at hs
        by_cases hk : ky = 0
        · rw [if_pos hk] at hs
          simp only [List.mem_cons, Prod.mk.injEq, List.not_mem_nil, or_false] at hs
          rcases hs with ⟨rfl, rfl⟩ | ⟨rfl, rfl⟩ | ⟨rfl, rfl⟩
          · exact ⟨by decide, by decide, by decide, 0, f1, by omega, rfl, h90, fun _ => rfl⟩
          · exact ⟨by decide, by decide, by decide, 1, f2, by omega, rfl, h91, fun _ => rfl⟩
          · exact ⟨by decide, by decide, by decide, 2, f3, by omega, rfl, h92 hk, fun _ => rfl⟩
        · rw [if_neg hk] at hs
          simp only [List.mem_cons, Prod.mk.injEq, List.not_mem_nil, or_false] at hs
          rcases hs with ⟨rfl, rfl⟩ | ⟨rfl, rfl⟩
          · exact ⟨by decide, by decide, by decide, 0, f1, by omega, rfl, h90, fun _ => rfl⟩
          · exact ⟨by decide, by decide, by decide, 1, f2, by omega, rfl, h91, fun _ => rfl⟩
      obtain ⟨h3, hm0, hm10, k, v, hk, ek, e9, el⟩ := hl
      rw [if_neg h3, if_pos hm0, if_neg hm10, el, sbd_e, nm1, ek, six_e (by omega) (by omega), six_e hk (by omega), six_e (by omega) (by omega), slt_e, slt_e, snx_e (by omega), snx_e (by omega), e9]
      exact push _ h3
    · have hp := w1 rfl
      rw [if_neg (by decide), if_pos rfl] at hdpt
      rw [if_pos (by decide), sjn_e, if_neg (by decide), if_neg (by rw [sub1 hp]; exact nI_n0 (by omega)), if_pos (by decide), if_pos (by decide), if_neg (by decide), sub1 hp, six_e (by omega) (by omega), six_e (by omega) (by omega), sjn_e, sjn_e, snx_e (by omega), hrel (dpt c i - 1) (by omega)]
      have fin : ∀ v : Int32, ∃ σ' τ', six 96 (nI (dpt c i - 1)) (slt (sup σ 20 (dpt c i - 1) v) fun s83 => fX1_value_L6 (nI x) f1 f2 f3 kc n (nI (dpt c i - 1)) (nI i + 1) s83) = kc (nI (dpt c len) - 1) (nI len) σ' ∧ six 100 (nI (dpt c i - 1)) (slt (sup τ 10 (dpt c i - 1) v) fun s61 => fX9_worked_L13 (nI (80 + 100 * x)) km n2 (nI (dpt c i)) (nI i + 1) s61) = km (nI (dpt c len)) (nI len) τ' ∧ (∀ k, k < dpt c len → σ' 20 k = τ' 10 k) ∧ (∀ j, j ≠ 20 → σ' j = σ j) ∧ (∀ j, j ≠ 10 → τ' j = τ j) := by
        intro v
        obtain ⟨σ', τ', e1, e2, e3, e4, e5⟩ := ih (i + 1) (sup σ 20 (dpt c i - 1) v) (sup τ 10 (dpt c i - 1) v) n n2 (by omega) (by omega) (by omega) (by rw [sup_o (by omega), h17]) (by rw [sup_o (by omega), hc]) (by rw [sup_o (by omega), h1]) (by rw [sup_o (by omega), h90]) (by rw [sup_o (by omega), h91]) (fun z => by rw [sup_o (by omega), h92 z]) (fun k hk => by
          rw [hdpt] at hk
          rw [sup_r, sup_r, upd_e, upd_e]
          by_cases hkk : k = dpt c i - 1
          · rw [if_pos hkk, if_pos hkk]
          · rw [if_neg hkk, if_neg hkk, hrel k (by omega)])
        rw [hdpt, sub1 hp] at e1
        rw [hdpt] at e2
        refine ⟨σ', τ', ?_, ?_, e3, fun j hj => by rw [e4 j hj, sup_o hj], fun j hj => by rw [e5 j hj, sup_o hj]⟩
        · rw [six_e (by omega) (by omega), slt_e, nI_1]; exact e1
        · rw [six_e (by omega) (by omega), slt_e, nI_1]; exact e2
      by_cases hz : τ 10 (dpt c i - 1) = 0
      · rw [if_neg (fun z => z hz), if_neg (fun z => z hz)]
        exact fin _
      · rw [if_pos hz, if_pos hz]
        exact fin _
    · have ho : s < (-4 : Int32) ∧ mv < 0 ∧ mv < (-10 : Int32) ∧ ¬ mv = -29 := by
        unfold opL at hs
        simp only [List.mem_cons, Prod.mk.injEq, List.not_mem_nil, or_false] at hs
        rcases hs with ⟨rfl, rfl⟩ | ⟨rfl, rfl⟩ | ⟨rfl, rfl⟩ | ⟨rfl, rfl⟩ | ⟨rfl, rfl⟩ | ⟨rfl, rfl⟩ | ⟨rfl, rfl⟩ | ⟨rfl, rfl⟩ | ⟨rfl, rfl⟩ <;> decide
      obtain ⟨o1, o2, o3, o4⟩ := ho
      have hp := w2 o1
      have n3 : s < (-3 : Int32) := Int32.lt_trans o1 (by decide)
      have n4 : ¬ s = -4 := fun z => by rw [z] at o1; exact absurd o1 (by decide)
      rw [if_neg (Int32.not_le.mpr n3), if_neg n4] at hdpt
      have hj := joined_done hs (a := σ 20 (dpt c i - 2)) (b := σ 20 (dpt c i - 1)) σ τ
      obtain ⟨r, j1, j2⟩ := hj
      have a1 : nI (dpt c i) - 1 + -1 = nI (dpt c i - 2) := by rw [sub1 (by omega), add_m1 (by omega)]; congr 1
      have a2 : nI (dpt c i) + -1 - 1 = nI (dpt c i - 2) := by rw [add_m1 (by omega), sub1 (by omega)]; congr 1
      have a3 : nI (dpt c i - 2) + 1 = nI (dpt c i - 1) := by rw [nI_1]; congr 1; omega
      rw [if_pos n3, sjn_e, if_pos n4, if_pos o2, if_pos o3, if_pos o4, if_neg (by rw [sub1 (by omega), l_1]; exact nI_nlt (by omega) (by omega)), a1, a2, a3, add_m1 (by omega), six_e (by omega) (by omega), six_e (by omega) (by omega), six_e (by omega) (by omega), six_e (by omega) (by omega), snx_e (by omega), snx_e (by omega), ← hrel (dpt c i - 2) (by omega), ← hrel (dpt c i - 1) (by omega), j2, sbd_e]
      rw [j1, sbd_e, six_e (by omega) (by omega), six_e (by omega) (by omega), slt_e, slt_e]
      obtain ⟨σ', τ', e1, e2, e3, e4, e5⟩ := ih (i + 1) (sup σ 20 (dpt c i - 2) r) (sup τ 10 (dpt c i - 2) r) n n2 (by omega) (by omega) (by omega) (by rw [sup_o (by omega), h17]) (by rw [sup_o (by omega), hc]) (by rw [sup_o (by omega), h1]) (by rw [sup_o (by omega), h90]) (by rw [sup_o (by omega), h91]) (fun z => by rw [sup_o (by omega), h92 z]) (fun k hk => by
        rw [hdpt] at hk
        rw [sup_r, sup_r, upd_e, upd_e]
        by_cases hkk : k = dpt c i - 2
        · rw [if_pos hkk, if_pos hkk]
        · rw [if_neg hkk, if_neg hkk, hrel k (by omega)])
      rw [hdpt, sub1 (by omega)] at e1
      rw [hdpt] at e2
      refine ⟨σ', τ', ?_, ?_, e3, fun j hj => by rw [e4 j hj, sup_o hj], fun j hj => by rw [e5 j hj, sup_o hj]⟩
      · rw [nI_1]; exact e1
      · rw [nI_1]; exact e2
