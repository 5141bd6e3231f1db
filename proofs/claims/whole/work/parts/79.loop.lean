theorem and63 (x : Int32) : ∃ n : Nat, n < 64 ∧ x &&& 63 = nI n := by
  refine ⟨x.toUInt32.toNat % 64, Nat.mod_lt _ (by decide), ?_⟩
  apply Int32.toBitVec_inj.mp
  apply BitVec.eq_of_toNat_eq
  show (x.toBitVec &&& 63#32).toNat = (BitVec.ofNat 32 _).toNat
  rw [BitVec.toNat_and, BitVec.toNat_ofNat, BitVec.toNat_ofNat]
  rw [show 63 % 2 ^ 32 = 2 ^ 6 - 1 from rfl, Nat.and_two_pow_sub_one_eq_mod]
  show x.toBitVec.toNat % 64 = (x.toBitVec.toNat % 64) % 2 ^ 32
  omega
theorem lim6 {L i : Nat} (hL : L ≤ 384) (hi : i ≤ 390) : (nI L - 6 < nI i) ↔ L < i + 6 := by
  have h6 : (6 : Int32).toInt = 6 := by decide
  have e : (nI L - 6).toInt = (L : Int) - 6 := by
    rw [Int32.toInt_sub, nI_toInt (by omega), h6]
    apply Int.bmod_eq_of_le <;> omega
  rw [Int32.lt_iff_toInt_lt, e, nI_toInt (by omega)]
  omega
theorem l_loop {GC GM : Geo} {K : KT} {l0 : Launch} {b bS L : Nat} {xs : Nat → Int32} (hK : lOk GC GM K l0 b bS L xs) (hL : L ≤ 384) (hend : ∀ (i : Nat) (σ τ : Store), lV GC GM K b σ τ 1552 (lL GC GM bS i) []) : ∀ (n i S : Nat) (σ τ : Store), L ≤ i + n → i ≤ 390 → S ≤ 3600 * i → Rel S σ τ → lV GC GM K b σ τ 18 (lL GC GM bS i) [] := by
  intro n
  induction n with
  | zero =>
    intro i S σ τ hn hi0 hS R
    have hE := hend i σ τ
    have hK0 := hK
    revert hE
    obtain ⟨p, l, e, R, s, m, args, below, meth, c, n, Q⟩ := K
    obtain ⟨hx, hb, hml, hown, hts, hKK, hSt, hN, hI, hwA, hX, hR, hn0, hl0⟩ := hK
    subst hn0
    intro hE H locs ls hP hP2 hS0 hls
    have hbA : ¬ pA b bS := fun z => by
      have z' : b ≤ bS := z
      have := hX.2.1
      have := hX.2.2
      omega
    refine lv_iload_n hx hb dL_law_18 rfl (lv_at hls 0 rfl) ?_
    refine lv_aload_n hx hb dL_law_19 rfl (lv_at hls 3 rfl) ?_
    refine va_slen hx hb hX.1 hX.2.1 hbA hS0 dL_law_20 ?_
    refine lv_bipush (v := 6) hx hb dL_law_21 (by decide) ?_
    refine lv_isub hx hb dL_law_23 ?_
    refine lv_icmp_gt (tgt := 1552) hx hb dL_law_24 (by decide) (fun _ => hE H locs ls hP hP2 hS0 hls) (fun z => ?_)
    exact absurd ((lim6 hL hi0).mpr (by omega)) z
  | succ n ih =>
    intro i S σ τ hn hi0 hS R
    by_cases hi : L < i + 6
    · have hE := hend i σ τ
      revert hE
      obtain ⟨p, l, e, R, s, m, args, below, meth, c, n, Q⟩ := K
      obtain ⟨hx, hb, hml, hown, hts, hKK, hSt, hN, hI, hwA, hX, hR, hn0, hl0⟩ := hK
      subst hn0
      intro hE H locs ls hP hP2 hS0 hls
      have hbA : ¬ pA b bS := fun z => by
        have z' : b ≤ bS := z
        have := hX.2.1
        have := hX.2.2
        omega
      refine lv_iload_n hx hb dL_law_18 rfl (lv_at hls 0 rfl) ?_
      refine lv_aload_n hx hb dL_law_19 rfl (lv_at hls 3 rfl) ?_
      refine va_slen hx hb hX.1 hX.2.1 hbA hS0 dL_law_20 ?_
      refine lv_bipush (v := 6) hx hb dL_law_21 (by decide) ?_
      refine lv_isub hx hb dL_law_23 ?_
      refine lv_icmp_gt (tgt := 1552) hx hb dL_law_24 (by decide) (fun _ => hE H locs ls hP hP2 hS0 hls) (fun z => ?_)
      exact absurd ((lim6 hL hi0).mpr hi) z
    · have hi : i + 5 < L := by omega
      have hE : ∀ σ1 τ1, Rel (S + 3600) σ1 τ1 → lV GC GM K b σ1 τ1 1546 (lL GC GM bS i) [] := by
        intro σ1 τ1 R1
        have hE := ih (i + 6) (S + 3600) σ1 τ1 (by omega) (by omega) (by omega) R1
        revert hE
        obtain ⟨p, l, e, R, s, m, args, below, meth, c, n, Q⟩ := K
        obtain ⟨hx, hb, hml, hown, hts, hKK, hSt, hN, hI, hwA, hX, hR, hn0, hl0⟩ := hK
        subst hn0
        intro hE H locs ls hP hP2 hS0 hls
        refine lv_iinc (v := nI (i + 6)) (lv' := lL GC GM bS (i + 6)) hx hb dL_law_1546 hls (k := 0) rfl (by rw [← nI_add]; rfl) (by decide) rfl (fun ls hls => ?_)
        refine lv_goto (tgt := 18) hx hb dL_law_1549 (by decide) ?_
        exact hE H locs ls hP hP2 hS0 hls
      have hS1 : S ≤ 2000000 := by omega
      have hcase : ∀ n : Nat, n < 44 → ∃ t : Nat, lV GC GM K b σ τ t (lL GC GM bS i) [] ∧ ∃ off : Int, (#[191, 244, 277, 310, 343, 386, 399, 432, 465, 498, 521, 544, 577, 600, 613, 636, 669, 712, 745, 788, 811, 854, 867, 910, 933, 946, 989, 1012, 1025, 1058, 1081, 1124, 1167, 1190, 1213, 1276, 1319, 1352, 1385, 1418, 1441, 1464, 1477, 1490] : Array Int)[n]? = some off ∧ (33 : Int) + off = (t : Int) := by
        intro n hn
        match n, hn with
        | 0, _ => exact ⟨224, k_0 hK hL hi hS1 R hE, 191, rfl, by decide⟩
        | 1, _ => exact ⟨277, k_1 hK hL hi hS1 R hE, 244, rfl, by decide⟩
        | 2, _ => exact ⟨310, k_2 hK hL hi hS1 R hE, 277, rfl, by decide⟩
        | 3, _ => exact ⟨343, k_3 hK hL hi hS1 R hE, 310, rfl, by decide⟩
        | 4, _ => exact ⟨376, k_4 hK hL hi hS1 R hE, 343, rfl, by decide⟩
        | 5, _ => exact ⟨419, k_5 hK hL hi hS1 R hE, 386, rfl, by decide⟩
        | 6, _ => exact ⟨432, k_6 hK hL hi hS1 R hE, 399, rfl, by decide⟩
        | 7, _ => exact ⟨465, k_7 hK hL hi hS1 R hE, 432, rfl, by decide⟩
        | 8, _ => exact ⟨498, k_8 hK hL hi hS1 R hE, 465, rfl, by decide⟩
        | 9, _ => exact ⟨531, k_9 hK hL hi hS1 R hE, 498, rfl, by decide⟩
        | 10, _ => exact ⟨554, k_10 hK hL hi hS1 R hE, 521, rfl, by decide⟩
        | 11, _ => exact ⟨577, k_11 hK hL hi hS1 R hE, 544, rfl, by decide⟩
        | 12, _ => exact ⟨610, k_12 hK hL hi hS1 R hE, 577, rfl, by decide⟩
        | 13, _ => exact ⟨633, k_13 hK hL hi hS1 R hE, 600, rfl, by decide⟩
        | 14, _ => exact ⟨646, k_14 hK hL hi hS1 R hE, 613, rfl, by decide⟩
        | 15, _ => exact ⟨669, k_15 hK hL hi hS1 R hE, 636, rfl, by decide⟩
        | 16, _ => exact ⟨702, k_16 hK hL hi hS1 R hE, 669, rfl, by decide⟩
        | 17, _ => exact ⟨745, k_17 hK hL hi hS1 R hE, 712, rfl, by decide⟩
        | 18, _ => exact ⟨778, k_18 hK hL hi hS1 R hE, 745, rfl, by decide⟩
        | 19, _ => exact ⟨821, k_19 hK hL hi hS1 R hE, 788, rfl, by decide⟩
        | 20, _ => exact ⟨844, k_20 hK hL hi hS1 R hE, 811, rfl, by decide⟩
        | 21, _ => exact ⟨887, k_21 hK hL hi hS1 R hE, 854, rfl, by decide⟩
        | 22, _ => exact ⟨900, k_22 hK hL hi hS1 R hE, 867, rfl, by decide⟩
        | 23, _ => exact ⟨943, k_23 hK hL hi hS1 R hE, 910, rfl, by decide⟩
        | 24, _ => exact ⟨966, k_24 hK hL hi hS1 R hE, 933, rfl, by decide⟩
        | 25, _ => exact ⟨979, k_25 hK hL hi hS1 R hE, 946, rfl, by decide⟩
        | 26, _ => exact ⟨1022, k_26 hK hL hi hS1 R hE, 989, rfl, by decide⟩
        | 27, _ => exact ⟨1045, k_27 hK hL hi hS1 R hE, 1012, rfl, by decide⟩
        | 28, _ => exact ⟨1058, k_28 hK hL hi hS1 R hE, 1025, rfl, by decide⟩
        | 29, _ => exact ⟨1091, k_29 hK hL hi hS1 R hE, 1058, rfl, by decide⟩
        | 30, _ => exact ⟨1114, k_30 hK hL hi hS1 R hE, 1081, rfl, by decide⟩
        | 31, _ => exact ⟨1157, k_31 hK hL hi hS1 R hE, 1124, rfl, by decide⟩
        | 32, _ => exact ⟨1200, k_32 hK hL hi hS1 R hE, 1167, rfl, by decide⟩
        | 33, _ => exact ⟨1223, k_33 hK hL hi hS1 R hE, 1190, rfl, by decide⟩
        | 34, _ => exact ⟨1246, k_34 hK hL hi hS1 R hE, 1213, rfl, by decide⟩
        | 35, _ => exact ⟨1309, k_35 hK hL hi hS1 R hE, 1276, rfl, by decide⟩
        | 36, _ => exact ⟨1352, k_36 hK hL hi hS1 R hE, 1319, rfl, by decide⟩
        | 37, _ => exact ⟨1385, k_37 hK hL hi hS1 R hE, 1352, rfl, by decide⟩
        | 38, _ => exact ⟨1418, k_38 hK hL hi hS1 R hE, 1385, rfl, by decide⟩
        | 39, _ => exact ⟨1451, k_39 hK hL hi hS1 R hE, 1418, rfl, by decide⟩
        | 40, _ => exact ⟨1474, k_40 hK hL hi hS1 R hE, 1441, rfl, by decide⟩
        | 41, _ => exact ⟨1497, k_41 hK hL hi hS1 R hE, 1464, rfl, by decide⟩
        | 42, _ => exact ⟨1510, k_42 hK hL hi hS1 R hE, 1477, rfl, by decide⟩
        | 43, _ => exact ⟨1523, k_43 hK hL hi hS1 R hE, 1490, rfl, by decide⟩
        | n + 44, hn => exact absurd hn (by omega)
      have hdef := hE σ τ (R.mono (by omega))
      revert hcase hdef
      obtain ⟨p, l, e, R, s, m, args, below, meth, c, n, Q⟩ := K
      obtain ⟨hx, hb, hml, hown, hts, hKK, hSt, hN, hI, hwA, hX, hR, hn0, hl0⟩ := hK
      subst hn0
      intro hcase hdef H locs ls hP hP2 hS0 hls
      have hbA : ¬ pA b bS := fun z => by
        have z' : b ≤ bS := z
        have := hX.2.1
        have := hX.2.2
        omega
      refine lv_iload_n hx hb dL_law_18 rfl (lv_at hls 0 rfl) ?_
      refine lv_aload_n hx hb dL_law_19 rfl (lv_at hls 3 rfl) ?_
      refine va_slen hx hb hX.1 hX.2.1 hbA hS0 dL_law_20 ?_
      refine lv_bipush (v := 6) hx hb dL_law_21 (by decide) ?_
      refine lv_isub hx hb dL_law_23 ?_
      refine lv_icmp_gt (tgt := 1552) hx hb dL_law_24 (by decide) (fun z => absurd ((lim6 hL hi0).mp z) (by omega)) (fun _ => ?_)
      refine lv_aload_n hx hb dL_law_27 rfl (lv_at hls 3 rfl) ?_
      refine lv_iload_n hx hb dL_law_28 rfl (lv_at hls 0 rfl) ?_
      refine va_sld hx hb hX.1 hX.2.1 hbA hS0 (vp_in_nI (by omega) (by omega)) dL_law_29 ?_
      refine lv_bipush (v := 63) hx hb dL_law_30 (by decide) ?_
      refine lv_iand hx hb dL_law_32 ?_
      obtain ⟨v, hv, he⟩ := and63 (xs (nI i).toNatClampNeg)
      rw [he]
      by_cases h44 : v < 44
      · obtain ⟨t, hk, off, ho, ht⟩ := hcase v h44
        refine lv_tableIn (tgt := t) (off := off) hx hb dL_law_33 (by rw [nI_toInt (by omega)]; omega) (by rw [nI_toInt (by omega)]; omega) (by rw [nI_toInt (by omega)]; rw [show ((v : Int) - 0).toNat = v by omega]; exact ho) ht ?_
        exact hk H locs ls hP hP2 hS0 hls
      · refine lv_tableOut (tgt := 1546) hx hb dL_law_33 (by rw [nI_toInt (by omega)]; right; omega) (by decide) ?_
        exact hdef H locs ls hP hP2 hS0 hls
