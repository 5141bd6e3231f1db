def fX0_addWord  (a0 : Nat) (a1 : Int32) (a2 : Int32) (a3 : Int32) (a4 : Int32) (σ : Store) : Option (Int32 × Store) := (six 10 (σ a0 3) (slt (sup σ (wrd a0 (σ a0 3)) 0 a1) fun s2 => (slt (sup s2 (wrd a0 (σ a0 3)) 1 a2) fun s3 => (slt (sup s3 (wrd a0 (σ a0 3)) 2 a3) fun s4 => (slt (sup s4 (wrd a0 (σ a0 3)) 3 a4) fun s5 => (slt (sup s5 (wrd a0 (σ a0 3)) 4 (0 : Int32)) fun s6 => (slt (sup s6 (wrd a0 (σ a0 3)) 5 (0 : Int32)) fun s7 => (slt (s7 a0 3) fun x8 => (slt (sup s7 a0 3 (x8 + (1 : Int32))) fun s9 => (some (x8, s9)))))))))))
theorem c_X0_addWord {l0 : Launch} {G : Geo} (a0 : Nat) (h0 : kdC a0 = 0) (a1 : Int32) (a2 : Int32) (a3 : Int32) (a4 : Int32) (σ : Store) (a : (Int32 × Store)) (hf : fX0_addWord  a0 a1 a2 a3 a4 σ = some a) : sCon l0 wCls G yX0_addWord cX0_addWord 6 (some .int) (rmL 1 60) [.ref (gad G a0), .int a1, .int a2, .int a3, .int a4] σ (some (.int a.1)) a.2 := by
  refine sCon.of (by decide) ⟨rfl, rfl⟩ (Nat.le_of_ble_eq_true rfl) RX0 rfl _ hf (fun K hK => ?_)
  show sV wCls G K a σ 0 [(0, .ref (gad G a0)), (1, .int a1), (2, .int a2), (3, .int a3), (4, .int a4)] [] _
  unfold fX0_addWord
  refine r_aload_n (q := 1) hK dX0_addWord_0 rfl rfl 0 rfl ?_
  refine gf_0_1 (q := 4) h0 hK dX0_addWord_1 rfl tw_117 ?_
  refine r_aload_n (q := 5) hK dX0_addWord_4 rfl rfl 0 rfl ?_
  refine gf_0_3 (q := 8) h0 hK dX0_addWord_5 rfl tw_122 ?_
  refine r_aald (q := 9) hK dX0_addWord_8 rfl (qC13 (kd_bw h0)) (ty := .object RX7) rfl rfl (r := gad G (wrd a0 (σ a0 3))) rfl (fun h1 => ?_)
  refine r_astore (q := 11) (loc' := [(5, .ref (gad G (wrd a0 (σ a0 3)))), (0, .ref (gad G a0)), (1, .int a1), (2, .int a2), (3, .int a3), (4, .int a4)]) hK dX0_addWord_9 rfl (by decide) rfl ?_
  refine r_aload (q := 13) hK dX0_addWord_11 rfl 0 rfl ?_
  refine r_iload_n (q := 14) hK dX0_addWord_13 rfl rfl 2 rfl ?_
  refine pf_7_0 (q := 17) (kd_wrd h0 h1) hK dX0_addWord_14 rfl tw_70 ?_
  refine sV.ltS (fun s2 => ?_)
  refine r_aload (q := 19) hK dX0_addWord_17 rfl 0 rfl ?_
  refine r_iload_n (q := 20) hK dX0_addWord_19 rfl rfl 3 rfl ?_
  refine pf_7_1 (q := 23) (kd_wrd h0 h1) hK dX0_addWord_20 rfl tw_73 ?_
  refine sV.ltS (fun s3 => ?_)
  refine r_aload (q := 25) hK dX0_addWord_23 rfl 0 rfl ?_
  refine r_iload_n (q := 26) hK dX0_addWord_25 rfl rfl 4 rfl ?_
  refine pf_7_2 (q := 29) (kd_wrd h0 h1) hK dX0_addWord_26 rfl tw_76 ?_
  refine sV.ltS (fun s4 => ?_)
  refine r_aload (q := 31) hK dX0_addWord_29 rfl 0 rfl ?_
  refine r_iload (q := 33) hK dX0_addWord_31 rfl 5 rfl ?_
  refine pf_7_3 (q := 36) (kd_wrd h0 h1) hK dX0_addWord_33 rfl tw_79 ?_
  refine sV.ltS (fun s5 => ?_)
  refine r_aload (q := 38) hK dX0_addWord_36 rfl 0 rfl ?_
  refine r_iconst (q := 39) (v := 0) hK dX0_addWord_38 rfl rfl ?_
  refine pf_7_4 (q := 42) (kd_wrd h0 h1) hK dX0_addWord_39 rfl tw_82 ?_
  refine sV.ltS (fun s6 => ?_)
  refine r_aload (q := 44) hK dX0_addWord_42 rfl 0 rfl ?_
  refine r_iconst (q := 45) (v := 0) hK dX0_addWord_44 rfl rfl ?_
  refine pf_7_5 (q := 48) (kd_wrd h0 h1) hK dX0_addWord_45 rfl tw_85 ?_
  refine sV.ltS (fun s7 => ?_)
  refine r_aload_n (q := 49) hK dX0_addWord_48 rfl rfl 1 rfl ?_
  refine r_dup (q := 50) hK dX0_addWord_49 rfl rfl ?_
  refine gf_0_3 (q := 53) h0 hK dX0_addWord_50 rfl tw_122 ?_
  refine sV.ltI (fun x8 => ?_)
  refine r_dup_x1 (q := 54) hK dX0_addWord_53 rfl rfl rfl ?_
  refine r_iconst (q := 55) (v := 1) hK dX0_addWord_54 rfl rfl ?_
  refine r_iadd (q := 56) hK dX0_addWord_55 rfl ?_
  refine pf_0_3 (q := 59) h0 hK dX0_addWord_56 rfl tw_122 ?_
  refine sV.ltS (fun s9 => ?_)
  exact e_iS hK dX0_addWord_59
def fX8_within  (a0 : Int32) (a1 : Int32) (a2 : Int32) (σ : Store) : Option Bool := (if a0 < a1 then (some false) else (if a2 < a0 then (some false) else (some true)))
theorem c_X8_within {l0 : Launch} {G : Geo} (a0 : Int32) (a1 : Int32) (a2 : Int32) (σ : Store) (a : Bool) (hf : fX8_within  a0 a1 a2 σ = some a) : sCon l0 wCls G yX8_within cX8_within 3 (some .boolean) (rmL 1 60) [.int a0, .int a1, .int a2] σ (some (.int (b2i a))) σ := by
  refine sCon.of (by decide) ⟨rfl, rfl⟩ (Nat.le_of_ble_eq_true rfl) RX8 rfl _ hf (fun K hK => ?_)
  show sV wCls G K a σ 0 [(0, .int a0), (1, .int a1), (2, .int a2)] [] _
  unfold fX8_within
  refine r_iload_n (q := 1) hK dX8_within_0 rfl rfl 0 rfl ?_
  refine r_iload_n (q := 2) hK dX8_within_1 rfl rfl 1 rfl ?_
  refine r_icmp_lt (t := 14) (q := 5) hK dX8_within_2 rfl rfl (fun c1 => ?_) (fun c1 => ?_)
  · refine r_iconst (q := 15) (v := 0) hK dX8_within_14 rfl rfl ?_
    exact e_b (b := false) hK dX8_within_15
  · refine r_iload_n (q := 6) hK dX8_within_5 rfl rfl 0 rfl ?_
    refine r_iload_n (q := 7) hK dX8_within_6 rfl rfl 2 rfl ?_
    refine r_icmp_gt (t := 14) (q := 10) hK dX8_within_7 rfl rfl (fun c2 => ?_) (fun c2 => ?_)
    · refine r_iconst (q := 15) (v := 0) hK dX8_within_14 rfl rfl ?_
      exact e_b (b := false) hK dX8_within_15
    · refine r_iconst (q := 11) (v := 1) hK dX8_within_10 rfl rfl ?_
      refine r_goto (q := 15) hK dX8_within_11 rfl ?_
      exact e_b (b := true) hK dX8_within_15
def fX8_isKind  (a0 : Int32) (σ : Store) : Option Bool := (sbd (fX8_within a0 (0 : Int32) (5 : Int32) σ) fun r1 => (some r1))
theorem c_X8_isKind {l0 : Launch} {G : Geo} (a0 : Int32) (σ : Store) (a : Bool) (hf : fX8_isKind  a0 σ = some a) : sCon l0 wCls G yX8_isKind cX8_isKind 1 (some .boolean) (rmL 2 82) [.int a0] σ (some (.int (b2i a))) σ := by
  refine sCon.of (by decide) ⟨rfl, rfl⟩ (Nat.le_of_ble_eq_true rfl) RX8 rfl _ hf (fun K hK => ?_)
  show sV wCls G K a σ 0 [(0, .int a0)] [] _
  unfold fX8_isKind
  refine r_iload_n (q := 1) hK dX8_isKind_0 rfl rfl 0 rfl ?_
  refine r_iconst (q := 2) (v := 0) hK dX8_isKind_1 rfl rfl ?_
  refine r_iconst (q := 3) (v := 5) hK dX8_isKind_2 rfl rfl ?_
  refine callS_b (q := 6) (As := [.int a0, .int (0 : Int32), .int (5 : Int32)]) (rest := []) (f := (fX8_within a0 (0 : Int32) (5 : Int32) σ)) hK dX8_isKind_3 rfl (fun b hb => c_X8_within a0 (0 : Int32) (5 : Int32) σ b hb) ms_X8_within rfl rfl (Nat.le_of_ble_eq_true rfl) tw_314 mw_X8_within (rmOk (Nat.le_of_ble_eq_true rfl) (Nat.le_of_ble_eq_true rfl)) (fun r1 => ?_)
  exact e_b (b := r1) hK dX8_isKind_6
def fX8_word  (a1 : Int32) (a2 : Int32) (a3 : Int32) (a4 : Int32) (σ : Store) : Option (Int32 × Store) := (sbd (fX8_isKind a1 σ) fun r1 => (sjn (fun k44 : Bool → Option (Int32 × Store) => (if r1 = true then (sbd (fX8_within a2 (1 : Int32) (255 : Int32) σ) fun r14 => (if r14 = true then (sbd (fX8_within a3 (0 : Int32) (99 : Int32) σ) fun r16 => (if r16 = true then (sbd (fX8_within a4 (0 : Int32) (99 : Int32) σ) fun r18 => (if r18 = true then (k44 true) else (k44 false))) else (k44 false))) else (k44 false))) else (k44 false))) (fun (z0_44 : Bool) => (if z0_44 = true then (if (σ 57 3) < (10 : Int32) then (sbd2 (fX0_addWord 57 a1 a2 a3 a4 σ) fun r11 s12 => (some (r11, s12))) else (some ((-1000000003 : Int32), σ))) else (some ((-1000000001 : Int32), σ))))))
theorem c_X8_word {l0 : Launch} {G : Geo} (a1 : Int32) (a2 : Int32) (a3 : Int32) (a4 : Int32) (σ : Store) (a : (Int32 × Store)) (hf : fX8_word  a1 a2 a3 a4 σ = some a) : sCon l0 wCls G yX8_word cX8_word 6 (some .int) (rmL 3 102) [.ref (gad G 0), .int a1, .int a2, .int a3, .int a4] σ (some (.int a.1)) a.2 := by
  refine sCon.of (by decide) ⟨rfl, rfl⟩ (Nat.le_of_ble_eq_true rfl) RX8 rfl _ hf (fun K hK => ?_)
  show sV wCls G K a σ 0 [(0, .ref (gad G 0)), (1, .int a1), (2, .int a2), (3, .int a3), (4, .int a4)] [] _
  unfold fX8_word
  refine r_iload_n (q := 1) hK dX8_word_0 rfl rfl 1 rfl ?_
  refine callS_b (q := 4) (As := [.int a1]) (rest := []) (f := (fX8_isKind a1 σ)) hK dX8_word_1 rfl (fun b hb => c_X8_isKind a1 σ b hb) ms_X8_isKind rfl rfl (Nat.le_of_ble_eq_true rfl) tw_311 mw_X8_isKind (rmOk (Nat.le_of_ble_eq_true rfl) (Nat.le_of_ble_eq_true rfl)) (fun r1 => ?_)
  refine sV.jn (fun k : Bool → Option (Int32 × Store) => ∀ (z0_44 : Bool), sV wCls G K a σ 44 [(0, .ref (gad G 0)), (1, .int a1), (2, .int a2), (3, .int a3), (4, .int a4)] [.int (b2i z0_44)] (k z0_44)) (fun z0_44 => ?_) (fun k44 hk44 => ?_)
  · refine r_istore (q := 46) (loc' := [(5, .int (b2i z0_44)), (0, .ref (gad G 0)), (1, .int a1), (2, .int a2), (3, .int a3), (4, .int a4)]) hK dX8_word_44 rfl (by decide) rfl ?_
    refine r_iload (q := 48) hK dX8_word_46 rfl 0 rfl ?_
    refine r_ifb_ne (t := 54) (q := 51) hK dX8_word_48 rfl rfl (fun c9 => ?_) (fun c9 => ?_)
    · refine r_aload_n (q := 55) hK dX8_word_54 rfl rfl 1 rfl ?_
      refine gf_8_1 (q := 58) (rfl : kdC 0 = 8) hK dX8_word_55 rfl tw_268 ?_
      refine gf_0_3 (q := 61) (rfl : kdC 57 = 0) hK dX8_word_58 rfl tw_123 ?_
      refine r_bipush (q := 63) (v := 10) hK dX8_word_61 rfl rfl ?_
      refine r_icmp_lt (t := 69) (q := 66) hK dX8_word_63 rfl rfl (fun c10 => ?_) (fun c10 => ?_)
      · refine r_aload_n (q := 70) hK dX8_word_69 rfl rfl 1 rfl ?_
        refine gf_8_1 (q := 73) (rfl : kdC 0 = 8) hK dX8_word_70 rfl tw_268 ?_
        refine r_iload_n (q := 74) hK dX8_word_73 rfl rfl 2 rfl ?_
        refine r_iload_n (q := 75) hK dX8_word_74 rfl rfl 3 rfl ?_
        refine r_iload_n (q := 76) hK dX8_word_75 rfl rfl 4 rfl ?_
        refine r_iload (q := 78) hK dX8_word_76 rfl 5 rfl ?_
        refine callV_iS (q := 81) (j := 57) (As := [.int a1, .int a2, .int a3, .int a4]) (rest := []) (f := (fX0_addWord 57 a1 a2 a3 a4 σ)) hK dX8_word_78 rfl (fun b hb => c_X0_addWord 57 (rfl : kdC 57 = 0) a1 a2 a3 a4 σ b hb) ⟨0, _, _, _, kd_lt (rfl : kdC 57 = 0) (by decide), rfl, cC0 (rfl : kdC 57 = 0), rfl⟩ mv_X0_addWord rfl rfl (Nat.le_of_ble_eq_true rfl) tw_319 mw_X0_addWord (rmOk (Nat.le_of_ble_eq_true rfl) (Nat.le_of_ble_eq_true rfl)) (fun r11 s12 => ?_)
        exact e_iS hK dX8_word_81
      · refine r_ldc (q := 68) hK dX8_word_66 rfl tw_318 ?_
        exact e_iS hK dX8_word_68
    · refine r_ldc (q := 53) hK dX8_word_51 rfl tw_317 ?_
      exact e_iS hK dX8_word_53
  · refine r_ifb_eq (t := 43) (q := 7) hK dX8_word_4 rfl rfl (fun c13 => ?_) (fun c13 => ?_)
    · refine r_iload_n (q := 8) hK dX8_word_7 rfl rfl 2 rfl ?_
      refine r_iconst (q := 9) (v := 1) hK dX8_word_8 rfl rfl ?_
      refine r_sipush (q := 12) (v := 255) hK dX8_word_9 rfl rfl ?_
      refine callS_b (q := 15) (As := [.int a2, .int (1 : Int32), .int (255 : Int32)]) (rest := []) (f := (fX8_within a2 (1 : Int32) (255 : Int32) σ)) hK dX8_word_12 rfl (fun b hb => c_X8_within a2 (1 : Int32) (255 : Int32) σ b hb) ms_X8_within rfl rfl (Nat.le_of_ble_eq_true rfl) tw_314 mw_X8_within (rmOk (Nat.le_of_ble_eq_true rfl) (Nat.le_of_ble_eq_true rfl)) (fun r14 => ?_)
      refine r_ifb_eq (t := 43) (q := 18) hK dX8_word_15 rfl rfl (fun c15 => ?_) (fun c15 => ?_)
      · refine r_iload_n (q := 19) hK dX8_word_18 rfl rfl 3 rfl ?_
        refine r_iconst (q := 20) (v := 0) hK dX8_word_19 rfl rfl ?_
        refine r_bipush (q := 22) (v := 99) hK dX8_word_20 rfl rfl ?_
        refine callS_b (q := 25) (As := [.int a3, .int (0 : Int32), .int (99 : Int32)]) (rest := []) (f := (fX8_within a3 (0 : Int32) (99 : Int32) σ)) hK dX8_word_22 rfl (fun b hb => c_X8_within a3 (0 : Int32) (99 : Int32) σ b hb) ms_X8_within rfl rfl (Nat.le_of_ble_eq_true rfl) tw_314 mw_X8_within (rmOk (Nat.le_of_ble_eq_true rfl) (Nat.le_of_ble_eq_true rfl)) (fun r16 => ?_)
        refine r_ifb_eq (t := 43) (q := 28) hK dX8_word_25 rfl rfl (fun c17 => ?_) (fun c17 => ?_)
        · refine r_iload (q := 30) hK dX8_word_28 rfl 4 rfl ?_
          refine r_iconst (q := 31) (v := 0) hK dX8_word_30 rfl rfl ?_
          refine r_bipush (q := 33) (v := 99) hK dX8_word_31 rfl rfl ?_
          refine callS_b (q := 36) (As := [.int a4, .int (0 : Int32), .int (99 : Int32)]) (rest := []) (f := (fX8_within a4 (0 : Int32) (99 : Int32) σ)) hK dX8_word_33 rfl (fun b hb => c_X8_within a4 (0 : Int32) (99 : Int32) σ b hb) ms_X8_within rfl rfl (Nat.le_of_ble_eq_true rfl) tw_314 mw_X8_within (rmOk (Nat.le_of_ble_eq_true rfl) (Nat.le_of_ble_eq_true rfl)) (fun r18 => ?_)
          refine r_ifb_eq (t := 43) (q := 39) hK dX8_word_36 rfl rfl (fun c19 => ?_) (fun c19 => ?_)
          · refine r_iconst (q := 40) (v := 1) hK dX8_word_39 rfl rfl ?_
            refine r_goto (q := 44) hK dX8_word_40 rfl ?_
            exact sV.sub [0, 1, 2, 3, 4] (by rfl) (hk44 true)
          · refine r_iconst (q := 44) (v := 0) hK dX8_word_43 rfl rfl ?_
            exact sV.sub [0, 1, 2, 3, 4] (by rfl) (hk44 false)
        · refine r_iconst (q := 44) (v := 0) hK dX8_word_43 rfl rfl ?_
          exact sV.sub [0, 1, 2, 3, 4] (by rfl) (hk44 false)
      · refine r_iconst (q := 44) (v := 0) hK dX8_word_43 rfl rfl ?_
        exact sV.sub [0, 1, 2, 3, 4] (by rfl) (hk44 false)
    · refine r_iconst (q := 44) (v := 0) hK dX8_word_43 rfl rfl ?_
      exact sV.sub [0, 1, 2, 3, 4] (by rfl) (hk44 false)
def fX0_countingText_L7  (v1 : Int32) (σ : Store) : Nat → Int32 → Option Int32
  | 0, _ => none
  | n + 1, i2 => (if i2 < 0 then (some (-1000000005 : Int32)) else (six 14 i2 (if ¬ (σ 18 (snx i2)) = v1 then (fX0_countingText_L7 v1 σ n (i2 + (-1 : Int32))) else (some i2))))
theorem vX0_countingText_L7 {G : Geo} {K : KT} {l0 : Launch} (σ : Store) {a : Int32} (o0 : Nat) (ho0 : kdC o0 = 0) (v1 : Int32) (hK : sOk wCls G K l0 RX0 cX0_countingText (rmL 1 60) 3 (some .int) (some (.int a)) σ) : ∀ (n : Nat) (i2 : Int32), sV wCls G K a σ 7 [(0, .ref (gad G o0)), (1, .int v1), (2, .int i2)] [] (fX0_countingText_L7 v1 σ n i2) := by
  intro n
  induction n with
  | zero =>
    intro i2
    exact sV.no
  | succ n ih =>
    intro i2
    rw [fX0_countingText_L7]
    refine r_iload_n (q := 8) hK dX0_countingText_7 rfl rfl 2 rfl ?_
    refine r_if_lt (t := 32) (q := 11) hK dX0_countingText_8 rfl rfl (fun c8 => ?_) (fun c8 => ?_)
    · refine r_ldc (q := 34) hK dX0_countingText_32 rfl tw_340 ?_
      exact e_i hK dX0_countingText_34
    · refine r_aload_n (q := 12) hK dX0_countingText_11 rfl rfl 0 rfl ?_
      refine gf_0_0 (q := 15) ho0 hK dX0_countingText_12 rfl tw_116 ?_
      refine gf_1_2 (q := 18) (rfl : kdC 1 = 1) hK dX0_countingText_15 rfl tw_37 ?_
      refine r_iload_n (q := 19) hK dX0_countingText_18 rfl rfl 2 rfl ?_
      refine r_iald (q := 20) hK dX0_countingText_19 rfl (aC21 (j := 18) rfl) (fun h9 => ?_)
      refine r_iload_n (q := 21) hK dX0_countingText_20 rfl rfl 1 rfl ?_
      refine r_icmp_ne (t := 26) (q := 24) hK dX0_countingText_21 rfl rfl (fun c10 => ?_) (fun c10 => ?_)
      · refine r_iinc (q := 29) (v := (i2 + (-1 : Int32))) (loc' := [(2, .int (i2 + (-1 : Int32))), (0, .ref (gad G o0)), (1, .int v1)]) hK dX0_countingText_26 rfl 2 rfl rfl (by decide) rfl ?_
        refine r_goto (q := 7) hK dX0_countingText_29 rfl ?_
        exact sV.sub [1, 2, 0] (by rfl) (ih (i2 + (-1 : Int32)))
      · refine r_iload_n (q := 25) hK dX0_countingText_24 rfl rfl 2 rfl ?_
        exact e_i hK dX0_countingText_25
def fX0_countingText  (a0 : Nat) (a1 : Int32) (σ : Store) : Option Int32 := (slt ((σ a0 5) - (1 : Int32)) fun x1 => (fX0_countingText_L7 a1 σ FU x1))
theorem c_X0_countingText {l0 : Launch} {G : Geo} (a0 : Nat) (h0 : kdC a0 = 0) (a1 : Int32) (σ : Store) (a : Int32) (hf : fX0_countingText  a0 a1 σ = some a) : sCon l0 wCls G yX0_countingText cX0_countingText 3 (some .int) (rmL 1 60) [.ref (gad G a0), .int a1] σ (some (.int a)) σ := by
  refine sCon.of (by decide) ⟨rfl, rfl⟩ (Nat.le_of_ble_eq_true rfl) RX0 rfl _ hf (fun K hK => ?_)
  show sV wCls G K a σ 0 [(0, .ref (gad G a0)), (1, .int a1)] [] _
  unfold fX0_countingText
  refine r_aload_n (q := 1) hK dX0_countingText_0 rfl rfl 0 rfl ?_
  refine gf_0_5 (q := 4) h0 hK dX0_countingText_1 rfl tw_127 ?_
  refine r_iconst (q := 5) (v := 1) hK dX0_countingText_4 rfl rfl ?_
  refine r_isub (q := 6) hK dX0_countingText_5 rfl ?_
  refine sV.ltI (fun x1 => ?_)
  refine r_istore_n (q := 7) (loc' := [(2, .int x1), (0, .ref (gad G a0)), (1, .int a1)]) hK dX0_countingText_6 rfl rfl (by decide) rfl ?_
  exact sV.sub [1, 2, 0] (by rfl) (vX0_countingText_L7 σ a0 h0 a1 hK FU x1)
def fX1_joined  (a0 : Int32) (a1 : Int32) (a2 : Int32) (σ : Store) : Option Int32 := (if a0 = (38 : Int32) then (if a1 = 0 then (some (0 : Int32)) else (if a2 = 0 then (some (0 : Int32)) else (some (1 : Int32)))) else (if a0 = (42 : Int32) then (some (a1 * a2)) else (if a0 = (43 : Int32) then (some (a1 + a2)) else (if a0 = (45 : Int32) then (some (a1 - a2)) else (if a0 = (60 : Int32) then (if a2 ≤ a1 then (some (0 : Int32)) else (some (1 : Int32))) else (if a0 = (61 : Int32) then (if ¬ a1 = a2 then (some (0 : Int32)) else (some (1 : Int32))) else (if a0 = (62 : Int32) then (if a1 ≤ a2 then (some (0 : Int32)) else (some (1 : Int32))) else (if a0 = (124 : Int32) then (if ¬ a1 = 0 then (some (1 : Int32)) else (if a2 = 0 then (some (0 : Int32)) else (some (1 : Int32)))) else (if ¬ a2 = 0 then (sdz a2 (some (a1 / a2))) else (some (0 : Int32)))))))))))
theorem c_X1_joined {l0 : Launch} {G : Geo} (a0 : Int32) (a1 : Int32) (a2 : Int32) (σ : Store) (a : Int32) (hf : fX1_joined  a0 a1 a2 σ = some a) : sCon l0 wCls G yX1_joined cX1_joined 3 (some .int) (rmL 1 60) [.int a0, .int a1, .int a2] σ (some (.int a)) σ := by
  refine sCon.of (by decide) ⟨rfl, rfl⟩ (Nat.le_of_ble_eq_true rfl) RX1 rfl _ hf (fun K hK => ?_)
  show sV wCls G K a σ 0 [(0, .int a0), (1, .int a1), (2, .int a2)] [] _
  unfold fX1_joined
  refine r_iload_n (q := 1) hK dX1_joined_0 rfl rfl 0 rfl ?_
  refine sV.ite (fun c1 => ?_) (fun c1 => ?_)
  · refine r_lsI (t := 90) (38 : Int32) hK dX1_joined_1 c1 rfl rfl rfl ?_
    refine r_iload_n (q := 91) hK dX1_joined_90 rfl rfl 1 rfl ?_
    refine r_if_eq (t := 102) (q := 94) hK dX1_joined_91 rfl rfl (fun c2 => ?_) (fun c2 => ?_)
    · refine r_iconst (q := 103) (v := 0) hK dX1_joined_102 rfl rfl ?_
      exact e_i hK dX1_joined_103
    · refine r_iload_n (q := 95) hK dX1_joined_94 rfl rfl 2 rfl ?_
      refine r_if_eq (t := 102) (q := 98) hK dX1_joined_95 rfl rfl (fun c3 => ?_) (fun c3 => ?_)
      · refine r_iconst (q := 103) (v := 0) hK dX1_joined_102 rfl rfl ?_
        exact e_i hK dX1_joined_103
      · refine r_iconst (q := 99) (v := 1) hK dX1_joined_98 rfl rfl ?_
        refine r_goto (q := 103) hK dX1_joined_99 rfl ?_
        exact e_i hK dX1_joined_103
  · refine sV.ite (fun c4 => ?_) (fun c4 => ?_)
    · refine r_lsI (t := 145) (42 : Int32) hK dX1_joined_1 c4 rfl rfl rfl ?_
      refine r_iload_n (q := 146) hK dX1_joined_145 rfl rfl 1 rfl ?_
      refine r_iload_n (q := 147) hK dX1_joined_146 rfl rfl 2 rfl ?_
      refine r_imul (q := 148) hK dX1_joined_147 rfl ?_
      exact e_i hK dX1_joined_148
    · refine sV.ite (fun c5 => ?_) (fun c5 => ?_)
      · refine r_lsI (t := 137) (43 : Int32) hK dX1_joined_1 c5 rfl rfl rfl ?_
        refine r_iload_n (q := 138) hK dX1_joined_137 rfl rfl 1 rfl ?_
        refine r_iload_n (q := 139) hK dX1_joined_138 rfl rfl 2 rfl ?_
        refine r_iadd (q := 140) hK dX1_joined_139 rfl ?_
        exact e_i hK dX1_joined_140
      · refine sV.ite (fun c6 => ?_) (fun c6 => ?_)
        · refine r_lsI (t := 141) (45 : Int32) hK dX1_joined_1 c6 rfl rfl rfl ?_
          refine r_iload_n (q := 142) hK dX1_joined_141 rfl rfl 1 rfl ?_
          refine r_iload_n (q := 143) hK dX1_joined_142 rfl rfl 2 rfl ?_
          refine r_isub (q := 144) hK dX1_joined_143 rfl ?_
          exact e_i hK dX1_joined_144
        · refine sV.ite (fun c7 => ?_) (fun c7 => ?_)
          · refine r_lsI (t := 104) (60 : Int32) hK dX1_joined_1 c7 rfl rfl rfl ?_
            refine r_iload_n (q := 105) hK dX1_joined_104 rfl rfl 1 rfl ?_
            refine r_iload_n (q := 106) hK dX1_joined_105 rfl rfl 2 rfl ?_
            refine r_icmp_ge (t := 113) (q := 109) hK dX1_joined_106 rfl rfl (fun c8 => ?_) (fun c8 => ?_)
            · refine r_iconst (q := 114) (v := 0) hK dX1_joined_113 rfl rfl ?_
              exact e_i hK dX1_joined_114
            · refine r_iconst (q := 110) (v := 1) hK dX1_joined_109 rfl rfl ?_
              refine r_goto (q := 114) hK dX1_joined_110 rfl ?_
              exact e_i hK dX1_joined_114
          · refine sV.ite (fun c9 => ?_) (fun c9 => ?_)
            · refine r_lsI (t := 115) (61 : Int32) hK dX1_joined_1 c9 rfl rfl rfl ?_
              refine r_iload_n (q := 116) hK dX1_joined_115 rfl rfl 1 rfl ?_
              refine r_iload_n (q := 117) hK dX1_joined_116 rfl rfl 2 rfl ?_
              refine r_icmp_ne (t := 124) (q := 120) hK dX1_joined_117 rfl rfl (fun c10 => ?_) (fun c10 => ?_)
              · refine r_iconst (q := 125) (v := 0) hK dX1_joined_124 rfl rfl ?_
                exact e_i hK dX1_joined_125
              · refine r_iconst (q := 121) (v := 1) hK dX1_joined_120 rfl rfl ?_
                refine r_goto (q := 125) hK dX1_joined_121 rfl ?_
                exact e_i hK dX1_joined_125
            · refine sV.ite (fun c11 => ?_) (fun c11 => ?_)
              · refine r_lsI (t := 126) (62 : Int32) hK dX1_joined_1 c11 rfl rfl rfl ?_
                refine r_iload_n (q := 127) hK dX1_joined_126 rfl rfl 1 rfl ?_
                refine r_iload_n (q := 128) hK dX1_joined_127 rfl rfl 2 rfl ?_
                refine r_icmp_le (t := 135) (q := 131) hK dX1_joined_128 rfl rfl (fun c12 => ?_) (fun c12 => ?_)
                · refine r_iconst (q := 136) (v := 0) hK dX1_joined_135 rfl rfl ?_
                  exact e_i hK dX1_joined_136
                · refine r_iconst (q := 132) (v := 1) hK dX1_joined_131 rfl rfl ?_
                  refine r_goto (q := 136) hK dX1_joined_132 rfl ?_
                  exact e_i hK dX1_joined_136
              · refine sV.ite (fun c13 => ?_) (fun c13 => ?_)
                · refine r_lsI (t := 76) (124 : Int32) hK dX1_joined_1 c13 rfl rfl rfl ?_
                  refine r_iload_n (q := 77) hK dX1_joined_76 rfl rfl 1 rfl ?_
                  refine r_if_ne (t := 84) (q := 80) hK dX1_joined_77 rfl rfl (fun c14 => ?_) (fun c14 => ?_)
                  · refine r_iconst (q := 85) (v := 1) hK dX1_joined_84 rfl rfl ?_
                    refine r_goto (q := 89) hK dX1_joined_85 rfl ?_
                    exact e_i hK dX1_joined_89
                  · refine r_iload_n (q := 81) hK dX1_joined_80 rfl rfl 2 rfl ?_
                    refine r_if_eq (t := 88) (q := 84) hK dX1_joined_81 rfl rfl (fun c15 => ?_) (fun c15 => ?_)
                    · refine r_iconst (q := 89) (v := 0) hK dX1_joined_88 rfl rfl ?_
                      exact e_i hK dX1_joined_89
                    · refine r_iconst (q := 85) (v := 1) hK dX1_joined_84 rfl rfl ?_
                      refine r_goto (q := 89) hK dX1_joined_85 rfl ?_
                      exact e_i hK dX1_joined_89
                · have ec1 : ¬ (a0).toInt = 38 := ne_ti c1
                  have ec4 : ¬ (a0).toInt = 42 := ne_ti c4
                  have ec5 : ¬ (a0).toInt = 43 := ne_ti c5
                  have ec6 : ¬ (a0).toInt = 45 := ne_ti c6
                  have ec7 : ¬ (a0).toInt = 60 := ne_ti c7
                  have ec9 : ¬ (a0).toInt = 61 := ne_ti c9
                  have ec11 : ¬ (a0).toInt = 62 := ne_ti c11
                  have ec13 : ¬ (a0).toInt = 124 := ne_ti c13
                  refine r_lsO (t := 149) hK dX1_joined_1 rfl [38, 42, 43, 45, 60, 61, 62, 124] rfl (List.forall_mem_cons.mpr ⟨ec1, (List.forall_mem_cons.mpr ⟨ec4, (List.forall_mem_cons.mpr ⟨ec5, (List.forall_mem_cons.mpr ⟨ec6, (List.forall_mem_cons.mpr ⟨ec7, (List.forall_mem_cons.mpr ⟨ec9, (List.forall_mem_cons.mpr ⟨ec11, (List.forall_mem_cons.mpr ⟨ec13, (List.forall_mem_nil _)⟩)⟩)⟩)⟩)⟩)⟩)⟩)⟩) rfl ?_
                  refine r_iload_n (q := 150) hK dX1_joined_149 rfl rfl 2 rfl ?_
                  refine r_if_ne (t := 157) (q := 153) hK dX1_joined_150 rfl rfl (fun c16 => ?_) (fun c16 => ?_)
                  · refine r_iload_n (q := 158) hK dX1_joined_157 rfl rfl 1 rfl ?_
                    refine r_iload_n (q := 159) hK dX1_joined_158 rfl rfl 2 rfl ?_
                    refine r_idiv (q := 160) hK dX1_joined_159 rfl ?_
                    exact e_i hK dX1_joined_160
                  · refine r_iconst (q := 154) (v := 0) hK dX1_joined_153 rfl rfl ?_
                    refine r_goto (q := 160) hK dX1_joined_154 rfl ?_
                    exact e_i hK dX1_joined_160
def fX1_leaf  (a0 : Int32) (a1 : Int32) (a2 : Int32) (a3 : Int32) (σ : Store) : Option Int32 := (if a0 = (-3 : Int32) then (some a3) else (if a0 = (-2 : Int32) then (some a2) else (if a0 = (-1 : Int32) then (some a1) else (some a0))))
theorem c_X1_leaf {l0 : Launch} {G : Geo} (a0 : Int32) (a1 : Int32) (a2 : Int32) (a3 : Int32) (σ : Store) (a : Int32) (hf : fX1_leaf  a0 a1 a2 a3 σ = some a) : sCon l0 wCls G yX1_leaf cX1_leaf 4 (some .int) (rmL 1 60) [.int a0, .int a1, .int a2, .int a3] σ (some (.int a)) σ := by
  refine sCon.of (by decide) ⟨rfl, rfl⟩ (Nat.le_of_ble_eq_true rfl) RX1 rfl _ hf (fun K hK => ?_)
  show sV wCls G K a σ 0 [(0, .int a0), (1, .int a1), (2, .int a2), (3, .int a3)] [] _
  unfold fX1_leaf
  refine r_iload_n (q := 1) hK dX1_leaf_0 rfl rfl 0 rfl ?_
  refine sV.ite (fun c1 => ?_) (fun c1 => ?_)
  · refine r_tsI (t := 32) (-3 : Int32) hK dX1_leaf_1 c1 (by decide) (by decide) rfl rfl ?_
    refine r_iload_n (q := 33) hK dX1_leaf_32 rfl rfl 3 rfl ?_
    exact e_i hK dX1_leaf_33
  · refine sV.ite (fun c2 => ?_) (fun c2 => ?_)
    · refine r_tsI (t := 30) (-2 : Int32) hK dX1_leaf_1 c2 (by decide) (by decide) rfl rfl ?_
      refine r_iload_n (q := 31) hK dX1_leaf_30 rfl rfl 2 rfl ?_
      exact e_i hK dX1_leaf_31
    · refine sV.ite (fun c3 => ?_) (fun c3 => ?_)
      · refine r_tsI (t := 28) (-1 : Int32) hK dX1_leaf_1 c3 (by decide) (by decide) rfl rfl ?_
        refine r_iload_n (q := 29) hK dX1_leaf_28 rfl rfl 1 rfl ?_
        exact e_i hK dX1_leaf_29
      · have ec1 : ¬ (a0).toInt = -3 := ne_ti c1
        have ec2 : ¬ (a0).toInt = -2 := ne_ti c2
        have ec3 : ¬ (a0).toInt = -1 := ne_ti c3
        refine r_tsO (t := 34) hK dX1_leaf_1 (by omega) rfl ?_
        refine r_iload_n (q := 35) hK dX1_leaf_34 rfl rfl 0 rfl ?_
        exact e_i hK dX1_leaf_35
def fX1_value_L6  (v1 : Int32) (v2 : Int32) (v3 : Int32) (v4 : Int32) (k : Int32 → Int32 → Store → Option (Int32 × Store)) : Nat → Int32 → Int32 → Store → Option (Int32 × Store)
  | 0, _, _, _ => none
  | n + 1, i5, i6, τ => (six 14 v1 (if (τ 17 (snx v1)) ≤ i6 then (k i5 i6 τ) else (six 14 v1 (six 96 i6 (slt (τ (stp v1) (snx i6)) fun x63 => (if x63 < (-3 : Int32) then (sjn (fun k94 : Unit → Option (Int32 × Store) => (if ¬ x63 = (-4 : Int32) then (k94 ()) else (if i5 < 0 then (k94 ()) else (six 96 i5 (sjn (fun k90 : Bool → Option (Int32 × Store) => (if ¬ (τ 20 (snx i5)) = 0 then (k90 false) else (k90 true))) (fun (z0_90 : Bool) => (six 96 i5 (slt (sup τ 20 (snx i5) (b2i z0_90)) fun s83 => (fX1_value_L6 v1 v2 v3 v4 k n i5 (i6 + (1 : Int32)) s83))))))))) (fun (_u : Unit) => (if i5 < (1 : Int32) then (fX1_value_L6 v1 v2 v3 v4 k n i5 (i6 + (1 : Int32)) τ) else (six 96 (i5 + (-1 : Int32)) (six 96 ((i5 + (-1 : Int32)) + (1 : Int32)) (sbd (fX1_joined (-x63) (τ 20 (snx (i5 + (-1 : Int32)))) (τ 20 (snx ((i5 + (-1 : Int32)) + (1 : Int32)))) τ) fun r75 => (six 96 (i5 + (-1 : Int32)) (slt (sup τ 20 (snx (i5 + (-1 : Int32))) r75) fun s77 => (fX1_value_L6 v1 v2 v3 v4 k n (i5 + (-1 : Int32)) (i6 + (1 : Int32)) s77))))))))) else (sbd (fX1_leaf x63 v2 v3 v4 τ) fun r85 => (six 96 (i5 + (1 : Int32)) (slt (sup τ 20 (snx (i5 + (1 : Int32))) r85) fun s87 => (fX1_value_L6 v1 v2 v3 v4 k n (i5 + (1 : Int32)) (i6 + (1 : Int32)) s87))))))))))
theorem vX1_value_L6 {G : Geo} {K : KT} {l0 : Launch} (σ : Store) {a : (Int32 × Store)} (v1 : Int32) (v2 : Int32) (v3 : Int32) (v4 : Int32) (hK : sOk wCls G K l0 RX1 cX1_value (rmL 2 83) 8 (some .int) (some (.int a.1)) a.2) (k : Int32 → Int32 → Store → Option (Int32 × Store)) (hk : ∀ (e5 : Int32) (e6 : Int32) (ε : Store), sV wCls G K a ε 138 [(0, .ref (gad G 1)), (1, .int v1), (2, .int v2), (3, .int v3), (4, .int v4), (5, .int e5), (6, .int e6)] [] (k e5 e6 ε)) : ∀ (n : Nat) (i5 : Int32) (i6 : Int32) (τ : Store), sV wCls G K a τ 6 [(0, .ref (gad G 1)), (1, .int v1), (2, .int v2), (3, .int v3), (4, .int v4), (5, .int i5), (6, .int i6)] [] (fX1_value_L6 v1 v2 v3 v4 k n i5 i6 τ) := by
  intro n
  induction n with
  | zero =>
    intro i5 i6 τ
    exact sV.no
  | succ n ih =>
    intro i5 i6 τ
    rw [fX1_value_L6]
    refine r_iload (q := 8) hK dX1_value_6 rfl 6 rfl ?_
    refine r_aload_n (q := 9) hK dX1_value_8 rfl rfl 0 rfl ?_
    refine gf_1_1 (q := 12) (rfl : kdC 1 = 1) hK dX1_value_9 rfl tw_35 ?_
    refine r_iload_n (q := 13) hK dX1_value_12 rfl rfl 1 rfl ?_
    refine r_iald (q := 14) hK dX1_value_13 rfl (aC21 (j := 17) rfl) (fun h59 => ?_)
    refine r_icmp_ge (t := 138) (q := 17) hK dX1_value_14 rfl rfl (fun c60 => ?_) (fun c60 => ?_)
    · exact sV.sub [0, 1, 2, 3, 4, 5, 6] (by rfl) (hk i5 i6 τ)
    · refine r_aload_n (q := 18) hK dX1_value_17 rfl rfl 0 rfl ?_
      refine gf_1_0 (q := 21) (rfl : kdC 1 = 1) hK dX1_value_18 rfl tw_34 ?_
      refine r_iload_n (q := 22) hK dX1_value_21 rfl rfl 1 rfl ?_
      refine r_aald (q := 23) hK dX1_value_22 rfl (qC14 (rfl : kdC 2 = 14)) (ty := .array .int) rfl rfl (r := gad G (stp v1)) rfl (fun h61 => ?_)
      refine r_iload (q := 25) hK dX1_value_23 rfl 6 rfl ?_
      refine r_iald (q := 26) hK dX1_value_25 rfl (aC20 (kd_stp h61)) (fun h62 => ?_)
      refine sV.ltI (fun x63 => ?_)
      refine r_istore (q := 28) (loc' := [(7, .int x63), (0, .ref (gad G 1)), (1, .int v1), (2, .int v2), (3, .int v3), (4, .int v4), (5, .int i5), (6, .int i6)]) hK dX1_value_26 rfl (by decide) rfl ?_
      refine r_iload (q := 30) hK dX1_value_28 rfl 0 rfl ?_
      refine r_bipush (q := 32) (v := -3) hK dX1_value_30 rfl rfl ?_
      refine r_icmp_lt (t := 57) (q := 35) hK dX1_value_32 rfl rfl (fun c64 => ?_) (fun c64 => ?_)
      · refine r_iload (q := 59) hK dX1_value_57 rfl 0 rfl ?_
        refine r_bipush (q := 61) (v := -4) hK dX1_value_59 rfl rfl ?_
        refine sV.jn (fun k : Unit → Option (Int32 × Store) => ∀ (_u : Unit), sV wCls G K a τ 94 [(0, .ref (gad G 1)), (1, .int v1), (2, .int v2), (3, .int v3), (4, .int v4), (5, .int i5), (6, .int i6), (7, .int x63)] [] (k ())) (fun _ => ?_) (fun k94 hk94 => ?_)
        · refine r_iload (q := 96) hK dX1_value_94 rfl 5 rfl ?_
          refine r_iconst (q := 97) (v := 1) hK dX1_value_96 rfl rfl ?_
          refine r_icmp_lt (t := 132) (q := 100) hK dX1_value_97 rfl rfl (fun c72 => ?_) (fun c72 => ?_)
          · refine r_iinc (q := 135) (v := (i6 + (1 : Int32))) (loc' := [(6, .int (i6 + (1 : Int32))), (0, .ref (gad G 1)), (1, .int v1), (2, .int v2), (3, .int v3), (4, .int v4), (5, .int i5), (7, .int x63)]) hK dX1_value_132 rfl 6 rfl rfl (by decide) rfl ?_
            refine r_goto (q := 6) hK dX1_value_135 rfl ?_
            exact sV.sub [1, 2, 3, 4, 5, 6, 0] (by rfl) (ih i5 (i6 + (1 : Int32)) τ)
          · refine r_iinc (q := 103) (v := (i5 + (-1 : Int32))) (loc' := [(5, .int (i5 + (-1 : Int32))), (0, .ref (gad G 1)), (1, .int v1), (2, .int v2), (3, .int v3), (4, .int v4), (6, .int i6), (7, .int x63)]) hK dX1_value_100 rfl 5 rfl rfl (by decide) rfl ?_
            refine r_aload_n (q := 104) hK dX1_value_103 rfl rfl 1 rfl ?_
            refine gf_1_4 (q := 107) (rfl : kdC 1 = 1) hK dX1_value_104 rfl tw_41 ?_
            refine r_iload (q := 109) hK dX1_value_107 rfl 0 rfl ?_
            refine r_iload (q := 111) hK dX1_value_109 rfl 7 rfl ?_
            refine r_ineg (q := 112) hK dX1_value_111 rfl ?_
            refine r_aload_n (q := 113) hK dX1_value_112 rfl rfl 1 rfl ?_
            refine gf_1_4 (q := 116) (rfl : kdC 1 = 1) hK dX1_value_113 rfl tw_41 ?_
            refine r_iload (q := 118) hK dX1_value_116 rfl 0 rfl ?_
            refine r_iald (q := 119) hK dX1_value_118 rfl (aC20 (j := 20) rfl) (fun h73 => ?_)
            refine r_aload_n (q := 120) hK dX1_value_119 rfl rfl 1 rfl ?_
            refine gf_1_4 (q := 123) (rfl : kdC 1 = 1) hK dX1_value_120 rfl tw_41 ?_
            refine r_iload (q := 125) hK dX1_value_123 rfl 0 rfl ?_
            refine r_iconst (q := 126) (v := 1) hK dX1_value_125 rfl rfl ?_
            refine r_iadd (q := 127) hK dX1_value_126 rfl ?_
            refine r_iald (q := 128) hK dX1_value_127 rfl (aC20 (j := 20) rfl) (fun h74 => ?_)
            refine callS_i (q := 131) (As := [.int (-x63), .int (τ 20 (snx (i5 + (-1 : Int32)))), .int (τ 20 (snx ((i5 + (-1 : Int32)) + (1 : Int32))))]) (rest := [.int (i5 + (-1 : Int32)), .ref (gad G 20)]) (f := (fX1_joined (-x63) (τ 20 (snx (i5 + (-1 : Int32)))) (τ 20 (snx ((i5 + (-1 : Int32)) + (1 : Int32)))) τ)) hK dX1_value_128 rfl (fun b hb => c_X1_joined (-x63) (τ 20 (snx (i5 + (-1 : Int32)))) (τ 20 (snx ((i5 + (-1 : Int32)) + (1 : Int32)))) τ b hb) ms_X1_joined rfl rfl (Nat.le_of_ble_eq_true rfl) tw_355 mw_X1_joined (rmOk (Nat.le_of_ble_eq_true rfl) (Nat.le_of_ble_eq_true rfl)) (fun r75 => ?_)
            refine r_iast (q := 132) hK dX1_value_131 rfl (aC20 (j := 20) rfl) (fun h76 => ?_)
            refine sV.ltS (fun s77 => ?_)
            refine r_iinc (q := 135) (v := (i6 + (1 : Int32))) (loc' := [(6, .int (i6 + (1 : Int32))), (5, .int (i5 + (-1 : Int32))), (0, .ref (gad G 1)), (1, .int v1), (2, .int v2), (3, .int v3), (4, .int v4), (7, .int x63)]) hK dX1_value_132 rfl 6 rfl rfl (by decide) rfl ?_
            refine r_goto (q := 6) hK dX1_value_135 rfl ?_
            exact sV.sub [2, 3, 4, 5, 6, 1, 0] (by rfl) (ih (i5 + (-1 : Int32)) (i6 + (1 : Int32)) s77)
        · refine r_icmp_ne (t := 94) (q := 64) hK dX1_value_61 rfl rfl (fun c78 => ?_) (fun c78 => ?_)
          · exact sV.sub [1, 2, 3, 4, 5, 6, 7, 0] (by rfl) (hk94 ())
          · refine r_iload (q := 66) hK dX1_value_64 rfl 6 rfl ?_
            refine r_if_lt (t := 94) (q := 69) hK dX1_value_66 rfl rfl (fun c79 => ?_) (fun c79 => ?_)
            · exact sV.sub [1, 2, 3, 4, 5, 6, 7, 0] (by rfl) (hk94 ())
            · refine r_aload_n (q := 70) hK dX1_value_69 rfl rfl 1 rfl ?_
              refine gf_1_4 (q := 73) (rfl : kdC 1 = 1) hK dX1_value_70 rfl tw_41 ?_
              refine r_iload (q := 75) hK dX1_value_73 rfl 6 rfl ?_
              refine r_aload_n (q := 76) hK dX1_value_75 rfl rfl 1 rfl ?_
              refine gf_1_4 (q := 79) (rfl : kdC 1 = 1) hK dX1_value_76 rfl tw_41 ?_
              refine r_iload (q := 81) hK dX1_value_79 rfl 6 rfl ?_
              refine r_iald (q := 82) hK dX1_value_81 rfl (aC20 (j := 20) rfl) (fun h80 => ?_)
              refine sV.jn (fun k : Bool → Option (Int32 × Store) => ∀ (z0_90 : Bool), sV wCls G K a τ 90 [(0, .ref (gad G 1)), (1, .int v1), (2, .int v2), (3, .int v3), (4, .int v4), (5, .int i5), (6, .int i6), (7, .int x63)] [.int (b2i z0_90), .int i5, .ref (gad G 20)] (k z0_90)) (fun z0_90 => ?_) (fun k90 hk90 => ?_)
              · refine r_iast (q := 91) hK dX1_value_90 rfl (aC20 (j := 20) rfl) (fun h82 => ?_)
                refine sV.ltS (fun s83 => ?_)
                refine r_goto (q := 132) hK dX1_value_91 rfl ?_
                refine r_iinc (q := 135) (v := (i6 + (1 : Int32))) (loc' := [(6, .int (i6 + (1 : Int32))), (0, .ref (gad G 1)), (1, .int v1), (2, .int v2), (3, .int v3), (4, .int v4), (5, .int i5), (7, .int x63)]) hK dX1_value_132 rfl 6 rfl rfl (by decide) rfl ?_
                refine r_goto (q := 6) hK dX1_value_135 rfl ?_
                exact sV.sub [1, 2, 3, 4, 5, 6, 0] (by rfl) (ih i5 (i6 + (1 : Int32)) s83)
              · refine r_if_ne (t := 89) (q := 85) hK dX1_value_82 rfl rfl (fun c84 => ?_) (fun c84 => ?_)
                · refine r_iconst (q := 90) (v := 0) hK dX1_value_89 rfl rfl ?_
                  exact sV.sub [1, 2, 3, 4, 5, 6, 7, 0] (by rfl) (hk90 false)
                · refine r_iconst (q := 86) (v := 1) hK dX1_value_85 rfl rfl ?_
                  refine r_goto (q := 90) hK dX1_value_86 rfl ?_
                  exact sV.sub [1, 2, 3, 4, 5, 6, 7, 0] (by rfl) (hk90 true)
      · refine r_iinc (q := 38) (v := (i5 + (1 : Int32))) (loc' := [(5, .int (i5 + (1 : Int32))), (7, .int x63), (0, .ref (gad G 1)), (1, .int v1), (2, .int v2), (3, .int v3), (4, .int v4), (6, .int i6)]) hK dX1_value_35 rfl 6 rfl rfl (by decide) rfl ?_
        refine r_aload_n (q := 39) hK dX1_value_38 rfl rfl 2 rfl ?_
        refine gf_1_4 (q := 42) (rfl : kdC 1 = 1) hK dX1_value_39 rfl tw_41 ?_
        refine r_iload (q := 44) hK dX1_value_42 rfl 0 rfl ?_
        refine r_iload (q := 46) hK dX1_value_44 rfl 1 rfl ?_
        refine r_iload_n (q := 47) hK dX1_value_46 rfl rfl 4 rfl ?_
        refine r_iload_n (q := 48) hK dX1_value_47 rfl rfl 5 rfl ?_
        refine r_iload (q := 50) hK dX1_value_48 rfl 6 rfl ?_
        refine callS_i (q := 53) (As := [.int x63, .int v2, .int v3, .int v4]) (rest := [.int (i5 + (1 : Int32)), .ref (gad G 20)]) (f := (fX1_leaf x63 v2 v3 v4 τ)) hK dX1_value_50 rfl (fun b hb => c_X1_leaf x63 v2 v3 v4 τ b hb) ms_X1_leaf rfl rfl (Nat.le_of_ble_eq_true rfl) tw_352 mw_X1_leaf (rmOk (Nat.le_of_ble_eq_true rfl) (Nat.le_of_ble_eq_true rfl)) (fun r85 => ?_)
        refine r_iast (q := 54) hK dX1_value_53 rfl (aC20 (j := 20) rfl) (fun h86 => ?_)
        refine sV.ltS (fun s87 => ?_)
        refine r_goto (q := 132) hK dX1_value_54 rfl ?_
        refine r_iinc (q := 135) (v := (i6 + (1 : Int32))) (loc' := [(6, .int (i6 + (1 : Int32))), (5, .int (i5 + (1 : Int32))), (7, .int x63), (0, .ref (gad G 1)), (1, .int v1), (2, .int v2), (3, .int v3), (4, .int v4)]) hK dX1_value_132 rfl 7 rfl rfl (by decide) rfl ?_
        refine r_goto (q := 6) hK dX1_value_135 rfl ?_
        exact sV.sub [3, 4, 5, 6, 7, 1, 0] (by rfl) (ih (i5 + (1 : Int32)) (i6 + (1 : Int32)) s87)
def fX1_value  (a1 : Int32) (a2 : Int32) (a3 : Int32) (a4 : Int32) (σ : Store) : Option (Int32 × Store) := (fX1_value_L6 a1 a2 a3 a4 (fun x88 x89 s90 => (six 96 (0 : Int32) (some ((s90 20 (snx (0 : Int32))), s90)))) FU (-1 : Int32) (0 : Int32) σ)
theorem c_X1_value {l0 : Launch} {G : Geo} (a1 : Int32) (a2 : Int32) (a3 : Int32) (a4 : Int32) (σ : Store) (a : (Int32 × Store)) (hf : fX1_value  a1 a2 a3 a4 σ = some a) : sCon l0 wCls G yX1_value cX1_value 8 (some .int) (rmL 2 83) [.ref (gad G 1), .int a1, .int a2, .int a3, .int a4] σ (some (.int a.1)) a.2 := by
  refine sCon.of (by decide) ⟨rfl, rfl⟩ (Nat.le_of_ble_eq_true rfl) RX1 rfl _ hf (fun K hK => ?_)
  show sV wCls G K a σ 0 [(0, .ref (gad G 1)), (1, .int a1), (2, .int a2), (3, .int a3), (4, .int a4)] [] _
  unfold fX1_value
  refine r_iconst (q := 1) (v := -1) hK dX1_value_0 rfl rfl ?_
  refine r_istore (q := 3) (loc' := [(5, .int (-1 : Int32)), (0, .ref (gad G 1)), (1, .int a1), (2, .int a2), (3, .int a3), (4, .int a4)]) hK dX1_value_1 rfl (by decide) rfl ?_
  refine r_iconst (q := 4) (v := 0) hK dX1_value_3 rfl rfl ?_
  refine r_istore (q := 6) (loc' := [(6, .int (0 : Int32)), (5, .int (-1 : Int32)), (0, .ref (gad G 1)), (1, .int a1), (2, .int a2), (3, .int a3), (4, .int a4)]) hK dX1_value_4 rfl (by decide) rfl ?_
  refine sV.sub [2, 3, 4, 5, 6, 1, 0] (by rfl) (vX1_value_L6 σ a1 a2 a3 a4 hK _ (fun x88 x89 s90 => ?_) FU (-1 : Int32) (0 : Int32) σ)
  refine r_aload_n (q := 139) hK dX1_value_138 rfl rfl 0 rfl ?_
  refine gf_1_4 (q := 142) (rfl : kdC 1 = 1) hK dX1_value_139 rfl tw_41 ?_
  refine r_iconst (q := 143) (v := 0) hK dX1_value_142 rfl rfl ?_
  refine r_iald (q := 144) hK dX1_value_143 rfl (aC20 (j := 20) rfl) (fun h91 => ?_)
  exact e_iS hK dX1_value_144
def fX7_costs  (a0 : Nat) (a1 : Int32) (σ : Store) : Option Int32 := (sjn (fun k20 : Int32 → Option Int32 => (if (σ a0 5) < ((σ a0 3) / (2 : Int32)) then (k20 a1) else (k20 ((2 : Int32) * a1)))) (fun (z0_20 : Int32) => (slt (a1 / (2 : Int32)) fun x2 => (if (σ a0 0) = (1 : Int32) then (some z0_20) else (if (σ a0 0) = (2 : Int32) then (some x2) else (if (σ a0 0) = (3 : Int32) then (some (z0_20 + (3 : Int32))) else (if (σ a0 0) = (4 : Int32) then (some (smax (0 : Int32) (x2 - (2 : Int32)))) else (if (σ a0 0) = (5 : Int32) then (some (0 : Int32)) else (some a1)))))))))
theorem c_X7_costs {l0 : Launch} {G : Geo} (a0 : Nat) (h0 : kdC a0 = 7) (a1 : Int32) (σ : Store) (a : Int32) (hf : fX7_costs  a0 a1 σ = some a) : sCon l0 wCls G yX7_costs cX7_costs 4 (some .int) (rmL 1 60) [.ref (gad G a0), .int a1] σ (some (.int a)) σ := by
  refine sCon.of (by decide) ⟨rfl, rfl⟩ (Nat.le_of_ble_eq_true rfl) RX7 rfl _ hf (fun K hK => ?_)
  show sV wCls G K a σ 0 [(0, .ref (gad G a0)), (1, .int a1)] [] _
  unfold fX7_costs
  refine r_aload_n (q := 1) hK dX7_costs_0 rfl rfl 0 rfl ?_
  refine gf_7_5 (q := 4) h0 hK dX7_costs_1 rfl tw_84 ?_
  refine r_aload_n (q := 5) hK dX7_costs_4 rfl rfl 0 rfl ?_
  refine gf_7_3 (q := 8) h0 hK dX7_costs_5 rfl tw_78 ?_
  refine r_iconst (q := 9) (v := 2) hK dX7_costs_8 rfl rfl ?_
  refine r_idivc (q := 10) hK dX7_costs_9 rfl (by decide) ?_
  refine sV.jn (fun k : Int32 → Option Int32 => ∀ (z0_20 : Int32), sV wCls G K a σ 20 [(0, .ref (gad G a0)), (1, .int a1)] [.int z0_20] (k z0_20)) (fun z0_20 => ?_) (fun k20 hk20 => ?_)
  · refine r_istore_n (q := 21) (loc' := [(2, .int z0_20), (0, .ref (gad G a0)), (1, .int a1)]) hK dX7_costs_20 rfl rfl (by decide) rfl ?_
    refine r_iload_n (q := 22) hK dX7_costs_21 rfl rfl 2 rfl ?_
    refine r_iconst (q := 23) (v := 2) hK dX7_costs_22 rfl rfl ?_
    refine r_idivc (q := 24) hK dX7_costs_23 rfl (by decide) ?_
    refine sV.ltI (fun x2 => ?_)
    refine r_istore_n (q := 25) (loc' := [(3, .int x2), (2, .int z0_20), (0, .ref (gad G a0)), (1, .int a1)]) hK dX7_costs_24 rfl rfl (by decide) rfl ?_
    refine r_aload_n (q := 26) hK dX7_costs_25 rfl rfl 2 rfl ?_
    refine gf_7_0 (q := 29) h0 hK dX7_costs_26 rfl tw_69 ?_
    refine sV.ite (fun c3 => ?_) (fun c3 => ?_)
    · refine r_tsI (t := 64) (1 : Int32) hK dX7_costs_29 c3 (by decide) (by decide) rfl rfl ?_
      refine r_iload_n (q := 65) hK dX7_costs_64 rfl rfl 1 rfl ?_
      exact e_i hK dX7_costs_65
    · refine sV.ite (fun c4 => ?_) (fun c4 => ?_)
      · refine r_tsI (t := 70) (2 : Int32) hK dX7_costs_29 c4 (by decide) (by decide) rfl rfl ?_
        refine r_iload_n (q := 71) hK dX7_costs_70 rfl rfl 0 rfl ?_
        exact e_i hK dX7_costs_71
      · refine sV.ite (fun c5 => ?_) (fun c5 => ?_)
        · refine r_tsI (t := 66) (3 : Int32) hK dX7_costs_29 c5 (by decide) (by decide) rfl rfl ?_
          refine r_iload_n (q := 67) hK dX7_costs_66 rfl rfl 1 rfl ?_
          refine r_iconst (q := 68) (v := 3) hK dX7_costs_67 rfl rfl ?_
          refine r_iadd (q := 69) hK dX7_costs_68 rfl ?_
          exact e_i hK dX7_costs_69
        · refine sV.ite (fun c6 => ?_) (fun c6 => ?_)
          · refine r_tsI (t := 72) (4 : Int32) hK dX7_costs_29 c6 (by decide) (by decide) rfl rfl ?_
            refine r_iconst (q := 73) (v := 0) hK dX7_costs_72 rfl rfl ?_
            refine r_iload_n (q := 74) hK dX7_costs_73 rfl rfl 0 rfl ?_
            refine r_iconst (q := 75) (v := 2) hK dX7_costs_74 rfl rfl ?_
            refine r_isub (q := 76) hK dX7_costs_75 rfl ?_
            refine r_max (q := 79) hK dX7_costs_76 rfl tw_345 mt_max (rmM (Nat.le_of_ble_eq_true rfl) (Nat.le_of_ble_eq_true rfl)) ?_
            exact e_i hK dX7_costs_79
          · refine sV.ite (fun c7 => ?_) (fun c7 => ?_)
            · refine r_tsI (t := 80) (5 : Int32) hK dX7_costs_29 c7 (by decide) (by decide) rfl rfl ?_
              refine r_iconst (q := 81) (v := 0) hK dX7_costs_80 rfl rfl ?_
              exact e_i hK dX7_costs_81
            · have ec3 : ¬ ((σ a0 0)).toInt = 1 := ne_ti c3
              have ec4 : ¬ ((σ a0 0)).toInt = 2 := ne_ti c4
              have ec5 : ¬ ((σ a0 0)).toInt = 3 := ne_ti c5
              have ec6 : ¬ ((σ a0 0)).toInt = 4 := ne_ti c6
              have ec7 : ¬ ((σ a0 0)).toInt = 5 := ne_ti c7
              refine r_tsO (t := 82) hK dX7_costs_29 (by omega) rfl ?_
              refine r_iload_n (q := 83) hK dX7_costs_82 rfl rfl 3 rfl ?_
              exact e_i hK dX7_costs_83
  · refine r_icmp_lt (t := 19) (q := 13) hK dX7_costs_10 rfl rfl (fun c8 => ?_) (fun c8 => ?_)
    · refine r_iload_n (q := 20) hK dX7_costs_19 rfl rfl 1 rfl ?_
      exact sV.sub [0, 1] (by rfl) (hk20 a1)
    · refine r_iconst (q := 14) (v := 2) hK dX7_costs_13 rfl rfl ?_
      refine r_iload_n (q := 15) hK dX7_costs_14 rfl rfl 1 rfl ?_
      refine r_imul (q := 16) hK dX7_costs_15 rfl ?_
      refine r_goto (q := 20) hK dX7_costs_16 rfl ?_
      exact sV.sub [0, 1] (by rfl) (hk20 ((2 : Int32) * a1))
def fX8_held  (a0 : Int32) (a1 : Int32) (σ : Store) : Option Int32 := (some (smax (0 : Int32) (smin a0 a1)))
theorem c_X8_held {l0 : Launch} {G : Geo} (a0 : Int32) (a1 : Int32) (σ : Store) (a : Int32) (hf : fX8_held  a0 a1 σ = some a) : sCon l0 wCls G yX8_held cX8_held 2 (some .int) (rmL 1 60) [.int a0, .int a1] σ (some (.int a)) σ := by
  refine sCon.of (by decide) ⟨rfl, rfl⟩ (Nat.le_of_ble_eq_true rfl) RX8 rfl _ hf (fun K hK => ?_)
  show sV wCls G K a σ 0 [(0, .int a0), (1, .int a1)] [] _
  unfold fX8_held
  refine r_iconst (q := 1) (v := 0) hK dX8_held_0 rfl rfl ?_
  refine r_iload_n (q := 2) hK dX8_held_1 rfl rfl 0 rfl ?_
  refine r_iload_n (q := 3) hK dX8_held_2 rfl rfl 1 rfl ?_
  refine r_min (q := 6) hK dX8_held_3 rfl tw_361 mt_min (rmM (Nat.le_of_ble_eq_true rfl) (Nat.le_of_ble_eq_true rfl)) ?_
  refine r_max (q := 9) hK dX8_held_6 rfl tw_364 mt_max (rmM (Nat.le_of_ble_eq_true rfl) (Nat.le_of_ble_eq_true rfl)) ?_
  exact e_i hK dX8_held_9
def fX0_costsOf  (a0 : Nat) (a1 : Nat) (σ : Store) : Option (Int32 × Store) := (sbd (fX0_countingText a0 (0 : Int32) σ) fun r1 => (if ¬ r1 = (-1000000005 : Int32) then (sbd2 (fX1_value r1 (σ a1 2) (σ a1 5) (σ a1 3) σ) fun r3 s4 => (sbd (fX8_held r3 (999 : Int32) s4) fun r5 => (sbd (fX7_costs a1 r5 s4) fun r6 => (some (r6, s4))))) else (sbd (fX7_costs a1 (σ a1 2) σ) fun r7 => (some (r7, σ)))))
theorem c_X0_costsOf {l0 : Launch} {G : Geo} (a0 : Nat) (h0 : kdC a0 = 0) (a1 : Nat) (h1 : kdC a1 = 7) (σ : Store) (a : (Int32 × Store)) (hf : fX0_costsOf  a0 a1 σ = some a) : sCon l0 wCls G yX0_costsOf cX0_costsOf 3 (some .int) (rmL 3 110) [.ref (gad G a0), .ref (gad G a1)] σ (some (.int a.1)) a.2 := by
  refine sCon.of (by decide) ⟨rfl, rfl⟩ (Nat.le_of_ble_eq_true rfl) RX0 rfl _ hf (fun K hK => ?_)
  show sV wCls G K a σ 0 [(0, .ref (gad G a0)), (1, .ref (gad G a1))] [] _
  unfold fX0_costsOf
  refine r_aload_n (q := 1) hK dX0_costsOf_0 rfl rfl 0 rfl ?_
  refine r_iconst (q := 2) (v := 0) hK dX0_costsOf_1 rfl rfl ?_
  refine callV_i (q := 5) (j := a0) (As := [.int (0 : Int32)]) (rest := []) (f := (fX0_countingText a0 (0 : Int32) σ)) hK dX0_costsOf_2 rfl (fun b hb => c_X0_countingText a0 h0 (0 : Int32) σ b hb) ⟨0, _, _, _, kd_lt h0 (by decide), rfl, cC0 h0, rfl⟩ mv_X0_countingText rfl rfl (Nat.le_of_ble_eq_true rfl) tw_336 mw_X0_countingText (rmOk (Nat.le_of_ble_eq_true rfl) (Nat.le_of_ble_eq_true rfl)) (fun r1 => ?_)
  refine r_istore_n (q := 6) (loc' := [(2, .int r1), (0, .ref (gad G a0)), (1, .ref (gad G a1))]) hK dX0_costsOf_5 rfl rfl (by decide) rfl ?_
  refine r_iload_n (q := 7) hK dX0_costsOf_6 rfl rfl 0 rfl ?_
  refine r_ldc (q := 9) hK dX0_costsOf_7 rfl tw_340 ?_
  refine r_icmp_ne (t := 21) (q := 12) hK dX0_costsOf_9 rfl rfl (fun c2 => ?_) (fun c2 => ?_)
  · refine r_aload_n (q := 22) hK dX0_costsOf_21 rfl rfl 2 rfl ?_
    refine r_aload_n (q := 23) hK dX0_costsOf_22 rfl rfl 1 rfl ?_
    refine gf_0_0 (q := 26) h0 hK dX0_costsOf_23 rfl tw_116 ?_
    refine r_iload_n (q := 27) hK dX0_costsOf_26 rfl rfl 0 rfl ?_
    refine r_aload_n (q := 28) hK dX0_costsOf_27 rfl rfl 2 rfl ?_
    refine gf_7_2 (q := 31) h1 hK dX0_costsOf_28 rfl tw_76 ?_
    refine r_aload_n (q := 32) hK dX0_costsOf_31 rfl rfl 2 rfl ?_
    refine gf_7_5 (q := 35) h1 hK dX0_costsOf_32 rfl tw_85 ?_
    refine r_aload_n (q := 36) hK dX0_costsOf_35 rfl rfl 2 rfl ?_
    refine gf_7_3 (q := 39) h1 hK dX0_costsOf_36 rfl tw_79 ?_
    refine callV_iS (q := 42) (j := 1) (As := [.int r1, .int (σ a1 2), .int (σ a1 5), .int (σ a1 3)]) (rest := [.ref (gad G a1)]) (f := (fX1_value r1 (σ a1 2) (σ a1 5) (σ a1 3) σ)) hK dX0_costsOf_39 rfl (fun b hb => c_X1_value r1 (σ a1 2) (σ a1 5) (σ a1 3) σ b hb) ⟨1, _, _, _, kd_lt (rfl : kdC 1 = 1) (by decide), rfl, cC1 (rfl : kdC 1 = 1), rfl⟩ mv_X1_value rfl rfl (Nat.le_of_ble_eq_true rfl) tw_348 mw_X1_value (rmOk (Nat.le_of_ble_eq_true rfl) (Nat.le_of_ble_eq_true rfl)) (fun r3 s4 => ?_)
    refine r_sipush (q := 45) (v := 999) hK dX0_costsOf_42 rfl rfl ?_
    refine callN_i (q := 48) (host := RX8) (As := [.int r3, .int (999 : Int32)]) (rest := [.ref (gad G a1)]) (f := (fX8_held r3 (999 : Int32) s4)) hK dX0_costsOf_45 rfl (fun b hb => c_X8_held r3 (999 : Int32) s4 b hb) (fun s h => h.2.1) ms_X8_held rfl rfl (Nat.le_of_ble_eq_true rfl) mw_X8_held (rmOk (Nat.le_of_ble_eq_true rfl) (Nat.le_of_ble_eq_true rfl)) (fun r5 => ?_)
    refine callV_i (q := 51) (j := a1) (As := [.int r5]) (rest := []) (f := (fX7_costs a1 r5 s4)) hK dX0_costsOf_48 rfl (fun b hb => c_X7_costs a1 h1 r5 s4 b hb) ⟨7, _, _, _, kd_lt h1 (by decide), rfl, cC7 h1, rfl⟩ mv_X7_costs rfl rfl (Nat.le_of_ble_eq_true rfl) tw_341 mw_X7_costs (rmOk (Nat.le_of_ble_eq_true rfl) (Nat.le_of_ble_eq_true rfl)) (fun r6 => ?_)
    exact e_iS hK dX0_costsOf_51
  · refine r_aload_n (q := 13) hK dX0_costsOf_12 rfl rfl 2 rfl ?_
    refine r_aload_n (q := 14) hK dX0_costsOf_13 rfl rfl 2 rfl ?_
    refine gf_7_2 (q := 17) h1 hK dX0_costsOf_14 rfl tw_76 ?_
    refine callV_i (q := 20) (j := a1) (As := [.int (σ a1 2)]) (rest := []) (f := (fX7_costs a1 (σ a1 2) σ)) hK dX0_costsOf_17 rfl (fun b hb => c_X7_costs a1 h1 (σ a1 2) σ b hb) ⟨7, _, _, _, kd_lt h1 (by decide), rfl, cC7 h1, rfl⟩ mv_X7_costs rfl rfl (Nat.le_of_ble_eq_true rfl) tw_341 mw_X7_costs (rmOk (Nat.le_of_ble_eq_true rfl) (Nat.le_of_ble_eq_true rfl)) (fun r7 => ?_)
    exact e_iS hK dX0_costsOf_20
def fX0_hasWord  (a0 : Nat) (a1 : Int32) (σ : Store) : Option Bool := (sbd (fX8_within a1 (0 : Int32) ((σ a0 3) - (1 : Int32)) σ) fun r1 => (some r1))
theorem c_X0_hasWord {l0 : Launch} {G : Geo} (a0 : Nat) (h0 : kdC a0 = 0) (a1 : Int32) (σ : Store) (a : Bool) (hf : fX0_hasWord  a0 a1 σ = some a) : sCon l0 wCls G yX0_hasWord cX0_hasWord 2 (some .boolean) (rmL 2 82) [.ref (gad G a0), .int a1] σ (some (.int (b2i a))) σ := by
  refine sCon.of (by decide) ⟨rfl, rfl⟩ (Nat.le_of_ble_eq_true rfl) RX0 rfl _ hf (fun K hK => ?_)
  show sV wCls G K a σ 0 [(0, .ref (gad G a0)), (1, .int a1)] [] _
  unfold fX0_hasWord
  refine r_iload_n (q := 1) hK dX0_hasWord_0 rfl rfl 1 rfl ?_
  refine r_iconst (q := 2) (v := 0) hK dX0_hasWord_1 rfl rfl ?_
  refine r_aload_n (q := 3) hK dX0_hasWord_2 rfl rfl 0 rfl ?_
  refine gf_0_3 (q := 6) h0 hK dX0_hasWord_3 rfl tw_122 ?_
  refine r_iconst (q := 7) (v := 1) hK dX0_hasWord_6 rfl rfl ?_
  refine r_isub (q := 8) hK dX0_hasWord_7 rfl ?_
  refine callN_b (q := 11) (host := RX8) (As := [.int a1, .int (0 : Int32), .int ((σ a0 3) - (1 : Int32))]) (rest := []) (f := (fX8_within a1 (0 : Int32) ((σ a0 3) - (1 : Int32)) σ)) hK dX0_hasWord_8 rfl (fun b hb => c_X8_within a1 (0 : Int32) ((σ a0 3) - (1 : Int32)) σ b hb) (fun s h => h.1) ms_X8_within rfl rfl (Nat.le_of_ble_eq_true rfl) mw_X8_within (rmOk (Nat.le_of_ble_eq_true rfl) (Nat.le_of_ble_eq_true rfl)) (fun r1 => ?_)
  exact e_b (b := r1) hK dX0_hasWord_11
def fJ6_bitCount_0f7a4  (a0 : Int32) (σ : Store) : Option Int32 := (slt (a0 - ((sushr a0 (1 : Int32)) &&& (1431655765 : Int32))) fun x1 => (slt ((x1 &&& (858993459 : Int32)) + ((sushr x1 (2 : Int32)) &&& (858993459 : Int32))) fun x2 => (slt ((x2 + (sushr x2 (4 : Int32))) &&& (252645135 : Int32)) fun x3 => (slt (x3 + (sushr x3 (8 : Int32))) fun x4 => (slt (x4 + (sushr x4 (16 : Int32))) fun x5 => (some (x5 &&& (63 : Int32))))))))
theorem c_J6_bitCount_0f7a4 {l0 : Launch} {G : Geo} (a0 : Int32) (σ : Store) (a : Int32) (hf : fJ6_bitCount_0f7a4  a0 σ = some a) : sCon l0 wCls G yJ6_bitCount_0f7a4 cJ6_bitCount_0f7a4 1 (some .int) (rmL 1 60) [.int a0] σ (some (.int a)) σ := by
  refine sCon.of (by decide) ⟨rfl, rfl⟩ (Nat.le_of_ble_eq_true rfl) RJ6 rfl _ hf (fun K hK => ?_)
  show sV wCls G K a σ 0 [(0, .int a0)] [] _
  unfold fJ6_bitCount_0f7a4
  refine r_iload_n (q := 1) hK dJ6_bitCount_0f7a4_0 rfl rfl 0 rfl ?_
  refine r_iload_n (q := 2) hK dJ6_bitCount_0f7a4_1 rfl rfl 0 rfl ?_
  refine r_iconst (q := 3) (v := 1) hK dJ6_bitCount_0f7a4_2 rfl rfl ?_
  refine r_iushr (q := 4) hK dJ6_bitCount_0f7a4_3 rfl ?_
  refine r_ldcw (q := 7) hK dJ6_bitCount_0f7a4_4 rfl tw_372 ?_
  refine r_iand (q := 8) hK dJ6_bitCount_0f7a4_7 rfl ?_
  refine r_isub (q := 9) hK dJ6_bitCount_0f7a4_8 rfl ?_
  refine sV.ltI (fun x1 => ?_)
  refine r_istore_n (q := 10) (loc' := [(0, .int x1)]) hK dJ6_bitCount_0f7a4_9 rfl rfl (by decide) rfl ?_
  refine r_iload_n (q := 11) hK dJ6_bitCount_0f7a4_10 rfl rfl 0 rfl ?_
  refine r_ldcw (q := 14) hK dJ6_bitCount_0f7a4_11 rfl tw_373 ?_
  refine r_iand (q := 15) hK dJ6_bitCount_0f7a4_14 rfl ?_
  refine r_iload_n (q := 16) hK dJ6_bitCount_0f7a4_15 rfl rfl 0 rfl ?_
  refine r_iconst (q := 17) (v := 2) hK dJ6_bitCount_0f7a4_16 rfl rfl ?_
  refine r_iushr (q := 18) hK dJ6_bitCount_0f7a4_17 rfl ?_
  refine r_ldcw (q := 21) hK dJ6_bitCount_0f7a4_18 rfl tw_373 ?_
  refine r_iand (q := 22) hK dJ6_bitCount_0f7a4_21 rfl ?_
  refine r_iadd (q := 23) hK dJ6_bitCount_0f7a4_22 rfl ?_
  refine sV.ltI (fun x2 => ?_)
  refine r_istore_n (q := 24) (loc' := [(0, .int x2)]) hK dJ6_bitCount_0f7a4_23 rfl rfl (by decide) rfl ?_
  refine r_iload_n (q := 25) hK dJ6_bitCount_0f7a4_24 rfl rfl 0 rfl ?_
  refine r_iload_n (q := 26) hK dJ6_bitCount_0f7a4_25 rfl rfl 0 rfl ?_
  refine r_iconst (q := 27) (v := 4) hK dJ6_bitCount_0f7a4_26 rfl rfl ?_
  refine r_iushr (q := 28) hK dJ6_bitCount_0f7a4_27 rfl ?_
  refine r_iadd (q := 29) hK dJ6_bitCount_0f7a4_28 rfl ?_
  refine r_ldcw (q := 32) hK dJ6_bitCount_0f7a4_29 rfl tw_374 ?_
  refine r_iand (q := 33) hK dJ6_bitCount_0f7a4_32 rfl ?_
  refine sV.ltI (fun x3 => ?_)
  refine r_istore_n (q := 34) (loc' := [(0, .int x3)]) hK dJ6_bitCount_0f7a4_33 rfl rfl (by decide) rfl ?_
  refine r_iload_n (q := 35) hK dJ6_bitCount_0f7a4_34 rfl rfl 0 rfl ?_
  refine r_iload_n (q := 36) hK dJ6_bitCount_0f7a4_35 rfl rfl 0 rfl ?_
  refine r_bipush (q := 38) (v := 8) hK dJ6_bitCount_0f7a4_36 rfl rfl ?_
  refine r_iushr (q := 39) hK dJ6_bitCount_0f7a4_38 rfl ?_
  refine r_iadd (q := 40) hK dJ6_bitCount_0f7a4_39 rfl ?_
  refine sV.ltI (fun x4 => ?_)
  refine r_istore_n (q := 41) (loc' := [(0, .int x4)]) hK dJ6_bitCount_0f7a4_40 rfl rfl (by decide) rfl ?_
  refine r_iload_n (q := 42) hK dJ6_bitCount_0f7a4_41 rfl rfl 0 rfl ?_
  refine r_iload_n (q := 43) hK dJ6_bitCount_0f7a4_42 rfl rfl 0 rfl ?_
  refine r_bipush (q := 45) (v := 16) hK dJ6_bitCount_0f7a4_43 rfl rfl ?_
  refine r_iushr (q := 46) hK dJ6_bitCount_0f7a4_45 rfl ?_
  refine r_iadd (q := 47) hK dJ6_bitCount_0f7a4_46 rfl ?_
  refine sV.ltI (fun x5 => ?_)
  refine r_istore_n (q := 48) (loc' := [(0, .int x5)]) hK dJ6_bitCount_0f7a4_47 rfl rfl (by decide) rfl ?_
  refine r_iload_n (q := 49) hK dJ6_bitCount_0f7a4_48 rfl rfl 0 rfl ?_
  refine r_bipush (q := 51) (v := 63) hK dJ6_bitCount_0f7a4_49 rfl rfl ?_
  refine r_iand (q := 52) hK dJ6_bitCount_0f7a4_51 rfl ?_
  exact e_i hK dJ6_bitCount_0f7a4_52
def fX7_worth  (a0 : Nat) (σ : Store) : Option Int32 := (if (σ a0 0) = (1 : Int32) then (some ((σ a0 2) + (6 : Int32))) else (if (σ a0 0) = (2 : Int32) then (some ((99 : Int32) - (σ a0 2))) else (if (σ a0 0) = (3 : Int32) then (some ((2 : Int32) * ((σ a0 2) + (6 : Int32)))) else (if (σ a0 0) = (4 : Int32) then (some (((99 : Int32) - (σ a0 2)) - (5 : Int32))) else (if (σ a0 0) = (5 : Int32) then (sbd (fJ6_bitCount_0f7a4 (σ a0 1) σ) fun r6 => (some r6)) else (some (σ a0 2)))))))
theorem c_X7_worth {l0 : Launch} {G : Geo} (a0 : Nat) (h0 : kdC a0 = 7) (σ : Store) (a : Int32) (hf : fX7_worth  a0 σ = some a) : sCon l0 wCls G yX7_worth cX7_worth 1 (some .int) (rmL 2 80) [.ref (gad G a0)] σ (some (.int a)) σ := by
  refine sCon.of (by decide) ⟨rfl, rfl⟩ (Nat.le_of_ble_eq_true rfl) RX7 rfl _ hf (fun K hK => ?_)
  show sV wCls G K a σ 0 [(0, .ref (gad G a0))] [] _
  unfold fX7_worth
  refine r_aload_n (q := 1) hK dX7_worth_0 rfl rfl 0 rfl ?_
  refine gf_7_0 (q := 4) h0 hK dX7_worth_1 rfl tw_69 ?_
  refine sV.ite (fun c1 => ?_) (fun c1 => ?_)
  · refine r_tsI (t := 40) (1 : Int32) hK dX7_worth_4 c1 (by decide) (by decide) rfl rfl ?_
    refine r_aload_n (q := 41) hK dX7_worth_40 rfl rfl 0 rfl ?_
    refine gf_7_2 (q := 44) h0 hK dX7_worth_41 rfl tw_75 ?_
    refine r_bipush (q := 46) (v := 6) hK dX7_worth_44 rfl rfl ?_
    refine r_iadd (q := 47) hK dX7_worth_46 rfl ?_
    exact e_i hK dX7_worth_47
  · refine sV.ite (fun c2 => ?_) (fun c2 => ?_)
    · refine r_tsI (t := 58) (2 : Int32) hK dX7_worth_4 c2 (by decide) (by decide) rfl rfl ?_
      refine r_bipush (q := 60) (v := 99) hK dX7_worth_58 rfl rfl ?_
      refine r_aload_n (q := 61) hK dX7_worth_60 rfl rfl 0 rfl ?_
      refine gf_7_2 (q := 64) h0 hK dX7_worth_61 rfl tw_75 ?_
      refine r_isub (q := 65) hK dX7_worth_64 rfl ?_
      exact e_i hK dX7_worth_65
    · refine sV.ite (fun c3 => ?_) (fun c3 => ?_)
      · refine r_tsI (t := 48) (3 : Int32) hK dX7_worth_4 c3 (by decide) (by decide) rfl rfl ?_
        refine r_iconst (q := 49) (v := 2) hK dX7_worth_48 rfl rfl ?_
        refine r_aload_n (q := 50) hK dX7_worth_49 rfl rfl 0 rfl ?_
        refine gf_7_2 (q := 53) h0 hK dX7_worth_50 rfl tw_75 ?_
        refine r_bipush (q := 55) (v := 6) hK dX7_worth_53 rfl rfl ?_
        refine r_iadd (q := 56) hK dX7_worth_55 rfl ?_
        refine r_imul (q := 57) hK dX7_worth_56 rfl ?_
        exact e_i hK dX7_worth_57
      · refine sV.ite (fun c4 => ?_) (fun c4 => ?_)
        · refine r_tsI (t := 66) (4 : Int32) hK dX7_worth_4 c4 (by decide) (by decide) rfl rfl ?_
          refine r_bipush (q := 68) (v := 99) hK dX7_worth_66 rfl rfl ?_
          refine r_aload_n (q := 69) hK dX7_worth_68 rfl rfl 0 rfl ?_
          refine gf_7_2 (q := 72) h0 hK dX7_worth_69 rfl tw_75 ?_
          refine r_isub (q := 73) hK dX7_worth_72 rfl ?_
          refine r_iconst (q := 74) (v := 5) hK dX7_worth_73 rfl rfl ?_
          refine r_isub (q := 75) hK dX7_worth_74 rfl ?_
          exact e_i hK dX7_worth_75
        · refine sV.ite (fun c5 => ?_) (fun c5 => ?_)
          · refine r_tsI (t := 76) (5 : Int32) hK dX7_worth_4 c5 (by decide) (by decide) rfl rfl ?_
            refine r_aload_n (q := 77) hK dX7_worth_76 rfl rfl 0 rfl ?_
            refine gf_7_1 (q := 80) h0 hK dX7_worth_77 rfl tw_72 ?_
            refine callS_i (q := 83) (As := [.int (σ a0 1)]) (rest := []) (f := (fJ6_bitCount_0f7a4 (σ a0 1) σ)) hK dX7_worth_80 rfl (fun b hb => c_J6_bitCount_0f7a4 (σ a0 1) σ b hb) ms_J6_bitCount_0f7a4 rfl rfl (Nat.le_of_ble_eq_true rfl) tw_369 mw_J6_bitCount_0f7a4 (rmOk (Nat.le_of_ble_eq_true rfl) (Nat.le_of_ble_eq_true rfl)) (fun r6 => ?_)
            exact e_i hK dX7_worth_83
          · have ec1 : ¬ ((σ a0 0)).toInt = 1 := ne_ti c1
            have ec2 : ¬ ((σ a0 0)).toInt = 2 := ne_ti c2
            have ec3 : ¬ ((σ a0 0)).toInt = 3 := ne_ti c3
            have ec4 : ¬ ((σ a0 0)).toInt = 4 := ne_ti c4
            have ec5 : ¬ ((σ a0 0)).toInt = 5 := ne_ti c5
            refine r_tsO (t := 84) hK dX7_worth_4 (by omega) rfl ?_
            refine r_aload_n (q := 85) hK dX7_worth_84 rfl rfl 0 rfl ?_
            refine gf_7_2 (q := 88) h0 hK dX7_worth_85 rfl tw_75 ?_
            exact e_i hK dX7_worth_88
def fX8_told  (a1 : Int32) (a2 : Int32) (σ : Store) : Option (Int32 × Store) := (sbd (fX0_hasWord 57 a1 σ) fun r1 => (if r1 = true then (six 10 a1 (if a2 = (0 : Int32) then (some ((σ (wrd 57 a1) 0), σ)) else (if a2 = (1 : Int32) then (some ((σ (wrd 57 a1) 1), σ)) else (if a2 = (2 : Int32) then (some ((σ (wrd 57 a1) 2), σ)) else (if a2 = (3 : Int32) then (some ((σ (wrd 57 a1) 3), σ)) else (if a2 = (4 : Int32) then (some ((σ (wrd 57 a1) 4), σ)) else (if a2 = (5 : Int32) then (some ((σ (wrd 57 a1) 5), σ)) else (if a2 = (6 : Int32) then (sbd2 (fX0_costsOf 57 (wrd 57 a1) σ) fun r11 s12 => (some (r11, s12))) else (if a2 = (7 : Int32) then (sbd (fX7_worth (wrd 57 a1) σ) fun r14 => (some (r14, σ))) else (if a2 = (8 : Int32) then (some ((((σ 57 6) >>> (a1 &&& 31)) &&& (1 : Int32)), σ)) else (some ((-1000000001 : Int32), σ)))))))))))) else (some ((-1000000001 : Int32), σ))))
theorem c_X8_told {l0 : Launch} {G : Geo} (a1 : Int32) (a2 : Int32) (σ : Store) (a : (Int32 × Store)) (hf : fX8_told  a1 a2 σ = some a) : sCon l0 wCls G yX8_told cX8_told 4 (some .int) (rmL 4 132) [.ref (gad G 0), .int a1, .int a2] σ (some (.int a.1)) a.2 := by
  refine sCon.of (by decide) ⟨rfl, rfl⟩ (Nat.le_of_ble_eq_true rfl) RX8 rfl _ hf (fun K hK => ?_)
  show sV wCls G K a σ 0 [(0, .ref (gad G 0)), (1, .int a1), (2, .int a2)] [] _
  unfold fX8_told
  refine r_aload_n (q := 1) hK dX8_told_0 rfl rfl 0 rfl ?_
  refine gf_8_1 (q := 4) (rfl : kdC 0 = 8) hK dX8_told_1 rfl tw_268 ?_
  refine r_iload_n (q := 5) hK dX8_told_4 rfl rfl 1 rfl ?_
  refine callV_b (q := 8) (j := 57) (As := [.int a1]) (rest := []) (f := (fX0_hasWord 57 a1 σ)) hK dX8_told_5 rfl (fun b hb => c_X0_hasWord 57 (rfl : kdC 57 = 0) a1 σ b hb) ⟨0, _, _, _, kd_lt (rfl : kdC 57 = 0) (by decide), rfl, cC0 (rfl : kdC 57 = 0), rfl⟩ mv_X0_hasWord rfl rfl (Nat.le_of_ble_eq_true rfl) tw_327 mw_X0_hasWord (rmOk (Nat.le_of_ble_eq_true rfl) (Nat.le_of_ble_eq_true rfl)) (fun r1 => ?_)
  refine r_ifb_ne (t := 14) (q := 11) hK dX8_told_8 rfl rfl (fun c2 => ?_) (fun c2 => ?_)
  · refine r_aload_n (q := 15) hK dX8_told_14 rfl rfl 0 rfl ?_
    refine gf_8_1 (q := 18) (rfl : kdC 0 = 8) hK dX8_told_15 rfl tw_268 ?_
    refine gf_0_1 (q := 21) (rfl : kdC 57 = 0) hK dX8_told_18 rfl tw_118 ?_
    refine r_iload_n (q := 22) hK dX8_told_21 rfl rfl 1 rfl ?_
    refine r_aald (q := 23) hK dX8_told_22 rfl (qC13 (kd_bw (rfl : kdC 57 = 0))) (ty := .object RX7) rfl rfl (r := gad G (wrd 57 a1)) rfl (fun h3 => ?_)
    refine r_astore_n (q := 24) (loc' := [(3, .ref (gad G (wrd 57 a1))), (0, .ref (gad G 0)), (1, .int a1), (2, .int a2)]) hK dX8_told_23 rfl rfl (by decide) rfl ?_
    refine r_iload_n (q := 25) hK dX8_told_24 rfl rfl 3 rfl ?_
    refine sV.ite (fun c4 => ?_) (fun c4 => ?_)
    · refine r_tsI (t := 76) (0 : Int32) hK dX8_told_25 c4 (by decide) (by decide) rfl rfl ?_
      refine r_aload_n (q := 77) hK dX8_told_76 rfl rfl 0 rfl ?_
      refine gf_7_0 (q := 80) (kd_wrd (rfl : kdC 57 = 0) h3) hK dX8_told_77 rfl tw_71 ?_
      exact e_iS hK dX8_told_80
    · refine sV.ite (fun c5 => ?_) (fun c5 => ?_)
      · refine r_tsI (t := 81) (1 : Int32) hK dX8_told_25 c5 (by decide) (by decide) rfl rfl ?_
        refine r_aload_n (q := 82) hK dX8_told_81 rfl rfl 0 rfl ?_
        refine gf_7_1 (q := 85) (kd_wrd (rfl : kdC 57 = 0) h3) hK dX8_told_82 rfl tw_74 ?_
        exact e_iS hK dX8_told_85
      · refine sV.ite (fun c6 => ?_) (fun c6 => ?_)
        · refine r_tsI (t := 86) (2 : Int32) hK dX8_told_25 c6 (by decide) (by decide) rfl rfl ?_
          refine r_aload_n (q := 87) hK dX8_told_86 rfl rfl 0 rfl ?_
          refine gf_7_2 (q := 90) (kd_wrd (rfl : kdC 57 = 0) h3) hK dX8_told_87 rfl tw_77 ?_
          exact e_iS hK dX8_told_90
        · refine sV.ite (fun c7 => ?_) (fun c7 => ?_)
          · refine r_tsI (t := 91) (3 : Int32) hK dX8_told_25 c7 (by decide) (by decide) rfl rfl ?_
            refine r_aload_n (q := 92) hK dX8_told_91 rfl rfl 0 rfl ?_
            refine gf_7_3 (q := 95) (kd_wrd (rfl : kdC 57 = 0) h3) hK dX8_told_92 rfl tw_80 ?_
            exact e_iS hK dX8_told_95
          · refine sV.ite (fun c8 => ?_) (fun c8 => ?_)
            · refine r_tsI (t := 96) (4 : Int32) hK dX8_told_25 c8 (by decide) (by decide) rfl rfl ?_
              refine r_aload_n (q := 97) hK dX8_told_96 rfl rfl 0 rfl ?_
              refine gf_7_4 (q := 100) (kd_wrd (rfl : kdC 57 = 0) h3) hK dX8_told_97 rfl tw_83 ?_
              exact e_iS hK dX8_told_100
            · refine sV.ite (fun c9 => ?_) (fun c9 => ?_)
              · refine r_tsI (t := 101) (5 : Int32) hK dX8_told_25 c9 (by decide) (by decide) rfl rfl ?_
                refine r_aload_n (q := 102) hK dX8_told_101 rfl rfl 0 rfl ?_
                refine gf_7_5 (q := 105) (kd_wrd (rfl : kdC 57 = 0) h3) hK dX8_told_102 rfl tw_86 ?_
                exact e_iS hK dX8_told_105
              · refine sV.ite (fun c10 => ?_) (fun c10 => ?_)
                · refine r_tsI (t := 106) (6 : Int32) hK dX8_told_25 c10 (by decide) (by decide) rfl rfl ?_
                  refine r_aload_n (q := 107) hK dX8_told_106 rfl rfl 1 rfl ?_
                  refine gf_8_1 (q := 110) (rfl : kdC 0 = 8) hK dX8_told_107 rfl tw_268 ?_
                  refine r_aload_n (q := 111) hK dX8_told_110 rfl rfl 0 rfl ?_
                  refine callV_iS (q := 114) (j := 57) (As := [.ref (gad G (wrd 57 a1))]) (rest := []) (f := (fX0_costsOf 57 (wrd 57 a1) σ)) hK dX8_told_111 rfl (fun b hb => c_X0_costsOf 57 (rfl : kdC 57 = 0) (wrd 57 a1) (kd_wrd (rfl : kdC 57 = 0) h3) σ b hb) ⟨0, _, _, _, kd_lt (rfl : kdC 57 = 0) (by decide), rfl, cC0 (rfl : kdC 57 = 0), rfl⟩ mv_X0_costsOf rfl rfl (Nat.le_of_ble_eq_true rfl) tw_332 mw_X0_costsOf (rmOk (Nat.le_of_ble_eq_true rfl) (Nat.le_of_ble_eq_true rfl)) (fun r11 s12 => ?_)
                  exact e_iS hK dX8_told_114
                · refine sV.ite (fun c13 => ?_) (fun c13 => ?_)
                  · refine r_tsI (t := 115) (7 : Int32) hK dX8_told_25 c13 (by decide) (by decide) rfl rfl ?_
                    refine r_aload_n (q := 116) hK dX8_told_115 rfl rfl 0 rfl ?_
                    refine callV_i (q := 119) (j := (wrd 57 a1)) (As := []) (rest := []) (f := (fX7_worth (wrd 57 a1) σ)) hK dX8_told_116 rfl (fun b hb => c_X7_worth (wrd 57 a1) (kd_wrd (rfl : kdC 57 = 0) h3) σ b hb) ⟨7, _, _, _, kd_lt (kd_wrd (rfl : kdC 57 = 0) h3) (by decide), rfl, cC7 (kd_wrd (rfl : kdC 57 = 0) h3), rfl⟩ mv_X7_worth rfl rfl (Nat.le_of_ble_eq_true rfl) tw_365 mw_X7_worth (rmOk (Nat.le_of_ble_eq_true rfl) (Nat.le_of_ble_eq_true rfl)) (fun r14 => ?_)
                    exact e_iS hK dX8_told_119
                  · refine sV.ite (fun c15 => ?_) (fun c15 => ?_)
                    · refine r_tsI (t := 120) (8 : Int32) hK dX8_told_25 c15 (by decide) (by decide) rfl rfl ?_
                      refine r_aload_n (q := 121) hK dX8_told_120 rfl rfl 1 rfl ?_
                      refine gf_8_1 (q := 124) (rfl : kdC 0 = 8) hK dX8_told_121 rfl tw_268 ?_
                      refine gf_0_6 (q := 127) (rfl : kdC 57 = 0) hK dX8_told_124 rfl tw_130 ?_
                      refine r_iload_n (q := 128) hK dX8_told_127 rfl rfl 2 rfl ?_
                      refine r_ishr (q := 129) hK dX8_told_128 rfl ?_
                      refine r_iconst (q := 130) (v := 1) hK dX8_told_129 rfl rfl ?_
                      refine r_iand (q := 131) hK dX8_told_130 rfl ?_
                      exact e_iS hK dX8_told_131
                    · have ec4 : ¬ (a2).toInt = 0 := ne_ti c4
                      have ec5 : ¬ (a2).toInt = 1 := ne_ti c5
                      have ec6 : ¬ (a2).toInt = 2 := ne_ti c6
                      have ec7 : ¬ (a2).toInt = 3 := ne_ti c7
                      have ec8 : ¬ (a2).toInt = 4 := ne_ti c8
                      have ec9 : ¬ (a2).toInt = 5 := ne_ti c9
                      have ec10 : ¬ (a2).toInt = 6 := ne_ti c10
                      have ec13 : ¬ (a2).toInt = 7 := ne_ti c13
                      have ec15 : ¬ (a2).toInt = 8 := ne_ti c15
                      refine r_tsO (t := 132) hK dX8_told_25 (by omega) rfl ?_
                      refine r_ldc (q := 134) hK dX8_told_132 rfl tw_317 ?_
                      exact e_iS hK dX8_told_134
  · refine r_ldc (q := 13) hK dX8_told_11 rfl tw_317 ?_
    exact e_iS hK dX8_told_13
def fX7_isOf  (a0 : Nat) (a1 : Int32) (σ : Store) : Option Bool := (if a1 = 0 then (some true) else (if a1 = (σ a0 0) then (some true) else (six 6 (σ a0 0) (if ¬ a1 = (tb0.getD (snx (σ a0 0)) 0) then (some false) else (some true)))))
theorem c_X7_isOf {l0 : Launch} {G : Geo} (a0 : Nat) (h0 : kdC a0 = 7) (a1 : Int32) (σ : Store) (a : Bool) (hf : fX7_isOf  a0 a1 σ = some a) : sCon l0 wCls G yX7_isOf cX7_isOf 2 (some .boolean) (rmL 1 60) [.ref (gad G a0), .int a1] σ (some (.int (b2i a))) σ := by
  refine sCon.of (by decide) ⟨rfl, rfl⟩ (Nat.le_of_ble_eq_true rfl) RX7 rfl _ hf (fun K hK => ?_)
  show sV wCls G K a σ 0 [(0, .ref (gad G a0)), (1, .int a1)] [] _
  unfold fX7_isOf
  refine r_iload_n (q := 1) hK dX7_isOf_0 rfl rfl 1 rfl ?_
  refine r_if_eq (t := 24) (q := 4) hK dX7_isOf_1 rfl rfl (fun c1 => ?_) (fun c1 => ?_)
  · refine r_iconst (q := 25) (v := 1) hK dX7_isOf_24 rfl rfl ?_
    refine r_goto (q := 29) hK dX7_isOf_25 rfl ?_
    exact e_b (b := true) hK dX7_isOf_29
  · refine r_iload_n (q := 5) hK dX7_isOf_4 rfl rfl 1 rfl ?_
    refine r_aload_n (q := 6) hK dX7_isOf_5 rfl rfl 0 rfl ?_
    refine gf_7_0 (q := 9) h0 hK dX7_isOf_6 rfl tw_69 ?_
    refine r_icmp_eq (t := 24) (q := 12) hK dX7_isOf_9 rfl rfl (fun c2 => ?_) (fun c2 => ?_)
    · refine r_iconst (q := 25) (v := 1) hK dX7_isOf_24 rfl rfl ?_
      refine r_goto (q := 29) hK dX7_isOf_25 rfl ?_
      exact e_b (b := true) hK dX7_isOf_29
    · refine r_iload_n (q := 13) hK dX7_isOf_12 rfl rfl 1 rfl ?_
      refine r_gets (i := 0) (q := 16) hK dX7_isOf_13 rfl (fun U h => h.1.1) tw_383 ?_
      refine r_aload_n (q := 17) hK dX7_isOf_16 rfl rfl 0 rfl ?_
      refine gf_7_0 (q := 20) h0 hK dX7_isOf_17 rfl tw_69 ?_
      refine r_sti (q := 21) (f := fun k => tb0.getD k 0) hK dX7_isOf_20 rfl (fun U h => h.1.2) (fun h3 => ?_)
      refine r_icmp_ne (t := 28) (q := 24) hK dX7_isOf_21 rfl rfl (fun c4 => ?_) (fun c4 => ?_)
      · refine r_iconst (q := 29) (v := 0) hK dX7_isOf_28 rfl rfl ?_
        exact e_b (b := false) hK dX7_isOf_29
      · refine r_iconst (q := 25) (v := 1) hK dX7_isOf_24 rfl rfl ?_
        refine r_goto (q := 29) hK dX7_isOf_25 rfl ?_
        exact e_b (b := true) hK dX7_isOf_29
def fX8_as  (a1 : Int32) (a2 : Int32) (σ : Store) : Option Int32 := (sbd (fX0_hasWord 57 a1 σ) fun r1 => (if r1 = true then (sbd (fX8_isKind a2 σ) fun r3 => (if r3 = true then (six 10 a1 (sbd (fX7_isOf (wrd 57 a1) a2 σ) fun r6 => (if r6 = true then (six 10 a1 (some (σ (wrd 57 a1) 2))) else (some (-1000000012 : Int32))))) else (some (-1000000001 : Int32)))) else (some (-1000000001 : Int32))))
theorem c_X8_as {l0 : Launch} {G : Geo} (a1 : Int32) (a2 : Int32) (σ : Store) (a : Int32) (hf : fX8_as  a1 a2 σ = some a) : sCon l0 wCls G yX8_as cX8_as 3 (some .int) (rmL 3 103) [.ref (gad G 0), .int a1, .int a2] σ (some (.int a)) σ := by
  refine sCon.of (by decide) ⟨rfl, rfl⟩ (Nat.le_of_ble_eq_true rfl) RX8 rfl _ hf (fun K hK => ?_)
  show sV wCls G K a σ 0 [(0, .ref (gad G 0)), (1, .int a1), (2, .int a2)] [] _
  unfold fX8_as
  refine r_aload_n (q := 1) hK dX8_as_0 rfl rfl 0 rfl ?_
  refine gf_8_1 (q := 4) (rfl : kdC 0 = 8) hK dX8_as_1 rfl tw_268 ?_
  refine r_iload_n (q := 5) hK dX8_as_4 rfl rfl 1 rfl ?_
  refine callV_b (q := 8) (j := 57) (As := [.int a1]) (rest := []) (f := (fX0_hasWord 57 a1 σ)) hK dX8_as_5 rfl (fun b hb => c_X0_hasWord 57 (rfl : kdC 57 = 0) a1 σ b hb) ⟨0, _, _, _, kd_lt (rfl : kdC 57 = 0) (by decide), rfl, cC0 (rfl : kdC 57 = 0), rfl⟩ mv_X0_hasWord rfl rfl (Nat.le_of_ble_eq_true rfl) tw_327 mw_X0_hasWord (rmOk (Nat.le_of_ble_eq_true rfl) (Nat.le_of_ble_eq_true rfl)) (fun r1 => ?_)
  refine r_ifb_eq (t := 18) (q := 11) hK dX8_as_8 rfl rfl (fun c2 => ?_) (fun c2 => ?_)
  · refine r_iload_n (q := 12) hK dX8_as_11 rfl rfl 2 rfl ?_
    refine callS_b (q := 15) (As := [.int a2]) (rest := []) (f := (fX8_isKind a2 σ)) hK dX8_as_12 rfl (fun b hb => c_X8_isKind a2 σ b hb) ms_X8_isKind rfl rfl (Nat.le_of_ble_eq_true rfl) tw_311 mw_X8_isKind (rmOk (Nat.le_of_ble_eq_true rfl) (Nat.le_of_ble_eq_true rfl)) (fun r3 => ?_)
    refine r_ifb_ne (t := 21) (q := 18) hK dX8_as_15 rfl rfl (fun c4 => ?_) (fun c4 => ?_)
    · refine r_aload_n (q := 22) hK dX8_as_21 rfl rfl 0 rfl ?_
      refine gf_8_1 (q := 25) (rfl : kdC 0 = 8) hK dX8_as_22 rfl tw_268 ?_
      refine gf_0_1 (q := 28) (rfl : kdC 57 = 0) hK dX8_as_25 rfl tw_118 ?_
      refine r_iload_n (q := 29) hK dX8_as_28 rfl rfl 1 rfl ?_
      refine r_aald (q := 30) hK dX8_as_29 rfl (qC13 (kd_bw (rfl : kdC 57 = 0))) (ty := .object RX7) rfl rfl (r := gad G (wrd 57 a1)) rfl (fun h5 => ?_)
      refine r_iload_n (q := 31) hK dX8_as_30 rfl rfl 2 rfl ?_
      refine callV_b (q := 34) (j := (wrd 57 a1)) (As := [.int a2]) (rest := []) (f := (fX7_isOf (wrd 57 a1) a2 σ)) hK dX8_as_31 rfl (fun b hb => c_X7_isOf (wrd 57 a1) (kd_wrd (rfl : kdC 57 = 0) h5) a2 σ b hb) ⟨7, _, _, _, kd_lt (kd_wrd (rfl : kdC 57 = 0) h5) (by decide), rfl, cC7 (kd_wrd (rfl : kdC 57 = 0) h5), rfl⟩ mv_X7_isOf rfl rfl (Nat.le_of_ble_eq_true rfl) tw_379 mw_X7_isOf (rmOk (Nat.le_of_ble_eq_true rfl) (Nat.le_of_ble_eq_true rfl)) (fun r6 => ?_)
      refine r_ifb_eq (t := 52) (q := 37) hK dX8_as_34 rfl rfl (fun c7 => ?_) (fun c7 => ?_)
      · refine r_aload_n (q := 38) hK dX8_as_37 rfl rfl 0 rfl ?_
        refine gf_8_1 (q := 41) (rfl : kdC 0 = 8) hK dX8_as_38 rfl tw_268 ?_
        refine gf_0_1 (q := 44) (rfl : kdC 57 = 0) hK dX8_as_41 rfl tw_118 ?_
        refine r_iload_n (q := 45) hK dX8_as_44 rfl rfl 1 rfl ?_
        refine r_aald (q := 46) hK dX8_as_45 rfl (qC13 (kd_bw (rfl : kdC 57 = 0))) (ty := .object RX7) rfl rfl (r := gad G (wrd 57 a1)) rfl (fun h8 => ?_)
        refine gf_7_2 (q := 49) (kd_wrd (rfl : kdC 57 = 0) h8) hK dX8_as_46 rfl tw_77 ?_
        refine r_goto (q := 54) hK dX8_as_49 rfl ?_
        exact e_i hK dX8_as_54
      · refine r_ldc (q := 54) hK dX8_as_52 rfl tw_385 ?_
        exact e_i hK dX8_as_54
    · refine r_ldc (q := 20) hK dX8_as_18 rfl tw_317 ?_
      exact e_i hK dX8_as_20
  · refine r_ldc (q := 20) hK dX8_as_18 rfl tw_317 ?_
    exact e_i hK dX8_as_20
def fX8_turns  (a1 : Int32) (a2 : Int32) (σ : Store) : Option (Int32 × Store) := (sbd (fX0_hasWord 57 a1 σ) fun r1 => (if r1 = true then (sbd (fX8_isKind a2 σ) fun r3 => (if r3 = true then (six 10 a1 (slt (σ (wrd 57 a1) 0) fun x6 => (six 10 a1 (slt (sup σ (wrd 57 a1) 0 a2) fun s8 => (some (x6, s8)))))) else (some ((-1000000001 : Int32), σ)))) else (some ((-1000000001 : Int32), σ))))
theorem c_X8_turns {l0 : Launch} {G : Geo} (a1 : Int32) (a2 : Int32) (σ : Store) (a : (Int32 × Store)) (hf : fX8_turns  a1 a2 σ = some a) : sCon l0 wCls G yX8_turns cX8_turns 4 (some .int) (rmL 3 103) [.ref (gad G 0), .int a1, .int a2] σ (some (.int a.1)) a.2 := by
  refine sCon.of (by decide) ⟨rfl, rfl⟩ (Nat.le_of_ble_eq_true rfl) RX8 rfl _ hf (fun K hK => ?_)
  show sV wCls G K a σ 0 [(0, .ref (gad G 0)), (1, .int a1), (2, .int a2)] [] _
  unfold fX8_turns
  refine r_aload_n (q := 1) hK dX8_turns_0 rfl rfl 0 rfl ?_
  refine gf_8_1 (q := 4) (rfl : kdC 0 = 8) hK dX8_turns_1 rfl tw_268 ?_
  refine r_iload_n (q := 5) hK dX8_turns_4 rfl rfl 1 rfl ?_
  refine callV_b (q := 8) (j := 57) (As := [.int a1]) (rest := []) (f := (fX0_hasWord 57 a1 σ)) hK dX8_turns_5 rfl (fun b hb => c_X0_hasWord 57 (rfl : kdC 57 = 0) a1 σ b hb) ⟨0, _, _, _, kd_lt (rfl : kdC 57 = 0) (by decide), rfl, cC0 (rfl : kdC 57 = 0), rfl⟩ mv_X0_hasWord rfl rfl (Nat.le_of_ble_eq_true rfl) tw_327 mw_X0_hasWord (rmOk (Nat.le_of_ble_eq_true rfl) (Nat.le_of_ble_eq_true rfl)) (fun r1 => ?_)
  refine r_ifb_eq (t := 18) (q := 11) hK dX8_turns_8 rfl rfl (fun c2 => ?_) (fun c2 => ?_)
  · refine r_iload_n (q := 12) hK dX8_turns_11 rfl rfl 2 rfl ?_
    refine callS_b (q := 15) (As := [.int a2]) (rest := []) (f := (fX8_isKind a2 σ)) hK dX8_turns_12 rfl (fun b hb => c_X8_isKind a2 σ b hb) ms_X8_isKind rfl rfl (Nat.le_of_ble_eq_true rfl) tw_311 mw_X8_isKind (rmOk (Nat.le_of_ble_eq_true rfl) (Nat.le_of_ble_eq_true rfl)) (fun r3 => ?_)
    refine r_ifb_ne (t := 21) (q := 18) hK dX8_turns_15 rfl rfl (fun c4 => ?_) (fun c4 => ?_)
    · refine r_aload_n (q := 22) hK dX8_turns_21 rfl rfl 0 rfl ?_
      refine gf_8_1 (q := 25) (rfl : kdC 0 = 8) hK dX8_turns_22 rfl tw_268 ?_
      refine gf_0_1 (q := 28) (rfl : kdC 57 = 0) hK dX8_turns_25 rfl tw_118 ?_
      refine r_iload_n (q := 29) hK dX8_turns_28 rfl rfl 1 rfl ?_
      refine r_aald (q := 30) hK dX8_turns_29 rfl (qC13 (kd_bw (rfl : kdC 57 = 0))) (ty := .object RX7) rfl rfl (r := gad G (wrd 57 a1)) rfl (fun h5 => ?_)
      refine gf_7_0 (q := 33) (kd_wrd (rfl : kdC 57 = 0) h5) hK dX8_turns_30 rfl tw_71 ?_
      refine sV.ltI (fun x6 => ?_)
      refine r_istore_n (q := 34) (loc' := [(3, .int x6), (0, .ref (gad G 0)), (1, .int a1), (2, .int a2)]) hK dX8_turns_33 rfl rfl (by decide) rfl ?_
      refine r_aload_n (q := 35) hK dX8_turns_34 rfl rfl 1 rfl ?_
      refine gf_8_1 (q := 38) (rfl : kdC 0 = 8) hK dX8_turns_35 rfl tw_268 ?_
      refine gf_0_1 (q := 41) (rfl : kdC 57 = 0) hK dX8_turns_38 rfl tw_118 ?_
      refine r_iload_n (q := 42) hK dX8_turns_41 rfl rfl 2 rfl ?_
      refine r_aald (q := 43) hK dX8_turns_42 rfl (qC13 (kd_bw (rfl : kdC 57 = 0))) (ty := .object RX7) rfl rfl (r := gad G (wrd 57 a1)) rfl (fun h7 => ?_)
      refine r_iload_n (q := 44) hK dX8_turns_43 rfl rfl 3 rfl ?_
      refine pf_7_0 (q := 47) (kd_wrd (rfl : kdC 57 = 0) h7) hK dX8_turns_44 rfl tw_71 ?_
      refine sV.ltS (fun s8 => ?_)
      refine r_iload_n (q := 48) hK dX8_turns_47 rfl rfl 0 rfl ?_
      exact e_iS hK dX8_turns_48
    · refine r_ldc (q := 20) hK dX8_turns_18 rfl tw_317 ?_
      exact e_iS hK dX8_turns_20
  · refine r_ldc (q := 20) hK dX8_turns_18 rfl tw_317 ?_
    exact e_iS hK dX8_turns_20
def fX8_set  (a1 : Int32) (a2 : Int32) (a3 : Int32) (σ : Store) : Option (Int32 × Store) := (sbd (fX0_hasWord 57 a1 σ) fun r1 => (if r1 = true then (six 10 a1 (sjn (fun k61 : Unit → Option (Int32 × Store) => (if ¬ a2 = (1 : Int32) then (k61 ()) else (sbd (fX8_within a3 (1 : Int32) (255 : Int32) σ) fun r25 => (if r25 = true then (slt (σ (wrd 57 a1) 1) fun x27 => (slt (sup σ (wrd 57 a1) 1 a3) fun s28 => (some (x27, s28)))) else (k61 ()))))) (fun (_u : Unit) => (sjn (fun k92 : Unit → Option (Int32 × Store) => (if ¬ a2 = (2 : Int32) then (k92 ()) else (sbd (fX8_within a3 (0 : Int32) (99 : Int32) σ) fun r20 => (if r20 = true then (slt (σ (wrd 57 a1) 2) fun x22 => (slt (sup σ (wrd 57 a1) 2 a3) fun s23 => (some (x22, s23)))) else (k92 ()))))) (fun (_u : Unit) => (if ¬ a2 = (3 : Int32) then (some ((-1000000001 : Int32), σ)) else (sbd (fX8_within a3 (0 : Int32) (99 : Int32) σ) fun r15 => (if r15 = true then (slt (σ (wrd 57 a1) 3) fun x17 => (slt (sup σ (wrd 57 a1) 3 a3) fun s18 => (some (x17, s18)))) else (some ((-1000000001 : Int32), σ)))))))))) else (some ((-1000000001 : Int32), σ))))
theorem c_X8_set {l0 : Launch} {G : Geo} (a1 : Int32) (a2 : Int32) (a3 : Int32) (σ : Store) (a : (Int32 × Store)) (hf : fX8_set  a1 a2 a3 σ = some a) : sCon l0 wCls G yX8_set cX8_set 6 (some .int) (rmL 3 103) [.ref (gad G 0), .int a1, .int a2, .int a3] σ (some (.int a.1)) a.2 := by
  refine sCon.of (by decide) ⟨rfl, rfl⟩ (Nat.le_of_ble_eq_true rfl) RX8 rfl _ hf (fun K hK => ?_)
  show sV wCls G K a σ 0 [(0, .ref (gad G 0)), (1, .int a1), (2, .int a2), (3, .int a3)] [] _
  unfold fX8_set
  refine r_aload_n (q := 1) hK dX8_set_0 rfl rfl 0 rfl ?_
  refine gf_8_1 (q := 4) (rfl : kdC 0 = 8) hK dX8_set_1 rfl tw_268 ?_
  refine r_iload_n (q := 5) hK dX8_set_4 rfl rfl 1 rfl ?_
  refine callV_b (q := 8) (j := 57) (As := [.int a1]) (rest := []) (f := (fX0_hasWord 57 a1 σ)) hK dX8_set_5 rfl (fun b hb => c_X0_hasWord 57 (rfl : kdC 57 = 0) a1 σ b hb) ⟨0, _, _, _, kd_lt (rfl : kdC 57 = 0) (by decide), rfl, cC0 (rfl : kdC 57 = 0), rfl⟩ mv_X0_hasWord rfl rfl (Nat.le_of_ble_eq_true rfl) tw_327 mw_X0_hasWord (rmOk (Nat.le_of_ble_eq_true rfl) (Nat.le_of_ble_eq_true rfl)) (fun r1 => ?_)
  refine r_ifb_ne (t := 14) (q := 11) hK dX8_set_8 rfl rfl (fun c2 => ?_) (fun c2 => ?_)
  · refine r_aload_n (q := 15) hK dX8_set_14 rfl rfl 0 rfl ?_
    refine gf_8_1 (q := 18) (rfl : kdC 0 = 8) hK dX8_set_15 rfl tw_268 ?_
    refine gf_0_1 (q := 21) (rfl : kdC 57 = 0) hK dX8_set_18 rfl tw_118 ?_
    refine r_iload_n (q := 22) hK dX8_set_21 rfl rfl 1 rfl ?_
    refine r_aald (q := 23) hK dX8_set_22 rfl (qC13 (kd_bw (rfl : kdC 57 = 0))) (ty := .object RX7) rfl rfl (r := gad G (wrd 57 a1)) rfl (fun h3 => ?_)
    refine r_astore (q := 25) (loc' := [(4, .ref (gad G (wrd 57 a1))), (0, .ref (gad G 0)), (1, .int a1), (2, .int a2), (3, .int a3)]) hK dX8_set_23 rfl (by decide) rfl ?_
    refine r_ldc (q := 27) hK dX8_set_25 rfl tw_317 ?_
    refine r_istore (q := 29) (loc' := [(5, .int (-1000000001 : Int32)), (4, .ref (gad G (wrd 57 a1))), (0, .ref (gad G 0)), (1, .int a1), (2, .int a2), (3, .int a3)]) hK dX8_set_27 rfl (by decide) rfl ?_
    refine r_iload_n (q := 30) hK dX8_set_29 rfl rfl 4 rfl ?_
    refine r_iconst (q := 31) (v := 1) hK dX8_set_30 rfl rfl ?_
    refine sV.jn (fun k : Unit → Option (Int32 × Store) => ∀ (_u : Unit), sV wCls G K a σ 61 [(0, .ref (gad G 0)), (1, .int a1), (2, .int a2), (3, .int a3), (4, .ref (gad G (wrd 57 a1))), (5, .int (-1000000001 : Int32))] [] (k ())) (fun _ => ?_) (fun k61 hk61 => ?_)
    · refine r_iload_n (q := 62) hK dX8_set_61 rfl rfl 2 rfl ?_
      refine r_iconst (q := 63) (v := 2) hK dX8_set_62 rfl rfl ?_
      refine sV.jn (fun k : Unit → Option (Int32 × Store) => ∀ (_u : Unit), sV wCls G K a σ 92 [(0, .ref (gad G 0)), (1, .int a1), (2, .int a2), (3, .int a3), (4, .ref (gad G (wrd 57 a1))), (5, .int (-1000000001 : Int32))] [] (k ())) (fun _ => ?_) (fun k92 hk92 => ?_)
      · refine r_iload_n (q := 93) hK dX8_set_92 rfl rfl 2 rfl ?_
        refine r_iconst (q := 94) (v := 3) hK dX8_set_93 rfl rfl ?_
        refine r_icmp_ne (t := 120) (q := 97) hK dX8_set_94 rfl rfl (fun c14 => ?_) (fun c14 => ?_)
        · refine r_iload (q := 122) hK dX8_set_120 rfl 5 rfl ?_
          exact e_iS hK dX8_set_122
        · refine r_iload_n (q := 98) hK dX8_set_97 rfl rfl 3 rfl ?_
          refine r_iconst (q := 99) (v := 0) hK dX8_set_98 rfl rfl ?_
          refine r_bipush (q := 101) (v := 99) hK dX8_set_99 rfl rfl ?_
          refine callS_b (q := 104) (As := [.int a3, .int (0 : Int32), .int (99 : Int32)]) (rest := []) (f := (fX8_within a3 (0 : Int32) (99 : Int32) σ)) hK dX8_set_101 rfl (fun b hb => c_X8_within a3 (0 : Int32) (99 : Int32) σ b hb) ms_X8_within rfl rfl (Nat.le_of_ble_eq_true rfl) tw_314 mw_X8_within (rmOk (Nat.le_of_ble_eq_true rfl) (Nat.le_of_ble_eq_true rfl)) (fun r15 => ?_)
          refine r_ifb_eq (t := 120) (q := 107) hK dX8_set_104 rfl rfl (fun c16 => ?_) (fun c16 => ?_)
          · refine r_aload (q := 109) hK dX8_set_107 rfl 4 rfl ?_
            refine gf_7_3 (q := 112) (kd_wrd (rfl : kdC 57 = 0) h3) hK dX8_set_109 rfl tw_80 ?_
            refine sV.ltI (fun x17 => ?_)
            refine r_istore (q := 114) (loc' := [(5, .int x17), (0, .ref (gad G 0)), (1, .int a1), (2, .int a2), (3, .int a3), (4, .ref (gad G (wrd 57 a1)))]) hK dX8_set_112 rfl (by decide) rfl ?_
            refine r_aload (q := 116) hK dX8_set_114 rfl 5 rfl ?_
            refine r_iload_n (q := 117) hK dX8_set_116 rfl rfl 4 rfl ?_
            refine pf_7_3 (q := 120) (kd_wrd (rfl : kdC 57 = 0) h3) hK dX8_set_117 rfl tw_80 ?_
            refine sV.ltS (fun s18 => ?_)
            refine r_iload (q := 122) hK dX8_set_120 rfl 0 rfl ?_
            exact e_iS hK dX8_set_122
          · refine r_iload (q := 122) hK dX8_set_120 rfl 5 rfl ?_
            exact e_iS hK dX8_set_122
      · refine r_icmp_ne (t := 92) (q := 66) hK dX8_set_63 rfl rfl (fun c19 => ?_) (fun c19 => ?_)
        · exact sV.sub [0, 1, 2, 3, 4, 5] (by rfl) (hk92 ())
        · refine r_iload_n (q := 67) hK dX8_set_66 rfl rfl 3 rfl ?_
          refine r_iconst (q := 68) (v := 0) hK dX8_set_67 rfl rfl ?_
          refine r_bipush (q := 70) (v := 99) hK dX8_set_68 rfl rfl ?_
          refine callS_b (q := 73) (As := [.int a3, .int (0 : Int32), .int (99 : Int32)]) (rest := []) (f := (fX8_within a3 (0 : Int32) (99 : Int32) σ)) hK dX8_set_70 rfl (fun b hb => c_X8_within a3 (0 : Int32) (99 : Int32) σ b hb) ms_X8_within rfl rfl (Nat.le_of_ble_eq_true rfl) tw_314 mw_X8_within (rmOk (Nat.le_of_ble_eq_true rfl) (Nat.le_of_ble_eq_true rfl)) (fun r20 => ?_)
          refine r_ifb_eq (t := 92) (q := 76) hK dX8_set_73 rfl rfl (fun c21 => ?_) (fun c21 => ?_)
          · refine r_aload (q := 78) hK dX8_set_76 rfl 4 rfl ?_
            refine gf_7_2 (q := 81) (kd_wrd (rfl : kdC 57 = 0) h3) hK dX8_set_78 rfl tw_77 ?_
            refine sV.ltI (fun x22 => ?_)
            refine r_istore (q := 83) (loc' := [(5, .int x22), (0, .ref (gad G 0)), (1, .int a1), (2, .int a2), (3, .int a3), (4, .ref (gad G (wrd 57 a1)))]) hK dX8_set_81 rfl (by decide) rfl ?_
            refine r_aload (q := 85) hK dX8_set_83 rfl 5 rfl ?_
            refine r_iload_n (q := 86) hK dX8_set_85 rfl rfl 4 rfl ?_
            refine pf_7_2 (q := 89) (kd_wrd (rfl : kdC 57 = 0) h3) hK dX8_set_86 rfl tw_77 ?_
            refine sV.ltS (fun s23 => ?_)
            refine r_goto (q := 120) hK dX8_set_89 rfl ?_
            refine r_iload (q := 122) hK dX8_set_120 rfl 0 rfl ?_
            exact e_iS hK dX8_set_122
          · exact sV.sub [0, 1, 2, 3, 4, 5] (by rfl) (hk92 ())
    · refine r_icmp_ne (t := 61) (q := 34) hK dX8_set_31 rfl rfl (fun c24 => ?_) (fun c24 => ?_)
      · exact sV.sub [2, 3, 4, 5, 1, 0] (by rfl) (hk61 ())
      · refine r_iload_n (q := 35) hK dX8_set_34 rfl rfl 5 rfl ?_
        refine r_iconst (q := 36) (v := 1) hK dX8_set_35 rfl rfl ?_
        refine r_sipush (q := 39) (v := 255) hK dX8_set_36 rfl rfl ?_
        refine callS_b (q := 42) (As := [.int a3, .int (1 : Int32), .int (255 : Int32)]) (rest := []) (f := (fX8_within a3 (1 : Int32) (255 : Int32) σ)) hK dX8_set_39 rfl (fun b hb => c_X8_within a3 (1 : Int32) (255 : Int32) σ b hb) ms_X8_within rfl rfl (Nat.le_of_ble_eq_true rfl) tw_314 mw_X8_within (rmOk (Nat.le_of_ble_eq_true rfl) (Nat.le_of_ble_eq_true rfl)) (fun r25 => ?_)
        refine r_ifb_eq (t := 61) (q := 45) hK dX8_set_42 rfl rfl (fun c26 => ?_) (fun c26 => ?_)
        · refine r_aload (q := 47) hK dX8_set_45 rfl 1 rfl ?_
          refine gf_7_1 (q := 50) (kd_wrd (rfl : kdC 57 = 0) h3) hK dX8_set_47 rfl tw_74 ?_
          refine sV.ltI (fun x27 => ?_)
          refine r_istore (q := 52) (loc' := [(5, .int x27), (4, .ref (gad G (wrd 57 a1))), (0, .ref (gad G 0)), (1, .int a1), (2, .int a2), (3, .int a3)]) hK dX8_set_50 rfl (by decide) rfl ?_
          refine r_aload (q := 54) hK dX8_set_52 rfl 1 rfl ?_
          refine r_iload_n (q := 55) hK dX8_set_54 rfl rfl 5 rfl ?_
          refine pf_7_1 (q := 58) (kd_wrd (rfl : kdC 57 = 0) h3) hK dX8_set_55 rfl tw_74 ?_
          refine sV.ltS (fun s28 => ?_)
          refine r_goto (q := 120) hK dX8_set_58 rfl ?_
          refine r_iload (q := 122) hK dX8_set_120 rfl 0 rfl ?_
          exact e_iS hK dX8_set_122
        · exact sV.sub [2, 3, 4, 5, 1, 0] (by rfl) (hk61 ())
  · refine r_ldc (q := 13) hK dX8_set_11 rfl tw_317 ?_
    exact e_iS hK dX8_set_13
def fX0_addTraveller  (a0 : Nat) (σ : Store) : Option (Int32 × Store) := (six 6 (σ a0 4) (slt (sup σ (trv a0 (σ a0 4)) 0 (0 : Int32)) fun s2 => (slt (sup s2 (trv a0 (σ a0 4)) 1 (0 : Int32)) fun s3 => (slt (s3 a0 4) fun x4 => (slt (sup s3 a0 4 (x4 + (1 : Int32))) fun s5 => (some (x4, s5)))))))
theorem c_X0_addTraveller {l0 : Launch} {G : Geo} (a0 : Nat) (h0 : kdC a0 = 0) (σ : Store) (a : (Int32 × Store)) (hf : fX0_addTraveller  a0 σ = some a) : sCon l0 wCls G yX0_addTraveller cX0_addTraveller 2 (some .int) (rmL 1 60) [.ref (gad G a0)] σ (some (.int a.1)) a.2 := by
  refine sCon.of (by decide) ⟨rfl, rfl⟩ (Nat.le_of_ble_eq_true rfl) RX0 rfl _ hf (fun K hK => ?_)
  show sV wCls G K a σ 0 [(0, .ref (gad G a0))] [] _
  unfold fX0_addTraveller
  refine r_aload_n (q := 1) hK dX0_addTraveller_0 rfl rfl 0 rfl ?_
  refine gf_0_2 (q := 4) h0 hK dX0_addTraveller_1 rfl tw_120 ?_
  refine r_aload_n (q := 5) hK dX0_addTraveller_4 rfl rfl 0 rfl ?_
  refine gf_0_4 (q := 8) h0 hK dX0_addTraveller_5 rfl tw_125 ?_
  refine r_aald (q := 9) hK dX0_addTraveller_8 rfl (qC12 (kd_bt h0)) (ty := .object RX6) rfl rfl (r := gad G (trv a0 (σ a0 4))) rfl (fun h1 => ?_)
  refine r_astore_n (q := 10) (loc' := [(1, .ref (gad G (trv a0 (σ a0 4)))), (0, .ref (gad G a0))]) hK dX0_addTraveller_9 rfl rfl (by decide) rfl ?_
  refine r_aload_n (q := 11) hK dX0_addTraveller_10 rfl rfl 0 rfl ?_
  refine r_iconst (q := 12) (v := 0) hK dX0_addTraveller_11 rfl rfl ?_
  refine pf_6_0 (q := 15) (kd_trv h0 h1) hK dX0_addTraveller_12 rfl tw_106 ?_
  refine sV.ltS (fun s2 => ?_)
  refine r_aload_n (q := 16) hK dX0_addTraveller_15 rfl rfl 0 rfl ?_
  refine r_iconst (q := 17) (v := 0) hK dX0_addTraveller_16 rfl rfl ?_
  refine pf_6_1 (q := 20) (kd_trv h0 h1) hK dX0_addTraveller_17 rfl tw_109 ?_
  refine sV.ltS (fun s3 => ?_)
  refine r_aload_n (q := 21) hK dX0_addTraveller_20 rfl rfl 1 rfl ?_
  refine r_dup (q := 22) hK dX0_addTraveller_21 rfl rfl ?_
  refine gf_0_4 (q := 25) h0 hK dX0_addTraveller_22 rfl tw_125 ?_
  refine sV.ltI (fun x4 => ?_)
  refine r_dup_x1 (q := 26) hK dX0_addTraveller_25 rfl rfl rfl ?_
  refine r_iconst (q := 27) (v := 1) hK dX0_addTraveller_26 rfl rfl ?_
  refine r_iadd (q := 28) hK dX0_addTraveller_27 rfl ?_
  refine pf_0_4 (q := 31) h0 hK dX0_addTraveller_28 rfl tw_125 ?_
  refine sV.ltS (fun s5 => ?_)
  exact e_iS hK dX0_addTraveller_31
def fX8_traveller   (σ : Store) : Option (Int32 × Store) := (if (σ 57 4) < (6 : Int32) then (sbd2 (fX0_addTraveller 57 σ) fun r2 s3 => (some (r2, s3))) else (some ((-1000000003 : Int32), σ)))
theorem c_X8_traveller {l0 : Launch} {G : Geo}  (σ : Store) (a : (Int32 × Store)) (hf : fX8_traveller   σ = some a) : sCon l0 wCls G yX8_traveller cX8_traveller 1 (some .int) (rmL 2 81) [.ref (gad G 0)] σ (some (.int a.1)) a.2 := by
  refine sCon.of (by decide) ⟨rfl, rfl⟩ (Nat.le_of_ble_eq_true rfl) RX8 rfl _ hf (fun K hK => ?_)
  show sV wCls G K a σ 0 [(0, .ref (gad G 0))] [] _
  unfold fX8_traveller
  refine r_aload_n (q := 1) hK dX8_traveller_0 rfl rfl 0 rfl ?_
  refine gf_8_1 (q := 4) (rfl : kdC 0 = 8) hK dX8_traveller_1 rfl tw_268 ?_
  refine gf_0_4 (q := 7) (rfl : kdC 57 = 0) hK dX8_traveller_4 rfl tw_126 ?_
  refine r_bipush (q := 9) (v := 6) hK dX8_traveller_7 rfl rfl ?_
  refine r_icmp_lt (t := 15) (q := 12) hK dX8_traveller_9 rfl rfl (fun c1 => ?_) (fun c1 => ?_)
  · refine r_aload_n (q := 16) hK dX8_traveller_15 rfl rfl 0 rfl ?_
    refine gf_8_1 (q := 19) (rfl : kdC 0 = 8) hK dX8_traveller_16 rfl tw_268 ?_
    refine callV_iS (q := 22) (j := 57) (As := []) (rest := []) (f := (fX0_addTraveller 57 σ)) hK dX8_traveller_19 rfl (fun b hb => c_X0_addTraveller 57 (rfl : kdC 57 = 0) σ b hb) ⟨0, _, _, _, kd_lt (rfl : kdC 57 = 0) (by decide), rfl, cC0 (rfl : kdC 57 = 0), rfl⟩ mv_X0_addTraveller rfl rfl (Nat.le_of_ble_eq_true rfl) tw_398 mw_X0_addTraveller (rmOk (Nat.le_of_ble_eq_true rfl) (Nat.le_of_ble_eq_true rfl)) (fun r2 s3 => ?_)
    exact e_iS hK dX8_traveller_22
  · refine r_ldc (q := 14) hK dX8_traveller_12 rfl tw_318 ?_
    exact e_iS hK dX8_traveller_14
def fX0_hasTraveller  (a0 : Nat) (a1 : Int32) (σ : Store) : Option Bool := (sbd (fX8_within a1 (0 : Int32) ((σ a0 4) - (1 : Int32)) σ) fun r1 => (some r1))
theorem c_X0_hasTraveller {l0 : Launch} {G : Geo} (a0 : Nat) (h0 : kdC a0 = 0) (a1 : Int32) (σ : Store) (a : Bool) (hf : fX0_hasTraveller  a0 a1 σ = some a) : sCon l0 wCls G yX0_hasTraveller cX0_hasTraveller 2 (some .boolean) (rmL 2 82) [.ref (gad G a0), .int a1] σ (some (.int (b2i a))) σ := by
  refine sCon.of (by decide) ⟨rfl, rfl⟩ (Nat.le_of_ble_eq_true rfl) RX0 rfl _ hf (fun K hK => ?_)
  show sV wCls G K a σ 0 [(0, .ref (gad G a0)), (1, .int a1)] [] _
  unfold fX0_hasTraveller
  refine r_iload_n (q := 1) hK dX0_hasTraveller_0 rfl rfl 1 rfl ?_
  refine r_iconst (q := 2) (v := 0) hK dX0_hasTraveller_1 rfl rfl ?_
  refine r_aload_n (q := 3) hK dX0_hasTraveller_2 rfl rfl 0 rfl ?_
  refine gf_0_4 (q := 6) h0 hK dX0_hasTraveller_3 rfl tw_125 ?_
  refine r_iconst (q := 7) (v := 1) hK dX0_hasTraveller_6 rfl rfl ?_
  refine r_isub (q := 8) hK dX0_hasTraveller_7 rfl ?_
  refine callN_b (q := 11) (host := RX8) (As := [.int a1, .int (0 : Int32), .int ((σ a0 4) - (1 : Int32))]) (rest := []) (f := (fX8_within a1 (0 : Int32) ((σ a0 4) - (1 : Int32)) σ)) hK dX0_hasTraveller_8 rfl (fun b hb => c_X8_within a1 (0 : Int32) ((σ a0 4) - (1 : Int32)) σ b hb) (fun s h => h.1) ms_X8_within rfl rfl (Nat.le_of_ble_eq_true rfl) mw_X8_within (rmOk (Nat.le_of_ble_eq_true rfl) (Nat.le_of_ble_eq_true rfl)) (fun r1 => ?_)
  exact e_b (b := r1) hK dX0_hasTraveller_11
def fX8_travels  (a1 : Int32) (a2 : Int32) (σ : Store) : Option Int32 := (sbd (fX0_hasTraveller 57 a1 σ) fun r1 => (if r1 = true then (sbd (fX8_within a2 (0 : Int32) (1 : Int32) σ) fun r3 => (if r3 = true then (six 6 a1 (if ¬ a2 = 0 then (some (σ (trv 57 a1) 1)) else (some (σ (trv 57 a1) 0)))) else (some (-1000000001 : Int32)))) else (some (-1000000001 : Int32))))
theorem c_X8_travels {l0 : Launch} {G : Geo} (a1 : Int32) (a2 : Int32) (σ : Store) (a : Int32) (hf : fX8_travels  a1 a2 σ = some a) : sCon l0 wCls G yX8_travels cX8_travels 4 (some .int) (rmL 3 103) [.ref (gad G 0), .int a1, .int a2] σ (some (.int a)) σ := by
  refine sCon.of (by decide) ⟨rfl, rfl⟩ (Nat.le_of_ble_eq_true rfl) RX8 rfl _ hf (fun K hK => ?_)
  show sV wCls G K a σ 0 [(0, .ref (gad G 0)), (1, .int a1), (2, .int a2)] [] _
  unfold fX8_travels
  refine r_aload_n (q := 1) hK dX8_travels_0 rfl rfl 0 rfl ?_
  refine gf_8_1 (q := 4) (rfl : kdC 0 = 8) hK dX8_travels_1 rfl tw_268 ?_
  refine r_iload_n (q := 5) hK dX8_travels_4 rfl rfl 1 rfl ?_
  refine callV_b (q := 8) (j := 57) (As := [.int a1]) (rest := []) (f := (fX0_hasTraveller 57 a1 σ)) hK dX8_travels_5 rfl (fun b hb => c_X0_hasTraveller 57 (rfl : kdC 57 = 0) a1 σ b hb) ⟨0, _, _, _, kd_lt (rfl : kdC 57 = 0) (by decide), rfl, cC0 (rfl : kdC 57 = 0), rfl⟩ mv_X0_hasTraveller rfl rfl (Nat.le_of_ble_eq_true rfl) tw_406 mw_X0_hasTraveller (rmOk (Nat.le_of_ble_eq_true rfl) (Nat.le_of_ble_eq_true rfl)) (fun r1 => ?_)
  refine r_ifb_eq (t := 20) (q := 11) hK dX8_travels_8 rfl rfl (fun c2 => ?_) (fun c2 => ?_)
  · refine r_iload_n (q := 12) hK dX8_travels_11 rfl rfl 2 rfl ?_
    refine r_iconst (q := 13) (v := 0) hK dX8_travels_12 rfl rfl ?_
    refine r_iconst (q := 14) (v := 1) hK dX8_travels_13 rfl rfl ?_
    refine callS_b (q := 17) (As := [.int a2, .int (0 : Int32), .int (1 : Int32)]) (rest := []) (f := (fX8_within a2 (0 : Int32) (1 : Int32) σ)) hK dX8_travels_14 rfl (fun b hb => c_X8_within a2 (0 : Int32) (1 : Int32) σ b hb) ms_X8_within rfl rfl (Nat.le_of_ble_eq_true rfl) tw_314 mw_X8_within (rmOk (Nat.le_of_ble_eq_true rfl) (Nat.le_of_ble_eq_true rfl)) (fun r3 => ?_)
    refine r_ifb_ne (t := 23) (q := 20) hK dX8_travels_17 rfl rfl (fun c4 => ?_) (fun c4 => ?_)
    · refine r_aload_n (q := 24) hK dX8_travels_23 rfl rfl 0 rfl ?_
      refine gf_8_1 (q := 27) (rfl : kdC 0 = 8) hK dX8_travels_24 rfl tw_268 ?_
      refine gf_0_2 (q := 30) (rfl : kdC 57 = 0) hK dX8_travels_27 rfl tw_121 ?_
      refine r_iload_n (q := 31) hK dX8_travels_30 rfl rfl 1 rfl ?_
      refine r_aald (q := 32) hK dX8_travels_31 rfl (qC12 (kd_bt (rfl : kdC 57 = 0))) (ty := .object RX6) rfl rfl (r := gad G (trv 57 a1)) rfl (fun h5 => ?_)
      refine r_astore_n (q := 33) (loc' := [(3, .ref (gad G (trv 57 a1))), (0, .ref (gad G 0)), (1, .int a1), (2, .int a2)]) hK dX8_travels_32 rfl rfl (by decide) rfl ?_
      refine r_iload_n (q := 34) hK dX8_travels_33 rfl rfl 3 rfl ?_
      refine r_if_ne (t := 44) (q := 37) hK dX8_travels_34 rfl rfl (fun c6 => ?_) (fun c6 => ?_)
      · refine r_aload_n (q := 45) hK dX8_travels_44 rfl rfl 0 rfl ?_
        refine gf_6_1 (q := 48) (kd_trv (rfl : kdC 57 = 0) h5) hK dX8_travels_45 rfl tw_110 ?_
        exact e_i hK dX8_travels_48
      · refine r_aload_n (q := 38) hK dX8_travels_37 rfl rfl 0 rfl ?_
        refine gf_6_0 (q := 41) (kd_trv (rfl : kdC 57 = 0) h5) hK dX8_travels_38 rfl tw_107 ?_
        refine r_goto (q := 48) hK dX8_travels_41 rfl ?_
        exact e_i hK dX8_travels_48
    · refine r_ldc (q := 22) hK dX8_travels_20 rfl tw_317 ?_
      exact e_i hK dX8_travels_22
  · refine r_ldc (q := 22) hK dX8_travels_20 rfl tw_317 ?_
    exact e_i hK dX8_travels_22
def fX0_allWords  (a0 : Nat) (σ : Store) : Option Int32 := (some (((1 : Int32) <<< ((σ a0 3) &&& 31)) - (1 : Int32)))
theorem c_X0_allWords {l0 : Launch} {G : Geo} (a0 : Nat) (h0 : kdC a0 = 0) (σ : Store) (a : Int32) (hf : fX0_allWords  a0 σ = some a) : sCon l0 wCls G yX0_allWords cX0_allWords 1 (some .int) (rmL 1 60) [.ref (gad G a0)] σ (some (.int a)) σ := by
  refine sCon.of (by decide) ⟨rfl, rfl⟩ (Nat.le_of_ble_eq_true rfl) RX0 rfl _ hf (fun K hK => ?_)
  show sV wCls G K a σ 0 [(0, .ref (gad G a0))] [] _
  unfold fX0_allWords
  refine r_iconst (q := 1) (v := 1) hK dX0_allWords_0 rfl rfl ?_
  refine r_aload_n (q := 2) hK dX0_allWords_1 rfl rfl 0 rfl ?_
  refine gf_0_3 (q := 5) h0 hK dX0_allWords_2 rfl tw_122 ?_
  refine r_ishl (q := 6) hK dX0_allWords_5 rfl ?_
  refine r_iconst (q := 7) (v := 1) hK dX0_allWords_6 rfl rfl ?_
  refine r_isub (q := 8) hK dX0_allWords_7 rfl ?_
  exact e_i hK dX0_allWords_8
def fX0_hasAll  (a0 : Nat) (a1 : Int32) (σ : Store) : Option Bool := (sbd (fX0_allWords a0 σ) fun r1 => (sbd (fX8_within a1 (0 : Int32) r1 σ) fun r2 => (some r2)))
theorem c_X0_hasAll {l0 : Launch} {G : Geo} (a0 : Nat) (h0 : kdC a0 = 0) (a1 : Int32) (σ : Store) (a : Bool) (hf : fX0_hasAll  a0 a1 σ = some a) : sCon l0 wCls G yX0_hasAll cX0_hasAll 2 (some .boolean) (rmL 2 82) [.ref (gad G a0), .int a1] σ (some (.int (b2i a))) σ := by
  refine sCon.of (by decide) ⟨rfl, rfl⟩ (Nat.le_of_ble_eq_true rfl) RX0 rfl _ hf (fun K hK => ?_)
  show sV wCls G K a σ 0 [(0, .ref (gad G a0)), (1, .int a1)] [] _
  unfold fX0_hasAll
  refine r_iload_n (q := 1) hK dX0_hasAll_0 rfl rfl 1 rfl ?_
  refine r_iconst (q := 2) (v := 0) hK dX0_hasAll_1 rfl rfl ?_
  refine r_aload_n (q := 3) hK dX0_hasAll_2 rfl rfl 0 rfl ?_
  refine callV_i (q := 6) (j := a0) (As := []) (rest := [.int (0 : Int32), .int a1]) (f := (fX0_allWords a0 σ)) hK dX0_hasAll_3 rfl (fun b hb => c_X0_allWords a0 h0 σ b hb) ⟨0, _, _, _, kd_lt h0 (by decide), rfl, cC0 h0, rfl⟩ mv_X0_allWords rfl rfl (Nat.le_of_ble_eq_true rfl) tw_418 mw_X0_allWords (rmOk (Nat.le_of_ble_eq_true rfl) (Nat.le_of_ble_eq_true rfl)) (fun r1 => ?_)
  refine callN_b (q := 9) (host := RX8) (As := [.int a1, .int (0 : Int32), .int r1]) (rest := []) (f := (fX8_within a1 (0 : Int32) r1 σ)) hK dX0_hasAll_6 rfl (fun b hb => c_X8_within a1 (0 : Int32) r1 σ b hb) (fun s h => h.1) ms_X8_within rfl rfl (Nat.le_of_ble_eq_true rfl) mw_X8_within (rmOk (Nat.le_of_ble_eq_true rfl) (Nat.le_of_ble_eq_true rfl)) (fun r2 => ?_)
  exact e_b (b := r2) hK dX0_hasAll_9
def fX8_gives  (a1 : Int32) (a2 : Int32) (σ : Store) : Option (Int32 × Store) := (sbd (fX0_hasTraveller 57 a1 σ) fun r1 => (if r1 = true then (sbd (fX0_hasAll 57 a2 σ) fun r3 => (if r3 = true then (six 6 a1 (slt (σ (trv 57 a1) 0) fun x6 => (six 6 a1 (slt (sup σ (trv 57 a1) 0 a2) fun s8 => (some (x6, s8)))))) else (some ((-1000000001 : Int32), σ)))) else (some ((-1000000001 : Int32), σ))))
theorem c_X8_gives {l0 : Launch} {G : Geo} (a1 : Int32) (a2 : Int32) (σ : Store) (a : (Int32 × Store)) (hf : fX8_gives  a1 a2 σ = some a) : sCon l0 wCls G yX8_gives cX8_gives 4 (some .int) (rmL 3 103) [.ref (gad G 0), .int a1, .int a2] σ (some (.int a.1)) a.2 := by
  refine sCon.of (by decide) ⟨rfl, rfl⟩ (Nat.le_of_ble_eq_true rfl) RX8 rfl _ hf (fun K hK => ?_)
  show sV wCls G K a σ 0 [(0, .ref (gad G 0)), (1, .int a1), (2, .int a2)] [] _
  unfold fX8_gives
  refine r_aload_n (q := 1) hK dX8_gives_0 rfl rfl 0 rfl ?_
  refine gf_8_1 (q := 4) (rfl : kdC 0 = 8) hK dX8_gives_1 rfl tw_268 ?_
  refine r_iload_n (q := 5) hK dX8_gives_4 rfl rfl 1 rfl ?_
  refine callV_b (q := 8) (j := 57) (As := [.int a1]) (rest := []) (f := (fX0_hasTraveller 57 a1 σ)) hK dX8_gives_5 rfl (fun b hb => c_X0_hasTraveller 57 (rfl : kdC 57 = 0) a1 σ b hb) ⟨0, _, _, _, kd_lt (rfl : kdC 57 = 0) (by decide), rfl, cC0 (rfl : kdC 57 = 0), rfl⟩ mv_X0_hasTraveller rfl rfl (Nat.le_of_ble_eq_true rfl) tw_406 mw_X0_hasTraveller (rmOk (Nat.le_of_ble_eq_true rfl) (Nat.le_of_ble_eq_true rfl)) (fun r1 => ?_)
  refine r_ifb_eq (t := 22) (q := 11) hK dX8_gives_8 rfl rfl (fun c2 => ?_) (fun c2 => ?_)
  · refine r_aload_n (q := 12) hK dX8_gives_11 rfl rfl 0 rfl ?_
    refine gf_8_1 (q := 15) (rfl : kdC 0 = 8) hK dX8_gives_12 rfl tw_268 ?_
    refine r_iload_n (q := 16) hK dX8_gives_15 rfl rfl 2 rfl ?_
    refine callV_b (q := 19) (j := 57) (As := [.int a2]) (rest := []) (f := (fX0_hasAll 57 a2 σ)) hK dX8_gives_16 rfl (fun b hb => c_X0_hasAll 57 (rfl : kdC 57 = 0) a2 σ b hb) ⟨0, _, _, _, kd_lt (rfl : kdC 57 = 0) (by decide), rfl, cC0 (rfl : kdC 57 = 0), rfl⟩ mv_X0_hasAll rfl rfl (Nat.le_of_ble_eq_true rfl) tw_414 mw_X0_hasAll (rmOk (Nat.le_of_ble_eq_true rfl) (Nat.le_of_ble_eq_true rfl)) (fun r3 => ?_)
    refine r_ifb_ne (t := 25) (q := 22) hK dX8_gives_19 rfl rfl (fun c4 => ?_) (fun c4 => ?_)
    · refine r_aload_n (q := 26) hK dX8_gives_25 rfl rfl 0 rfl ?_
      refine gf_8_1 (q := 29) (rfl : kdC 0 = 8) hK dX8_gives_26 rfl tw_268 ?_
      refine gf_0_2 (q := 32) (rfl : kdC 57 = 0) hK dX8_gives_29 rfl tw_121 ?_
      refine r_iload_n (q := 33) hK dX8_gives_32 rfl rfl 1 rfl ?_
      refine r_aald (q := 34) hK dX8_gives_33 rfl (qC12 (kd_bt (rfl : kdC 57 = 0))) (ty := .object RX6) rfl rfl (r := gad G (trv 57 a1)) rfl (fun h5 => ?_)
      refine gf_6_0 (q := 37) (kd_trv (rfl : kdC 57 = 0) h5) hK dX8_gives_34 rfl tw_107 ?_
      refine sV.ltI (fun x6 => ?_)
      refine r_istore_n (q := 38) (loc' := [(3, .int x6), (0, .ref (gad G 0)), (1, .int a1), (2, .int a2)]) hK dX8_gives_37 rfl rfl (by decide) rfl ?_
      refine r_aload_n (q := 39) hK dX8_gives_38 rfl rfl 1 rfl ?_
      refine gf_8_1 (q := 42) (rfl : kdC 0 = 8) hK dX8_gives_39 rfl tw_268 ?_
      refine gf_0_2 (q := 45) (rfl : kdC 57 = 0) hK dX8_gives_42 rfl tw_121 ?_
      refine r_iload_n (q := 46) hK dX8_gives_45 rfl rfl 2 rfl ?_
      refine r_aald (q := 47) hK dX8_gives_46 rfl (qC12 (kd_bt (rfl : kdC 57 = 0))) (ty := .object RX6) rfl rfl (r := gad G (trv 57 a1)) rfl (fun h7 => ?_)
      refine r_iload_n (q := 48) hK dX8_gives_47 rfl rfl 3 rfl ?_
      refine pf_6_0 (q := 51) (kd_trv (rfl : kdC 57 = 0) h7) hK dX8_gives_48 rfl tw_107 ?_
      refine sV.ltS (fun s8 => ?_)
      refine r_iload_n (q := 52) hK dX8_gives_51 rfl rfl 0 rfl ?_
      exact e_iS hK dX8_gives_52
    · refine r_ldc (q := 24) hK dX8_gives_22 rfl tw_317 ?_
      exact e_iS hK dX8_gives_24
  · refine r_ldc (q := 24) hK dX8_gives_22 rfl tw_317 ?_
    exact e_iS hK dX8_gives_24
def fX8_rule  (a1 : Int32) (a2 : Int32) (σ : Store) : Option (Int32 × Store) := (sjn (fun k36 : Unit → Option (Int32 × Store) => (if ¬ a1 = 0 then (k36 ()) else (sbd (fX8_within a2 (1 : Int32) (10 : Int32) σ) fun r12 => (if r12 = true then (slt (σ 57 7) fun x14 => (slt (sup σ 57 7 a2) fun s15 => (some (x14, s15)))) else (k36 ()))))) (fun (_u : Unit) => (if ¬ a1 = (1 : Int32) then (some ((-1000000001 : Int32), σ)) else (sbd (fX8_within a2 (0 : Int32) (100 : Int32) σ) fun r7 => (if r7 = true then (slt (σ 57 8) fun x9 => (slt (sup σ 57 8 a2) fun s10 => (some (x9, s10)))) else (some ((-1000000001 : Int32), σ)))))))
theorem c_X8_rule {l0 : Launch} {G : Geo} (a1 : Int32) (a2 : Int32) (σ : Store) (a : (Int32 × Store)) (hf : fX8_rule  a1 a2 σ = some a) : sCon l0 wCls G yX8_rule cX8_rule 4 (some .int) (rmL 2 82) [.ref (gad G 0), .int a1, .int a2] σ (some (.int a.1)) a.2 := by
  refine sCon.of (by decide) ⟨rfl, rfl⟩ (Nat.le_of_ble_eq_true rfl) RX8 rfl _ hf (fun K hK => ?_)
  show sV wCls G K a σ 0 [(0, .ref (gad G 0)), (1, .int a1), (2, .int a2)] [] _
  unfold fX8_rule
  refine r_ldc (q := 2) hK dX8_rule_0 rfl tw_317 ?_
  refine r_istore_n (q := 3) (loc' := [(3, .int (-1000000001 : Int32)), (0, .ref (gad G 0)), (1, .int a1), (2, .int a2)]) hK dX8_rule_2 rfl rfl (by decide) rfl ?_
  refine r_iload_n (q := 4) hK dX8_rule_3 rfl rfl 2 rfl ?_
  refine sV.jn (fun k : Unit → Option (Int32 × Store) => ∀ (_u : Unit), sV wCls G K a σ 36 [(0, .ref (gad G 0)), (1, .int a1), (2, .int a2), (3, .int (-1000000001 : Int32))] [] (k ())) (fun _ => ?_) (fun k36 hk36 => ?_)
  · refine r_iload_n (q := 37) hK dX8_rule_36 rfl rfl 1 rfl ?_
    refine r_iconst (q := 38) (v := 1) hK dX8_rule_37 rfl rfl ?_
    refine r_icmp_ne (t := 67) (q := 41) hK dX8_rule_38 rfl rfl (fun c6 => ?_) (fun c6 => ?_)
    · refine r_iload_n (q := 68) hK dX8_rule_67 rfl rfl 3 rfl ?_
      exact e_iS hK dX8_rule_68
    · refine r_iload_n (q := 42) hK dX8_rule_41 rfl rfl 2 rfl ?_
      refine r_iconst (q := 43) (v := 0) hK dX8_rule_42 rfl rfl ?_
      refine r_bipush (q := 45) (v := 100) hK dX8_rule_43 rfl rfl ?_
      refine callS_b (q := 48) (As := [.int a2, .int (0 : Int32), .int (100 : Int32)]) (rest := []) (f := (fX8_within a2 (0 : Int32) (100 : Int32) σ)) hK dX8_rule_45 rfl (fun b hb => c_X8_within a2 (0 : Int32) (100 : Int32) σ b hb) ms_X8_within rfl rfl (Nat.le_of_ble_eq_true rfl) tw_314 mw_X8_within (rmOk (Nat.le_of_ble_eq_true rfl) (Nat.le_of_ble_eq_true rfl)) (fun r7 => ?_)
      refine r_ifb_eq (t := 67) (q := 51) hK dX8_rule_48 rfl rfl (fun c8 => ?_) (fun c8 => ?_)
      · refine r_aload_n (q := 52) hK dX8_rule_51 rfl rfl 0 rfl ?_
        refine gf_8_1 (q := 55) (rfl : kdC 0 = 8) hK dX8_rule_52 rfl tw_268 ?_
        refine gf_0_8 (q := 58) (rfl : kdC 57 = 0) hK dX8_rule_55 rfl tw_134 ?_
        refine sV.ltI (fun x9 => ?_)
        refine r_istore_n (q := 59) (loc' := [(3, .int x9), (0, .ref (gad G 0)), (1, .int a1), (2, .int a2)]) hK dX8_rule_58 rfl rfl (by decide) rfl ?_
        refine r_aload_n (q := 60) hK dX8_rule_59 rfl rfl 1 rfl ?_
        refine gf_8_1 (q := 63) (rfl : kdC 0 = 8) hK dX8_rule_60 rfl tw_268 ?_
        refine r_iload_n (q := 64) hK dX8_rule_63 rfl rfl 3 rfl ?_
        refine pf_0_8 (q := 67) (rfl : kdC 57 = 0) hK dX8_rule_64 rfl tw_134 ?_
        refine sV.ltS (fun s10 => ?_)
        refine r_iload_n (q := 68) hK dX8_rule_67 rfl rfl 0 rfl ?_
        exact e_iS hK dX8_rule_68
      · refine r_iload_n (q := 68) hK dX8_rule_67 rfl rfl 3 rfl ?_
        exact e_iS hK dX8_rule_68
  · refine r_if_ne (t := 36) (q := 7) hK dX8_rule_4 rfl rfl (fun c11 => ?_) (fun c11 => ?_)
    · exact sV.sub [1, 2, 3, 0] (by rfl) (hk36 ())
    · refine r_iload_n (q := 8) hK dX8_rule_7 rfl rfl 3 rfl ?_
      refine r_iconst (q := 9) (v := 1) hK dX8_rule_8 rfl rfl ?_
      refine r_bipush (q := 11) (v := 10) hK dX8_rule_9 rfl rfl ?_
      refine callS_b (q := 14) (As := [.int a2, .int (1 : Int32), .int (10 : Int32)]) (rest := []) (f := (fX8_within a2 (1 : Int32) (10 : Int32) σ)) hK dX8_rule_11 rfl (fun b hb => c_X8_within a2 (1 : Int32) (10 : Int32) σ b hb) ms_X8_within rfl rfl (Nat.le_of_ble_eq_true rfl) tw_314 mw_X8_within (rmOk (Nat.le_of_ble_eq_true rfl) (Nat.le_of_ble_eq_true rfl)) (fun r12 => ?_)
      refine r_ifb_eq (t := 36) (q := 17) hK dX8_rule_14 rfl rfl (fun c13 => ?_) (fun c13 => ?_)
      · refine r_aload_n (q := 18) hK dX8_rule_17 rfl rfl 1 rfl ?_
        refine gf_8_1 (q := 21) (rfl : kdC 0 = 8) hK dX8_rule_18 rfl tw_268 ?_
        refine gf_0_7 (q := 24) (rfl : kdC 57 = 0) hK dX8_rule_21 rfl tw_132 ?_
        refine sV.ltI (fun x14 => ?_)
        refine r_istore_n (q := 25) (loc' := [(3, .int x14), (0, .ref (gad G 0)), (1, .int a1), (2, .int a2)]) hK dX8_rule_24 rfl rfl (by decide) rfl ?_
        refine r_aload_n (q := 26) hK dX8_rule_25 rfl rfl 1 rfl ?_
        refine gf_8_1 (q := 29) (rfl : kdC 0 = 8) hK dX8_rule_26 rfl tw_268 ?_
        refine r_iload_n (q := 30) hK dX8_rule_29 rfl rfl 3 rfl ?_
        refine pf_0_7 (q := 33) (rfl : kdC 57 = 0) hK dX8_rule_30 rfl tw_132 ?_
        refine sV.ltS (fun s15 => ?_)
        refine r_goto (q := 67) hK dX8_rule_33 rfl ?_
        refine r_iload_n (q := 68) hK dX8_rule_67 rfl rfl 0 rfl ?_
        exact e_iS hK dX8_rule_68
      · exact sV.sub [1, 2, 3, 0] (by rfl) (hk36 ())
def fX0_draw  (a0 : Nat) (σ : Store) : Option (Int32 × Store) := (slt (sup σ a0 10 (((σ a0 10) * (1103515245 : Int32)) + (12345 : Int32))) fun s1 => (some ((sushr (s1 a0 10) (8 : Int32)), s1)))
theorem c_X0_draw {l0 : Launch} {G : Geo} (a0 : Nat) (h0 : kdC a0 = 0) (σ : Store) (a : (Int32 × Store)) (hf : fX0_draw  a0 σ = some a) : sCon l0 wCls G yX0_draw cX0_draw 1 (some .int) (rmL 1 60) [.ref (gad G a0)] σ (some (.int a.1)) a.2 := by
  refine sCon.of (by decide) ⟨rfl, rfl⟩ (Nat.le_of_ble_eq_true rfl) RX0 rfl _ hf (fun K hK => ?_)
  show sV wCls G K a σ 0 [(0, .ref (gad G a0))] [] _
  unfold fX0_draw
  refine r_aload_n (q := 1) hK dX0_draw_0 rfl rfl 0 rfl ?_
  refine r_aload_n (q := 2) hK dX0_draw_1 rfl rfl 0 rfl ?_
  refine gf_0_10 (q := 5) h0 hK dX0_draw_2 rfl tw_137 ?_
  refine r_ldc (q := 7) hK dX0_draw_5 rfl tw_438 ?_
  refine r_imul (q := 8) hK dX0_draw_7 rfl ?_
  refine r_sipush (q := 11) (v := 12345) hK dX0_draw_8 rfl rfl ?_
  refine r_iadd (q := 12) hK dX0_draw_11 rfl ?_
  refine pf_0_10 (q := 15) h0 hK dX0_draw_12 rfl tw_137 ?_
  refine sV.ltS (fun s1 => ?_)
  refine r_aload_n (q := 16) hK dX0_draw_15 rfl rfl 0 rfl ?_
  refine gf_0_10 (q := 19) h0 hK dX0_draw_16 rfl tw_137 ?_
  refine r_bipush (q := 21) (v := 8) hK dX0_draw_19 rfl rfl ?_
  refine r_iushr (q := 22) hK dX0_draw_21 rfl ?_
  exact e_iS hK dX0_draw_22
def fX0_drawWord  (a0 : Nat) (σ : Store) : Option Store := (sbd2 (fX0_draw a0 σ) fun r1 s2 => (slt (r1 - r1 / (6 : Int32) * (6 : Int32)) fun x3 => (sbd2 (fX0_draw a0 s2) fun r4 s5 => (slt ((1 : Int32) + (r4 - r4 / (255 : Int32) * (255 : Int32))) fun x6 => (sbd2 (fX0_draw a0 s5) fun r7 s8 => (slt (r7 - r7 / (50 : Int32) * (50 : Int32)) fun x9 => (sbd2 (fX0_draw a0 s8) fun r10 s11 => (slt (r10 - r10 / (10 : Int32) * (10 : Int32)) fun x12 => (sbd2 (fX0_addWord a0 x3 x6 x9 x12 s11) fun r13 s14 => (some s14))))))))))
theorem c_X0_drawWord {l0 : Launch} {G : Geo} (a0 : Nat) (h0 : kdC a0 = 0) (σ : Store) (a : Store) (hf : fX0_drawWord  a0 σ = some a) : sCon l0 wCls G yX0_drawWord cX0_drawWord 5 (none) (rmL 2 85) [.ref (gad G a0)] σ none a := by
  refine sCon.of (by decide) ⟨rfl, rfl⟩ (Nat.le_of_ble_eq_true rfl) RX0 rfl _ hf (fun K hK => ?_)
  show sV wCls G K a σ 0 [(0, .ref (gad G a0))] [] _
  unfold fX0_drawWord
  refine r_aload_n (q := 1) hK dX0_drawWord_0 rfl rfl 0 rfl ?_
  refine callV_iS (q := 4) (j := a0) (As := []) (rest := []) (f := (fX0_draw a0 σ)) hK dX0_drawWord_1 rfl (fun b hb => c_X0_draw a0 h0 σ b hb) ⟨0, _, _, _, kd_lt h0 (by decide), rfl, cC0 h0, rfl⟩ mv_X0_draw rfl rfl (Nat.le_of_ble_eq_true rfl) tw_434 mw_X0_draw (rmOk (Nat.le_of_ble_eq_true rfl) (Nat.le_of_ble_eq_true rfl)) (fun r1 s2 => ?_)
  refine r_bipush (q := 6) (v := 6) hK dX0_drawWord_4 rfl rfl ?_
  refine r_iremc (q := 7) hK dX0_drawWord_6 rfl (by decide) ?_
  refine sV.ltI (fun x3 => ?_)
  refine r_istore_n (q := 8) (loc' := [(1, .int x3), (0, .ref (gad G a0))]) hK dX0_drawWord_7 rfl rfl (by decide) rfl ?_
  refine r_iconst (q := 9) (v := 1) hK dX0_drawWord_8 rfl rfl ?_
  refine r_aload_n (q := 10) hK dX0_drawWord_9 rfl rfl 1 rfl ?_
  refine callV_iS (q := 13) (j := a0) (As := []) (rest := [.int (1 : Int32)]) (f := (fX0_draw a0 s2)) hK dX0_drawWord_10 rfl (fun b hb => c_X0_draw a0 h0 s2 b hb) ⟨0, _, _, _, kd_lt h0 (by decide), rfl, cC0 h0, rfl⟩ mv_X0_draw rfl rfl (Nat.le_of_ble_eq_true rfl) tw_434 mw_X0_draw (rmOk (Nat.le_of_ble_eq_true rfl) (Nat.le_of_ble_eq_true rfl)) (fun r4 s5 => ?_)
  refine r_sipush (q := 16) (v := 255) hK dX0_drawWord_13 rfl rfl ?_
  refine r_iremc (q := 17) hK dX0_drawWord_16 rfl (by decide) ?_
  refine r_iadd (q := 18) hK dX0_drawWord_17 rfl ?_
  refine sV.ltI (fun x6 => ?_)
  refine r_istore_n (q := 19) (loc' := [(2, .int x6), (1, .int x3), (0, .ref (gad G a0))]) hK dX0_drawWord_18 rfl rfl (by decide) rfl ?_
  refine r_aload_n (q := 20) hK dX0_drawWord_19 rfl rfl 2 rfl ?_
  refine callV_iS (q := 23) (j := a0) (As := []) (rest := []) (f := (fX0_draw a0 s5)) hK dX0_drawWord_20 rfl (fun b hb => c_X0_draw a0 h0 s5 b hb) ⟨0, _, _, _, kd_lt h0 (by decide), rfl, cC0 h0, rfl⟩ mv_X0_draw rfl rfl (Nat.le_of_ble_eq_true rfl) tw_434 mw_X0_draw (rmOk (Nat.le_of_ble_eq_true rfl) (Nat.le_of_ble_eq_true rfl)) (fun r7 s8 => ?_)
  refine r_bipush (q := 25) (v := 50) hK dX0_drawWord_23 rfl rfl ?_
  refine r_iremc (q := 26) hK dX0_drawWord_25 rfl (by decide) ?_
  refine sV.ltI (fun x9 => ?_)
  refine r_istore_n (q := 27) (loc' := [(3, .int x9), (2, .int x6), (1, .int x3), (0, .ref (gad G a0))]) hK dX0_drawWord_26 rfl rfl (by decide) rfl ?_
  refine r_aload_n (q := 28) hK dX0_drawWord_27 rfl rfl 3 rfl ?_
  refine callV_iS (q := 31) (j := a0) (As := []) (rest := []) (f := (fX0_draw a0 s8)) hK dX0_drawWord_28 rfl (fun b hb => c_X0_draw a0 h0 s8 b hb) ⟨0, _, _, _, kd_lt h0 (by decide), rfl, cC0 h0, rfl⟩ mv_X0_draw rfl rfl (Nat.le_of_ble_eq_true rfl) tw_434 mw_X0_draw (rmOk (Nat.le_of_ble_eq_true rfl) (Nat.le_of_ble_eq_true rfl)) (fun r10 s11 => ?_)
  refine r_bipush (q := 33) (v := 10) hK dX0_drawWord_31 rfl rfl ?_
  refine r_iremc (q := 34) hK dX0_drawWord_33 rfl (by decide) ?_
  refine sV.ltI (fun x12 => ?_)
  refine r_istore (q := 36) (loc' := [(4, .int x12), (3, .int x9), (2, .int x6), (1, .int x3), (0, .ref (gad G a0))]) hK dX0_drawWord_34 rfl (by decide) rfl ?_
  refine r_aload_n (q := 37) hK dX0_drawWord_36 rfl rfl 4 rfl ?_
  refine r_iload_n (q := 38) hK dX0_drawWord_37 rfl rfl 3 rfl ?_
  refine r_iload_n (q := 39) hK dX0_drawWord_38 rfl rfl 2 rfl ?_
  refine r_iload_n (q := 40) hK dX0_drawWord_39 rfl rfl 1 rfl ?_
  refine r_iload (q := 42) hK dX0_drawWord_40 rfl 0 rfl ?_
  refine callV_iS (q := 45) (j := a0) (As := [.int x3, .int x6, .int x9, .int x12]) (rest := []) (f := (fX0_addWord a0 x3 x6 x9 x12 s11)) hK dX0_drawWord_42 rfl (fun b hb => c_X0_addWord a0 h0 x3 x6 x9 x12 s11 b hb) ⟨0, _, _, _, kd_lt h0 (by decide), rfl, cC0 h0, rfl⟩ mv_X0_addWord rfl rfl (Nat.le_of_ble_eq_true rfl) tw_439 mw_X0_addWord (rmOk (Nat.le_of_ble_eq_true rfl) (Nat.le_of_ble_eq_true rfl)) (fun r13 s14 => ?_)
  refine r_pop (q := 46) hK dX0_drawWord_45 rfl rfl ?_
  exact e_vS hK dX0_drawWord_46
def fX8_deal_L30  (v2 : Int32) : Nat → Int32 → Store → Option (Int32 × Store)
  | 0, _, _ => none
  | n + 1, i3, τ => (if v2 ≤ i3 then (some (v2, τ)) else (sbd (fX0_drawWord 57 τ) fun s9 => (fX8_deal_L30 v2 n (i3 + (1 : Int32)) s9)))
theorem vX8_deal_L30 {G : Geo} {K : KT} {l0 : Launch} (σ : Store) {a : (Int32 × Store)} (v1 : Int32) (v2 : Int32) (hK : sOk wCls G K l0 RX8 cX8_deal (rmL 3 109) 4 (some .int) (some (.int a.1)) a.2) : ∀ (n : Nat) (i3 : Int32) (τ : Store), sV wCls G K a τ 30 [(0, .ref (gad G 0)), (1, .int v1), (2, .int v2), (3, .int i3)] [] (fX8_deal_L30 v2 n i3 τ) := by
  intro n
  induction n with
  | zero =>
    intro i3 τ
    exact sV.no
  | succ n ih =>
    intro i3 τ
    rw [fX8_deal_L30]
    refine r_iload_n (q := 31) hK dX8_deal_30 rfl rfl 3 rfl ?_
    refine r_iload_n (q := 32) hK dX8_deal_31 rfl rfl 2 rfl ?_
    refine r_icmp_ge (t := 48) (q := 35) hK dX8_deal_32 rfl rfl (fun c8 => ?_) (fun c8 => ?_)
    · refine r_iload_n (q := 49) hK dX8_deal_48 rfl rfl 2 rfl ?_
      exact e_iS hK dX8_deal_49
    · refine r_aload_n (q := 36) hK dX8_deal_35 rfl rfl 0 rfl ?_
      refine gf_8_1 (q := 39) (rfl : kdC 0 = 8) hK dX8_deal_36 rfl tw_268 ?_
      refine callV_vS (q := 42) (j := 57) (As := []) (rest := []) (f := (fX0_drawWord 57 τ)) hK dX8_deal_39 rfl (fun b hb => c_X0_drawWord 57 (rfl : kdC 57 = 0) τ b hb) ⟨0, _, _, _, kd_lt (rfl : kdC 57 = 0) (by decide), rfl, cC0 (rfl : kdC 57 = 0), rfl⟩ mv_X0_drawWord rfl rfl (Nat.le_of_ble_eq_true rfl) tw_430 mw_X0_drawWord (rmOk (Nat.le_of_ble_eq_true rfl) (Nat.le_of_ble_eq_true rfl)) (fun s9 => ?_)
      refine r_iinc (q := 45) (v := (i3 + (1 : Int32))) (loc' := [(3, .int (i3 + (1 : Int32))), (0, .ref (gad G 0)), (1, .int v1), (2, .int v2)]) hK dX8_deal_42 rfl 3 rfl rfl (by decide) rfl ?_
      refine r_goto (q := 30) hK dX8_deal_45 rfl ?_
      exact sV.sub [1, 2, 3, 0] (by rfl) (ih (i3 + (1 : Int32)) s9)
def fX8_deal  (a1 : Int32) (σ : Store) : Option (Int32 × Store) := (sbd (fX8_within a1 (1 : Int32) (10 : Int32) σ) fun r1 => (if r1 = true then (slt (smin a1 ((10 : Int32) - (σ 57 3))) fun x3 => (fX8_deal_L30 x3 FU (0 : Int32) σ)) else (some ((-1000000001 : Int32), σ))))
theorem c_X8_deal {l0 : Launch} {G : Geo} (a1 : Int32) (σ : Store) (a : (Int32 × Store)) (hf : fX8_deal  a1 σ = some a) : sCon l0 wCls G yX8_deal cX8_deal 4 (some .int) (rmL 3 109) [.ref (gad G 0), .int a1] σ (some (.int a.1)) a.2 := by
  refine sCon.of (by decide) ⟨rfl, rfl⟩ (Nat.le_of_ble_eq_true rfl) RX8 rfl _ hf (fun K hK => ?_)
  show sV wCls G K a σ 0 [(0, .ref (gad G 0)), (1, .int a1)] [] _
  unfold fX8_deal
  refine r_iload_n (q := 1) hK dX8_deal_0 rfl rfl 1 rfl ?_
  refine r_iconst (q := 2) (v := 1) hK dX8_deal_1 rfl rfl ?_
  refine r_bipush (q := 4) (v := 10) hK dX8_deal_2 rfl rfl ?_
  refine callS_b (q := 7) (As := [.int a1, .int (1 : Int32), .int (10 : Int32)]) (rest := []) (f := (fX8_within a1 (1 : Int32) (10 : Int32) σ)) hK dX8_deal_4 rfl (fun b hb => c_X8_within a1 (1 : Int32) (10 : Int32) σ b hb) ms_X8_within rfl rfl (Nat.le_of_ble_eq_true rfl) tw_314 mw_X8_within (rmOk (Nat.le_of_ble_eq_true rfl) (Nat.le_of_ble_eq_true rfl)) (fun r1 => ?_)
  refine r_ifb_ne (t := 13) (q := 10) hK dX8_deal_7 rfl rfl (fun c2 => ?_) (fun c2 => ?_)
  · refine r_iload_n (q := 14) hK dX8_deal_13 rfl rfl 1 rfl ?_
    refine r_bipush (q := 16) (v := 10) hK dX8_deal_14 rfl rfl ?_
    refine r_aload_n (q := 17) hK dX8_deal_16 rfl rfl 0 rfl ?_
    refine gf_8_1 (q := 20) (rfl : kdC 0 = 8) hK dX8_deal_17 rfl tw_268 ?_
    refine gf_0_3 (q := 23) (rfl : kdC 57 = 0) hK dX8_deal_20 rfl tw_123 ?_
    refine r_isub (q := 24) hK dX8_deal_23 rfl ?_
    refine r_min (q := 27) hK dX8_deal_24 rfl tw_361 mt_min (rmM (Nat.le_of_ble_eq_true rfl) (Nat.le_of_ble_eq_true rfl)) ?_
    refine sV.ltI (fun x3 => ?_)
    refine r_istore_n (q := 28) (loc' := [(2, .int x3), (0, .ref (gad G 0)), (1, .int a1)]) hK dX8_deal_27 rfl rfl (by decide) rfl ?_
    refine r_iconst (q := 29) (v := 0) hK dX8_deal_28 rfl rfl ?_
    refine r_istore_n (q := 30) (loc' := [(3, .int (0 : Int32)), (2, .int x3), (0, .ref (gad G 0)), (1, .int a1)]) hK dX8_deal_29 rfl rfl (by decide) rfl ?_
    exact sV.sub [2, 3, 1, 0] (by rfl) (vX8_deal_L30 σ a1 x3 hK FU (0 : Int32) σ)
  · refine r_ldc (q := 12) hK dX8_deal_10 rfl tw_317 ?_
    exact e_iS hK dX8_deal_12
def fX8_seed  (a1 : Int32) (σ : Store) : Option (Int32 × Store) := (slt (σ 57 10) fun x1 => (slt (sup σ 57 10 a1) fun s2 => (some (x1, s2))))
theorem c_X8_seed {l0 : Launch} {G : Geo} (a1 : Int32) (σ : Store) (a : (Int32 × Store)) (hf : fX8_seed  a1 σ = some a) : sCon l0 wCls G yX8_seed cX8_seed 3 (some .int) (rmL 1 60) [.ref (gad G 0), .int a1] σ (some (.int a.1)) a.2 := by
  refine sCon.of (by decide) ⟨rfl, rfl⟩ (Nat.le_of_ble_eq_true rfl) RX8 rfl _ hf (fun K hK => ?_)
  show sV wCls G K a σ 0 [(0, .ref (gad G 0)), (1, .int a1)] [] _
  unfold fX8_seed
  refine r_aload_n (q := 1) hK dX8_seed_0 rfl rfl 0 rfl ?_
  refine gf_8_1 (q := 4) (rfl : kdC 0 = 8) hK dX8_seed_1 rfl tw_268 ?_
  refine gf_0_10 (q := 7) (rfl : kdC 57 = 0) hK dX8_seed_4 rfl tw_138 ?_
  refine sV.ltI (fun x1 => ?_)
  refine r_istore_n (q := 8) (loc' := [(2, .int x1), (0, .ref (gad G 0)), (1, .int a1)]) hK dX8_seed_7 rfl rfl (by decide) rfl ?_
  refine r_aload_n (q := 9) hK dX8_seed_8 rfl rfl 1 rfl ?_
  refine gf_8_1 (q := 12) (rfl : kdC 0 = 8) hK dX8_seed_9 rfl tw_268 ?_
  refine r_iload_n (q := 13) hK dX8_seed_12 rfl rfl 2 rfl ?_
  refine pf_0_10 (q := 16) (rfl : kdC 57 = 0) hK dX8_seed_13 rfl tw_138 ?_
  refine sV.ltS (fun s2 => ?_)
  refine r_iload_n (q := 17) hK dX8_seed_16 rfl rfl 0 rfl ?_
  exact e_iS hK dX8_seed_17
def fX0_isTurned  (a0 : Nat) (σ : Store) : Option Bool := (sbd (fJ6_bitCount_0f7a4 (σ a0 6) σ) fun r1 => (if r1 < (σ a0 7) then (some false) else (some true)))
theorem c_X0_isTurned {l0 : Launch} {G : Geo} (a0 : Nat) (h0 : kdC a0 = 0) (σ : Store) (a : Bool) (hf : fX0_isTurned  a0 σ = some a) : sCon l0 wCls G yX0_isTurned cX0_isTurned 1 (some .boolean) (rmL 2 80) [.ref (gad G a0)] σ (some (.int (b2i a))) σ := by
  refine sCon.of (by decide) ⟨rfl, rfl⟩ (Nat.le_of_ble_eq_true rfl) RX0 rfl _ hf (fun K hK => ?_)
  show sV wCls G K a σ 0 [(0, .ref (gad G a0))] [] _
  unfold fX0_isTurned
  refine r_aload_n (q := 1) hK dX0_isTurned_0 rfl rfl 0 rfl ?_
  refine gf_0_6 (q := 4) h0 hK dX0_isTurned_1 rfl tw_129 ?_
  refine callS_i (q := 7) (As := [.int (σ a0 6)]) (rest := []) (f := (fJ6_bitCount_0f7a4 (σ a0 6) σ)) hK dX0_isTurned_4 rfl (fun b hb => c_J6_bitCount_0f7a4 (σ a0 6) σ b hb) ms_J6_bitCount_0f7a4 rfl rfl (Nat.le_of_ble_eq_true rfl) tw_456 mw_J6_bitCount_0f7a4 (rmOk (Nat.le_of_ble_eq_true rfl) (Nat.le_of_ble_eq_true rfl)) (fun r1 => ?_)
  refine r_aload_n (q := 8) hK dX0_isTurned_7 rfl rfl 0 rfl ?_
  refine gf_0_7 (q := 11) h0 hK dX0_isTurned_8 rfl tw_131 ?_
  refine r_icmp_lt (t := 18) (q := 14) hK dX0_isTurned_11 rfl rfl (fun c2 => ?_) (fun c2 => ?_)
  · refine r_iconst (q := 19) (v := 0) hK dX0_isTurned_18 rfl rfl ?_
    exact e_b (b := false) hK dX0_isTurned_19
  · refine r_iconst (q := 15) (v := 1) hK dX0_isTurned_14 rfl rfl ?_
    refine r_goto (q := 19) hK dX0_isTurned_15 rfl ?_
    exact e_b (b := true) hK dX0_isTurned_19
def fX0_slipsBy  (a0 : Nat) (a1 : Nat) (σ : Store) : Option (Bool × Store) := (sbd (fX7_isOf a1 (2 : Int32) σ) fun r1 => (if r1 = true then (sbd2 (fX0_draw a0 σ) fun r3 s4 => (if (r3 - r3 / (100 : Int32) * (100 : Int32)) < (s4 a0 8) then (some (false, s4)) else (some (true, s4)))) else (some (false, σ))))
theorem c_X0_slipsBy {l0 : Launch} {G : Geo} (a0 : Nat) (h0 : kdC a0 = 0) (a1 : Nat) (h1 : kdC a1 = 7) (σ : Store) (a : (Bool × Store)) (hf : fX0_slipsBy  a0 a1 σ = some a) : sCon l0 wCls G yX0_slipsBy cX0_slipsBy 2 (some .boolean) (rmL 2 81) [.ref (gad G a0), .ref (gad G a1)] σ (some (.int (b2i a.1))) a.2 := by
  refine sCon.of (by decide) ⟨rfl, rfl⟩ (Nat.le_of_ble_eq_true rfl) RX0 rfl _ hf (fun K hK => ?_)
  show sV wCls G K a σ 0 [(0, .ref (gad G a0)), (1, .ref (gad G a1))] [] _
  unfold fX0_slipsBy
  refine r_aload_n (q := 1) hK dX0_slipsBy_0 rfl rfl 1 rfl ?_
  refine r_iconst (q := 2) (v := 2) hK dX0_slipsBy_1 rfl rfl ?_
  refine callV_b (q := 5) (j := a1) (As := [.int (2 : Int32)]) (rest := []) (f := (fX7_isOf a1 (2 : Int32) σ)) hK dX0_slipsBy_2 rfl (fun b hb => c_X7_isOf a1 h1 (2 : Int32) σ b hb) ⟨7, _, _, _, kd_lt h1 (by decide), rfl, cC7 h1, rfl⟩ mv_X7_isOf rfl rfl (Nat.le_of_ble_eq_true rfl) tw_461 mw_X7_isOf (rmOk (Nat.le_of_ble_eq_true rfl) (Nat.le_of_ble_eq_true rfl)) (fun r1 => ?_)
  refine r_ifb_eq (t := 26) (q := 8) hK dX0_slipsBy_5 rfl rfl (fun c2 => ?_) (fun c2 => ?_)
  · refine r_aload_n (q := 9) hK dX0_slipsBy_8 rfl rfl 0 rfl ?_
    refine callV_iS (q := 12) (j := a0) (As := []) (rest := []) (f := (fX0_draw a0 σ)) hK dX0_slipsBy_9 rfl (fun b hb => c_X0_draw a0 h0 σ b hb) ⟨0, _, _, _, kd_lt h0 (by decide), rfl, cC0 h0, rfl⟩ mv_X0_draw rfl rfl (Nat.le_of_ble_eq_true rfl) tw_434 mw_X0_draw (rmOk (Nat.le_of_ble_eq_true rfl) (Nat.le_of_ble_eq_true rfl)) (fun r3 s4 => ?_)
    refine r_bipush (q := 14) (v := 100) hK dX0_slipsBy_12 rfl rfl ?_
    refine r_iremc (q := 15) hK dX0_slipsBy_14 rfl (by decide) ?_
    refine r_aload_n (q := 16) hK dX0_slipsBy_15 rfl rfl 0 rfl ?_
    refine gf_0_8 (q := 19) h0 hK dX0_slipsBy_16 rfl tw_133 ?_
    refine r_icmp_lt (t := 26) (q := 22) hK dX0_slipsBy_19 rfl rfl (fun c5 => ?_) (fun c5 => ?_)
    · refine r_iconst (q := 27) (v := 0) hK dX0_slipsBy_26 rfl rfl ?_
      exact e_bS (b := false) hK dX0_slipsBy_27
    · refine r_iconst (q := 23) (v := 1) hK dX0_slipsBy_22 rfl rfl ?_
      refine r_goto (q := 27) hK dX0_slipsBy_23 rfl ?_
      exact e_bS (b := true) hK dX0_slipsBy_27
  · refine r_iconst (q := 27) (v := 0) hK dX0_slipsBy_26 rfl rfl ?_
    exact e_bS (b := false) hK dX0_slipsBy_27
def fX0_crosses_L5  (o0 : Nat) (o1 : Nat) (v2 : Int32) (k : Int32 → Int32 → Store → Option (Int32 × Store)) : Nat → Int32 → Int32 → Store → Option (Int32 × Store)
  | 0, _, _, _ => none
  | n + 1, i3, i4, τ => (if (τ o0 3) ≤ i4 then (k i3 i4 τ) else (slt ((1 : Int32) <<< (i4 &&& 31)) fun x42 => (if (v2 &&& x42) = 0 then (fX0_crosses_L5 o0 o1 v2 k n i3 (i4 + (1 : Int32)) τ) else (if ((τ o1 0) &&& x42) = 0 then (six 10 i4 (sbd (fX0_isTurned o0 τ) fun r46 => (if r46 = true then (slt (i3 ||| x42) fun x48 => (fX0_crosses_L5 o0 o1 v2 k n x48 (i4 + (1 : Int32)) τ)) else (sbd2 (fX0_slipsBy o0 (wrd o0 i4) τ) fun r49 s50 => (if r49 = true then (slt (i3 ||| x42) fun x52 => (fX0_crosses_L5 o0 o1 v2 k n x52 (i4 + (1 : Int32)) s50)) else (if (s50 (wrd o0 i4) 3) ≤ (s50 (wrd o0 i4) 5) then (fX0_crosses_L5 o0 o1 v2 k n i3 (i4 + (1 : Int32)) s50) else (sbd2 (fX0_costsOf o0 (wrd o0 i4) s50) fun r54 s55 => (slt (sup s55 o1 1 ((s50 o1 1) + r54)) fun s56 => (slt (sup s56 (wrd o0 i4) 4 ((s56 (wrd o0 i4) 4) + (1 : Int32))) fun s57 => (slt (sup s57 (wrd o0 i4) 5 ((s57 (wrd o0 i4) 5) + (1 : Int32))) fun s58 => (slt (sup s58 o0 6 ((s58 o0 6) ||| x42)) fun s59 => (slt (i3 ||| x42) fun x60 => (fX0_crosses_L5 o0 o1 v2 k n x60 (i4 + (1 : Int32)) s59))))))))))))) else (fX0_crosses_L5 o0 o1 v2 k n i3 (i4 + (1 : Int32)) τ)))))
theorem vX0_crosses_L5 {G : Geo} {K : KT} {l0 : Launch} (σ : Store) {a : (Int32 × Store)} (o0 : Nat) (ho0 : kdC o0 = 0) (o1 : Nat) (ho1 : kdC o1 = 6) (v2 : Int32) (hK : sOk wCls G K l0 RX0 cX0_crosses (rmL 4 132) 7 (some .int) (some (.int a.1)) a.2) (k : Int32 → Int32 → Store → Option (Int32 × Store)) (hk : ∀ (e3 : Int32) (e4 : Int32) (ε : Store), sV wCls G K a ε 145 [(0, .ref (gad G o0)), (1, .ref (gad G o1)), (2, .int v2), (3, .int e3), (4, .int e4)] [] (k e3 e4 ε)) : ∀ (n : Nat) (i3 : Int32) (i4 : Int32) (τ : Store), sV wCls G K a τ 5 [(0, .ref (gad G o0)), (1, .ref (gad G o1)), (2, .int v2), (3, .int i3), (4, .int i4)] [] (fX0_crosses_L5 o0 o1 v2 k n i3 i4 τ) := by
  intro n
  induction n with
  | zero =>
    intro i3 i4 τ
    exact sV.no
  | succ n ih =>
    intro i3 i4 τ
    rw [fX0_crosses_L5]
    refine r_iload (q := 7) hK dX0_crosses_5 rfl 4 rfl ?_
    refine r_aload_n (q := 8) hK dX0_crosses_7 rfl rfl 0 rfl ?_
    refine gf_0_3 (q := 11) ho0 hK dX0_crosses_8 rfl tw_122 ?_
    refine r_icmp_ge (t := 145) (q := 14) hK dX0_crosses_11 rfl rfl (fun c41 => ?_) (fun c41 => ?_)
    · exact sV.sub [0, 1, 2, 3, 4] (by rfl) (hk i3 i4 τ)
    · refine r_iconst (q := 15) (v := 1) hK dX0_crosses_14 rfl rfl ?_
      refine r_iload (q := 17) hK dX0_crosses_15 rfl 4 rfl ?_
      refine r_ishl (q := 18) hK dX0_crosses_17 rfl ?_
      refine sV.ltI (fun x42 => ?_)
      refine r_istore (q := 20) (loc' := [(5, .int x42), (0, .ref (gad G o0)), (1, .ref (gad G o1)), (2, .int v2), (3, .int i3), (4, .int i4)]) hK dX0_crosses_18 rfl (by decide) rfl ?_
      refine r_iload_n (q := 21) hK dX0_crosses_20 rfl rfl 3 rfl ?_
      refine r_iload (q := 23) hK dX0_crosses_21 rfl 0 rfl ?_
      refine r_iand (q := 24) hK dX0_crosses_23 rfl ?_
      refine r_if_eq (t := 139) (q := 27) hK dX0_crosses_24 rfl rfl (fun c43 => ?_) (fun c43 => ?_)
      · refine r_iinc (q := 142) (v := (i4 + (1 : Int32))) (loc' := [(4, .int (i4 + (1 : Int32))), (5, .int x42), (0, .ref (gad G o0)), (1, .ref (gad G o1)), (2, .int v2), (3, .int i3)]) hK dX0_crosses_139 rfl 5 rfl rfl (by decide) rfl ?_
        refine r_goto (q := 5) hK dX0_crosses_142 rfl ?_
        exact sV.sub [2, 3, 4, 5, 0] (by rfl) (ih i3 (i4 + (1 : Int32)) τ)
      · refine r_aload_n (q := 28) hK dX0_crosses_27 rfl rfl 2 rfl ?_
        refine gf_6_0 (q := 31) ho1 hK dX0_crosses_28 rfl tw_106 ?_
        refine r_iload (q := 33) hK dX0_crosses_31 rfl 0 rfl ?_
        refine r_iand (q := 34) hK dX0_crosses_33 rfl ?_
        refine r_if_eq (t := 40) (q := 37) hK dX0_crosses_34 rfl rfl (fun c44 => ?_) (fun c44 => ?_)
        · refine r_aload_n (q := 41) hK dX0_crosses_40 rfl rfl 1 rfl ?_
          refine gf_0_1 (q := 44) ho0 hK dX0_crosses_41 rfl tw_117 ?_
          refine r_iload (q := 46) hK dX0_crosses_44 rfl 5 rfl ?_
          refine r_aald (q := 47) hK dX0_crosses_46 rfl (qC13 (kd_bw ho0)) (ty := .object RX7) rfl rfl (r := gad G (wrd o0 i4)) rfl (fun h45 => ?_)
          refine r_astore (q := 49) (loc' := [(6, .ref (gad G (wrd o0 i4))), (5, .int x42), (0, .ref (gad G o0)), (1, .ref (gad G o1)), (2, .int v2), (3, .int i3), (4, .int i4)]) hK dX0_crosses_47 rfl (by decide) rfl ?_
          refine r_aload_n (q := 50) hK dX0_crosses_49 rfl rfl 2 rfl ?_
          refine callV_b (q := 53) (j := o0) (As := []) (rest := []) (f := (fX0_isTurned o0 τ)) hK dX0_crosses_50 rfl (fun b hb => c_X0_isTurned o0 ho0 τ b hb) ⟨0, _, _, _, kd_lt ho0 (by decide), rfl, cC0 ho0, rfl⟩ mv_X0_isTurned rfl rfl (Nat.le_of_ble_eq_true rfl) tw_452 mw_X0_isTurned (rmOk (Nat.le_of_ble_eq_true rfl) (Nat.le_of_ble_eq_true rfl)) (fun r46 => ?_)
          refine r_ifb_ne (t := 65) (q := 56) hK dX0_crosses_53 rfl rfl (fun c47 => ?_) (fun c47 => ?_)
          · refine r_iload_n (q := 66) hK dX0_crosses_65 rfl rfl 5 rfl ?_
            refine r_iload (q := 68) hK dX0_crosses_66 rfl 1 rfl ?_
            refine r_ior (q := 69) hK dX0_crosses_68 rfl ?_
            refine sV.ltI (fun x48 => ?_)
            refine r_istore_n (q := 70) (loc' := [(3, .int x48), (6, .ref (gad G (wrd o0 i4))), (5, .int x42), (0, .ref (gad G o0)), (1, .ref (gad G o1)), (2, .int v2), (4, .int i4)]) hK dX0_crosses_69 rfl rfl (by decide) rfl ?_
            refine r_goto (q := 139) hK dX0_crosses_70 rfl ?_
            refine r_iinc (q := 142) (v := (i4 + (1 : Int32))) (loc' := [(4, .int (i4 + (1 : Int32))), (3, .int x48), (6, .ref (gad G (wrd o0 i4))), (5, .int x42), (0, .ref (gad G o0)), (1, .ref (gad G o1)), (2, .int v2)]) hK dX0_crosses_139 rfl 6 rfl rfl (by decide) rfl ?_
            refine r_goto (q := 5) hK dX0_crosses_142 rfl ?_
            exact sV.sub [4, 5, 6, 1, 0] (by rfl) (ih x48 (i4 + (1 : Int32)) τ)
          · refine r_aload_n (q := 57) hK dX0_crosses_56 rfl rfl 2 rfl ?_
            refine r_aload (q := 59) hK dX0_crosses_57 rfl 0 rfl ?_
            refine callV_bS (q := 62) (j := o0) (As := [.ref (gad G (wrd o0 i4))]) (rest := []) (f := (fX0_slipsBy o0 (wrd o0 i4) τ)) hK dX0_crosses_59 rfl (fun b hb => c_X0_slipsBy o0 ho0 (wrd o0 i4) (kd_wrd ho0 h45) τ b hb) ⟨0, _, _, _, kd_lt ho0 (by decide), rfl, cC0 ho0, rfl⟩ mv_X0_slipsBy rfl rfl (Nat.le_of_ble_eq_true rfl) tw_457 mw_X0_slipsBy (rmOk (Nat.le_of_ble_eq_true rfl) (Nat.le_of_ble_eq_true rfl)) (fun r49 s50 => ?_)
            refine r_ifb_eq (t := 73) (q := 65) hK dX0_crosses_62 rfl rfl (fun c51 => ?_) (fun c51 => ?_)
            · refine r_iload_n (q := 66) hK dX0_crosses_65 rfl rfl 5 rfl ?_
              refine r_iload (q := 68) hK dX0_crosses_66 rfl 1 rfl ?_
              refine r_ior (q := 69) hK dX0_crosses_68 rfl ?_
              refine sV.ltI (fun x52 => ?_)
              refine r_istore_n (q := 70) (loc' := [(3, .int x52), (6, .ref (gad G (wrd o0 i4))), (5, .int x42), (0, .ref (gad G o0)), (1, .ref (gad G o1)), (2, .int v2), (4, .int i4)]) hK dX0_crosses_69 rfl rfl (by decide) rfl ?_
              refine r_goto (q := 139) hK dX0_crosses_70 rfl ?_
              refine r_iinc (q := 142) (v := (i4 + (1 : Int32))) (loc' := [(4, .int (i4 + (1 : Int32))), (3, .int x52), (6, .ref (gad G (wrd o0 i4))), (5, .int x42), (0, .ref (gad G o0)), (1, .ref (gad G o1)), (2, .int v2)]) hK dX0_crosses_139 rfl 6 rfl rfl (by decide) rfl ?_
              refine r_goto (q := 5) hK dX0_crosses_142 rfl ?_
              exact sV.sub [4, 5, 6, 1, 0] (by rfl) (ih x52 (i4 + (1 : Int32)) s50)
            · refine r_aload (q := 75) hK dX0_crosses_73 rfl 0 rfl ?_
              refine gf_7_5 (q := 78) (kd_wrd ho0 h45) hK dX0_crosses_75 rfl tw_85 ?_
              refine r_aload (q := 80) hK dX0_crosses_78 rfl 0 rfl ?_
              refine gf_7_3 (q := 83) (kd_wrd ho0 h45) hK dX0_crosses_80 rfl tw_79 ?_
              refine r_icmp_ge (t := 139) (q := 86) hK dX0_crosses_83 rfl rfl (fun c53 => ?_) (fun c53 => ?_)
              · refine r_iinc (q := 142) (v := (i4 + (1 : Int32))) (loc' := [(4, .int (i4 + (1 : Int32))), (6, .ref (gad G (wrd o0 i4))), (5, .int x42), (0, .ref (gad G o0)), (1, .ref (gad G o1)), (2, .int v2), (3, .int i3)]) hK dX0_crosses_139 rfl 6 rfl rfl (by decide) rfl ?_
                refine r_goto (q := 5) hK dX0_crosses_142 rfl ?_
                exact sV.sub [3, 4, 5, 6, 0] (by rfl) (ih i3 (i4 + (1 : Int32)) s50)
              · refine r_aload_n (q := 87) hK dX0_crosses_86 rfl rfl 3 rfl ?_
                refine r_dup (q := 88) hK dX0_crosses_87 rfl rfl ?_
                refine gf_6_1 (q := 91) ho1 hK dX0_crosses_88 rfl tw_109 ?_
                refine r_aload_n (q := 92) hK dX0_crosses_91 rfl rfl 2 rfl ?_
                refine r_aload (q := 94) hK dX0_crosses_92 rfl 0 rfl ?_
                refine callV_iS (q := 97) (j := o0) (As := [.ref (gad G (wrd o0 i4))]) (rest := [.int (s50 o1 1), .ref (gad G o1)]) (f := (fX0_costsOf o0 (wrd o0 i4) s50)) hK dX0_crosses_94 rfl (fun b hb => c_X0_costsOf o0 ho0 (wrd o0 i4) (kd_wrd ho0 h45) s50 b hb) ⟨0, _, _, _, kd_lt ho0 (by decide), rfl, cC0 ho0, rfl⟩ mv_X0_costsOf rfl rfl (Nat.le_of_ble_eq_true rfl) tw_462 mw_X0_costsOf (rmOk (Nat.le_of_ble_eq_true rfl) (Nat.le_of_ble_eq_true rfl)) (fun r54 s55 => ?_)
                refine r_iadd (q := 98) hK dX0_crosses_97 rfl ?_
                refine pf_6_1 (q := 101) ho1 hK dX0_crosses_98 rfl tw_109 ?_
                refine sV.ltS (fun s56 => ?_)
                refine r_aload (q := 103) hK dX0_crosses_101 rfl 0 rfl ?_
                refine r_dup (q := 104) hK dX0_crosses_103 rfl rfl ?_
                refine gf_7_4 (q := 107) (kd_wrd ho0 h45) hK dX0_crosses_104 rfl tw_82 ?_
                refine r_iconst (q := 108) (v := 1) hK dX0_crosses_107 rfl rfl ?_
                refine r_iadd (q := 109) hK dX0_crosses_108 rfl ?_
                refine pf_7_4 (q := 112) (kd_wrd ho0 h45) hK dX0_crosses_109 rfl tw_82 ?_
                refine sV.ltS (fun s57 => ?_)
                refine r_aload (q := 114) hK dX0_crosses_112 rfl 0 rfl ?_
                refine r_dup (q := 115) hK dX0_crosses_114 rfl rfl ?_
                refine gf_7_5 (q := 118) (kd_wrd ho0 h45) hK dX0_crosses_115 rfl tw_85 ?_
                refine r_iconst (q := 119) (v := 1) hK dX0_crosses_118 rfl rfl ?_
                refine r_iadd (q := 120) hK dX0_crosses_119 rfl ?_
                refine pf_7_5 (q := 123) (kd_wrd ho0 h45) hK dX0_crosses_120 rfl tw_85 ?_
                refine sV.ltS (fun s58 => ?_)
                refine r_aload_n (q := 124) hK dX0_crosses_123 rfl rfl 2 rfl ?_
                refine r_dup (q := 125) hK dX0_crosses_124 rfl rfl ?_
                refine gf_0_6 (q := 128) ho0 hK dX0_crosses_125 rfl tw_129 ?_
                refine r_iload (q := 130) hK dX0_crosses_128 rfl 1 rfl ?_
                refine r_ior (q := 131) hK dX0_crosses_130 rfl ?_
                refine pf_0_6 (q := 134) ho0 hK dX0_crosses_131 rfl tw_129 ?_
                refine sV.ltS (fun s59 => ?_)
                refine r_iload_n (q := 135) hK dX0_crosses_134 rfl rfl 5 rfl ?_
                refine r_iload (q := 137) hK dX0_crosses_135 rfl 1 rfl ?_
                refine r_ior (q := 138) hK dX0_crosses_137 rfl ?_
                refine sV.ltI (fun x60 => ?_)
                refine r_istore_n (q := 139) (loc' := [(3, .int x60), (6, .ref (gad G (wrd o0 i4))), (5, .int x42), (0, .ref (gad G o0)), (1, .ref (gad G o1)), (2, .int v2), (4, .int i4)]) hK dX0_crosses_138 rfl rfl (by decide) rfl ?_
                refine r_iinc (q := 142) (v := (i4 + (1 : Int32))) (loc' := [(4, .int (i4 + (1 : Int32))), (3, .int x60), (6, .ref (gad G (wrd o0 i4))), (5, .int x42), (0, .ref (gad G o0)), (1, .ref (gad G o1)), (2, .int v2)]) hK dX0_crosses_139 rfl 6 rfl rfl (by decide) rfl ?_
                refine r_goto (q := 5) hK dX0_crosses_142 rfl ?_
                exact sV.sub [4, 5, 6, 1, 0] (by rfl) (ih x60 (i4 + (1 : Int32)) s59)
        · refine r_goto (q := 139) hK dX0_crosses_37 rfl ?_
          refine r_iinc (q := 142) (v := (i4 + (1 : Int32))) (loc' := [(4, .int (i4 + (1 : Int32))), (5, .int x42), (0, .ref (gad G o0)), (1, .ref (gad G o1)), (2, .int v2), (3, .int i3)]) hK dX0_crosses_139 rfl 5 rfl rfl (by decide) rfl ?_
          refine r_goto (q := 5) hK dX0_crosses_142 rfl ?_
          exact sV.sub [2, 3, 4, 5, 0] (by rfl) (ih i3 (i4 + (1 : Int32)) τ)
def fX0_crosses  (a0 : Nat) (a1 : Nat) (a2 : Int32) (σ : Store) : Option (Int32 × Store) := (fX0_crosses_L5 a0 a1 a2 (fun x61 x62 s63 => (slt (sup s63 a1 0 ((s63 a1 0) ||| x61)) fun s64 => (some (x61, s64)))) FU (0 : Int32) (0 : Int32) σ)
theorem c_X0_crosses {l0 : Launch} {G : Geo} (a0 : Nat) (h0 : kdC a0 = 0) (a1 : Nat) (h1 : kdC a1 = 6) (a2 : Int32) (σ : Store) (a : (Int32 × Store)) (hf : fX0_crosses  a0 a1 a2 σ = some a) : sCon l0 wCls G yX0_crosses cX0_crosses 7 (some .int) (rmL 4 132) [.ref (gad G a0), .ref (gad G a1), .int a2] σ (some (.int a.1)) a.2 := by
  refine sCon.of (by decide) ⟨rfl, rfl⟩ (Nat.le_of_ble_eq_true rfl) RX0 rfl _ hf (fun K hK => ?_)
  show sV wCls G K a σ 0 [(0, .ref (gad G a0)), (1, .ref (gad G a1)), (2, .int a2)] [] _
  unfold fX0_crosses
  refine r_iconst (q := 1) (v := 0) hK dX0_crosses_0 rfl rfl ?_
  refine r_istore_n (q := 2) (loc' := [(3, .int (0 : Int32)), (0, .ref (gad G a0)), (1, .ref (gad G a1)), (2, .int a2)]) hK dX0_crosses_1 rfl rfl (by decide) rfl ?_
  refine r_iconst (q := 3) (v := 0) hK dX0_crosses_2 rfl rfl ?_
  refine r_istore (q := 5) (loc' := [(4, .int (0 : Int32)), (3, .int (0 : Int32)), (0, .ref (gad G a0)), (1, .ref (gad G a1)), (2, .int a2)]) hK dX0_crosses_3 rfl (by decide) rfl ?_
  refine sV.sub [2, 3, 4, 1, 0] (by rfl) (vX0_crosses_L5 σ a0 h0 a1 h1 a2 hK _ (fun x61 x62 s63 => ?_) FU (0 : Int32) (0 : Int32) σ)
  refine r_aload_n (q := 146) hK dX0_crosses_145 rfl rfl 1 rfl ?_
  refine r_dup (q := 147) hK dX0_crosses_146 rfl rfl ?_
  refine gf_6_0 (q := 150) h1 hK dX0_crosses_147 rfl tw_106 ?_
  refine r_iload_n (q := 151) hK dX0_crosses_150 rfl rfl 3 rfl ?_
  refine r_ior (q := 152) hK dX0_crosses_151 rfl ?_
  refine pf_6_0 (q := 155) h1 hK dX0_crosses_152 rfl tw_106 ?_
  refine sV.ltS (fun s64 => ?_)
  refine r_iload_n (q := 156) hK dX0_crosses_155 rfl rfl 3 rfl ?_
  exact e_iS hK dX0_crosses_156
def fX8_cross  (a1 : Int32) (a2 : Int32) (σ : Store) : Option (Int32 × Store) := (sbd (fX0_hasTraveller 57 a1 σ) fun r1 => (if r1 = true then (sbd (fX0_hasAll 57 a2 σ) fun r3 => (if r3 = true then (six 6 a1 (sbd2 (fX0_crosses 57 (trv 57 a1) a2 σ) fun r6 s7 => (some (r6, s7)))) else (some ((-1000000001 : Int32), σ)))) else (some ((-1000000001 : Int32), σ))))
theorem c_X8_cross {l0 : Launch} {G : Geo} (a1 : Int32) (a2 : Int32) (σ : Store) (a : (Int32 × Store)) (hf : fX8_cross  a1 a2 σ = some a) : sCon l0 wCls G yX8_cross cX8_cross 3 (some .int) (rmL 5 158) [.ref (gad G 0), .int a1, .int a2] σ (some (.int a.1)) a.2 := by
  refine sCon.of (by decide) ⟨rfl, rfl⟩ (Nat.le_of_ble_eq_true rfl) RX8 rfl _ hf (fun K hK => ?_)
  show sV wCls G K a σ 0 [(0, .ref (gad G 0)), (1, .int a1), (2, .int a2)] [] _
  unfold fX8_cross
  refine r_aload_n (q := 1) hK dX8_cross_0 rfl rfl 0 rfl ?_
  refine gf_8_1 (q := 4) (rfl : kdC 0 = 8) hK dX8_cross_1 rfl tw_268 ?_
  refine r_iload_n (q := 5) hK dX8_cross_4 rfl rfl 1 rfl ?_
  refine callV_b (q := 8) (j := 57) (As := [.int a1]) (rest := []) (f := (fX0_hasTraveller 57 a1 σ)) hK dX8_cross_5 rfl (fun b hb => c_X0_hasTraveller 57 (rfl : kdC 57 = 0) a1 σ b hb) ⟨0, _, _, _, kd_lt (rfl : kdC 57 = 0) (by decide), rfl, cC0 (rfl : kdC 57 = 0), rfl⟩ mv_X0_hasTraveller rfl rfl (Nat.le_of_ble_eq_true rfl) tw_406 mw_X0_hasTraveller (rmOk (Nat.le_of_ble_eq_true rfl) (Nat.le_of_ble_eq_true rfl)) (fun r1 => ?_)
  refine r_ifb_eq (t := 22) (q := 11) hK dX8_cross_8 rfl rfl (fun c2 => ?_) (fun c2 => ?_)
  · refine r_aload_n (q := 12) hK dX8_cross_11 rfl rfl 0 rfl ?_
    refine gf_8_1 (q := 15) (rfl : kdC 0 = 8) hK dX8_cross_12 rfl tw_268 ?_
    refine r_iload_n (q := 16) hK dX8_cross_15 rfl rfl 2 rfl ?_
    refine callV_b (q := 19) (j := 57) (As := [.int a2]) (rest := []) (f := (fX0_hasAll 57 a2 σ)) hK dX8_cross_16 rfl (fun b hb => c_X0_hasAll 57 (rfl : kdC 57 = 0) a2 σ b hb) ⟨0, _, _, _, kd_lt (rfl : kdC 57 = 0) (by decide), rfl, cC0 (rfl : kdC 57 = 0), rfl⟩ mv_X0_hasAll rfl rfl (Nat.le_of_ble_eq_true rfl) tw_414 mw_X0_hasAll (rmOk (Nat.le_of_ble_eq_true rfl) (Nat.le_of_ble_eq_true rfl)) (fun r3 => ?_)
    refine r_ifb_ne (t := 25) (q := 22) hK dX8_cross_19 rfl rfl (fun c4 => ?_) (fun c4 => ?_)
    · refine r_aload_n (q := 26) hK dX8_cross_25 rfl rfl 0 rfl ?_
      refine gf_8_1 (q := 29) (rfl : kdC 0 = 8) hK dX8_cross_26 rfl tw_268 ?_
      refine r_aload_n (q := 30) hK dX8_cross_29 rfl rfl 0 rfl ?_
      refine gf_8_1 (q := 33) (rfl : kdC 0 = 8) hK dX8_cross_30 rfl tw_268 ?_
      refine gf_0_2 (q := 36) (rfl : kdC 57 = 0) hK dX8_cross_33 rfl tw_121 ?_
      refine r_iload_n (q := 37) hK dX8_cross_36 rfl rfl 1 rfl ?_
      refine r_aald (q := 38) hK dX8_cross_37 rfl (qC12 (kd_bt (rfl : kdC 57 = 0))) (ty := .object RX6) rfl rfl (r := gad G (trv 57 a1)) rfl (fun h5 => ?_)
      refine r_iload_n (q := 39) hK dX8_cross_38 rfl rfl 2 rfl ?_
      refine callV_iS (q := 42) (j := 57) (As := [.ref (gad G (trv 57 a1)), .int a2]) (rest := []) (f := (fX0_crosses 57 (trv 57 a1) a2 σ)) hK dX8_cross_39 rfl (fun b hb => c_X0_crosses 57 (rfl : kdC 57 = 0) (trv 57 a1) (kd_trv (rfl : kdC 57 = 0) h5) a2 σ b hb) ⟨0, _, _, _, kd_lt (rfl : kdC 57 = 0) (by decide), rfl, cC0 (rfl : kdC 57 = 0), rfl⟩ mv_X0_crosses rfl rfl (Nat.le_of_ble_eq_true rfl) tw_448 mw_X0_crosses (rmOk (Nat.le_of_ble_eq_true rfl) (Nat.le_of_ble_eq_true rfl)) (fun r6 s7 => ?_)
      exact e_iS hK dX8_cross_42
    · refine r_ldc (q := 24) hK dX8_cross_22 rfl tw_317 ?_
      exact e_iS hK dX8_cross_24
  · refine r_ldc (q := 24) hK dX8_cross_22 rfl tw_317 ?_
    exact e_iS hK dX8_cross_24
def fX8_man  (a1 : Int32) (σ : Store) : Option Int32 := (if a1 = (0 : Int32) then (some (σ 57 6)) else (if a1 = (1 : Int32) then (sbd (fX0_isTurned 57 σ) fun r3 => (if r3 = true then (some (1 : Int32)) else (some (0 : Int32)))) else (some (-1000000001 : Int32))))
theorem c_X8_man {l0 : Launch} {G : Geo} (a1 : Int32) (σ : Store) (a : Int32) (hf : fX8_man  a1 σ = some a) : sCon l0 wCls G yX8_man cX8_man 2 (some .int) (rmL 3 100) [.ref (gad G 0), .int a1] σ (some (.int a)) σ := by
  refine sCon.of (by decide) ⟨rfl, rfl⟩ (Nat.le_of_ble_eq_true rfl) RX8 rfl _ hf (fun K hK => ?_)
  show sV wCls G K a σ 0 [(0, .ref (gad G 0)), (1, .int a1)] [] _
  unfold fX8_man
  refine r_iload_n (q := 1) hK dX8_man_0 rfl rfl 1 rfl ?_
  refine sV.ite (fun c1 => ?_) (fun c1 => ?_)
  · refine r_lsI (t := 28) (0 : Int32) hK dX8_man_1 c1 rfl rfl rfl ?_
    refine r_aload_n (q := 29) hK dX8_man_28 rfl rfl 0 rfl ?_
    refine gf_8_1 (q := 32) (rfl : kdC 0 = 8) hK dX8_man_29 rfl tw_268 ?_
    refine gf_0_6 (q := 35) (rfl : kdC 57 = 0) hK dX8_man_32 rfl tw_130 ?_
    exact e_i hK dX8_man_35
  · refine sV.ite (fun c2 => ?_) (fun c2 => ?_)
    · refine r_lsI (t := 36) (1 : Int32) hK dX8_man_1 c2 rfl rfl rfl ?_
      refine r_aload_n (q := 37) hK dX8_man_36 rfl rfl 0 rfl ?_
      refine gf_8_1 (q := 40) (rfl : kdC 0 = 8) hK dX8_man_37 rfl tw_268 ?_
      refine callV_b (q := 43) (j := 57) (As := []) (rest := []) (f := (fX0_isTurned 57 σ)) hK dX8_man_40 rfl (fun b hb => c_X0_isTurned 57 (rfl : kdC 57 = 0) σ b hb) ⟨0, _, _, _, kd_lt (rfl : kdC 57 = 0) (by decide), rfl, cC0 (rfl : kdC 57 = 0), rfl⟩ mv_X0_isTurned rfl rfl (Nat.le_of_ble_eq_true rfl) tw_467 mw_X0_isTurned (rmOk (Nat.le_of_ble_eq_true rfl) (Nat.le_of_ble_eq_true rfl)) (fun r3 => ?_)
      refine r_ifb_eq (t := 50) (q := 46) hK dX8_man_43 rfl rfl (fun c4 => ?_) (fun c4 => ?_)
      · refine r_iconst (q := 47) (v := 1) hK dX8_man_46 rfl rfl ?_
        refine r_goto (q := 51) hK dX8_man_47 rfl ?_
        exact e_i hK dX8_man_51
      · refine r_iconst (q := 51) (v := 0) hK dX8_man_50 rfl rfl ?_
        exact e_i hK dX8_man_51
    · have ec1 : ¬ (a1).toInt = 0 := ne_ti c1
      have ec2 : ¬ (a1).toInt = 1 := ne_ti c2
      refine r_lsO (t := 52) hK dX8_man_1 rfl [0, 1] rfl (List.forall_mem_cons.mpr ⟨ec1, (List.forall_mem_cons.mpr ⟨ec2, (List.forall_mem_nil _)⟩)⟩) rfl ?_
      refine r_ldc (q := 54) hK dX8_man_52 rfl tw_317 ?_
      exact e_i hK dX8_man_54
def fX8_forget   (σ : Store) : Option (Int32 × Store) := (sbd (fJ6_bitCount_0f7a4 (σ 57 6) σ) fun r1 => (slt (sup σ 57 6 (0 : Int32)) fun s2 => (some (r1, s2))))
theorem c_X8_forget {l0 : Launch} {G : Geo}  (σ : Store) (a : (Int32 × Store)) (hf : fX8_forget   σ = some a) : sCon l0 wCls G yX8_forget cX8_forget 2 (some .int) (rmL 2 80) [.ref (gad G 0)] σ (some (.int a.1)) a.2 := by
  refine sCon.of (by decide) ⟨rfl, rfl⟩ (Nat.le_of_ble_eq_true rfl) RX8 rfl _ hf (fun K hK => ?_)
  show sV wCls G K a σ 0 [(0, .ref (gad G 0))] [] _
  unfold fX8_forget
  refine r_aload_n (q := 1) hK dX8_forget_0 rfl rfl 0 rfl ?_
  refine gf_8_1 (q := 4) (rfl : kdC 0 = 8) hK dX8_forget_1 rfl tw_268 ?_
  refine gf_0_6 (q := 7) (rfl : kdC 57 = 0) hK dX8_forget_4 rfl tw_130 ?_
  refine callS_i (q := 10) (As := [.int (σ 57 6)]) (rest := []) (f := (fJ6_bitCount_0f7a4 (σ 57 6) σ)) hK dX8_forget_7 rfl (fun b hb => c_J6_bitCount_0f7a4 (σ 57 6) σ b hb) ms_J6_bitCount_0f7a4 rfl rfl (Nat.le_of_ble_eq_true rfl) tw_472 mw_J6_bitCount_0f7a4 (rmOk (Nat.le_of_ble_eq_true rfl) (Nat.le_of_ble_eq_true rfl)) (fun r1 => ?_)
  refine r_istore_n (q := 11) (loc' := [(1, .int r1), (0, .ref (gad G 0))]) hK dX8_forget_10 rfl rfl (by decide) rfl ?_
  refine r_aload_n (q := 12) hK dX8_forget_11 rfl rfl 1 rfl ?_
  refine gf_8_1 (q := 15) (rfl : kdC 0 = 8) hK dX8_forget_12 rfl tw_268 ?_
  refine r_iconst (q := 16) (v := 0) hK dX8_forget_15 rfl rfl ?_
  refine pf_0_6 (q := 19) (rfl : kdC 57 = 0) hK dX8_forget_16 rfl tw_130 ?_
  refine sV.ltS (fun s2 => ?_)
  refine r_iload_n (q := 20) hK dX8_forget_19 rfl rfl 0 rfl ?_
  exact e_iS hK dX8_forget_20
def fX0_dayPasses_L2  (o0 : Nat) (k : Int32 → Store → Option Store) : Nat → Int32 → Store → Option Store
  | 0, _, _ => none
  | n + 1, i1, τ => (if (τ o0 3) ≤ i1 then (k i1 τ) else (six 10 i1 (slt (sup τ (wrd o0 i1) 5 (0 : Int32)) fun s9 => (fX0_dayPasses_L2 o0 k n (i1 + (1 : Int32)) s9))))
theorem vX0_dayPasses_L2 {G : Geo} {K : KT} {l0 : Launch} (σ : Store) {a : Store} (o0 : Nat) (ho0 : kdC o0 = 0) (hK : sOk wCls G K l0 RX0 cX0_dayPasses (rmL 5 158) 3 (none) none a) (k : Int32 → Store → Option Store) (hk : ∀ (e1 : Int32) (ε : Store), sV wCls G K a ε 26 [(0, .ref (gad G o0)), (1, .int e1)] [] (k e1 ε)) : ∀ (n : Nat) (i1 : Int32) (τ : Store), sV wCls G K a τ 2 [(0, .ref (gad G o0)), (1, .int i1)] [] (fX0_dayPasses_L2 o0 k n i1 τ) := by
  intro n
  induction n with
  | zero =>
    intro i1 τ
    exact sV.no
  | succ n ih =>
    intro i1 τ
    rw [fX0_dayPasses_L2]
    refine r_iload_n (q := 3) hK dX0_dayPasses_2 rfl rfl 1 rfl ?_
    refine r_aload_n (q := 4) hK dX0_dayPasses_3 rfl rfl 0 rfl ?_
    refine gf_0_3 (q := 7) ho0 hK dX0_dayPasses_4 rfl tw_122 ?_
    refine r_icmp_ge (t := 26) (q := 10) hK dX0_dayPasses_7 rfl rfl (fun c7 => ?_) (fun c7 => ?_)
    · exact sV.sub [0, 1] (by rfl) (hk i1 τ)
    · refine r_aload_n (q := 11) hK dX0_dayPasses_10 rfl rfl 0 rfl ?_
      refine gf_0_1 (q := 14) ho0 hK dX0_dayPasses_11 rfl tw_117 ?_
      refine r_iload_n (q := 15) hK dX0_dayPasses_14 rfl rfl 1 rfl ?_
      refine r_aald (q := 16) hK dX0_dayPasses_15 rfl (qC13 (kd_bw ho0)) (ty := .object RX7) rfl rfl (r := gad G (wrd o0 i1)) rfl (fun h8 => ?_)
      refine r_iconst (q := 17) (v := 0) hK dX0_dayPasses_16 rfl rfl ?_
      refine pf_7_5 (q := 20) (kd_wrd ho0 h8) hK dX0_dayPasses_17 rfl tw_85 ?_
      refine sV.ltS (fun s9 => ?_)
      refine r_iinc (q := 23) (v := (i1 + (1 : Int32))) (loc' := [(1, .int (i1 + (1 : Int32))), (0, .ref (gad G o0))]) hK dX0_dayPasses_20 rfl 1 rfl rfl (by decide) rfl ?_
      refine r_goto (q := 2) hK dX0_dayPasses_23 rfl ?_
      exact sV.sub [1, 0] (by rfl) (ih (i1 + (1 : Int32)) s9)
def fX0_dayPasses_L28  (o0 : Nat) (k : Int32 → Store → Option Store) : Nat → Int32 → Store → Option Store
  | 0, _, _ => none
  | n + 1, i1, τ => (if (τ o0 4) ≤ i1 then (k i1 τ) else (sbd2 (fX0_draw o0 τ) fun r29 s30 => (sbd (fX0_allWords o0 s30) fun r31 => (slt ((r29 - r29 / (1024 : Int32) * (1024 : Int32)) &&& r31) fun x32 => (six 6 i1 (sbd2 (fX0_crosses o0 (trv o0 i1) x32 s30) fun r34 s35 => (fX0_dayPasses_L28 o0 k n (i1 + (1 : Int32)) s35)))))))
theorem vX0_dayPasses_L28 {G : Geo} {K : KT} {l0 : Launch} (σ : Store) {a : Store} (o0 : Nat) (ho0 : kdC o0 = 0) (hK : sOk wCls G K l0 RX0 cX0_dayPasses (rmL 5 158) 3 (none) none a) (k : Int32 → Store → Option Store) (hk : ∀ (e1 : Int32) (ε : Store), sV wCls G K a ε 68 [(0, .ref (gad G o0)), (1, .int e1)] [] (k e1 ε)) : ∀ (n : Nat) (i1 : Int32) (τ : Store), sV wCls G K a τ 28 [(0, .ref (gad G o0)), (1, .int i1)] [] (fX0_dayPasses_L28 o0 k n i1 τ) := by
  intro n
  induction n with
  | zero =>
    intro i1 τ
    exact sV.no
  | succ n ih =>
    intro i1 τ
    rw [fX0_dayPasses_L28]
    refine r_iload_n (q := 29) hK dX0_dayPasses_28 rfl rfl 1 rfl ?_
    refine r_aload_n (q := 30) hK dX0_dayPasses_29 rfl rfl 0 rfl ?_
    refine gf_0_4 (q := 33) ho0 hK dX0_dayPasses_30 rfl tw_125 ?_
    refine r_icmp_ge (t := 68) (q := 36) hK dX0_dayPasses_33 rfl rfl (fun c28 => ?_) (fun c28 => ?_)
    · exact sV.sub [0, 1] (by rfl) (hk i1 τ)
    · refine r_aload_n (q := 37) hK dX0_dayPasses_36 rfl rfl 0 rfl ?_
      refine callV_iS (q := 40) (j := o0) (As := []) (rest := []) (f := (fX0_draw o0 τ)) hK dX0_dayPasses_37 rfl (fun b hb => c_X0_draw o0 ho0 τ b hb) ⟨0, _, _, _, kd_lt ho0 (by decide), rfl, cC0 ho0, rfl⟩ mv_X0_draw rfl rfl (Nat.le_of_ble_eq_true rfl) tw_434 mw_X0_draw (rmOk (Nat.le_of_ble_eq_true rfl) (Nat.le_of_ble_eq_true rfl)) (fun r29 s30 => ?_)
      refine r_sipush (q := 43) (v := 1024) hK dX0_dayPasses_40 rfl rfl ?_
      refine r_iremc (q := 44) hK dX0_dayPasses_43 rfl (by decide) ?_
      refine r_aload_n (q := 45) hK dX0_dayPasses_44 rfl rfl 0 rfl ?_
      refine callV_i (q := 48) (j := o0) (As := []) (rest := [.int (r29 - r29 / (1024 : Int32) * (1024 : Int32))]) (f := (fX0_allWords o0 s30)) hK dX0_dayPasses_45 rfl (fun b hb => c_X0_allWords o0 ho0 s30 b hb) ⟨0, _, _, _, kd_lt ho0 (by decide), rfl, cC0 ho0, rfl⟩ mv_X0_allWords rfl rfl (Nat.le_of_ble_eq_true rfl) tw_418 mw_X0_allWords (rmOk (Nat.le_of_ble_eq_true rfl) (Nat.le_of_ble_eq_true rfl)) (fun r31 => ?_)
      refine r_iand (q := 49) hK dX0_dayPasses_48 rfl ?_
      refine sV.ltI (fun x32 => ?_)
      refine r_istore_n (q := 50) (loc' := [(2, .int x32), (0, .ref (gad G o0)), (1, .int i1)]) hK dX0_dayPasses_49 rfl rfl (by decide) rfl ?_
      refine r_aload_n (q := 51) hK dX0_dayPasses_50 rfl rfl 1 rfl ?_
      refine r_aload_n (q := 52) hK dX0_dayPasses_51 rfl rfl 1 rfl ?_
      refine gf_0_2 (q := 55) ho0 hK dX0_dayPasses_52 rfl tw_120 ?_
      refine r_iload_n (q := 56) hK dX0_dayPasses_55 rfl rfl 2 rfl ?_
      refine r_aald (q := 57) hK dX0_dayPasses_56 rfl (qC12 (kd_bt ho0)) (ty := .object RX6) rfl rfl (r := gad G (trv o0 i1)) rfl (fun h33 => ?_)
      refine r_iload_n (q := 58) hK dX0_dayPasses_57 rfl rfl 0 rfl ?_
      refine callV_iS (q := 61) (j := o0) (As := [.ref (gad G (trv o0 i1)), .int x32]) (rest := []) (f := (fX0_crosses o0 (trv o0 i1) x32 s30)) hK dX0_dayPasses_58 rfl (fun b hb => c_X0_crosses o0 ho0 (trv o0 i1) (kd_trv ho0 h33) x32 s30 b hb) ⟨0, _, _, _, kd_lt ho0 (by decide), rfl, cC0 ho0, rfl⟩ mv_X0_crosses rfl rfl (Nat.le_of_ble_eq_true rfl) tw_485 mw_X0_crosses (rmOk (Nat.le_of_ble_eq_true rfl) (Nat.le_of_ble_eq_true rfl)) (fun r34 s35 => ?_)
      refine r_pop (q := 62) hK dX0_dayPasses_61 rfl rfl ?_
      refine r_iinc (q := 65) (v := (i1 + (1 : Int32))) (loc' := [(1, .int (i1 + (1 : Int32))), (2, .int x32), (0, .ref (gad G o0))]) hK dX0_dayPasses_62 rfl 2 rfl rfl (by decide) rfl ?_
      refine r_goto (q := 28) hK dX0_dayPasses_65 rfl ?_
      exact sV.sub [2, 0] (by rfl) (ih (i1 + (1 : Int32)) s35)
def fX0_dayPasses  (a0 : Nat) (σ : Store) : Option Store := (fX0_dayPasses_L2 a0 (fun x10 s11 => (fX0_dayPasses_L28 a0 (fun x36 s37 => (slt (sup s37 a0 9 ((s37 a0 9) + (1 : Int32))) fun s38 => (some s38))) FU (0 : Int32) s11)) FU (0 : Int32) σ)
theorem c_X0_dayPasses {l0 : Launch} {G : Geo} (a0 : Nat) (h0 : kdC a0 = 0) (σ : Store) (a : Store) (hf : fX0_dayPasses  a0 σ = some a) : sCon l0 wCls G yX0_dayPasses cX0_dayPasses 3 (none) (rmL 5 158) [.ref (gad G a0)] σ none a := by
  refine sCon.of (by decide) ⟨rfl, rfl⟩ (Nat.le_of_ble_eq_true rfl) RX0 rfl _ hf (fun K hK => ?_)
  show sV wCls G K a σ 0 [(0, .ref (gad G a0))] [] _
  unfold fX0_dayPasses
  refine r_iconst (q := 1) (v := 0) hK dX0_dayPasses_0 rfl rfl ?_
  refine r_istore_n (q := 2) (loc' := [(1, .int (0 : Int32)), (0, .ref (gad G a0))]) hK dX0_dayPasses_1 rfl rfl (by decide) rfl ?_
  refine sV.sub [1, 0] (by rfl) (vX0_dayPasses_L2 σ a0 h0 hK _ (fun x10 s11 => ?_) FU (0 : Int32) σ)
  refine r_iconst (q := 27) (v := 0) hK dX0_dayPasses_26 rfl rfl ?_
  refine r_istore_n (q := 28) (loc' := [(1, .int (0 : Int32)), (0, .ref (gad G a0))]) hK dX0_dayPasses_27 rfl rfl (by decide) rfl ?_
  refine sV.sub [1, 0] (by rfl) (vX0_dayPasses_L28 s11 a0 h0 hK _ (fun x36 s37 => ?_) FU (0 : Int32) s11)
  refine r_aload_n (q := 69) hK dX0_dayPasses_68 rfl rfl 0 rfl ?_
  refine r_dup (q := 70) hK dX0_dayPasses_69 rfl rfl ?_
  refine gf_0_9 (q := 73) h0 hK dX0_dayPasses_70 rfl tw_135 ?_
  refine r_iconst (q := 74) (v := 1) hK dX0_dayPasses_73 rfl rfl ?_
  refine r_iadd (q := 75) hK dX0_dayPasses_74 rfl ?_
  refine pf_0_9 (q := 78) h0 hK dX0_dayPasses_75 rfl tw_135 ?_
  refine sV.ltS (fun s38 => ?_)
  exact e_vS hK dX0_dayPasses_78
