def fX8_ask  (a1 : Int32) (a2 : Int32) (σ : Store) : Option Int32 := (sbd (fX8_isSlot a1 σ) fun r1 => (if r1 = true then (sbd (fX8_isKind a2 σ) fun r3 => (if r3 = true then (six 5 a1 (if ¬ (σ (slo a1) 0) = 0 then (if ¬ (σ (slo a1) 0) = (1 : Int32) then (some (-1000000012 : Int32)) else (sbd (fX7_isOf ((slo a1) + 5) a2 σ) fun r8 => (if r8 = true then (sbd (fX7_worth ((slo a1) + 5) σ) fun r10 => (some r10)) else (some (-1000000012 : Int32))))) else (some (-1000000011 : Int32)))) else (some (-1000000001 : Int32)))) else (some (-1000000001 : Int32))))
theorem c_X8_ask {l0 : Launch} {G : Geo} (a1 : Int32) (a2 : Int32) (σ : Store) (a : Int32) (hf : fX8_ask  a1 a2 σ = some a) : sCon l0 wCls G yX8_ask cX8_ask 4 (some .int) (rmL 3 102) [.ref (gad G 0), .int a1, .int a2] σ (some (.int a)) σ := by
  refine sCon.of (by decide) ⟨rfl, rfl⟩ (Nat.le_of_ble_eq_true rfl) RX8 rfl _ hf (fun K hK => ?_)
  show sV wCls G K a σ 0 [(0, .ref (gad G 0)), (1, .int a1), (2, .int a2)] [] _
  unfold fX8_ask
  refine r_iload_n (q := 1) hK dX8_ask_0 rfl rfl 1 rfl ?_
  refine callS_b (q := 4) (As := [.int a1]) (rest := []) (f := (fX8_isSlot a1 σ)) hK dX8_ask_1 rfl (fun b hb => c_X8_isSlot a1 σ b hb) ms_X8_isSlot rfl rfl (Nat.le_of_ble_eq_true rfl) tw_748 mw_X8_isSlot (rmOk (Nat.le_of_ble_eq_true rfl) (Nat.le_of_ble_eq_true rfl)) (fun r1 => ?_)
  refine r_ifb_eq (t := 14) (q := 7) hK dX8_ask_4 rfl rfl (fun c2 => ?_) (fun c2 => ?_)
  · refine r_iload_n (q := 8) hK dX8_ask_7 rfl rfl 2 rfl ?_
    refine callS_b (q := 11) (As := [.int a2]) (rest := []) (f := (fX8_isKind a2 σ)) hK dX8_ask_8 rfl (fun b hb => c_X8_isKind a2 σ b hb) ms_X8_isKind rfl rfl (Nat.le_of_ble_eq_true rfl) tw_311 mw_X8_isKind (rmOk (Nat.le_of_ble_eq_true rfl) (Nat.le_of_ble_eq_true rfl)) (fun r3 => ?_)
    refine r_ifb_ne (t := 17) (q := 14) hK dX8_ask_11 rfl rfl (fun c4 => ?_) (fun c4 => ?_)
    · refine r_aload_n (q := 18) hK dX8_ask_17 rfl rfl 0 rfl ?_
      refine gf_8_8 (q := 21) (rfl : kdC 0 = 8) hK dX8_ask_18 rfl tw_275 ?_
      refine r_iload_n (q := 22) hK dX8_ask_21 rfl rfl 1 rfl ?_
      refine r_aald (q := 23) hK dX8_ask_22 rfl (qC11 (rfl : kdC 35 = 11)) (ty := .object RX5) rfl rfl (r := gad G (slo a1)) rfl (fun h5 => ?_)
      refine r_astore_n (q := 24) (loc' := [(3, .ref (gad G (slo a1))), (0, .ref (gad G 0)), (1, .int a1), (2, .int a2)]) hK dX8_ask_23 rfl rfl (by decide) rfl ?_
      refine r_aload_n (q := 25) hK dX8_ask_24 rfl rfl 0 rfl ?_
      refine gf_5_0 (q := 28) (kd_slo h5) hK dX8_ask_25 rfl tw_252 ?_
      refine r_if_ne (t := 34) (q := 31) hK dX8_ask_28 rfl rfl (fun c6 => ?_) (fun c6 => ?_)
      · refine r_aload_n (q := 35) hK dX8_ask_34 rfl rfl 0 rfl ?_
        refine gf_5_0 (q := 38) (kd_slo h5) hK dX8_ask_35 rfl tw_252 ?_
        refine r_iconst (q := 39) (v := 1) hK dX8_ask_38 rfl rfl ?_
        refine r_icmp_ne (t := 53) (q := 42) hK dX8_ask_39 rfl rfl (fun c7 => ?_) (fun c7 => ?_)
        · refine r_ldc (q := 55) hK dX8_ask_53 rfl tw_385 ?_
          exact e_i hK dX8_ask_55
        · refine r_aload_n (q := 43) hK dX8_ask_42 rfl rfl 0 rfl ?_
          refine gf_5_2 (q := 46) (kd_slo h5) hK dX8_ask_43 rfl tw_255 ?_
          refine r_iload_n (q := 47) hK dX8_ask_46 rfl rfl 3 rfl ?_
          refine callV_b (q := 50) (j := ((slo a1) + 5)) (As := [.int a2]) (rest := []) (f := (fX7_isOf ((slo a1) + 5) a2 σ)) hK dX8_ask_47 rfl (fun b hb => c_X7_isOf ((slo a1) + 5) (kd_sw (kd_slo h5)) a2 σ b hb) ⟨7, _, _, _, kd_lt (kd_sw (kd_slo h5)) (by decide), rfl, cC7 (kd_sw (kd_slo h5)), rfl⟩ mv_X7_isOf rfl rfl (Nat.le_of_ble_eq_true rfl) tw_379 mw_X7_isOf (rmOk (Nat.le_of_ble_eq_true rfl) (Nat.le_of_ble_eq_true rfl)) (fun r8 => ?_)
          refine r_ifb_ne (t := 56) (q := 53) hK dX8_ask_50 rfl rfl (fun c9 => ?_) (fun c9 => ?_)
          · refine r_aload_n (q := 57) hK dX8_ask_56 rfl rfl 0 rfl ?_
            refine gf_5_2 (q := 60) (kd_slo h5) hK dX8_ask_57 rfl tw_255 ?_
            refine callV_i (q := 63) (j := ((slo a1) + 5)) (As := []) (rest := []) (f := (fX7_worth ((slo a1) + 5) σ)) hK dX8_ask_60 rfl (fun b hb => c_X7_worth ((slo a1) + 5) (kd_sw (kd_slo h5)) σ b hb) ⟨7, _, _, _, kd_lt (kd_sw (kd_slo h5)) (by decide), rfl, cC7 (kd_sw (kd_slo h5)), rfl⟩ mv_X7_worth rfl rfl (Nat.le_of_ble_eq_true rfl) tw_365 mw_X7_worth (rmOk (Nat.le_of_ble_eq_true rfl) (Nat.le_of_ble_eq_true rfl)) (fun r10 => ?_)
            exact e_i hK dX8_ask_63
          · refine r_ldc (q := 55) hK dX8_ask_53 rfl tw_385 ?_
            exact e_i hK dX8_ask_55
      · refine r_ldc (q := 33) hK dX8_ask_31 rfl tw_586 ?_
        exact e_i hK dX8_ask_33
    · refine r_ldc (q := 16) hK dX8_ask_14 rfl tw_317 ?_
      exact e_i hK dX8_ask_16
  · refine r_ldc (q := 16) hK dX8_ask_14 rfl tw_317 ?_
    exact e_i hK dX8_ask_16
def fX8_item  (a1 : Int32) (a2 : Int32) (σ : Store) : Option Int32 := (sbd (fX8_isSlot a1 σ) fun r1 => (if r1 = true then (six 5 a1 (if ¬ (σ (slo a1) 0) = 0 then (if (σ (slo a1) 0) = (2 : Int32) then (sbd (fX3_hasPlace ((slo a1) + 10) a2 σ) fun r6 => (if r6 = true then (sbd (fX3_isNumber ((slo a1) + 10) a2 σ) fun r8 => (if r8 = true then (six 24 a2 (some (σ (fpl ((slo a1) + 10)) (snx a2)))) else (some (-1000000012 : Int32)))) else (some (-1000000013 : Int32)))) else (some (-1000000012 : Int32))) else (some (-1000000011 : Int32)))) else (some (-1000000001 : Int32))))
theorem c_X8_item {l0 : Launch} {G : Geo} (a1 : Int32) (a2 : Int32) (σ : Store) (a : Int32) (hf : fX8_item  a1 a2 σ = some a) : sCon l0 wCls G yX8_item cX8_item 4 (some .int) (rmL 4 124) [.ref (gad G 0), .int a1, .int a2] σ (some (.int a)) σ := by
  refine sCon.of (by decide) ⟨rfl, rfl⟩ (Nat.le_of_ble_eq_true rfl) RX8 rfl _ hf (fun K hK => ?_)
  show sV wCls G K a σ 0 [(0, .ref (gad G 0)), (1, .int a1), (2, .int a2)] [] _
  unfold fX8_item
  refine r_iload_n (q := 1) hK dX8_item_0 rfl rfl 1 rfl ?_
  refine callS_b (q := 4) (As := [.int a1]) (rest := []) (f := (fX8_isSlot a1 σ)) hK dX8_item_1 rfl (fun b hb => c_X8_isSlot a1 σ b hb) ms_X8_isSlot rfl rfl (Nat.le_of_ble_eq_true rfl) tw_748 mw_X8_isSlot (rmOk (Nat.le_of_ble_eq_true rfl) (Nat.le_of_ble_eq_true rfl)) (fun r1 => ?_)
  refine r_ifb_ne (t := 10) (q := 7) hK dX8_item_4 rfl rfl (fun c2 => ?_) (fun c2 => ?_)
  · refine r_aload_n (q := 11) hK dX8_item_10 rfl rfl 0 rfl ?_
    refine gf_8_8 (q := 14) (rfl : kdC 0 = 8) hK dX8_item_11 rfl tw_275 ?_
    refine r_iload_n (q := 15) hK dX8_item_14 rfl rfl 1 rfl ?_
    refine r_aald (q := 16) hK dX8_item_15 rfl (qC11 (rfl : kdC 35 = 11)) (ty := .object RX5) rfl rfl (r := gad G (slo a1)) rfl (fun h3 => ?_)
    refine r_astore_n (q := 17) (loc' := [(3, .ref (gad G (slo a1))), (0, .ref (gad G 0)), (1, .int a1), (2, .int a2)]) hK dX8_item_16 rfl rfl (by decide) rfl ?_
    refine r_aload_n (q := 18) hK dX8_item_17 rfl rfl 0 rfl ?_
    refine gf_5_0 (q := 21) (kd_slo h3) hK dX8_item_18 rfl tw_252 ?_
    refine r_if_ne (t := 27) (q := 24) hK dX8_item_21 rfl rfl (fun c4 => ?_) (fun c4 => ?_)
    · refine r_aload_n (q := 28) hK dX8_item_27 rfl rfl 0 rfl ?_
      refine gf_5_0 (q := 31) (kd_slo h3) hK dX8_item_28 rfl tw_252 ?_
      refine r_iconst (q := 32) (v := 2) hK dX8_item_31 rfl rfl ?_
      refine r_icmp_eq (t := 38) (q := 35) hK dX8_item_32 rfl rfl (fun c5 => ?_) (fun c5 => ?_)
      · refine r_aload_n (q := 39) hK dX8_item_38 rfl rfl 0 rfl ?_
        refine gf_5_3 (q := 42) (kd_slo h3) hK dX8_item_39 rfl tw_257 ?_
        refine r_iload_n (q := 43) hK dX8_item_42 rfl rfl 3 rfl ?_
        refine callV_b (q := 46) (j := ((slo a1) + 10)) (As := [.int a2]) (rest := []) (f := (fX3_hasPlace ((slo a1) + 10) a2 σ)) hK dX8_item_43 rfl (fun b hb => c_X3_hasPlace ((slo a1) + 10) (kd_sr (kd_slo h3)) a2 σ b hb) ⟨3, _, _, _, kd_lt (kd_sr (kd_slo h3)) (by decide), rfl, cC3 (kd_sr (kd_slo h3)), rfl⟩ mv_X3_hasPlace rfl rfl (Nat.le_of_ble_eq_true rfl) tw_722 mw_X3_hasPlace (rmOk (Nat.le_of_ble_eq_true rfl) (Nat.le_of_ble_eq_true rfl)) (fun r6 => ?_)
        refine r_ifb_ne (t := 53) (q := 49) hK dX8_item_46 rfl rfl (fun c7 => ?_) (fun c7 => ?_)
        · refine r_aload_n (q := 54) hK dX8_item_53 rfl rfl 0 rfl ?_
          refine gf_5_3 (q := 57) (kd_slo h3) hK dX8_item_54 rfl tw_257 ?_
          refine r_iload_n (q := 58) hK dX8_item_57 rfl rfl 3 rfl ?_
          refine callV_b (q := 61) (j := ((slo a1) + 10)) (As := [.int a2]) (rest := []) (f := (fX3_isNumber ((slo a1) + 10) a2 σ)) hK dX8_item_58 rfl (fun b hb => c_X3_isNumber ((slo a1) + 10) (kd_sr (kd_slo h3)) a2 σ b hb) ⟨3, _, _, _, kd_lt (kd_sr (kd_slo h3)) (by decide), rfl, cC3 (kd_sr (kd_slo h3)), rfl⟩ mv_X3_isNumber rfl rfl (Nat.le_of_ble_eq_true rfl) tw_591 mw_X3_isNumber (rmOk (Nat.le_of_ble_eq_true rfl) (Nat.le_of_ble_eq_true rfl)) (fun r8 => ?_)
          refine r_ifb_eq (t := 76) (q := 64) hK dX8_item_61 rfl rfl (fun c9 => ?_) (fun c9 => ?_)
          · refine r_aload_n (q := 65) hK dX8_item_64 rfl rfl 0 rfl ?_
            refine gf_5_3 (q := 68) (kd_slo h3) hK dX8_item_65 rfl tw_257 ?_
            refine gf_3_2 (q := 71) (kd_sr (kd_slo h3)) hK dX8_item_68 rfl tw_234 ?_
            refine r_iload_n (q := 72) hK dX8_item_71 rfl rfl 3 rfl ?_
            refine r_iald (q := 73) hK dX8_item_72 rfl (aC23 (kd_rp (kd_sr (kd_slo h3)))) (fun h10 => ?_)
            refine r_goto (q := 78) hK dX8_item_73 rfl ?_
            exact e_i hK dX8_item_78
          · refine r_ldc (q := 78) hK dX8_item_76 rfl tw_385 ?_
            exact e_i hK dX8_item_78
        · refine r_ldcw (q := 52) hK dX8_item_49 rfl tw_723 ?_
          exact e_i hK dX8_item_52
      · refine r_ldc (q := 37) hK dX8_item_35 rfl tw_385 ?_
        exact e_i hK dX8_item_37
    · refine r_ldc (q := 26) hK dX8_item_24 rfl tw_586 ?_
      exact e_i hK dX8_item_26
  · refine r_ldc (q := 9) hK dX8_item_7 rfl tw_317 ?_
    exact e_i hK dX8_item_9
def fX8_rest  (a1 : Int32) (a2 : Int32) (σ : Store) : Option Int32 := (sbd (fX8_isSlot a1 σ) fun r1 => (if r1 = true then (six 5 a1 (if ¬ (σ (slo a1) 0) = 0 then (if (σ (slo a1) 0) = (3 : Int32) then (if ¬ a2 = 0 then (sdz a2 (some ((σ (slo a1) 1) - (σ (slo a1) 1) / a2 * a2))) else (some (-1000000002 : Int32))) else (some (-1000000012 : Int32))) else (some (-1000000011 : Int32)))) else (some (-1000000001 : Int32))))
theorem c_X8_rest {l0 : Launch} {G : Geo} (a1 : Int32) (a2 : Int32) (σ : Store) (a : Int32) (hf : fX8_rest  a1 a2 σ = some a) : sCon l0 wCls G yX8_rest cX8_rest 4 (some .int) (rmL 3 102) [.ref (gad G 0), .int a1, .int a2] σ (some (.int a)) σ := by
  refine sCon.of (by decide) ⟨rfl, rfl⟩ (Nat.le_of_ble_eq_true rfl) RX8 rfl _ hf (fun K hK => ?_)
  show sV wCls G K a σ 0 [(0, .ref (gad G 0)), (1, .int a1), (2, .int a2)] [] _
  unfold fX8_rest
  refine r_iload_n (q := 1) hK dX8_rest_0 rfl rfl 1 rfl ?_
  refine callS_b (q := 4) (As := [.int a1]) (rest := []) (f := (fX8_isSlot a1 σ)) hK dX8_rest_1 rfl (fun b hb => c_X8_isSlot a1 σ b hb) ms_X8_isSlot rfl rfl (Nat.le_of_ble_eq_true rfl) tw_748 mw_X8_isSlot (rmOk (Nat.le_of_ble_eq_true rfl) (Nat.le_of_ble_eq_true rfl)) (fun r1 => ?_)
  refine r_ifb_ne (t := 10) (q := 7) hK dX8_rest_4 rfl rfl (fun c2 => ?_) (fun c2 => ?_)
  · refine r_aload_n (q := 11) hK dX8_rest_10 rfl rfl 0 rfl ?_
    refine gf_8_8 (q := 14) (rfl : kdC 0 = 8) hK dX8_rest_11 rfl tw_275 ?_
    refine r_iload_n (q := 15) hK dX8_rest_14 rfl rfl 1 rfl ?_
    refine r_aald (q := 16) hK dX8_rest_15 rfl (qC11 (rfl : kdC 35 = 11)) (ty := .object RX5) rfl rfl (r := gad G (slo a1)) rfl (fun h3 => ?_)
    refine r_astore_n (q := 17) (loc' := [(3, .ref (gad G (slo a1))), (0, .ref (gad G 0)), (1, .int a1), (2, .int a2)]) hK dX8_rest_16 rfl rfl (by decide) rfl ?_
    refine r_aload_n (q := 18) hK dX8_rest_17 rfl rfl 0 rfl ?_
    refine gf_5_0 (q := 21) (kd_slo h3) hK dX8_rest_18 rfl tw_252 ?_
    refine r_if_ne (t := 27) (q := 24) hK dX8_rest_21 rfl rfl (fun c4 => ?_) (fun c4 => ?_)
    · refine r_aload_n (q := 28) hK dX8_rest_27 rfl rfl 0 rfl ?_
      refine gf_5_0 (q := 31) (kd_slo h3) hK dX8_rest_28 rfl tw_252 ?_
      refine r_iconst (q := 32) (v := 3) hK dX8_rest_31 rfl rfl ?_
      refine r_icmp_eq (t := 38) (q := 35) hK dX8_rest_32 rfl rfl (fun c5 => ?_) (fun c5 => ?_)
      · refine r_iload_n (q := 39) hK dX8_rest_38 rfl rfl 3 rfl ?_
        refine r_if_ne (t := 48) (q := 42) hK dX8_rest_39 rfl rfl (fun c6 => ?_) (fun c6 => ?_)
        · refine r_aload_n (q := 49) hK dX8_rest_48 rfl rfl 0 rfl ?_
          refine gf_5_1 (q := 52) (kd_slo h3) hK dX8_rest_49 rfl tw_253 ?_
          refine r_iload_n (q := 53) hK dX8_rest_52 rfl rfl 3 rfl ?_
          refine r_irem (q := 54) hK dX8_rest_53 rfl ?_
          exact e_i hK dX8_rest_54
        · refine r_ldcw (q := 45) hK dX8_rest_42 rfl tw_769 ?_
          refine r_goto (q := 54) hK dX8_rest_45 rfl ?_
          exact e_i hK dX8_rest_54
      · refine r_ldc (q := 37) hK dX8_rest_35 rfl tw_385 ?_
        exact e_i hK dX8_rest_37
    · refine r_ldc (q := 26) hK dX8_rest_24 rfl tw_586 ?_
      exact e_i hK dX8_rest_26
  · refine r_ldc (q := 9) hK dX8_rest_7 rfl tw_317 ?_
    exact e_i hK dX8_rest_9
def fX8_tell  (a1 : Int32) (σ : Store) : Option (Int32 × Store) := (if (σ 0 11) < (60 : Int32) then (six 60 (σ 0 11) (slt (sup σ 56 (snx (σ 0 11)) a1) fun s3 => (slt (sup s3 0 11 ((s3 0 11) + (1 : Int32))) fun s4 => (some ((s4 0 11), s4))))) else (some ((-1000000003 : Int32), σ)))
theorem c_X8_tell {l0 : Launch} {G : Geo} (a1 : Int32) (σ : Store) (a : (Int32 × Store)) (hf : fX8_tell  a1 σ = some a) : sCon l0 wCls G yX8_tell cX8_tell 2 (some .int) (rmL 1 60) [.ref (gad G 0), .int a1] σ (some (.int a.1)) a.2 := by
  refine sCon.of (by decide) ⟨rfl, rfl⟩ (Nat.le_of_ble_eq_true rfl) RX8 rfl _ hf (fun K hK => ?_)
  show sV wCls G K a σ 0 [(0, .ref (gad G 0)), (1, .int a1)] [] _
  unfold fX8_tell
  refine r_aload_n (q := 1) hK dX8_tell_0 rfl rfl 0 rfl ?_
  refine gf_8_11 (q := 4) (rfl : kdC 0 = 8) hK dX8_tell_1 rfl tw_278 ?_
  refine r_bipush (q := 6) (v := 60) hK dX8_tell_4 rfl rfl ?_
  refine r_icmp_lt (t := 12) (q := 9) hK dX8_tell_6 rfl rfl (fun c1 => ?_) (fun c1 => ?_)
  · refine r_aload_n (q := 13) hK dX8_tell_12 rfl rfl 0 rfl ?_
    refine gf_8_9 (q := 16) (rfl : kdC 0 = 8) hK dX8_tell_13 rfl tw_276 ?_
    refine r_aload_n (q := 17) hK dX8_tell_16 rfl rfl 0 rfl ?_
    refine gf_8_11 (q := 20) (rfl : kdC 0 = 8) hK dX8_tell_17 rfl tw_278 ?_
    refine r_iload_n (q := 21) hK dX8_tell_20 rfl rfl 1 rfl ?_
    refine r_iast (q := 22) hK dX8_tell_21 rfl (aC24 (j := 56) rfl) (fun h2 => ?_)
    refine sV.ltS (fun s3 => ?_)
    refine r_aload_n (q := 23) hK dX8_tell_22 rfl rfl 0 rfl ?_
    refine r_dup (q := 24) hK dX8_tell_23 rfl rfl ?_
    refine gf_8_11 (q := 27) (rfl : kdC 0 = 8) hK dX8_tell_24 rfl tw_278 ?_
    refine r_iconst (q := 28) (v := 1) hK dX8_tell_27 rfl rfl ?_
    refine r_iadd (q := 29) hK dX8_tell_28 rfl ?_
    refine pf_8_11 (q := 32) (rfl : kdC 0 = 8) hK dX8_tell_29 rfl tw_278 ?_
    refine sV.ltS (fun s4 => ?_)
    refine r_aload_n (q := 33) hK dX8_tell_32 rfl rfl 0 rfl ?_
    refine gf_8_11 (q := 36) (rfl : kdC 0 = 8) hK dX8_tell_33 rfl tw_278 ?_
    exact e_iS hK dX8_tell_36
  · refine r_ldc (q := 11) hK dX8_tell_9 rfl tw_318 ?_
    exact e_iS hK dX8_tell_11
def fX8_check_L67  (v2 : Int32) (v3 : Int32) (k : Int32 → Int32 → Store → Option (Int32 × Store)) : Nat → Int32 → Int32 → Store → Option (Int32 × Store)
  | 0, _, _, _ => none
  | n + 1, i4, i5, τ => (if v3 ≤ i5 then (k i4 i5 τ) else (sbd (fX0_dayPasses 95 τ) fun s29 => (if v2 ≤ i4 then (some (((1 : Int32) + i4), s29)) else (six 60 i4 (sbd (fX0_paidByAll 95 s29) fun r32 => (if (s29 56 (snx i4)) = r32 then (if v2 ≤ (i4 + (1 : Int32)) then (some (((1 : Int32) + (i4 + (1 : Int32))), s29)) else (six 60 (i4 + (1 : Int32)) (sbd (fX0_stampsOfAll 95 s29) fun r36 => (if (s29 56 (snx (i4 + (1 : Int32)))) = r36 then (fX8_check_L67 v2 v3 k n ((i4 + (1 : Int32)) + (1 : Int32)) (i5 + (1 : Int32)) s29) else (some (((1 : Int32) + (i4 + (1 : Int32))), s29)))))) else (some (((1 : Int32) + i4), s29))))))))
theorem vX8_check_L67 {G : Geo} {K : KT} {l0 : Launch} (σ : Store) {a : (Int32 × Store)} (v1 : Int32) (v2 : Int32) (v3 : Int32) (hK : sOk wCls G K l0 RX8 cX8_check (rmL 6 180) 6 (some .int) (some (.int a.1)) a.2) (k : Int32 → Int32 → Store → Option (Int32 × Store)) (hk : ∀ (e4 : Int32) (e5 : Int32) (ε : Store), sV wCls G K a ε 148 [(0, .ref (gad G 0)), (1, .int v1), (2, .int v2), (3, .int v3), (4, .int e4), (5, .int e5)] [] (k e4 e5 ε)) : ∀ (n : Nat) (i4 : Int32) (i5 : Int32) (τ : Store), sV wCls G K a τ 67 [(0, .ref (gad G 0)), (1, .int v1), (2, .int v2), (3, .int v3), (4, .int i4), (5, .int i5)] [] (fX8_check_L67 v2 v3 k n i4 i5 τ) := by
  intro n
  induction n with
  | zero =>
    intro i4 i5 τ
    exact sV.no
  | succ n ih =>
    intro i4 i5 τ
    rw [fX8_check_L67]
    refine r_iload (q := 69) hK dX8_check_67 rfl 5 rfl ?_
    refine r_iload_n (q := 70) hK dX8_check_69 rfl rfl 3 rfl ?_
    refine r_icmp_ge (t := 148) (q := 73) hK dX8_check_70 rfl rfl (fun c28 => ?_) (fun c28 => ?_)
    · exact sV.sub [0, 1, 2, 3, 4, 5] (by rfl) (hk i4 i5 τ)
    · refine r_aload_n (q := 74) hK dX8_check_73 rfl rfl 0 rfl ?_
      refine gf_8_3 (q := 77) (rfl : kdC 0 = 8) hK dX8_check_74 rfl tw_270 ?_
      refine callV_vS (q := 80) (j := 95) (As := []) (rest := []) (f := (fX0_dayPasses 95 τ)) hK dX8_check_77 rfl (fun b hb => c_X0_dayPasses 95 (rfl : kdC 95 = 0) τ b hb) ⟨0, _, _, _, kd_lt (rfl : kdC 95 = 0) (by decide), rfl, cC0 (rfl : kdC 95 = 0), rfl⟩ mv_X0_dayPasses rfl rfl (Nat.le_of_ble_eq_true rfl) tw_481 mw_X0_dayPasses (rmOk (Nat.le_of_ble_eq_true rfl) (Nat.le_of_ble_eq_true rfl)) (fun s29 => ?_)
      refine r_iload (q := 82) hK dX8_check_80 rfl 4 rfl ?_
      refine r_iload_n (q := 83) hK dX8_check_82 rfl rfl 2 rfl ?_
      refine r_icmp_ge (t := 103) (q := 86) hK dX8_check_83 rfl rfl (fun c30 => ?_) (fun c30 => ?_)
      · refine r_iconst (q := 104) (v := 1) hK dX8_check_103 rfl rfl ?_
        refine r_iload (q := 106) hK dX8_check_104 rfl 4 rfl ?_
        refine r_iadd (q := 107) hK dX8_check_106 rfl ?_
        exact e_iS hK dX8_check_107
      · refine r_aload_n (q := 87) hK dX8_check_86 rfl rfl 0 rfl ?_
        refine gf_8_9 (q := 90) (rfl : kdC 0 = 8) hK dX8_check_87 rfl tw_276 ?_
        refine r_iload (q := 92) hK dX8_check_90 rfl 4 rfl ?_
        refine r_iald (q := 93) hK dX8_check_92 rfl (aC24 (j := 56) rfl) (fun h31 => ?_)
        refine r_aload_n (q := 94) hK dX8_check_93 rfl rfl 0 rfl ?_
        refine gf_8_3 (q := 97) (rfl : kdC 0 = 8) hK dX8_check_94 rfl tw_270 ?_
        refine callV_i (q := 100) (j := 95) (As := []) (rest := [.int (s29 56 (snx i4))]) (f := (fX0_paidByAll 95 s29)) hK dX8_check_97 rfl (fun b hb => c_X0_paidByAll 95 (rfl : kdC 95 = 0) s29 b hb) ⟨0, _, _, _, kd_lt (rfl : kdC 95 = 0) (by decide), rfl, cC0 (rfl : kdC 95 = 0), rfl⟩ mv_X0_paidByAll rfl rfl (Nat.le_of_ble_eq_true rfl) tw_567 mw_X0_paidByAll (rmOk (Nat.le_of_ble_eq_true rfl) (Nat.le_of_ble_eq_true rfl)) (fun r32 => ?_)
        refine r_icmp_eq (t := 108) (q := 103) hK dX8_check_100 rfl rfl (fun c33 => ?_) (fun c33 => ?_)
        · refine r_iinc (q := 111) (v := (i4 + (1 : Int32))) (loc' := [(4, .int (i4 + (1 : Int32))), (0, .ref (gad G 0)), (1, .int v1), (2, .int v2), (3, .int v3), (5, .int i5)]) hK dX8_check_108 rfl 4 rfl rfl (by decide) rfl ?_
          refine r_iload (q := 113) hK dX8_check_111 rfl 0 rfl ?_
          refine r_iload_n (q := 114) hK dX8_check_113 rfl rfl 3 rfl ?_
          refine r_icmp_ge (t := 134) (q := 117) hK dX8_check_114 rfl rfl (fun c34 => ?_) (fun c34 => ?_)
          · refine r_iconst (q := 135) (v := 1) hK dX8_check_134 rfl rfl ?_
            refine r_iload (q := 137) hK dX8_check_135 rfl 0 rfl ?_
            refine r_iadd (q := 138) hK dX8_check_137 rfl ?_
            exact e_iS hK dX8_check_138
          · refine r_aload_n (q := 118) hK dX8_check_117 rfl rfl 1 rfl ?_
            refine gf_8_9 (q := 121) (rfl : kdC 0 = 8) hK dX8_check_118 rfl tw_276 ?_
            refine r_iload (q := 123) hK dX8_check_121 rfl 0 rfl ?_
            refine r_iald (q := 124) hK dX8_check_123 rfl (aC24 (j := 56) rfl) (fun h35 => ?_)
            refine r_aload_n (q := 125) hK dX8_check_124 rfl rfl 1 rfl ?_
            refine gf_8_3 (q := 128) (rfl : kdC 0 = 8) hK dX8_check_125 rfl tw_270 ?_
            refine callV_i (q := 131) (j := 95) (As := []) (rest := [.int (s29 56 (snx (i4 + (1 : Int32))))]) (f := (fX0_stampsOfAll 95 s29)) hK dX8_check_128 rfl (fun b hb => c_X0_stampsOfAll 95 (rfl : kdC 95 = 0) s29 b hb) ⟨0, _, _, _, kd_lt (rfl : kdC 95 = 0) (by decide), rfl, cC0 (rfl : kdC 95 = 0), rfl⟩ mv_X0_stampsOfAll rfl rfl (Nat.le_of_ble_eq_true rfl) tw_477 mw_X0_stampsOfAll (rmOk (Nat.le_of_ble_eq_true rfl) (Nat.le_of_ble_eq_true rfl)) (fun r36 => ?_)
            refine r_icmp_eq (t := 139) (q := 134) hK dX8_check_131 rfl rfl (fun c37 => ?_) (fun c37 => ?_)
            · refine r_iinc (q := 142) (v := ((i4 + (1 : Int32)) + (1 : Int32))) (loc' := [(4, .int ((i4 + (1 : Int32)) + (1 : Int32))), (0, .ref (gad G 0)), (1, .int v1), (2, .int v2), (3, .int v3), (5, .int i5)]) hK dX8_check_139 rfl 0 rfl rfl (by decide) rfl ?_
              refine r_iinc (q := 145) (v := (i5 + (1 : Int32))) (loc' := [(5, .int (i5 + (1 : Int32))), (4, .int ((i4 + (1 : Int32)) + (1 : Int32))), (0, .ref (gad G 0)), (1, .int v1), (2, .int v2), (3, .int v3)]) hK dX8_check_142 rfl 5 rfl rfl (by decide) rfl ?_
              refine r_goto (q := 67) hK dX8_check_145 rfl ?_
              exact sV.sub [2, 3, 4, 5, 1, 0] (by rfl) (ih ((i4 + (1 : Int32)) + (1 : Int32)) (i5 + (1 : Int32)) s29)
            · refine r_iconst (q := 135) (v := 1) hK dX8_check_134 rfl rfl ?_
              refine r_iload (q := 137) hK dX8_check_135 rfl 0 rfl ?_
              refine r_iadd (q := 138) hK dX8_check_137 rfl ?_
              exact e_iS hK dX8_check_138
        · refine r_iconst (q := 104) (v := 1) hK dX8_check_103 rfl rfl ?_
          refine r_iload (q := 106) hK dX8_check_104 rfl 4 rfl ?_
          refine r_iadd (q := 107) hK dX8_check_106 rfl ?_
          exact e_iS hK dX8_check_107
def fX8_check  (a1 : Int32) (σ : Store) : Option (Int32 × Store) := (slt (σ 0 11) fun x1 => (slt (sup σ 0 11 (0 : Int32)) fun s2 => (sbd (fX8_within a1 (1 : Int32) (30 : Int32) s2) fun r3 => (if r3 = true then (if ¬ (s2 0 12) = 0 then (slt (smin a1 ((9999 : Int32) - (s2 76 9))) fun x6 => (sbd (fX0_becomes 95 76 s2) fun s7 => (fX8_check_L67 x1 x6 (fun x38 x39 s40 => (if ¬ x38 = x1 then (some (((1 : Int32) + x38), s40)) else (some ((0 : Int32), s40)))) FU (0 : Int32) (0 : Int32) s7))) else (some ((-1000000002 : Int32), s2))) else (some ((-1000000001 : Int32), s2))))))
theorem c_X8_check {l0 : Launch} {G : Geo} (a1 : Int32) (σ : Store) (a : (Int32 × Store)) (hf : fX8_check  a1 σ = some a) : sCon l0 wCls G yX8_check cX8_check 6 (some .int) (rmL 6 180) [.ref (gad G 0), .int a1] σ (some (.int a.1)) a.2 := by
  refine sCon.of (by decide) ⟨rfl, rfl⟩ (Nat.le_of_ble_eq_true rfl) RX8 rfl _ hf (fun K hK => ?_)
  show sV wCls G K a σ 0 [(0, .ref (gad G 0)), (1, .int a1)] [] _
  unfold fX8_check
  refine r_aload_n (q := 1) hK dX8_check_0 rfl rfl 0 rfl ?_
  refine gf_8_11 (q := 4) (rfl : kdC 0 = 8) hK dX8_check_1 rfl tw_278 ?_
  refine sV.ltI (fun x1 => ?_)
  refine r_istore_n (q := 5) (loc' := [(2, .int x1), (0, .ref (gad G 0)), (1, .int a1)]) hK dX8_check_4 rfl rfl (by decide) rfl ?_
  refine r_aload_n (q := 6) hK dX8_check_5 rfl rfl 1 rfl ?_
  refine r_iconst (q := 7) (v := 0) hK dX8_check_6 rfl rfl ?_
  refine pf_8_11 (q := 10) (rfl : kdC 0 = 8) hK dX8_check_7 rfl tw_278 ?_
  refine sV.ltS (fun s2 => ?_)
  refine r_iload_n (q := 11) hK dX8_check_10 rfl rfl 2 rfl ?_
  refine r_iconst (q := 12) (v := 1) hK dX8_check_11 rfl rfl ?_
  refine r_bipush (q := 14) (v := 30) hK dX8_check_12 rfl rfl ?_
  refine callS_b (q := 17) (As := [.int a1, .int (1 : Int32), .int (30 : Int32)]) (rest := []) (f := (fX8_within a1 (1 : Int32) (30 : Int32) s2)) hK dX8_check_14 rfl (fun b hb => c_X8_within a1 (1 : Int32) (30 : Int32) s2 b hb) ms_X8_within rfl rfl (Nat.le_of_ble_eq_true rfl) tw_314 mw_X8_within (rmOk (Nat.le_of_ble_eq_true rfl) (Nat.le_of_ble_eq_true rfl)) (fun r3 => ?_)
  refine r_ifb_ne (t := 23) (q := 20) hK dX8_check_17 rfl rfl (fun c4 => ?_) (fun c4 => ?_)
  · refine r_aload_n (q := 24) hK dX8_check_23 rfl rfl 1 rfl ?_
    refine gf_8_12 (q := 27) (rfl : kdC 0 = 8) hK dX8_check_24 rfl tw_279 ?_
    refine r_if_ne (t := 34) (q := 30) hK dX8_check_27 rfl rfl (fun c5 => ?_) (fun c5 => ?_)
    · refine r_iload_n (q := 35) hK dX8_check_34 rfl rfl 2 rfl ?_
      refine r_sipush (q := 38) (v := 9999) hK dX8_check_35 rfl rfl ?_
      refine r_aload_n (q := 39) hK dX8_check_38 rfl rfl 1 rfl ?_
      refine gf_8_2 (q := 42) (rfl : kdC 0 = 8) hK dX8_check_39 rfl tw_269 ?_
      refine gf_0_9 (q := 45) (rfl : kdC 76 = 0) hK dX8_check_42 rfl tw_136 ?_
      refine r_isub (q := 46) hK dX8_check_45 rfl ?_
      refine r_min (q := 49) hK dX8_check_46 rfl tw_361 mt_min (rmM (Nat.le_of_ble_eq_true rfl) (Nat.le_of_ble_eq_true rfl)) ?_
      refine sV.ltI (fun x6 => ?_)
      refine r_istore_n (q := 50) (loc' := [(3, .int x6), (2, .int x1), (0, .ref (gad G 0)), (1, .int a1)]) hK dX8_check_49 rfl rfl (by decide) rfl ?_
      refine r_aload_n (q := 51) hK dX8_check_50 rfl rfl 2 rfl ?_
      refine gf_8_3 (q := 54) (rfl : kdC 0 = 8) hK dX8_check_51 rfl tw_270 ?_
      refine r_aload_n (q := 55) hK dX8_check_54 rfl rfl 2 rfl ?_
      refine gf_8_2 (q := 58) (rfl : kdC 0 = 8) hK dX8_check_55 rfl tw_269 ?_
      refine callV_vS (q := 61) (j := 95) (As := [.ref (gad G 76)]) (rest := []) (f := (fX0_becomes 95 76 s2)) hK dX8_check_58 rfl (fun b hb => c_X0_becomes 95 (rfl : kdC 95 = 0) 76 (rfl : kdC 76 = 0) s2 b hb) ⟨0, _, _, _, kd_lt (rfl : kdC 95 = 0) (by decide), rfl, cC0 (rfl : kdC 95 = 0), rfl⟩ mv_X0_becomes rfl rfl (Nat.le_of_ble_eq_true rfl) tw_555 mw_X0_becomes (rmOk (Nat.le_of_ble_eq_true rfl) (Nat.le_of_ble_eq_true rfl)) (fun s7 => ?_)
      refine r_iconst (q := 62) (v := 0) hK dX8_check_61 rfl rfl ?_
      refine r_istore (q := 64) (loc' := [(4, .int (0 : Int32)), (3, .int x6), (2, .int x1), (0, .ref (gad G 0)), (1, .int a1)]) hK dX8_check_62 rfl (by decide) rfl ?_
      refine r_iconst (q := 65) (v := 0) hK dX8_check_64 rfl rfl ?_
      refine r_istore (q := 67) (loc' := [(5, .int (0 : Int32)), (4, .int (0 : Int32)), (3, .int x6), (2, .int x1), (0, .ref (gad G 0)), (1, .int a1)]) hK dX8_check_65 rfl (by decide) rfl ?_
      refine sV.sub [4, 5, 3, 2, 1, 0] (by rfl) (vX8_check_L67 s7 a1 x1 x6 hK _ (fun x38 x39 s40 => ?_) FU (0 : Int32) (0 : Int32) s7)
      refine r_iload (q := 150) hK dX8_check_148 rfl 4 rfl ?_
      refine r_iload_n (q := 151) hK dX8_check_150 rfl rfl 2 rfl ?_
      refine r_icmp_ne (t := 158) (q := 154) hK dX8_check_151 rfl rfl (fun c41 => ?_) (fun c41 => ?_)
      · refine r_iconst (q := 159) (v := 1) hK dX8_check_158 rfl rfl ?_
        refine r_iload (q := 161) hK dX8_check_159 rfl 4 rfl ?_
        refine r_iadd (q := 162) hK dX8_check_161 rfl ?_
        exact e_iS hK dX8_check_162
      · refine r_iconst (q := 155) (v := 0) hK dX8_check_154 rfl rfl ?_
        refine r_goto (q := 162) hK dX8_check_155 rfl ?_
        exact e_iS hK dX8_check_162
    · refine r_ldcw (q := 33) hK dX8_check_30 rfl tw_769 ?_
      exact e_iS hK dX8_check_33
  · refine r_ldc (q := 22) hK dX8_check_20 rfl tw_317 ?_
    exact e_iS hK dX8_check_22
def fX8_keep   (σ : Store) : Option (Int32 × Store) := (sbd (fX0_becomes 76 57 σ) fun s1 => (slt (sup s1 0 12 (b2i true)) fun s2 => (some ((s2 76 3), s2))))
theorem c_X8_keep {l0 : Launch} {G : Geo}  (σ : Store) (a : (Int32 × Store)) (hf : fX8_keep   σ = some a) : sCon l0 wCls G yX8_keep cX8_keep 1 (some .int) (rmL 3 103) [.ref (gad G 0)] σ (some (.int a.1)) a.2 := by
  refine sCon.of (by decide) ⟨rfl, rfl⟩ (Nat.le_of_ble_eq_true rfl) RX8 rfl _ hf (fun K hK => ?_)
  show sV wCls G K a σ 0 [(0, .ref (gad G 0))] [] _
  unfold fX8_keep
  refine r_aload_n (q := 1) hK dX8_keep_0 rfl rfl 0 rfl ?_
  refine gf_8_2 (q := 4) (rfl : kdC 0 = 8) hK dX8_keep_1 rfl tw_269 ?_
  refine r_aload_n (q := 5) hK dX8_keep_4 rfl rfl 0 rfl ?_
  refine gf_8_1 (q := 8) (rfl : kdC 0 = 8) hK dX8_keep_5 rfl tw_268 ?_
  refine callV_vS (q := 11) (j := 76) (As := [.ref (gad G 57)]) (rest := []) (f := (fX0_becomes 76 57 σ)) hK dX8_keep_8 rfl (fun b hb => c_X0_becomes 76 (rfl : kdC 76 = 0) 57 (rfl : kdC 57 = 0) σ b hb) ⟨0, _, _, _, kd_lt (rfl : kdC 76 = 0) (by decide), rfl, cC0 (rfl : kdC 76 = 0), rfl⟩ mv_X0_becomes rfl rfl (Nat.le_of_ble_eq_true rfl) tw_555 mw_X0_becomes (rmOk (Nat.le_of_ble_eq_true rfl) (Nat.le_of_ble_eq_true rfl)) (fun s1 => ?_)
  refine r_aload_n (q := 12) hK dX8_keep_11 rfl rfl 0 rfl ?_
  refine r_iconst (q := 13) (v := 1) hK dX8_keep_12 rfl rfl ?_
  refine pf_8_12 (q := 16) (b := true) (rfl : kdC 0 = 8) hK dX8_keep_13 rfl tw_279 ?_
  refine sV.ltS (fun s2 => ?_)
  refine r_aload_n (q := 17) hK dX8_keep_16 rfl rfl 0 rfl ?_
  refine gf_8_2 (q := 20) (rfl : kdC 0 = 8) hK dX8_keep_17 rfl tw_269 ?_
  refine gf_0_3 (q := 23) (rfl : kdC 76 = 0) hK dX8_keep_20 rfl tw_123 ?_
  exact e_iS hK dX8_keep_23
def fX8_back   (σ : Store) : Option (Int32 × Store) := (if ¬ (σ 0 12) = 0 then (sbd (fX0_becomes 57 76 σ) fun s2 => (some ((s2 57 3), s2))) else (some ((-1000000002 : Int32), σ)))
theorem c_X8_back {l0 : Launch} {G : Geo}  (σ : Store) (a : (Int32 × Store)) (hf : fX8_back   σ = some a) : sCon l0 wCls G yX8_back cX8_back 1 (some .int) (rmL 3 103) [.ref (gad G 0)] σ (some (.int a.1)) a.2 := by
  refine sCon.of (by decide) ⟨rfl, rfl⟩ (Nat.le_of_ble_eq_true rfl) RX8 rfl _ hf (fun K hK => ?_)
  show sV wCls G K a σ 0 [(0, .ref (gad G 0))] [] _
  unfold fX8_back
  refine r_aload_n (q := 1) hK dX8_back_0 rfl rfl 0 rfl ?_
  refine gf_8_12 (q := 4) (rfl : kdC 0 = 8) hK dX8_back_1 rfl tw_279 ?_
  refine r_if_ne (t := 11) (q := 7) hK dX8_back_4 rfl rfl (fun c1 => ?_) (fun c1 => ?_)
  · refine r_aload_n (q := 12) hK dX8_back_11 rfl rfl 0 rfl ?_
    refine gf_8_1 (q := 15) (rfl : kdC 0 = 8) hK dX8_back_12 rfl tw_268 ?_
    refine r_aload_n (q := 16) hK dX8_back_15 rfl rfl 0 rfl ?_
    refine gf_8_2 (q := 19) (rfl : kdC 0 = 8) hK dX8_back_16 rfl tw_269 ?_
    refine callV_vS (q := 22) (j := 57) (As := [.ref (gad G 76)]) (rest := []) (f := (fX0_becomes 57 76 σ)) hK dX8_back_19 rfl (fun b hb => c_X0_becomes 57 (rfl : kdC 57 = 0) 76 (rfl : kdC 76 = 0) σ b hb) ⟨0, _, _, _, kd_lt (rfl : kdC 57 = 0) (by decide), rfl, cC0 (rfl : kdC 57 = 0), rfl⟩ mv_X0_becomes rfl rfl (Nat.le_of_ble_eq_true rfl) tw_555 mw_X0_becomes (rmOk (Nat.le_of_ble_eq_true rfl) (Nat.le_of_ble_eq_true rfl)) (fun s2 => ?_)
    refine r_aload_n (q := 23) hK dX8_back_22 rfl rfl 0 rfl ?_
    refine gf_8_1 (q := 26) (rfl : kdC 0 = 8) hK dX8_back_23 rfl tw_268 ?_
    refine gf_0_3 (q := 29) (rfl : kdC 57 = 0) hK dX8_back_26 rfl tw_123 ?_
    exact e_iS hK dX8_back_29
  · refine r_ldcw (q := 10) hK dX8_back_7 rfl tw_769 ?_
    exact e_iS hK dX8_back_10
def fX8_count  (a1 : Int32) (σ : Store) : Option Int32 := (if a1 = (0 : Int32) then (some (σ 57 3)) else (if a1 = (1 : Int32) then (some (σ 57 4)) else (if a1 = (2 : Int32) then (some (σ 57 9)) else (if a1 = (3 : Int32) then (some (σ 57 7)) else (if a1 = (4 : Int32) then (some (σ 57 8)) else (if a1 = (5 : Int32) then (sbd (fX0_paidByAll 57 σ) fun r7 => (some r7)) else (if a1 = (6 : Int32) then (sbd (fX0_stampsOfAll 57 σ) fun r9 => (some r9)) else (if a1 = (7 : Int32) then (some (σ 57 5)) else (if a1 = (8 : Int32) then (some (σ 0 11)) else (if a1 = (9 : Int32) then (some (σ 0 10)) else (if a1 = (10 : Int32) then (some (σ 57 10)) else (some (-1000000001 : Int32)))))))))))))
theorem c_X8_count {l0 : Launch} {G : Geo} (a1 : Int32) (σ : Store) (a : Int32) (hf : fX8_count  a1 σ = some a) : sCon l0 wCls G yX8_count cX8_count 2 (some .int) (rmL 2 82) [.ref (gad G 0), .int a1] σ (some (.int a)) σ := by
  refine sCon.of (by decide) ⟨rfl, rfl⟩ (Nat.le_of_ble_eq_true rfl) RX8 rfl _ hf (fun K hK => ?_)
  show sV wCls G K a σ 0 [(0, .ref (gad G 0)), (1, .int a1)] [] _
  unfold fX8_count
  refine r_iload_n (q := 1) hK dX8_count_0 rfl rfl 1 rfl ?_
  refine sV.ite (fun c1 => ?_) (fun c1 => ?_)
  · refine r_tsI (t := 60) (0 : Int32) hK dX8_count_1 c1 (by decide) (by decide) rfl rfl ?_
    refine r_aload_n (q := 61) hK dX8_count_60 rfl rfl 0 rfl ?_
    refine gf_8_1 (q := 64) (rfl : kdC 0 = 8) hK dX8_count_61 rfl tw_268 ?_
    refine gf_0_3 (q := 67) (rfl : kdC 57 = 0) hK dX8_count_64 rfl tw_123 ?_
    exact e_i hK dX8_count_67
  · refine sV.ite (fun c2 => ?_) (fun c2 => ?_)
    · refine r_tsI (t := 68) (1 : Int32) hK dX8_count_1 c2 (by decide) (by decide) rfl rfl ?_
      refine r_aload_n (q := 69) hK dX8_count_68 rfl rfl 0 rfl ?_
      refine gf_8_1 (q := 72) (rfl : kdC 0 = 8) hK dX8_count_69 rfl tw_268 ?_
      refine gf_0_4 (q := 75) (rfl : kdC 57 = 0) hK dX8_count_72 rfl tw_126 ?_
      exact e_i hK dX8_count_75
    · refine sV.ite (fun c3 => ?_) (fun c3 => ?_)
      · refine r_tsI (t := 76) (2 : Int32) hK dX8_count_1 c3 (by decide) (by decide) rfl rfl ?_
        refine r_aload_n (q := 77) hK dX8_count_76 rfl rfl 0 rfl ?_
        refine gf_8_1 (q := 80) (rfl : kdC 0 = 8) hK dX8_count_77 rfl tw_268 ?_
        refine gf_0_9 (q := 83) (rfl : kdC 57 = 0) hK dX8_count_80 rfl tw_136 ?_
        exact e_i hK dX8_count_83
      · refine sV.ite (fun c4 => ?_) (fun c4 => ?_)
        · refine r_tsI (t := 84) (3 : Int32) hK dX8_count_1 c4 (by decide) (by decide) rfl rfl ?_
          refine r_aload_n (q := 85) hK dX8_count_84 rfl rfl 0 rfl ?_
          refine gf_8_1 (q := 88) (rfl : kdC 0 = 8) hK dX8_count_85 rfl tw_268 ?_
          refine gf_0_7 (q := 91) (rfl : kdC 57 = 0) hK dX8_count_88 rfl tw_132 ?_
          exact e_i hK dX8_count_91
        · refine sV.ite (fun c5 => ?_) (fun c5 => ?_)
          · refine r_tsI (t := 92) (4 : Int32) hK dX8_count_1 c5 (by decide) (by decide) rfl rfl ?_
            refine r_aload_n (q := 93) hK dX8_count_92 rfl rfl 0 rfl ?_
            refine gf_8_1 (q := 96) (rfl : kdC 0 = 8) hK dX8_count_93 rfl tw_268 ?_
            refine gf_0_8 (q := 99) (rfl : kdC 57 = 0) hK dX8_count_96 rfl tw_134 ?_
            exact e_i hK dX8_count_99
          · refine sV.ite (fun c6 => ?_) (fun c6 => ?_)
            · refine r_tsI (t := 100) (5 : Int32) hK dX8_count_1 c6 (by decide) (by decide) rfl rfl ?_
              refine r_aload_n (q := 101) hK dX8_count_100 rfl rfl 0 rfl ?_
              refine gf_8_1 (q := 104) (rfl : kdC 0 = 8) hK dX8_count_101 rfl tw_268 ?_
              refine callV_i (q := 107) (j := 57) (As := []) (rest := []) (f := (fX0_paidByAll 57 σ)) hK dX8_count_104 rfl (fun b hb => c_X0_paidByAll 57 (rfl : kdC 57 = 0) σ b hb) ⟨0, _, _, _, kd_lt (rfl : kdC 57 = 0) (by decide), rfl, cC0 (rfl : kdC 57 = 0), rfl⟩ mv_X0_paidByAll rfl rfl (Nat.le_of_ble_eq_true rfl) tw_567 mw_X0_paidByAll (rmOk (Nat.le_of_ble_eq_true rfl) (Nat.le_of_ble_eq_true rfl)) (fun r7 => ?_)
              exact e_i hK dX8_count_107
            · refine sV.ite (fun c8 => ?_) (fun c8 => ?_)
              · refine r_tsI (t := 108) (6 : Int32) hK dX8_count_1 c8 (by decide) (by decide) rfl rfl ?_
                refine r_aload_n (q := 109) hK dX8_count_108 rfl rfl 0 rfl ?_
                refine gf_8_1 (q := 112) (rfl : kdC 0 = 8) hK dX8_count_109 rfl tw_268 ?_
                refine callV_i (q := 115) (j := 57) (As := []) (rest := []) (f := (fX0_stampsOfAll 57 σ)) hK dX8_count_112 rfl (fun b hb => c_X0_stampsOfAll 57 (rfl : kdC 57 = 0) σ b hb) ⟨0, _, _, _, kd_lt (rfl : kdC 57 = 0) (by decide), rfl, cC0 (rfl : kdC 57 = 0), rfl⟩ mv_X0_stampsOfAll rfl rfl (Nat.le_of_ble_eq_true rfl) tw_477 mw_X0_stampsOfAll (rmOk (Nat.le_of_ble_eq_true rfl) (Nat.le_of_ble_eq_true rfl)) (fun r9 => ?_)
                exact e_i hK dX8_count_115
              · refine sV.ite (fun c10 => ?_) (fun c10 => ?_)
                · refine r_tsI (t := 116) (7 : Int32) hK dX8_count_1 c10 (by decide) (by decide) rfl rfl ?_
                  refine r_aload_n (q := 117) hK dX8_count_116 rfl rfl 0 rfl ?_
                  refine gf_8_1 (q := 120) (rfl : kdC 0 = 8) hK dX8_count_117 rfl tw_268 ?_
                  refine gf_0_5 (q := 123) (rfl : kdC 57 = 0) hK dX8_count_120 rfl tw_128 ?_
                  exact e_i hK dX8_count_123
                · refine sV.ite (fun c11 => ?_) (fun c11 => ?_)
                  · refine r_tsI (t := 124) (8 : Int32) hK dX8_count_1 c11 (by decide) (by decide) rfl rfl ?_
                    refine r_aload_n (q := 125) hK dX8_count_124 rfl rfl 0 rfl ?_
                    refine gf_8_11 (q := 128) (rfl : kdC 0 = 8) hK dX8_count_125 rfl tw_278 ?_
                    exact e_i hK dX8_count_128
                  · refine sV.ite (fun c12 => ?_) (fun c12 => ?_)
                    · refine r_tsI (t := 129) (9 : Int32) hK dX8_count_1 c12 (by decide) (by decide) rfl rfl ?_
                      refine r_aload_n (q := 130) hK dX8_count_129 rfl rfl 0 rfl ?_
                      refine gf_8_10 (q := 133) (rfl : kdC 0 = 8) hK dX8_count_130 rfl tw_277 ?_
                      exact e_i hK dX8_count_133
                    · refine sV.ite (fun c13 => ?_) (fun c13 => ?_)
                      · refine r_tsI (t := 134) (10 : Int32) hK dX8_count_1 c13 (by decide) (by decide) rfl rfl ?_
                        refine r_aload_n (q := 135) hK dX8_count_134 rfl rfl 0 rfl ?_
                        refine gf_8_1 (q := 138) (rfl : kdC 0 = 8) hK dX8_count_135 rfl tw_268 ?_
                        refine gf_0_10 (q := 141) (rfl : kdC 57 = 0) hK dX8_count_138 rfl tw_138 ?_
                        exact e_i hK dX8_count_141
                      · have ec1 : ¬ (a1).toInt = 0 := ne_ti c1
                        have ec2 : ¬ (a1).toInt = 1 := ne_ti c2
                        have ec3 : ¬ (a1).toInt = 2 := ne_ti c3
                        have ec4 : ¬ (a1).toInt = 3 := ne_ti c4
                        have ec5 : ¬ (a1).toInt = 4 := ne_ti c5
                        have ec6 : ¬ (a1).toInt = 5 := ne_ti c6
                        have ec8 : ¬ (a1).toInt = 6 := ne_ti c8
                        have ec10 : ¬ (a1).toInt = 7 := ne_ti c10
                        have ec11 : ¬ (a1).toInt = 8 := ne_ti c11
                        have ec12 : ¬ (a1).toInt = 9 := ne_ti c12
                        have ec13 : ¬ (a1).toInt = 10 := ne_ti c13
                        refine r_tsO (t := 142) hK dX8_count_1 (by omega) rfl ?_
                        refine r_ldc (q := 144) hK dX8_count_142 rfl tw_317 ?_
                        exact e_i hK dX8_count_144
