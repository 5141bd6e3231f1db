def fX8_trim  (a1 : Int32) (σ : Store) : Option (Int32 × Store) := (sbd (fX8_within a1 (0 : Int32) (σ 0 10) σ) fun r1 => (if r1 = true then (slt (sup σ 0 10 a1) fun s3 => (some (a1, s3))) else (some ((-1000000001 : Int32), σ))))
theorem c_X8_trim {l0 : Launch} {G : Geo} (a1 : Int32) (σ : Store) (a : (Int32 × Store)) (hf : fX8_trim  a1 σ = some a) : sCon l0 wCls G yX8_trim cX8_trim 2 (some .int) (rmL 2 82) [.ref (gad G 0), .int a1] σ (some (.int a.1)) a.2 := by
  refine sCon.of (by decide) ⟨rfl, rfl⟩ (Nat.le_of_ble_eq_true rfl) RX8 rfl _ hf (fun K hK => ?_)
  show sV wCls G K a σ 0 [(0, .ref (gad G 0)), (1, .int a1)] [] _
  unfold fX8_trim
  refine r_iload_n (q := 1) hK dX8_trim_0 rfl rfl 1 rfl ?_
  refine r_iconst (q := 2) (v := 0) hK dX8_trim_1 rfl rfl ?_
  refine r_aload_n (q := 3) hK dX8_trim_2 rfl rfl 0 rfl ?_
  refine gf_8_10 (q := 6) (rfl : kdC 0 = 8) hK dX8_trim_3 rfl tw_277 ?_
  refine callS_b (q := 9) (As := [.int a1, .int (0 : Int32), .int (σ 0 10)]) (rest := []) (f := (fX8_within a1 (0 : Int32) (σ 0 10) σ)) hK dX8_trim_6 rfl (fun b hb => c_X8_within a1 (0 : Int32) (σ 0 10) σ b hb) ms_X8_within rfl rfl (Nat.le_of_ble_eq_true rfl) tw_314 mw_X8_within (rmOk (Nat.le_of_ble_eq_true rfl) (Nat.le_of_ble_eq_true rfl)) (fun r1 => ?_)
  refine r_ifb_ne (t := 15) (q := 12) hK dX8_trim_9 rfl rfl (fun c2 => ?_) (fun c2 => ?_)
  · refine r_aload_n (q := 16) hK dX8_trim_15 rfl rfl 0 rfl ?_
    refine r_iload_n (q := 17) hK dX8_trim_16 rfl rfl 1 rfl ?_
    refine pf_8_10 (q := 20) (rfl : kdC 0 = 8) hK dX8_trim_17 rfl tw_277 ?_
    refine sV.ltS (fun s3 => ?_)
    refine r_iload_n (q := 21) hK dX8_trim_20 rfl rfl 1 rfl ?_
    exact e_iS hK dX8_trim_21
  · refine r_ldc (q := 14) hK dX8_trim_12 rfl tw_317 ?_
    exact e_iS hK dX8_trim_14
def fX1_becomes  (a1 : Int32) (σ : Store) : Option Store := (six 14 a1 (scp σ 25 96 (0 : Int32) (stp a1) 96 (0 : Int32) (σ 24 1) fun s2 => (six 14 a1 (slt (sup s2 17 (snx a1) (s2 24 1)) fun s4 => (six 14 a1 (slt (sup s4 18 (snx a1) (s4 24 2)) fun s6 => (six 14 a1 (slt (sup s6 19 (snx a1) (s6 24 3)) fun s8 => (some s8)))))))))
theorem c_X1_becomes {l0 : Launch} {G : Geo} (a1 : Int32) (σ : Store) (a : Store) (hf : fX1_becomes  a1 σ = some a) : sCon l0 wCls G yX1_becomes cX1_becomes 3 (none) (rmL 1 60) [.ref (gad G 1), .int a1, .ref (gad G 24)] σ none a := by
  refine sCon.of (by decide) ⟨rfl, rfl⟩ (Nat.le_of_ble_eq_true rfl) RX1 rfl _ hf (fun K hK => ?_)
  show sV wCls G K a σ 0 [(0, .ref (gad G 1)), (1, .int a1), (2, .ref (gad G 24))] [] _
  unfold fX1_becomes
  refine r_aload_n (q := 1) hK dX1_becomes_0 rfl rfl 2 rfl ?_
  refine gf_2_0 (q := 4) (rfl : kdC 24 = 2) hK dX1_becomes_1 rfl tw_182 ?_
  refine r_iconst (q := 5) (v := 0) hK dX1_becomes_4 rfl rfl ?_
  refine r_aload_n (q := 6) hK dX1_becomes_5 rfl rfl 0 rfl ?_
  refine gf_1_0 (q := 9) (rfl : kdC 1 = 1) hK dX1_becomes_6 rfl tw_34 ?_
  refine r_iload_n (q := 10) hK dX1_becomes_9 rfl rfl 1 rfl ?_
  refine r_aald (q := 11) hK dX1_becomes_10 rfl (qC14 (rfl : kdC 2 = 14)) (ty := .array .int) rfl rfl (r := gad G (stp a1)) rfl (fun h1 => ?_)
  refine r_iconst (q := 12) (v := 0) hK dX1_becomes_11 rfl rfl ?_
  refine r_aload_n (q := 13) hK dX1_becomes_12 rfl rfl 2 rfl ?_
  refine gf_2_1 (q := 16) (rfl : kdC 24 = 2) hK dX1_becomes_13 rfl tw_184 ?_
  refine r_acp (q := 19) hK dX1_becomes_16 rfl (aC20 (j := 25) rfl) (aC20 (kd_stp h1)) tw_698 mt_acp (rmM (Nat.le_of_ble_eq_true rfl) (Nat.le_of_ble_eq_true (by decide +kernel))) (fun s2 => ?_)
  refine r_aload_n (q := 20) hK dX1_becomes_19 rfl rfl 0 rfl ?_
  refine gf_1_1 (q := 23) (rfl : kdC 1 = 1) hK dX1_becomes_20 rfl tw_35 ?_
  refine r_iload_n (q := 24) hK dX1_becomes_23 rfl rfl 1 rfl ?_
  refine r_aload_n (q := 25) hK dX1_becomes_24 rfl rfl 2 rfl ?_
  refine gf_2_1 (q := 28) (rfl : kdC 24 = 2) hK dX1_becomes_25 rfl tw_184 ?_
  refine r_iast (q := 29) hK dX1_becomes_28 rfl (aC21 (j := 17) rfl) (fun h3 => ?_)
  refine sV.ltS (fun s4 => ?_)
  refine r_aload_n (q := 30) hK dX1_becomes_29 rfl rfl 0 rfl ?_
  refine gf_1_2 (q := 33) (rfl : kdC 1 = 1) hK dX1_becomes_30 rfl tw_36 ?_
  refine r_iload_n (q := 34) hK dX1_becomes_33 rfl rfl 1 rfl ?_
  refine r_aload_n (q := 35) hK dX1_becomes_34 rfl rfl 2 rfl ?_
  refine gf_2_2 (q := 38) (rfl : kdC 24 = 2) hK dX1_becomes_35 rfl tw_185 ?_
  refine r_iast (q := 39) hK dX1_becomes_38 rfl (aC21 (j := 18) rfl) (fun h5 => ?_)
  refine sV.ltS (fun s6 => ?_)
  refine r_aload_n (q := 40) hK dX1_becomes_39 rfl rfl 0 rfl ?_
  refine gf_1_3 (q := 43) (rfl : kdC 1 = 1) hK dX1_becomes_40 rfl tw_39 ?_
  refine r_iload_n (q := 44) hK dX1_becomes_43 rfl rfl 1 rfl ?_
  refine r_aload_n (q := 45) hK dX1_becomes_44 rfl rfl 2 rfl ?_
  refine gf_2_3 (q := 48) (rfl : kdC 24 = 2) hK dX1_becomes_45 rfl tw_188 ?_
  refine r_iast (q := 49) hK dX1_becomes_48 rfl (aC21 (j := 19) rfl) (fun h7 => ?_)
  refine sV.ltS (fun s8 => ?_)
  exact e_vS hK dX1_becomes_49
def fX2_isWord   (σ : Store) : Option Bool := (if (σ 24 9) = (1 : Int32) then (some true) else (if ¬ (σ 24 9) = (2 : Int32) then (some false) else (some true)))
theorem c_X2_isWord {l0 : Launch} {G : Geo}  (σ : Store) (a : Bool) (hf : fX2_isWord   σ = some a) : sCon l0 wCls G yX2_isWord cX2_isWord 1 (some .boolean) (rmL 1 60) [.ref (gad G 24)] σ (some (.int (b2i a))) σ := by
  refine sCon.of (by decide) ⟨rfl, rfl⟩ (Nat.le_of_ble_eq_true rfl) RX2 rfl _ hf (fun K hK => ?_)
  show sV wCls G K a σ 0 [(0, .ref (gad G 24))] [] _
  unfold fX2_isWord
  refine r_aload_n (q := 1) hK dX2_isWord_0 rfl rfl 0 rfl ?_
  refine gf_2_9 (q := 4) (rfl : kdC 24 = 2) hK dX2_isWord_1 rfl tw_195 ?_
  refine r_iconst (q := 5) (v := 1) hK dX2_isWord_4 rfl rfl ?_
  refine r_icmp_eq (t := 16) (q := 8) hK dX2_isWord_5 rfl rfl (fun c1 => ?_) (fun c1 => ?_)
  · refine r_iconst (q := 17) (v := 1) hK dX2_isWord_16 rfl rfl ?_
    refine r_goto (q := 21) hK dX2_isWord_17 rfl ?_
    exact e_b (b := true) hK dX2_isWord_21
  · refine r_aload_n (q := 9) hK dX2_isWord_8 rfl rfl 0 rfl ?_
    refine gf_2_9 (q := 12) (rfl : kdC 24 = 2) hK dX2_isWord_9 rfl tw_195 ?_
    refine r_iconst (q := 13) (v := 2) hK dX2_isWord_12 rfl rfl ?_
    refine r_icmp_ne (t := 20) (q := 16) hK dX2_isWord_13 rfl rfl (fun c2 => ?_) (fun c2 => ?_)
    · refine r_iconst (q := 21) (v := 0) hK dX2_isWord_20 rfl rfl ?_
      exact e_b (b := false) hK dX2_isWord_21
    · refine r_iconst (q := 17) (v := 1) hK dX2_isWord_16 rfl rfl ?_
      refine r_goto (q := 21) hK dX2_isWord_17 rfl ?_
      exact e_b (b := true) hK dX2_isWord_21
def fX2_sortAt  (a1 : Int32) (σ : Store) : Option Int32 := (if a1 < 0 then (some (0 : Int32)) else (if a1 < (σ 24 6) then (six 96 a1 (slt (σ 23 (snx a1)) fun x4 => (sjn (fun k35 : Unit → Option Int32 => (if x4 < (97 : Int32) then (k35 ()) else (if (122 : Int32) < x4 then (k35 ()) else (some (1 : Int32))))) (fun (_u : Unit) => (sjn (fun k49 : Unit → Option Int32 => (if x4 < (48 : Int32) then (k49 ()) else (if (57 : Int32) < x4 then (k49 ()) else (some (2 : Int32))))) (fun (_u : Unit) => (if ¬ x4 = (32 : Int32) then (some (3 : Int32)) else (some (4 : Int32))))))))) else (some (0 : Int32))))
theorem c_X2_sortAt {l0 : Launch} {G : Geo} (a1 : Int32) (σ : Store) (a : Int32) (hf : fX2_sortAt  a1 σ = some a) : sCon l0 wCls G yX2_sortAt cX2_sortAt 3 (some .int) (rmL 1 60) [.ref (gad G 24), .int a1] σ (some (.int a)) σ := by
  refine sCon.of (by decide) ⟨rfl, rfl⟩ (Nat.le_of_ble_eq_true rfl) RX2 rfl _ hf (fun K hK => ?_)
  show sV wCls G K a σ 0 [(0, .ref (gad G 24)), (1, .int a1)] [] _
  unfold fX2_sortAt
  refine r_iload_n (q := 1) hK dX2_sortAt_0 rfl rfl 1 rfl ?_
  refine r_if_lt (t := 12) (q := 4) hK dX2_sortAt_1 rfl rfl (fun c1 => ?_) (fun c1 => ?_)
  · refine r_iconst (q := 13) (v := 0) hK dX2_sortAt_12 rfl rfl ?_
    exact e_i hK dX2_sortAt_13
  · refine r_iload_n (q := 5) hK dX2_sortAt_4 rfl rfl 1 rfl ?_
    refine r_aload_n (q := 6) hK dX2_sortAt_5 rfl rfl 0 rfl ?_
    refine gf_2_6 (q := 9) (rfl : kdC 24 = 2) hK dX2_sortAt_6 rfl tw_192 ?_
    refine r_icmp_lt (t := 14) (q := 12) hK dX2_sortAt_9 rfl rfl (fun c2 => ?_) (fun c2 => ?_)
    · refine r_aload_n (q := 15) hK dX2_sortAt_14 rfl rfl 0 rfl ?_
      refine gf_2_5 (q := 18) (rfl : kdC 24 = 2) hK dX2_sortAt_15 rfl tw_191 ?_
      refine r_iload_n (q := 19) hK dX2_sortAt_18 rfl rfl 1 rfl ?_
      refine r_iald (q := 20) hK dX2_sortAt_19 rfl (aC20 (j := 23) rfl) (fun h3 => ?_)
      refine sV.ltI (fun x4 => ?_)
      refine r_istore_n (q := 21) (loc' := [(2, .int x4), (0, .ref (gad G 24)), (1, .int a1)]) hK dX2_sortAt_20 rfl rfl (by decide) rfl ?_
      refine r_iload_n (q := 22) hK dX2_sortAt_21 rfl rfl 0 rfl ?_
      refine r_bipush (q := 24) (v := 97) hK dX2_sortAt_22 rfl rfl ?_
      refine sV.jn (fun k : Unit → Option Int32 => ∀ (_u : Unit), sV wCls G K a σ 35 [(0, .ref (gad G 24)), (1, .int a1), (2, .int x4)] [] (k ())) (fun _ => ?_) (fun k35 hk35 => ?_)
      · refine r_iload_n (q := 36) hK dX2_sortAt_35 rfl rfl 2 rfl ?_
        refine r_bipush (q := 38) (v := 48) hK dX2_sortAt_36 rfl rfl ?_
        refine sV.jn (fun k : Unit → Option Int32 => ∀ (_u : Unit), sV wCls G K a σ 49 [(0, .ref (gad G 24)), (1, .int a1), (2, .int x4)] [] (k ())) (fun _ => ?_) (fun k49 hk49 => ?_)
        · refine r_iload_n (q := 50) hK dX2_sortAt_49 rfl rfl 2 rfl ?_
          refine r_bipush (q := 52) (v := 32) hK dX2_sortAt_50 rfl rfl ?_
          refine r_icmp_ne (t := 59) (q := 55) hK dX2_sortAt_52 rfl rfl (fun c9 => ?_) (fun c9 => ?_)
          · refine r_iconst (q := 60) (v := 3) hK dX2_sortAt_59 rfl rfl ?_
            exact e_i hK dX2_sortAt_60
          · refine r_iconst (q := 56) (v := 4) hK dX2_sortAt_55 rfl rfl ?_
            refine r_goto (q := 60) hK dX2_sortAt_56 rfl ?_
            exact e_i hK dX2_sortAt_60
        · refine r_icmp_lt (t := 49) (q := 41) hK dX2_sortAt_38 rfl rfl (fun c10 => ?_) (fun c10 => ?_)
          · exact sV.sub [0, 1, 2] (by rfl) (hk49 ())
          · refine r_iload_n (q := 42) hK dX2_sortAt_41 rfl rfl 2 rfl ?_
            refine r_bipush (q := 44) (v := 57) hK dX2_sortAt_42 rfl rfl ?_
            refine r_icmp_gt (t := 49) (q := 47) hK dX2_sortAt_44 rfl rfl (fun c11 => ?_) (fun c11 => ?_)
            · exact sV.sub [0, 1, 2] (by rfl) (hk49 ())
            · refine r_iconst (q := 48) (v := 2) hK dX2_sortAt_47 rfl rfl ?_
              exact e_i hK dX2_sortAt_48
      · refine r_icmp_lt (t := 35) (q := 27) hK dX2_sortAt_24 rfl rfl (fun c12 => ?_) (fun c12 => ?_)
        · exact sV.sub [1, 2, 0] (by rfl) (hk35 ())
        · refine r_iload_n (q := 28) hK dX2_sortAt_27 rfl rfl 0 rfl ?_
          refine r_bipush (q := 30) (v := 122) hK dX2_sortAt_28 rfl rfl ?_
          refine r_icmp_gt (t := 35) (q := 33) hK dX2_sortAt_30 rfl rfl (fun c13 => ?_) (fun c13 => ?_)
          · exact sV.sub [1, 2, 0] (by rfl) (hk35 ())
          · refine r_iconst (q := 34) (v := 1) hK dX2_sortAt_33 rfl rfl ?_
            exact e_i hK dX2_sortAt_34
    · refine r_iconst (q := 13) (v := 0) hK dX2_sortAt_12 rfl rfl ?_
      exact e_i hK dX2_sortAt_13
def fX2_advance_L18   (k : Store → Option Store) : Nat → Store → Option Store
  | 0, _ => none
  | n + 1, τ => (if (τ 24 6) ≤ (τ 24 7) then (k τ) else (sbd (fX2_sortAt (τ 24 7) τ) fun r13 => (if ¬ r13 = (4 : Int32) then (k τ) else (slt (sup τ 24 7 ((τ 24 7) + (1 : Int32))) fun s15 => (fX2_advance_L18 k n s15)))))
theorem vX2_advance_L18 {G : Geo} {K : KT} {l0 : Launch} (σ : Store) {a : Store} (v1 : Int32) (v2 : Bool) (hK : sOk wCls G K l0 RX2 cX2_advance (rmL 2 82) 3 (none) none a) (k : Store → Option Store) (hk : ∀ (ε : Store), sV wCls G K a ε 54 [(0, .ref (gad G 24)), (1, .int v1), (2, .int (b2i v2))] [] (k ε)) : ∀ (n : Nat) (τ : Store), sV wCls G K a τ 18 [(0, .ref (gad G 24)), (1, .int v1), (2, .int (b2i v2))] [] (fX2_advance_L18  k n τ) := by
  intro n
  induction n with
  | zero =>
    intro τ
    exact sV.no
  | succ n ih =>
    intro τ
    rw [fX2_advance_L18]
    refine r_aload_n (q := 19) hK dX2_advance_18 rfl rfl 0 rfl ?_
    refine gf_2_7 (q := 22) (rfl : kdC 24 = 2) hK dX2_advance_19 rfl tw_193 ?_
    refine r_aload_n (q := 23) hK dX2_advance_22 rfl rfl 0 rfl ?_
    refine gf_2_6 (q := 26) (rfl : kdC 24 = 2) hK dX2_advance_23 rfl tw_192 ?_
    refine r_icmp_ge (t := 54) (q := 29) hK dX2_advance_26 rfl rfl (fun c12 => ?_) (fun c12 => ?_)
    · exact sV.sub [0, 1, 2] (by rfl) (hk τ)
    · refine r_aload_n (q := 30) hK dX2_advance_29 rfl rfl 0 rfl ?_
      refine r_aload_n (q := 31) hK dX2_advance_30 rfl rfl 0 rfl ?_
      refine gf_2_7 (q := 34) (rfl : kdC 24 = 2) hK dX2_advance_31 rfl tw_193 ?_
      refine callV_i (q := 37) (j := 24) (As := [.int (τ 24 7)]) (rest := []) (f := (fX2_sortAt (τ 24 7) τ)) hK dX2_advance_34 rfl (fun b hb => c_X2_sortAt (τ 24 7) τ b hb) ⟨2, _, _, _, kd_lt (rfl : kdC 24 = 2) (by decide), rfl, cC2 (rfl : kdC 24 = 2), rfl⟩ mv_X2_sortAt rfl rfl (Nat.le_of_ble_eq_true rfl) tw_642 mw_X2_sortAt (rmOk (Nat.le_of_ble_eq_true rfl) (Nat.le_of_ble_eq_true rfl)) (fun r13 => ?_)
      refine r_iconst (q := 38) (v := 4) hK dX2_advance_37 rfl rfl ?_
      refine r_icmp_ne (t := 54) (q := 41) hK dX2_advance_38 rfl rfl (fun c14 => ?_) (fun c14 => ?_)
      · exact sV.sub [0, 1, 2] (by rfl) (hk τ)
      · refine r_aload_n (q := 42) hK dX2_advance_41 rfl rfl 0 rfl ?_
        refine r_dup (q := 43) hK dX2_advance_42 rfl rfl ?_
        refine gf_2_7 (q := 46) (rfl : kdC 24 = 2) hK dX2_advance_43 rfl tw_193 ?_
        refine r_iconst (q := 47) (v := 1) hK dX2_advance_46 rfl rfl ?_
        refine r_iadd (q := 48) hK dX2_advance_47 rfl ?_
        refine pf_2_7 (q := 51) (rfl : kdC 24 = 2) hK dX2_advance_48 rfl tw_193 ?_
        refine sV.ltS (fun s15 => ?_)
        refine r_goto (q := 18) hK dX2_advance_51 rfl ?_
        exact sV.sub [0, 1, 2] (by rfl) (ih s15)
def fX2_advance_L94   (k : Store → Option Store) : Nat → Store → Option Store
  | 0, _ => none
  | n + 1, τ => (if (τ 24 6) ≤ (τ 24 8) then (k τ) else (sbd (fX2_isWord τ) fun r34 => (if r34 = true then (sbd (fX2_sortAt (τ 24 8) τ) fun r36 => (if ¬ r36 = (τ 24 9) then (k τ) else (slt (sup τ 24 8 ((τ 24 8) + (1 : Int32))) fun s38 => (fX2_advance_L94 k n s38)))) else (k τ))))
theorem vX2_advance_L94 {G : Geo} {K : KT} {l0 : Launch} (σ : Store) {a : Store} (v1 : Int32) (v2 : Bool) (hK : sOk wCls G K l0 RX2 cX2_advance (rmL 2 82) 3 (none) none a) (k : Store → Option Store) (hk : ∀ (ε : Store), sV wCls G K a ε 140 [(0, .ref (gad G 24)), (1, .int v1), (2, .int (b2i v2))] [] (k ε)) : ∀ (n : Nat) (τ : Store), sV wCls G K a τ 94 [(0, .ref (gad G 24)), (1, .int v1), (2, .int (b2i v2))] [] (fX2_advance_L94  k n τ) := by
  intro n
  induction n with
  | zero =>
    intro τ
    exact sV.no
  | succ n ih =>
    intro τ
    rw [fX2_advance_L94]
    refine r_aload_n (q := 95) hK dX2_advance_94 rfl rfl 0 rfl ?_
    refine gf_2_8 (q := 98) (rfl : kdC 24 = 2) hK dX2_advance_95 rfl tw_194 ?_
    refine r_aload_n (q := 99) hK dX2_advance_98 rfl rfl 0 rfl ?_
    refine gf_2_6 (q := 102) (rfl : kdC 24 = 2) hK dX2_advance_99 rfl tw_192 ?_
    refine r_icmp_ge (t := 140) (q := 105) hK dX2_advance_102 rfl rfl (fun c33 => ?_) (fun c33 => ?_)
    · exact sV.sub [0, 1, 2] (by rfl) (hk τ)
    · refine r_aload_n (q := 106) hK dX2_advance_105 rfl rfl 0 rfl ?_
      refine callV_b (q := 109) (j := 24) (As := []) (rest := []) (f := (fX2_isWord τ)) hK dX2_advance_106 rfl (fun b hb => c_X2_isWord τ b hb) ⟨2, _, _, _, kd_lt (rfl : kdC 24 = 2) (by decide), rfl, cC2 (rfl : kdC 24 = 2), rfl⟩ mv_X2_isWord rfl rfl (Nat.le_of_ble_eq_true rfl) tw_638 mw_X2_isWord (rmOk (Nat.le_of_ble_eq_true rfl) (Nat.le_of_ble_eq_true rfl)) (fun r34 => ?_)
      refine r_ifb_eq (t := 140) (q := 112) hK dX2_advance_109 rfl rfl (fun c35 => ?_) (fun c35 => ?_)
      · refine r_aload_n (q := 113) hK dX2_advance_112 rfl rfl 0 rfl ?_
        refine r_aload_n (q := 114) hK dX2_advance_113 rfl rfl 0 rfl ?_
        refine gf_2_8 (q := 117) (rfl : kdC 24 = 2) hK dX2_advance_114 rfl tw_194 ?_
        refine callV_i (q := 120) (j := 24) (As := [.int (τ 24 8)]) (rest := []) (f := (fX2_sortAt (τ 24 8) τ)) hK dX2_advance_117 rfl (fun b hb => c_X2_sortAt (τ 24 8) τ b hb) ⟨2, _, _, _, kd_lt (rfl : kdC 24 = 2) (by decide), rfl, cC2 (rfl : kdC 24 = 2), rfl⟩ mv_X2_sortAt rfl rfl (Nat.le_of_ble_eq_true rfl) tw_642 mw_X2_sortAt (rmOk (Nat.le_of_ble_eq_true rfl) (Nat.le_of_ble_eq_true rfl)) (fun r36 => ?_)
        refine r_aload_n (q := 121) hK dX2_advance_120 rfl rfl 0 rfl ?_
        refine gf_2_9 (q := 124) (rfl : kdC 24 = 2) hK dX2_advance_121 rfl tw_195 ?_
        refine r_icmp_ne (t := 140) (q := 127) hK dX2_advance_124 rfl rfl (fun c37 => ?_) (fun c37 => ?_)
        · exact sV.sub [0, 1, 2] (by rfl) (hk τ)
        · refine r_aload_n (q := 128) hK dX2_advance_127 rfl rfl 0 rfl ?_
          refine r_dup (q := 129) hK dX2_advance_128 rfl rfl ?_
          refine gf_2_8 (q := 132) (rfl : kdC 24 = 2) hK dX2_advance_129 rfl tw_194 ?_
          refine r_iconst (q := 133) (v := 1) hK dX2_advance_132 rfl rfl ?_
          refine r_iadd (q := 134) hK dX2_advance_133 rfl ?_
          refine pf_2_8 (q := 137) (rfl : kdC 24 = 2) hK dX2_advance_134 rfl tw_194 ?_
          refine sV.ltS (fun s38 => ?_)
          refine r_goto (q := 94) hK dX2_advance_137 rfl ?_
          exact sV.sub [0, 1, 2] (by rfl) (ih s38)
      · exact sV.sub [0, 1, 2] (by rfl) (hk τ)
def fX2_advance   (σ : Store) : Option Store := (slt (σ 24 8) fun x1 => (sbd (fX2_isWord σ) fun r2 => (slt (sup σ 24 7 (σ 24 8)) fun s3 => (fX2_advance_L18  (fun s16 => (sbd (fX2_sortAt (s16 24 7) s16) fun r17 => (slt (sup s16 24 9 r17) fun s18 => (sjn (fun k91 : Int32 → Option Store => (if (s18 24 6) ≤ (s18 24 7) then (k91 (s18 24 7)) else (k91 ((s18 24 7) + (1 : Int32))))) (fun (z0_91 : Int32) => (slt (sup s18 24 8 z0_91) fun s20 => (fX2_advance_L94  (fun s39 => (sjn (fun k165 : Bool → Option Store => (if r2 = true then (sbd (fX2_isWord s39) fun r46 => (if r46 = true then (if ¬ (s39 24 7) = x1 then (k165 false) else (k165 true)) else (k165 false))) else (k165 false))) (fun (z0_165 : Bool) => (slt (sup s39 24 10 (b2i z0_165)) fun s44 => (some s44))))) FU s20))))))) FU s3))))
theorem c_X2_advance {l0 : Launch} {G : Geo}  (σ : Store) (a : Store) (hf : fX2_advance   σ = some a) : sCon l0 wCls G yX2_advance cX2_advance 3 (none) (rmL 2 82) [.ref (gad G 24)] σ none a := by
  refine sCon.of (by decide) ⟨rfl, rfl⟩ (Nat.le_of_ble_eq_true rfl) RX2 rfl _ hf (fun K hK => ?_)
  show sV wCls G K a σ 0 [(0, .ref (gad G 24))] [] _
  unfold fX2_advance
  refine r_aload_n (q := 1) hK dX2_advance_0 rfl rfl 0 rfl ?_
  refine gf_2_8 (q := 4) (rfl : kdC 24 = 2) hK dX2_advance_1 rfl tw_194 ?_
  refine sV.ltI (fun x1 => ?_)
  refine r_istore_n (q := 5) (loc' := [(1, .int x1), (0, .ref (gad G 24))]) hK dX2_advance_4 rfl rfl (by decide) rfl ?_
  refine r_aload_n (q := 6) hK dX2_advance_5 rfl rfl 1 rfl ?_
  refine callV_b (q := 9) (j := 24) (As := []) (rest := []) (f := (fX2_isWord σ)) hK dX2_advance_6 rfl (fun b hb => c_X2_isWord σ b hb) ⟨2, _, _, _, kd_lt (rfl : kdC 24 = 2) (by decide), rfl, cC2 (rfl : kdC 24 = 2), rfl⟩ mv_X2_isWord rfl rfl (Nat.le_of_ble_eq_true rfl) tw_638 mw_X2_isWord (rmOk (Nat.le_of_ble_eq_true rfl) (Nat.le_of_ble_eq_true rfl)) (fun r2 => ?_)
  refine r_istore_n (q := 10) (loc' := [(2, .int (b2i r2)), (1, .int x1), (0, .ref (gad G 24))]) hK dX2_advance_9 rfl rfl (by decide) rfl ?_
  refine r_aload_n (q := 11) hK dX2_advance_10 rfl rfl 2 rfl ?_
  refine r_aload_n (q := 12) hK dX2_advance_11 rfl rfl 2 rfl ?_
  refine gf_2_8 (q := 15) (rfl : kdC 24 = 2) hK dX2_advance_12 rfl tw_194 ?_
  refine pf_2_7 (q := 18) (rfl : kdC 24 = 2) hK dX2_advance_15 rfl tw_193 ?_
  refine sV.ltS (fun s3 => ?_)
  refine sV.sub [2, 1, 0] (by rfl) (vX2_advance_L18 s3 x1 r2 hK _ (fun s16 => ?_) FU s3)
  refine r_aload_n (q := 55) hK dX2_advance_54 rfl rfl 0 rfl ?_
  refine r_aload_n (q := 56) hK dX2_advance_55 rfl rfl 0 rfl ?_
  refine r_aload_n (q := 57) hK dX2_advance_56 rfl rfl 0 rfl ?_
  refine gf_2_7 (q := 60) (rfl : kdC 24 = 2) hK dX2_advance_57 rfl tw_193 ?_
  refine callV_i (q := 63) (j := 24) (As := [.int (s16 24 7)]) (rest := [.ref (gad G 24)]) (f := (fX2_sortAt (s16 24 7) s16)) hK dX2_advance_60 rfl (fun b hb => c_X2_sortAt (s16 24 7) s16 b hb) ⟨2, _, _, _, kd_lt (rfl : kdC 24 = 2) (by decide), rfl, cC2 (rfl : kdC 24 = 2), rfl⟩ mv_X2_sortAt rfl rfl (Nat.le_of_ble_eq_true rfl) tw_642 mw_X2_sortAt (rmOk (Nat.le_of_ble_eq_true rfl) (Nat.le_of_ble_eq_true rfl)) (fun r17 => ?_)
  refine pf_2_9 (q := 66) (rfl : kdC 24 = 2) hK dX2_advance_63 rfl tw_195 ?_
  refine sV.ltS (fun s18 => ?_)
  refine r_aload_n (q := 67) hK dX2_advance_66 rfl rfl 0 rfl ?_
  refine r_aload_n (q := 68) hK dX2_advance_67 rfl rfl 0 rfl ?_
  refine gf_2_7 (q := 71) (rfl : kdC 24 = 2) hK dX2_advance_68 rfl tw_193 ?_
  refine r_aload_n (q := 72) hK dX2_advance_71 rfl rfl 0 rfl ?_
  refine gf_2_6 (q := 75) (rfl : kdC 24 = 2) hK dX2_advance_72 rfl tw_192 ?_
  refine sV.jn (fun k : Int32 → Option Store => ∀ (z0_91 : Int32), sV wCls G K a s18 91 [(0, .ref (gad G 24)), (1, .int x1), (2, .int (b2i r2))] [.int z0_91, .ref (gad G 24)] (k z0_91)) (fun z0_91 => ?_) (fun k91 hk91 => ?_)
  · refine pf_2_8 (q := 94) (rfl : kdC 24 = 2) hK dX2_advance_91 rfl tw_194 ?_
    refine sV.ltS (fun s20 => ?_)
    refine sV.sub [0, 1, 2] (by rfl) (vX2_advance_L94 s20 x1 r2 hK _ (fun s39 => ?_) FU s20)
    refine r_aload_n (q := 141) hK dX2_advance_140 rfl rfl 0 rfl ?_
    refine r_iload_n (q := 142) hK dX2_advance_141 rfl rfl 2 rfl ?_
    refine sV.jn (fun k : Bool → Option Store => ∀ (z0_165 : Bool), sV wCls G K a s39 165 [(0, .ref (gad G 24)), (1, .int x1), (2, .int (b2i r2))] [.int (b2i z0_165), .ref (gad G 24)] (k z0_165)) (fun z0_165 => ?_) (fun k165 hk165 => ?_)
    · refine pf_2_10 (q := 168) (b := z0_165) (rfl : kdC 24 = 2) hK dX2_advance_165 rfl tw_196 ?_
      refine sV.ltS (fun s44 => ?_)
      exact e_vS hK dX2_advance_168
    · refine r_ifb_eq (t := 164) (q := 145) hK dX2_advance_142 rfl rfl (fun c45 => ?_) (fun c45 => ?_)
      · refine r_aload_n (q := 146) hK dX2_advance_145 rfl rfl 0 rfl ?_
        refine callV_b (q := 149) (j := 24) (As := []) (rest := [.ref (gad G 24)]) (f := (fX2_isWord s39)) hK dX2_advance_146 rfl (fun b hb => c_X2_isWord s39 b hb) ⟨2, _, _, _, kd_lt (rfl : kdC 24 = 2) (by decide), rfl, cC2 (rfl : kdC 24 = 2), rfl⟩ mv_X2_isWord rfl rfl (Nat.le_of_ble_eq_true rfl) tw_638 mw_X2_isWord (rmOk (Nat.le_of_ble_eq_true rfl) (Nat.le_of_ble_eq_true rfl)) (fun r46 => ?_)
        refine r_ifb_eq (t := 164) (q := 152) hK dX2_advance_149 rfl rfl (fun c47 => ?_) (fun c47 => ?_)
        · refine r_aload_n (q := 153) hK dX2_advance_152 rfl rfl 0 rfl ?_
          refine gf_2_7 (q := 156) (rfl : kdC 24 = 2) hK dX2_advance_153 rfl tw_193 ?_
          refine r_iload_n (q := 157) hK dX2_advance_156 rfl rfl 1 rfl ?_
          refine r_icmp_ne (t := 164) (q := 160) hK dX2_advance_157 rfl rfl (fun c48 => ?_) (fun c48 => ?_)
          · refine r_iconst (q := 165) (v := 0) hK dX2_advance_164 rfl rfl ?_
            exact sV.sub [0, 1, 2] (by rfl) (hk165 false)
          · refine r_iconst (q := 161) (v := 1) hK dX2_advance_160 rfl rfl ?_
            refine r_goto (q := 165) hK dX2_advance_161 rfl ?_
            exact sV.sub [0, 1, 2] (by rfl) (hk165 true)
        · refine r_iconst (q := 165) (v := 0) hK dX2_advance_164 rfl rfl ?_
          exact sV.sub [0, 1, 2] (by rfl) (hk165 false)
      · refine r_iconst (q := 165) (v := 0) hK dX2_advance_164 rfl rfl ?_
        exact sV.sub [0, 1, 2] (by rfl) (hk165 false)
  · refine r_icmp_ge (t := 87) (q := 78) hK dX2_advance_75 rfl rfl (fun c49 => ?_) (fun c49 => ?_)
    · refine r_aload_n (q := 88) hK dX2_advance_87 rfl rfl 0 rfl ?_
      refine gf_2_7 (q := 91) (rfl : kdC 24 = 2) hK dX2_advance_88 rfl tw_193 ?_
      exact sV.sub [0, 1, 2] (by rfl) (hk91 (s18 24 7))
    · refine r_aload_n (q := 79) hK dX2_advance_78 rfl rfl 0 rfl ?_
      refine gf_2_7 (q := 82) (rfl : kdC 24 = 2) hK dX2_advance_79 rfl tw_193 ?_
      refine r_iconst (q := 83) (v := 1) hK dX2_advance_82 rfl rfl ?_
      refine r_iadd (q := 84) hK dX2_advance_83 rfl ?_
      refine r_goto (q := 91) hK dX2_advance_84 rfl ?_
      exact sV.sub [0, 1, 2] (by rfl) (hk91 ((s18 24 7) + (1 : Int32)))
def fX2_addStep  (a1 : Int32) (σ : Store) : Option Store := (if (96 : Int32) ≤ (σ 24 1) then (some σ) else (six 96 (σ 24 1) (slt (sup σ 25 (snx (σ 24 1)) a1) fun s3 => (slt (sup s3 24 1 ((s3 24 1) + (1 : Int32))) fun s4 => (some s4)))))
theorem c_X2_addStep {l0 : Launch} {G : Geo} (a1 : Int32) (σ : Store) (a : Store) (hf : fX2_addStep  a1 σ = some a) : sCon l0 wCls G yX2_addStep cX2_addStep 2 (none) (rmL 1 60) [.ref (gad G 24), .int a1] σ none a := by
  refine sCon.of (by decide) ⟨rfl, rfl⟩ (Nat.le_of_ble_eq_true rfl) RX2 rfl _ hf (fun K hK => ?_)
  show sV wCls G K a σ 0 [(0, .ref (gad G 24)), (1, .int a1)] [] _
  unfold fX2_addStep
  refine r_aload_n (q := 1) hK dX2_addStep_0 rfl rfl 0 rfl ?_
  refine gf_2_1 (q := 4) (rfl : kdC 24 = 2) hK dX2_addStep_1 rfl tw_183 ?_
  refine r_bipush (q := 6) (v := 96) hK dX2_addStep_4 rfl rfl ?_
  refine r_icmp_ge (t := 29) (q := 9) hK dX2_addStep_6 rfl rfl (fun c1 => ?_) (fun c1 => ?_)
  · exact e_vS hK dX2_addStep_29
  · refine r_aload_n (q := 10) hK dX2_addStep_9 rfl rfl 0 rfl ?_
    refine gf_2_0 (q := 13) (rfl : kdC 24 = 2) hK dX2_addStep_10 rfl tw_181 ?_
    refine r_aload_n (q := 14) hK dX2_addStep_13 rfl rfl 0 rfl ?_
    refine gf_2_1 (q := 17) (rfl : kdC 24 = 2) hK dX2_addStep_14 rfl tw_183 ?_
    refine r_iload_n (q := 18) hK dX2_addStep_17 rfl rfl 1 rfl ?_
    refine r_iast (q := 19) hK dX2_addStep_18 rfl (aC20 (j := 25) rfl) (fun h2 => ?_)
    refine sV.ltS (fun s3 => ?_)
    refine r_aload_n (q := 20) hK dX2_addStep_19 rfl rfl 0 rfl ?_
    refine r_dup (q := 21) hK dX2_addStep_20 rfl rfl ?_
    refine gf_2_1 (q := 24) (rfl : kdC 24 = 2) hK dX2_addStep_21 rfl tw_183 ?_
    refine r_iconst (q := 25) (v := 1) hK dX2_addStep_24 rfl rfl ?_
    refine r_iadd (q := 26) hK dX2_addStep_25 rfl ?_
    refine pf_2_1 (q := 29) (rfl : kdC 24 = 2) hK dX2_addStep_26 rfl tw_183 ?_
    refine sV.ltS (fun s4 => ?_)
    exact e_vS hK dX2_addStep_29
def fX2_levelOf  (a0 : Int32) (σ : Store) : Option Int32 := (if a0 = (38 : Int32) then (some (1 : Int32)) else (if a0 = (42 : Int32) then (some (4 : Int32)) else (if a0 = (43 : Int32) then (some (3 : Int32)) else (if a0 = (45 : Int32) then (some (3 : Int32)) else (if a0 = (47 : Int32) then (some (4 : Int32)) else (if a0 = (60 : Int32) then (some (2 : Int32)) else (if a0 = (61 : Int32) then (some (2 : Int32)) else (if a0 = (62 : Int32) then (some (2 : Int32)) else (if a0 = (124 : Int32) then (some (0 : Int32)) else (some (-1000000005 : Int32)))))))))))
theorem c_X2_levelOf {l0 : Launch} {G : Geo} (a0 : Int32) (σ : Store) (a : Int32) (hf : fX2_levelOf  a0 σ = some a) : sCon l0 wCls G yX2_levelOf cX2_levelOf 1 (some .int) (rmL 1 60) [.int a0] σ (some (.int a)) σ := by
  refine sCon.of (by decide) ⟨rfl, rfl⟩ (Nat.le_of_ble_eq_true rfl) RX2 rfl _ hf (fun K hK => ?_)
  show sV wCls G K a σ 0 [(0, .int a0)] [] _
  unfold fX2_levelOf
  refine r_iload_n (q := 1) hK dX2_levelOf_0 rfl rfl 0 rfl ?_
  refine sV.ite (fun c1 => ?_) (fun c1 => ?_)
  · refine r_lsI (t := 86) (38 : Int32) hK dX2_levelOf_1 c1 rfl rfl rfl ?_
    refine r_iconst (q := 87) (v := 1) hK dX2_levelOf_86 rfl rfl ?_
    exact e_i hK dX2_levelOf_87
  · refine sV.ite (fun c2 => ?_) (fun c2 => ?_)
    · refine r_lsI (t := 92) (42 : Int32) hK dX2_levelOf_1 c2 rfl rfl rfl ?_
      refine r_iconst (q := 93) (v := 4) hK dX2_levelOf_92 rfl rfl ?_
      exact e_i hK dX2_levelOf_93
    · refine sV.ite (fun c3 => ?_) (fun c3 => ?_)
      · refine r_lsI (t := 90) (43 : Int32) hK dX2_levelOf_1 c3 rfl rfl rfl ?_
        refine r_iconst (q := 91) (v := 3) hK dX2_levelOf_90 rfl rfl ?_
        exact e_i hK dX2_levelOf_91
      · refine sV.ite (fun c4 => ?_) (fun c4 => ?_)
        · refine r_lsI (t := 90) (45 : Int32) hK dX2_levelOf_1 c4 rfl rfl rfl ?_
          refine r_iconst (q := 91) (v := 3) hK dX2_levelOf_90 rfl rfl ?_
          exact e_i hK dX2_levelOf_91
        · refine sV.ite (fun c5 => ?_) (fun c5 => ?_)
          · refine r_lsI (t := 92) (47 : Int32) hK dX2_levelOf_1 c5 rfl rfl rfl ?_
            refine r_iconst (q := 93) (v := 4) hK dX2_levelOf_92 rfl rfl ?_
            exact e_i hK dX2_levelOf_93
          · refine sV.ite (fun c6 => ?_) (fun c6 => ?_)
            · refine r_lsI (t := 88) (60 : Int32) hK dX2_levelOf_1 c6 rfl rfl rfl ?_
              refine r_iconst (q := 89) (v := 2) hK dX2_levelOf_88 rfl rfl ?_
              exact e_i hK dX2_levelOf_89
            · refine sV.ite (fun c7 => ?_) (fun c7 => ?_)
              · refine r_lsI (t := 88) (61 : Int32) hK dX2_levelOf_1 c7 rfl rfl rfl ?_
                refine r_iconst (q := 89) (v := 2) hK dX2_levelOf_88 rfl rfl ?_
                exact e_i hK dX2_levelOf_89
              · refine sV.ite (fun c8 => ?_) (fun c8 => ?_)
                · refine r_lsI (t := 88) (62 : Int32) hK dX2_levelOf_1 c8 rfl rfl rfl ?_
                  refine r_iconst (q := 89) (v := 2) hK dX2_levelOf_88 rfl rfl ?_
                  exact e_i hK dX2_levelOf_89
                · refine sV.ite (fun c9 => ?_) (fun c9 => ?_)
                  · refine r_lsI (t := 84) (124 : Int32) hK dX2_levelOf_1 c9 rfl rfl rfl ?_
                    refine r_iconst (q := 85) (v := 0) hK dX2_levelOf_84 rfl rfl ?_
                    exact e_i hK dX2_levelOf_85
                  · have ec1 : ¬ (a0).toInt = 38 := ne_ti c1
                    have ec2 : ¬ (a0).toInt = 42 := ne_ti c2
                    have ec3 : ¬ (a0).toInt = 43 := ne_ti c3
                    have ec4 : ¬ (a0).toInt = 45 := ne_ti c4
                    have ec5 : ¬ (a0).toInt = 47 := ne_ti c5
                    have ec6 : ¬ (a0).toInt = 60 := ne_ti c6
                    have ec7 : ¬ (a0).toInt = 61 := ne_ti c7
                    have ec8 : ¬ (a0).toInt = 62 := ne_ti c8
                    have ec9 : ¬ (a0).toInt = 124 := ne_ti c9
                    refine r_lsO (t := 94) hK dX2_levelOf_1 rfl [38, 42, 43, 45, 47, 60, 61, 62, 124] rfl (List.forall_mem_cons.mpr ⟨ec1, (List.forall_mem_cons.mpr ⟨ec2, (List.forall_mem_cons.mpr ⟨ec3, (List.forall_mem_cons.mpr ⟨ec4, (List.forall_mem_cons.mpr ⟨ec5, (List.forall_mem_cons.mpr ⟨ec6, (List.forall_mem_cons.mpr ⟨ec7, (List.forall_mem_cons.mpr ⟨ec8, (List.forall_mem_cons.mpr ⟨ec9, (List.forall_mem_nil _)⟩)⟩)⟩)⟩)⟩)⟩)⟩)⟩)⟩) rfl ?_
                    refine r_ldc (q := 96) hK dX2_levelOf_94 rfl tw_652 ?_
                    exact e_i hK dX2_levelOf_96
def fX2_signHere   (σ : Store) : Option Int32 := (if ¬ (σ 24 9) = (3 : Int32) then (some (0 : Int32)) else (six 96 (σ 24 7) (some (σ 23 (snx (σ 24 7))))))
theorem c_X2_signHere {l0 : Launch} {G : Geo}  (σ : Store) (a : Int32) (hf : fX2_signHere   σ = some a) : sCon l0 wCls G yX2_signHere cX2_signHere 1 (some .int) (rmL 1 60) [.ref (gad G 24)] σ (some (.int a)) σ := by
  refine sCon.of (by decide) ⟨rfl, rfl⟩ (Nat.le_of_ble_eq_true rfl) RX2 rfl _ hf (fun K hK => ?_)
  show sV wCls G K a σ 0 [(0, .ref (gad G 24))] [] _
  unfold fX2_signHere
  refine r_aload_n (q := 1) hK dX2_signHere_0 rfl rfl 0 rfl ?_
  refine gf_2_9 (q := 4) (rfl : kdC 24 = 2) hK dX2_signHere_1 rfl tw_195 ?_
  refine r_iconst (q := 5) (v := 3) hK dX2_signHere_4 rfl rfl ?_
  refine r_icmp_ne (t := 20) (q := 8) hK dX2_signHere_5 rfl rfl (fun c1 => ?_) (fun c1 => ?_)
  · refine r_iconst (q := 21) (v := 0) hK dX2_signHere_20 rfl rfl ?_
    exact e_i hK dX2_signHere_21
  · refine r_aload_n (q := 9) hK dX2_signHere_8 rfl rfl 0 rfl ?_
    refine gf_2_5 (q := 12) (rfl : kdC 24 = 2) hK dX2_signHere_9 rfl tw_191 ?_
    refine r_aload_n (q := 13) hK dX2_signHere_12 rfl rfl 0 rfl ?_
    refine gf_2_7 (q := 16) (rfl : kdC 24 = 2) hK dX2_signHere_13 rfl tw_193 ?_
    refine r_iald (q := 17) hK dX2_signHere_16 rfl (aC20 (j := 23) rfl) (fun h2 => ?_)
    refine r_goto (q := 21) hK dX2_signHere_17 rfl ?_
    exact e_i hK dX2_signHere_21
def fX2_fail   (σ : Store) : Option Store := (if 0 ≤ (σ 24 4) then (some σ) else (slt (sup σ 24 4 (σ 24 7)) fun s2 => (some s2)))
theorem c_X2_fail {l0 : Launch} {G : Geo}  (σ : Store) (a : Store) (hf : fX2_fail   σ = some a) : sCon l0 wCls G yX2_fail cX2_fail 1 (none) (rmL 1 60) [.ref (gad G 24)] σ none a := by
  refine sCon.of (by decide) ⟨rfl, rfl⟩ (Nat.le_of_ble_eq_true rfl) RX2 rfl _ hf (fun K hK => ?_)
  show sV wCls G K a σ 0 [(0, .ref (gad G 24))] [] _
  unfold fX2_fail
  refine r_aload_n (q := 1) hK dX2_fail_0 rfl rfl 0 rfl ?_
  refine gf_2_4 (q := 4) (rfl : kdC 24 = 2) hK dX2_fail_1 rfl tw_189 ?_
  refine r_if_ge (t := 15) (q := 7) hK dX2_fail_4 rfl rfl (fun c1 => ?_) (fun c1 => ?_)
  · exact e_vS hK dX2_fail_15
  · refine r_aload_n (q := 8) hK dX2_fail_7 rfl rfl 0 rfl ?_
    refine r_aload_n (q := 9) hK dX2_fail_8 rfl rfl 0 rfl ?_
    refine gf_2_7 (q := 12) (rfl : kdC 24 = 2) hK dX2_fail_9 rfl tw_193 ?_
    refine pf_2_4 (q := 15) (rfl : kdC 24 = 2) hK dX2_fail_12 rfl tw_189 ?_
    refine sV.ltS (fun s2 => ?_)
    exact e_vS hK dX2_fail_15
def fX2_close   (σ : Store) : Option Store := (sbd (fX2_signHere σ) fun r1 => (if ¬ r1 = (41 : Int32) then (sbd (fX2_fail σ) fun s3 => (some s3)) else (sbd (fX2_advance σ) fun s4 => (some s4))))
theorem c_X2_close {l0 : Launch} {G : Geo}  (σ : Store) (a : Store) (hf : fX2_close   σ = some a) : sCon l0 wCls G yX2_close cX2_close 1 (none) (rmL 3 104) [.ref (gad G 24)] σ none a := by
  refine sCon.of (by decide) ⟨rfl, rfl⟩ (Nat.le_of_ble_eq_true rfl) RX2 rfl _ hf (fun K hK => ?_)
  show sV wCls G K a σ 0 [(0, .ref (gad G 24))] [] _
  unfold fX2_close
  refine r_aload_n (q := 1) hK dX2_close_0 rfl rfl 0 rfl ?_
  refine callV_i (q := 4) (j := 24) (As := []) (rest := []) (f := (fX2_signHere σ)) hK dX2_close_1 rfl (fun b hb => c_X2_signHere σ b hb) ⟨2, _, _, _, kd_lt (rfl : kdC 24 = 2) (by decide), rfl, cC2 (rfl : kdC 24 = 2), rfl⟩ mv_X2_signHere rfl rfl (Nat.le_of_ble_eq_true rfl) tw_665 mw_X2_signHere (rmOk (Nat.le_of_ble_eq_true rfl) (Nat.le_of_ble_eq_true rfl)) (fun r1 => ?_)
  refine r_bipush (q := 6) (v := 41) hK dX2_close_4 rfl rfl ?_
  refine r_icmp_ne (t := 16) (q := 9) hK dX2_close_6 rfl rfl (fun c2 => ?_) (fun c2 => ?_)
  · refine r_aload_n (q := 17) hK dX2_close_16 rfl rfl 0 rfl ?_
    refine callV_vS (q := 20) (j := 24) (As := []) (rest := []) (f := (fX2_fail σ)) hK dX2_close_17 rfl (fun b hb => c_X2_fail σ b hb) ⟨2, _, _, _, kd_lt (rfl : kdC 24 = 2) (by decide), rfl, cC2 (rfl : kdC 24 = 2), rfl⟩ mv_X2_fail rfl rfl (Nat.le_of_ble_eq_true rfl) tw_653 mw_X2_fail (rmOk (Nat.le_of_ble_eq_true rfl) (Nat.le_of_ble_eq_true rfl)) (fun s3 => ?_)
    exact e_vS hK dX2_close_20
  · refine r_aload_n (q := 10) hK dX2_close_9 rfl rfl 0 rfl ?_
    refine callV_vS (q := 13) (j := 24) (As := []) (rest := []) (f := (fX2_advance σ)) hK dX2_close_10 rfl (fun b hb => c_X2_advance σ b hb) ⟨2, _, _, _, kd_lt (rfl : kdC 24 = 2) (by decide), rfl, cC2 (rfl : kdC 24 = 2), rfl⟩ mv_X2_advance rfl rfl (Nat.le_of_ble_eq_true rfl) tw_634 mw_X2_advance (rmOk (Nat.le_of_ble_eq_true rfl) (Nat.le_of_ble_eq_true rfl)) (fun s4 => ?_)
    refine r_goto (q := 20) hK dX2_close_13 rfl ?_
    exact e_vS hK dX2_close_20
def fX2_nameHere_L26   (σ : Store) : Nat → Int32 → Option Int32
  | 0, _ => none
  | n + 1, i1 => (if (3 : Int32) ≤ i1 then (some (-1000000005 : Int32)) else (six 96 (σ 24 7) (six 9 (((3 : Int32) * (σ 24 2)) + i1) (if ¬ (σ 23 (snx (σ 24 7))) = (tb2.getD (snx (((3 : Int32) * (σ 24 2)) + i1)) 0) then (fX2_nameHere_L26 σ n (i1 + (1 : Int32))) else (some ((-1 : Int32) - i1))))))
theorem vX2_nameHere_L26 {G : Geo} {K : KT} {l0 : Launch} (σ : Store) {a : Int32}  (hK : sOk wCls G K l0 RX2 cX2_nameHere (rmL 1 60) 2 (some .int) (some (.int a)) σ) : ∀ (n : Nat) (i1 : Int32), sV wCls G K a σ 26 [(0, .ref (gad G 24)), (1, .int i1)] [] (fX2_nameHere_L26 σ n i1) := by
  intro n
  induction n with
  | zero =>
    intro i1
    exact sV.no
  | succ n ih =>
    intro i1
    rw [fX2_nameHere_L26]
    refine r_iload_n (q := 27) hK dX2_nameHere_26 rfl rfl 1 rfl ?_
    refine r_iconst (q := 28) (v := 3) hK dX2_nameHere_27 rfl rfl ?_
    refine r_icmp_ge (t := 65) (q := 31) hK dX2_nameHere_28 rfl rfl (fun c11 => ?_) (fun c11 => ?_)
    · refine r_ldc (q := 67) hK dX2_nameHere_65 rfl tw_652 ?_
      exact e_i hK dX2_nameHere_67
    · refine r_aload_n (q := 32) hK dX2_nameHere_31 rfl rfl 0 rfl ?_
      refine gf_2_5 (q := 35) (rfl : kdC 24 = 2) hK dX2_nameHere_32 rfl tw_191 ?_
      refine r_aload_n (q := 36) hK dX2_nameHere_35 rfl rfl 0 rfl ?_
      refine gf_2_7 (q := 39) (rfl : kdC 24 = 2) hK dX2_nameHere_36 rfl tw_193 ?_
      refine r_iald (q := 40) hK dX2_nameHere_39 rfl (aC20 (j := 23) rfl) (fun h12 => ?_)
      refine r_gets (i := 0) (q := 43) hK dX2_nameHere_40 rfl (fun U h => h.2.2.1.1) tw_689 ?_
      refine r_iconst (q := 44) (v := 3) hK dX2_nameHere_43 rfl rfl ?_
      refine r_aload_n (q := 45) hK dX2_nameHere_44 rfl rfl 0 rfl ?_
      refine gf_2_2 (q := 48) (rfl : kdC 24 = 2) hK dX2_nameHere_45 rfl tw_186 ?_
      refine r_imul (q := 49) hK dX2_nameHere_48 rfl ?_
      refine r_iload_n (q := 50) hK dX2_nameHere_49 rfl rfl 1 rfl ?_
      refine r_iadd (q := 51) hK dX2_nameHere_50 rfl ?_
      refine r_stc (q := 52) (f := fun k => tb2.getD k 0) hK dX2_nameHere_51 rfl (fun U h => h.2.2.1.2) (fun h13 => ?_)
      refine r_icmp_ne (t := 59) (q := 55) hK dX2_nameHere_52 rfl rfl (fun c14 => ?_) (fun c14 => ?_)
      · refine r_iinc (q := 62) (v := (i1 + (1 : Int32))) (loc' := [(1, .int (i1 + (1 : Int32))), (0, .ref (gad G 24))]) hK dX2_nameHere_59 rfl 1 rfl rfl (by decide) rfl ?_
        refine r_goto (q := 26) hK dX2_nameHere_62 rfl ?_
        exact sV.sub [1, 0] (by rfl) (ih (i1 + (1 : Int32)))
      · refine r_iconst (q := 56) (v := -1) hK dX2_nameHere_55 rfl rfl ?_
        refine r_iload_n (q := 57) hK dX2_nameHere_56 rfl rfl 1 rfl ?_
        refine r_isub (q := 58) hK dX2_nameHere_57 rfl ?_
        exact e_i hK dX2_nameHere_58
def fX2_nameHere   (σ : Store) : Option Int32 := (if ¬ (σ 24 9) = (1 : Int32) then (some (-1000000005 : Int32)) else (if ((σ 24 8) - (σ 24 7)) = (1 : Int32) then (fX2_nameHere_L26 σ FU (0 : Int32)) else (some (-1000000005 : Int32))))
theorem c_X2_nameHere {l0 : Launch} {G : Geo}  (σ : Store) (a : Int32) (hf : fX2_nameHere   σ = some a) : sCon l0 wCls G yX2_nameHere cX2_nameHere 2 (some .int) (rmL 1 60) [.ref (gad G 24)] σ (some (.int a)) σ := by
  refine sCon.of (by decide) ⟨rfl, rfl⟩ (Nat.le_of_ble_eq_true rfl) RX2 rfl _ hf (fun K hK => ?_)
  show sV wCls G K a σ 0 [(0, .ref (gad G 24))] [] _
  unfold fX2_nameHere
  refine r_aload_n (q := 1) hK dX2_nameHere_0 rfl rfl 0 rfl ?_
  refine gf_2_9 (q := 4) (rfl : kdC 24 = 2) hK dX2_nameHere_1 rfl tw_195 ?_
  refine r_iconst (q := 5) (v := 1) hK dX2_nameHere_4 rfl rfl ?_
  refine r_icmp_ne (t := 21) (q := 8) hK dX2_nameHere_5 rfl rfl (fun c1 => ?_) (fun c1 => ?_)
  · refine r_ldc (q := 23) hK dX2_nameHere_21 rfl tw_652 ?_
    exact e_i hK dX2_nameHere_23
  · refine r_aload_n (q := 9) hK dX2_nameHere_8 rfl rfl 0 rfl ?_
    refine gf_2_8 (q := 12) (rfl : kdC 24 = 2) hK dX2_nameHere_9 rfl tw_194 ?_
    refine r_aload_n (q := 13) hK dX2_nameHere_12 rfl rfl 0 rfl ?_
    refine gf_2_7 (q := 16) (rfl : kdC 24 = 2) hK dX2_nameHere_13 rfl tw_193 ?_
    refine r_isub (q := 17) hK dX2_nameHere_16 rfl ?_
    refine r_iconst (q := 18) (v := 1) hK dX2_nameHere_17 rfl rfl ?_
    refine r_icmp_eq (t := 24) (q := 21) hK dX2_nameHere_18 rfl rfl (fun c2 => ?_) (fun c2 => ?_)
    · refine r_iconst (q := 25) (v := 0) hK dX2_nameHere_24 rfl rfl ?_
      refine r_istore_n (q := 26) (loc' := [(1, .int (0 : Int32)), (0, .ref (gad G 24))]) hK dX2_nameHere_25 rfl rfl (by decide) rfl ?_
      exact sV.sub [1, 0] (by rfl) (vX2_nameHere_L26 σ  hK FU (0 : Int32))
    · refine r_ldc (q := 23) hK dX2_nameHere_21 rfl tw_652 ?_
      exact e_i hK dX2_nameHere_23
def fX2_numberHere_L23   (σ : Store) : Nat → Int32 → Int32 → Option Int32
  | 0, _, _ => none
  | n + 1, i1, i2 => (if (σ 24 8) ≤ i2 then (some i1) else (six 96 i2 (slt ((((10 : Int32) * i1) + (σ 23 (snx i2))) - (48 : Int32)) fun x11 => (fX2_numberHere_L23 σ n x11 (i2 + (1 : Int32))))))
theorem vX2_numberHere_L23 {G : Geo} {K : KT} {l0 : Launch} (σ : Store) {a : Int32}  (hK : sOk wCls G K l0 RX2 cX2_numberHere (rmL 1 60) 3 (some .int) (some (.int a)) σ) : ∀ (n : Nat) (i1 : Int32) (i2 : Int32), sV wCls G K a σ 23 [(0, .ref (gad G 24)), (1, .int i1), (2, .int i2)] [] (fX2_numberHere_L23 σ n i1 i2) := by
  intro n
  induction n with
  | zero =>
    intro i1 i2
    exact sV.no
  | succ n ih =>
    intro i1 i2
    rw [fX2_numberHere_L23]
    refine r_iload_n (q := 24) hK dX2_numberHere_23 rfl rfl 2 rfl ?_
    refine r_aload_n (q := 25) hK dX2_numberHere_24 rfl rfl 0 rfl ?_
    refine gf_2_8 (q := 28) (rfl : kdC 24 = 2) hK dX2_numberHere_25 rfl tw_194 ?_
    refine r_icmp_ge (t := 52) (q := 31) hK dX2_numberHere_28 rfl rfl (fun c9 => ?_) (fun c9 => ?_)
    · refine r_iload_n (q := 53) hK dX2_numberHere_52 rfl rfl 1 rfl ?_
      exact e_i hK dX2_numberHere_53
    · refine r_bipush (q := 33) (v := 10) hK dX2_numberHere_31 rfl rfl ?_
      refine r_iload_n (q := 34) hK dX2_numberHere_33 rfl rfl 1 rfl ?_
      refine r_imul (q := 35) hK dX2_numberHere_34 rfl ?_
      refine r_aload_n (q := 36) hK dX2_numberHere_35 rfl rfl 0 rfl ?_
      refine gf_2_5 (q := 39) (rfl : kdC 24 = 2) hK dX2_numberHere_36 rfl tw_191 ?_
      refine r_iload_n (q := 40) hK dX2_numberHere_39 rfl rfl 2 rfl ?_
      refine r_iald (q := 41) hK dX2_numberHere_40 rfl (aC20 (j := 23) rfl) (fun h10 => ?_)
      refine r_iadd (q := 42) hK dX2_numberHere_41 rfl ?_
      refine r_bipush (q := 44) (v := 48) hK dX2_numberHere_42 rfl rfl ?_
      refine r_isub (q := 45) hK dX2_numberHere_44 rfl ?_
      refine sV.ltI (fun x11 => ?_)
      refine r_istore_n (q := 46) (loc' := [(1, .int x11), (0, .ref (gad G 24)), (2, .int i2)]) hK dX2_numberHere_45 rfl rfl (by decide) rfl ?_
      refine r_iinc (q := 49) (v := (i2 + (1 : Int32))) (loc' := [(2, .int (i2 + (1 : Int32))), (1, .int x11), (0, .ref (gad G 24))]) hK dX2_numberHere_46 rfl 2 rfl rfl (by decide) rfl ?_
      refine r_goto (q := 23) hK dX2_numberHere_49 rfl ?_
      exact sV.sub [2, 1, 0] (by rfl) (ih x11 (i2 + (1 : Int32)))
def fX2_numberHere   (σ : Store) : Option Int32 := (if ((σ 24 8) - (σ 24 7)) ≤ (4 : Int32) then (slt (σ 24 7) fun x2 => (fX2_numberHere_L23 σ FU (0 : Int32) x2)) else (some (-1000000005 : Int32)))
theorem c_X2_numberHere {l0 : Launch} {G : Geo}  (σ : Store) (a : Int32) (hf : fX2_numberHere   σ = some a) : sCon l0 wCls G yX2_numberHere cX2_numberHere 3 (some .int) (rmL 1 60) [.ref (gad G 24)] σ (some (.int a)) σ := by
  refine sCon.of (by decide) ⟨rfl, rfl⟩ (Nat.le_of_ble_eq_true rfl) RX2 rfl _ hf (fun K hK => ?_)
  show sV wCls G K a σ 0 [(0, .ref (gad G 24))] [] _
  unfold fX2_numberHere
  refine r_aload_n (q := 1) hK dX2_numberHere_0 rfl rfl 0 rfl ?_
  refine gf_2_8 (q := 4) (rfl : kdC 24 = 2) hK dX2_numberHere_1 rfl tw_194 ?_
  refine r_aload_n (q := 5) hK dX2_numberHere_4 rfl rfl 0 rfl ?_
  refine gf_2_7 (q := 8) (rfl : kdC 24 = 2) hK dX2_numberHere_5 rfl tw_193 ?_
  refine r_isub (q := 9) hK dX2_numberHere_8 rfl ?_
  refine r_iconst (q := 10) (v := 4) hK dX2_numberHere_9 rfl rfl ?_
  refine r_icmp_le (t := 16) (q := 13) hK dX2_numberHere_10 rfl rfl (fun c1 => ?_) (fun c1 => ?_)
  · refine r_iconst (q := 17) (v := 0) hK dX2_numberHere_16 rfl rfl ?_
    refine r_istore_n (q := 18) (loc' := [(1, .int (0 : Int32)), (0, .ref (gad G 24))]) hK dX2_numberHere_17 rfl rfl (by decide) rfl ?_
    refine r_aload_n (q := 19) hK dX2_numberHere_18 rfl rfl 1 rfl ?_
    refine gf_2_7 (q := 22) (rfl : kdC 24 = 2) hK dX2_numberHere_19 rfl tw_193 ?_
    refine sV.ltI (fun x2 => ?_)
    refine r_istore_n (q := 23) (loc' := [(2, .int x2), (1, .int (0 : Int32)), (0, .ref (gad G 24))]) hK dX2_numberHere_22 rfl rfl (by decide) rfl ?_
    exact sV.sub [2, 1, 0] (by rfl) (vX2_numberHere_L23 σ  hK FU (0 : Int32) x2)
  · refine r_ldc (q := 15) hK dX2_numberHere_13 rfl tw_652 ?_
    exact e_i hK dX2_numberHere_15
def fX2_leaf   (σ : Store) : Option Store := (sjn (fun k19 : Int32 → Option Store => (if ¬ (σ 24 9) = (2 : Int32) then (sbd (fX2_nameHere σ) fun r16 => (k19 r16)) else (sbd (fX2_numberHere σ) fun r17 => (k19 r17)))) (fun (z0_19 : Int32) => (sjn (fun k33 : Unit → Option Store => (if z0_19 = (-1000000005 : Int32) then (k33 ()) else (if (σ 24 10) = 0 then (sbd (fX2_addStep z0_19 σ) fun s12 => (slt (sup s12 24 3 ((s12 24 3) + (1 : Int32))) fun s13 => (sbd (fX2_advance s13) fun s14 => (some s14)))) else (k33 ())))) (fun (_u : Unit) => (sbd (fX2_fail σ) fun s9 => (some s9))))))
theorem c_X2_leaf {l0 : Launch} {G : Geo}  (σ : Store) (a : Store) (hf : fX2_leaf   σ = some a) : sCon l0 wCls G yX2_leaf cX2_leaf 2 (none) (rmL 3 104) [.ref (gad G 24)] σ none a := by
  refine sCon.of (by decide) ⟨rfl, rfl⟩ (Nat.le_of_ble_eq_true rfl) RX2 rfl _ hf (fun K hK => ?_)
  show sV wCls G K a σ 0 [(0, .ref (gad G 24))] [] _
  unfold fX2_leaf
  refine r_aload_n (q := 1) hK dX2_leaf_0 rfl rfl 0 rfl ?_
  refine gf_2_9 (q := 4) (rfl : kdC 24 = 2) hK dX2_leaf_1 rfl tw_195 ?_
  refine r_iconst (q := 5) (v := 2) hK dX2_leaf_4 rfl rfl ?_
  refine sV.jn (fun k : Int32 → Option Store => ∀ (z0_19 : Int32), sV wCls G K a σ 19 [(0, .ref (gad G 24))] [.int z0_19] (k z0_19)) (fun z0_19 => ?_) (fun k19 hk19 => ?_)
  · refine r_istore_n (q := 20) (loc' := [(1, .int z0_19), (0, .ref (gad G 24))]) hK dX2_leaf_19 rfl rfl (by decide) rfl ?_
    refine r_iload_n (q := 21) hK dX2_leaf_20 rfl rfl 0 rfl ?_
    refine r_ldc (q := 23) hK dX2_leaf_21 rfl tw_652 ?_
    refine sV.jn (fun k : Unit → Option Store => ∀ (_u : Unit), sV wCls G K a σ 33 [(0, .ref (gad G 24)), (1, .int z0_19)] [] (k ())) (fun _ => ?_) (fun k33 hk33 => ?_)
    · refine r_aload_n (q := 34) hK dX2_leaf_33 rfl rfl 0 rfl ?_
      refine callV_vS (q := 37) (j := 24) (As := []) (rest := []) (f := (fX2_fail σ)) hK dX2_leaf_34 rfl (fun b hb => c_X2_fail σ b hb) ⟨2, _, _, _, kd_lt (rfl : kdC 24 = 2) (by decide), rfl, cC2 (rfl : kdC 24 = 2), rfl⟩ mv_X2_fail rfl rfl (Nat.le_of_ble_eq_true rfl) tw_653 mw_X2_fail (rmOk (Nat.le_of_ble_eq_true rfl) (Nat.le_of_ble_eq_true rfl)) (fun s9 => ?_)
      exact e_vS hK dX2_leaf_37
    · refine r_icmp_eq (t := 33) (q := 26) hK dX2_leaf_23 rfl rfl (fun c10 => ?_) (fun c10 => ?_)
      · exact sV.sub [1, 0] (by rfl) (hk33 ())
      · refine r_aload_n (q := 27) hK dX2_leaf_26 rfl rfl 1 rfl ?_
        refine gf_2_10 (q := 30) (rfl : kdC 24 = 2) hK dX2_leaf_27 rfl tw_196 ?_
        refine r_if_eq (t := 38) (q := 33) hK dX2_leaf_30 rfl rfl (fun c11 => ?_) (fun c11 => ?_)
        · refine r_aload_n (q := 39) hK dX2_leaf_38 rfl rfl 1 rfl ?_
          refine r_iload_n (q := 40) hK dX2_leaf_39 rfl rfl 0 rfl ?_
          refine callV_vS (q := 43) (j := 24) (As := [.int z0_19]) (rest := []) (f := (fX2_addStep z0_19 σ)) hK dX2_leaf_40 rfl (fun b hb => c_X2_addStep z0_19 σ b hb) ⟨2, _, _, _, kd_lt (rfl : kdC 24 = 2) (by decide), rfl, cC2 (rfl : kdC 24 = 2), rfl⟩ mv_X2_addStep rfl rfl (Nat.le_of_ble_eq_true rfl) tw_669 mw_X2_addStep (rmOk (Nat.le_of_ble_eq_true rfl) (Nat.le_of_ble_eq_true rfl)) (fun s12 => ?_)
          refine r_aload_n (q := 44) hK dX2_leaf_43 rfl rfl 1 rfl ?_
          refine r_dup (q := 45) hK dX2_leaf_44 rfl rfl ?_
          refine gf_2_3 (q := 48) (rfl : kdC 24 = 2) hK dX2_leaf_45 rfl tw_187 ?_
          refine r_iconst (q := 49) (v := 1) hK dX2_leaf_48 rfl rfl ?_
          refine r_iadd (q := 50) hK dX2_leaf_49 rfl ?_
          refine pf_2_3 (q := 53) (rfl : kdC 24 = 2) hK dX2_leaf_50 rfl tw_187 ?_
          refine sV.ltS (fun s13 => ?_)
          refine r_aload_n (q := 54) hK dX2_leaf_53 rfl rfl 1 rfl ?_
          refine callV_vS (q := 57) (j := 24) (As := []) (rest := []) (f := (fX2_advance s13)) hK dX2_leaf_54 rfl (fun b hb => c_X2_advance s13 b hb) ⟨2, _, _, _, kd_lt (rfl : kdC 24 = 2) (by decide), rfl, cC2 (rfl : kdC 24 = 2), rfl⟩ mv_X2_advance rfl rfl (Nat.le_of_ble_eq_true rfl) tw_634 mw_X2_advance (rmOk (Nat.le_of_ble_eq_true rfl) (Nat.le_of_ble_eq_true rfl)) (fun s14 => ?_)
          exact e_vS hK dX2_leaf_57
        · exact sV.sub [1, 0] (by rfl) (hk33 ())
  · refine r_icmp_ne (t := 15) (q := 8) hK dX2_leaf_5 rfl rfl (fun c15 => ?_) (fun c15 => ?_)
    · refine r_aload_n (q := 16) hK dX2_leaf_15 rfl rfl 0 rfl ?_
      refine callV_i (q := 19) (j := 24) (As := []) (rest := []) (f := (fX2_nameHere σ)) hK dX2_leaf_16 rfl (fun b hb => c_X2_nameHere σ b hb) ⟨2, _, _, _, kd_lt (rfl : kdC 24 = 2) (by decide), rfl, cC2 (rfl : kdC 24 = 2), rfl⟩ mv_X2_nameHere rfl rfl (Nat.le_of_ble_eq_true rfl) tw_685 mw_X2_nameHere (rmOk (Nat.le_of_ble_eq_true rfl) (Nat.le_of_ble_eq_true rfl)) (fun r16 => ?_)
      exact sV.sub [0] (by rfl) (hk19 r16)
    · refine r_aload_n (q := 9) hK dX2_leaf_8 rfl rfl 0 rfl ?_
      refine callV_i (q := 12) (j := 24) (As := []) (rest := []) (f := (fX2_numberHere σ)) hK dX2_leaf_9 rfl (fun b hb => c_X2_numberHere σ b hb) ⟨2, _, _, _, kd_lt (rfl : kdC 24 = 2) (by decide), rfl, cC2 (rfl : kdC 24 = 2), rfl⟩ mv_X2_numberHere rfl rfl (Nat.le_of_ble_eq_true rfl) tw_681 mw_X2_numberHere (rmOk (Nat.le_of_ble_eq_true rfl) (Nat.le_of_ble_eq_true rfl)) (fun r17 => ?_)
      refine r_goto (q := 19) hK dX2_leaf_12 rfl ?_
      exact sV.sub [0] (by rfl) (hk19 r17)
def fX2_expression_L37 (rE : Int32 → Int32 → Int32 → Store → Option Store) (v1 : Int32) (v2 : Int32) (v3 : Int32) (v4 : Int32) : Nat → Int32 → Store → Option Store
  | 0, _, _ => none
  | n + 1, i5, τ => (if v4 ≤ i5 then (some τ) else (if 0 ≤ (τ 24 4) then (some τ) else (sbd (fX2_signHere τ) fun r24 => (sbd (fX2_levelOf r24 τ) fun r25 => (if ¬ r25 = v1 then (some τ) else (sbd (fX2_signHere τ) fun r27 => (sbd (fX2_advance τ) fun s28 => (sbd (rE (v1 + (1 : Int32)) v2 v3 s28) fun s29 => (sbd (fX2_addStep (-r27) s29) fun s30 => (fX2_expression_L37 rE v1 v2 v3 v4 n (i5 + (1 : Int32)) s30))))))))))
theorem vX2_expression_L37 {G : Geo} {K : KT} {l0 : Launch} (σ : Store) {a : Store} {fr kr : Nat} (hfr : 12 ≤ fr) (hkr : 400 ≤ kr) (rE : Int32 → Int32 → Int32 → Store → Option Store) (hrE : ∀ (a1 : Int32) (a2 : Int32) (a3 : Int32) (σ : Store) (a : Store), rE a1 a2 a3 σ = some a → sCon l0 wCls G yX2_expression cX2_expression 7 (none) (rmL fr kr) [.ref (gad G 24), .int a1, .int a2, .int a3] σ none a) (rP : Int32 → Int32 → Store → Option Store) (hrP : ∀ (a1 : Int32) (a2 : Int32) (σ : Store) (a : Store), rP a1 a2 σ = some a → sCon l0 wCls G yX2_piece cX2_piece 4 (none) (rmL fr kr) [.ref (gad G 24), .int a1, .int a2] σ none a) (v1 : Int32) (v2 : Int32) (v3 : Int32) (v4 : Int32) (hK : sOk wCls G K l0 RX2 cX2_expression (rmL (fr + 1) (kr + 64)) 7 (none) none a) : ∀ (n : Nat) (i5 : Int32) (τ : Store), sV wCls G K a τ 37 [(0, .ref (gad G 24)), (1, .int v1), (2, .int v2), (3, .int v3), (4, .int v4), (5, .int i5)] [] (fX2_expression_L37 rE v1 v2 v3 v4 n i5 τ) := by
  intro n
  induction n with
  | zero =>
    intro i5 τ
    exact sV.no
  | succ n ih =>
    intro i5 τ
    rw [fX2_expression_L37]
    refine r_iload (q := 39) hK dX2_expression_37 rfl 5 rfl ?_
    refine r_iload (q := 41) hK dX2_expression_39 rfl 4 rfl ?_
    refine r_icmp_ge (t := 94) (q := 44) hK dX2_expression_41 rfl rfl (fun c22 => ?_) (fun c22 => ?_)
    · exact e_vS hK dX2_expression_94
    · refine r_aload_n (q := 45) hK dX2_expression_44 rfl rfl 0 rfl ?_
      refine gf_2_4 (q := 48) (rfl : kdC 24 = 2) hK dX2_expression_45 rfl tw_189 ?_
      refine r_if_ge (t := 94) (q := 51) hK dX2_expression_48 rfl rfl (fun c23 => ?_) (fun c23 => ?_)
      · exact e_vS hK dX2_expression_94
      · refine r_aload_n (q := 52) hK dX2_expression_51 rfl rfl 0 rfl ?_
        refine callV_i (q := 55) (j := 24) (As := []) (rest := []) (f := (fX2_signHere τ)) hK dX2_expression_52 rfl (fun b hb => c_X2_signHere τ b hb) ⟨2, _, _, _, kd_lt (rfl : kdC 24 = 2) (by decide), rfl, cC2 (rfl : kdC 24 = 2), rfl⟩ mv_X2_signHere rfl rfl (Nat.le_of_ble_eq_true rfl) tw_665 mw_X2_signHere (rmOk (by omega) (by omega)) (fun r24 => ?_)
        refine callS_i (q := 58) (As := [.int r24]) (rest := []) (f := (fX2_levelOf r24 τ)) hK dX2_expression_55 rfl (fun b hb => c_X2_levelOf r24 τ b hb) ms_X2_levelOf rfl rfl (Nat.le_of_ble_eq_true rfl) tw_691 mw_X2_levelOf (rmOk (by omega) (by omega)) (fun r25 => ?_)
        refine r_iload_n (q := 59) hK dX2_expression_58 rfl rfl 1 rfl ?_
        refine r_icmp_ne (t := 94) (q := 62) hK dX2_expression_59 rfl rfl (fun c26 => ?_) (fun c26 => ?_)
        · exact e_vS hK dX2_expression_94
        · refine r_aload_n (q := 63) hK dX2_expression_62 rfl rfl 0 rfl ?_
          refine callV_i (q := 66) (j := 24) (As := []) (rest := []) (f := (fX2_signHere τ)) hK dX2_expression_63 rfl (fun b hb => c_X2_signHere τ b hb) ⟨2, _, _, _, kd_lt (rfl : kdC 24 = 2) (by decide), rfl, cC2 (rfl : kdC 24 = 2), rfl⟩ mv_X2_signHere rfl rfl (Nat.le_of_ble_eq_true rfl) tw_665 mw_X2_signHere (rmOk (by omega) (by omega)) (fun r27 => ?_)
          refine r_istore (q := 68) (loc' := [(6, .int r27), (0, .ref (gad G 24)), (1, .int v1), (2, .int v2), (3, .int v3), (4, .int v4), (5, .int i5)]) hK dX2_expression_66 rfl (by decide) rfl ?_
          refine r_aload_n (q := 69) hK dX2_expression_68 rfl rfl 1 rfl ?_
          refine callV_vS (q := 72) (j := 24) (As := []) (rest := []) (f := (fX2_advance τ)) hK dX2_expression_69 rfl (fun b hb => c_X2_advance τ b hb) ⟨2, _, _, _, kd_lt (rfl : kdC 24 = 2) (by decide), rfl, cC2 (rfl : kdC 24 = 2), rfl⟩ mv_X2_advance rfl rfl (Nat.le_of_ble_eq_true rfl) tw_634 mw_X2_advance (rmOk (by omega) (by omega)) (fun s28 => ?_)
          refine r_aload_n (q := 73) hK dX2_expression_72 rfl rfl 1 rfl ?_
          refine r_iload_n (q := 74) hK dX2_expression_73 rfl rfl 2 rfl ?_
          refine r_iconst (q := 75) (v := 1) hK dX2_expression_74 rfl rfl ?_
          refine r_iadd (q := 76) hK dX2_expression_75 rfl ?_
          refine r_iload_n (q := 77) hK dX2_expression_76 rfl rfl 3 rfl ?_
          refine r_iload_n (q := 78) hK dX2_expression_77 rfl rfl 4 rfl ?_
          refine callV_vS (q := 81) (j := 24) (As := [.int (v1 + (1 : Int32)), .int v2, .int v3]) (rest := []) (f := (rE (v1 + (1 : Int32)) v2 v3 s28)) hK dX2_expression_78 rfl (fun b hb => hrE (v1 + (1 : Int32)) v2 v3 s28 b hb) ⟨2, _, _, _, kd_lt (rfl : kdC 24 = 2) (by decide), rfl, cC2 (rfl : kdC 24 = 2), rfl⟩ mv_X2_expression rfl rfl (Nat.le_of_ble_eq_true rfl) tw_657 mw_X2_expression (rmOk (by omega) (by omega)) (fun s29 => ?_)
          refine r_aload_n (q := 82) hK dX2_expression_81 rfl rfl 1 rfl ?_
          refine r_iload (q := 84) hK dX2_expression_82 rfl 0 rfl ?_
          refine r_ineg (q := 85) hK dX2_expression_84 rfl ?_
          refine callV_vS (q := 88) (j := 24) (As := [.int (-r27)]) (rest := []) (f := (fX2_addStep (-r27) s29)) hK dX2_expression_85 rfl (fun b hb => c_X2_addStep (-r27) s29 b hb) ⟨2, _, _, _, kd_lt (rfl : kdC 24 = 2) (by decide), rfl, cC2 (rfl : kdC 24 = 2), rfl⟩ mv_X2_addStep rfl rfl (Nat.le_of_ble_eq_true rfl) tw_669 mw_X2_addStep (rmOk (by omega) (by omega)) (fun s30 => ?_)
          refine r_iinc (q := 91) (v := (i5 + (1 : Int32))) (loc' := [(5, .int (i5 + (1 : Int32))), (6, .int r27), (0, .ref (gad G 24)), (1, .int v1), (2, .int v2), (3, .int v3), (4, .int v4)]) hK dX2_expression_88 rfl 6 rfl rfl (by decide) rfl ?_
          refine r_goto (q := 37) hK dX2_expression_91 rfl ?_
          exact sV.sub [2, 3, 4, 5, 6, 0] (by rfl) (ih (i5 + (1 : Int32)) s30)
def fX2_expression_B (rE : Int32 → Int32 → Int32 → Store → Option Store) (rP : Int32 → Int32 → Store → Option Store) (a1 : Int32) (a2 : Int32) (a3 : Int32) (σ : Store) : Option Store := (if a1 < (5 : Int32) then (sbd (rE (a1 + (1 : Int32)) a2 a3 σ) fun s2 => (sjn (fun k32 : Int32 → Option Store => (if ¬ a1 = (2 : Int32) then (k32 (96 : Int32)) else (k32 (1 : Int32)))) (fun (z0_32 : Int32) => (fX2_expression_L37 rE a1 a2 a3 z0_32 FU (0 : Int32) s2)))) else (sbd (rP a2 a3 σ) fun s32 => (some s32)))
theorem b_X2_expression {l0 : Launch} {G : Geo} {fr kr : Nat} (hfr : 12 ≤ fr) (hkr : 400 ≤ kr) (rE : Int32 → Int32 → Int32 → Store → Option Store) (hrE : ∀ (a1 : Int32) (a2 : Int32) (a3 : Int32) (σ : Store) (a : Store), rE a1 a2 a3 σ = some a → sCon l0 wCls G yX2_expression cX2_expression 7 (none) (rmL fr kr) [.ref (gad G 24), .int a1, .int a2, .int a3] σ none a) (rP : Int32 → Int32 → Store → Option Store) (hrP : ∀ (a1 : Int32) (a2 : Int32) (σ : Store) (a : Store), rP a1 a2 σ = some a → sCon l0 wCls G yX2_piece cX2_piece 4 (none) (rmL fr kr) [.ref (gad G 24), .int a1, .int a2] σ none a) (a1 : Int32) (a2 : Int32) (a3 : Int32) (σ : Store) (a : Store) (hf : fX2_expression_B rE rP a1 a2 a3 σ = some a) : sCon l0 wCls G yX2_expression cX2_expression 7 (none) (rmL (fr + 1) (kr + 64)) [.ref (gad G 24), .int a1, .int a2, .int a3] σ none a := by
  refine sCon.of (by decide) ⟨rfl, rfl⟩ (Nat.le_of_ble_eq_true rfl) RX2 rfl _ hf (fun K hK => ?_)
  show sV wCls G K a σ 0 [(0, .ref (gad G 24)), (1, .int a1), (2, .int a2), (3, .int a3)] [] _
  unfold fX2_expression_B
  refine r_iload_n (q := 1) hK dX2_expression_0 rfl rfl 1 rfl ?_
  refine r_iconst (q := 2) (v := 5) hK dX2_expression_1 rfl rfl ?_
  refine r_icmp_lt (t := 12) (q := 5) hK dX2_expression_2 rfl rfl (fun c1 => ?_) (fun c1 => ?_)
  · refine r_aload_n (q := 13) hK dX2_expression_12 rfl rfl 0 rfl ?_
    refine r_iload_n (q := 14) hK dX2_expression_13 rfl rfl 1 rfl ?_
    refine r_iconst (q := 15) (v := 1) hK dX2_expression_14 rfl rfl ?_
    refine r_iadd (q := 16) hK dX2_expression_15 rfl ?_
    refine r_iload_n (q := 17) hK dX2_expression_16 rfl rfl 2 rfl ?_
    refine r_iload_n (q := 18) hK dX2_expression_17 rfl rfl 3 rfl ?_
    refine callV_vS (q := 21) (j := 24) (As := [.int (a1 + (1 : Int32)), .int a2, .int a3]) (rest := []) (f := (rE (a1 + (1 : Int32)) a2 a3 σ)) hK dX2_expression_18 rfl (fun b hb => hrE (a1 + (1 : Int32)) a2 a3 σ b hb) ⟨2, _, _, _, kd_lt (rfl : kdC 24 = 2) (by decide), rfl, cC2 (rfl : kdC 24 = 2), rfl⟩ mv_X2_expression rfl rfl (Nat.le_of_ble_eq_true rfl) tw_657 mw_X2_expression (rmOk (by omega) (by omega)) (fun s2 => ?_)
    refine r_iload_n (q := 22) hK dX2_expression_21 rfl rfl 1 rfl ?_
    refine r_iconst (q := 23) (v := 2) hK dX2_expression_22 rfl rfl ?_
    refine sV.jn (fun k : Int32 → Option Store => ∀ (z0_32 : Int32), sV wCls G K a s2 32 [(0, .ref (gad G 24)), (1, .int a1), (2, .int a2), (3, .int a3)] [.int z0_32] (k z0_32)) (fun z0_32 => ?_) (fun k32 hk32 => ?_)
    · refine r_istore (q := 34) (loc' := [(4, .int z0_32), (0, .ref (gad G 24)), (1, .int a1), (2, .int a2), (3, .int a3)]) hK dX2_expression_32 rfl (by decide) rfl ?_
      refine r_iconst (q := 35) (v := 0) hK dX2_expression_34 rfl rfl ?_
      refine r_istore (q := 37) (loc' := [(5, .int (0 : Int32)), (4, .int z0_32), (0, .ref (gad G 24)), (1, .int a1), (2, .int a2), (3, .int a3)]) hK dX2_expression_35 rfl (by decide) rfl ?_
      exact sV.sub [2, 3, 4, 5, 1, 0] (by rfl) (vX2_expression_L37 s2 hfr hkr rE hrE rP hrP a1 a2 a3 z0_32 hK FU (0 : Int32) s2)
    · refine r_icmp_ne (t := 30) (q := 26) hK dX2_expression_23 rfl rfl (fun c31 => ?_) (fun c31 => ?_)
      · refine r_bipush (q := 32) (v := 96) hK dX2_expression_30 rfl rfl ?_
        exact sV.sub [0, 1, 2, 3] (by rfl) (hk32 (96 : Int32))
      · refine r_iconst (q := 27) (v := 1) hK dX2_expression_26 rfl rfl ?_
        refine r_goto (q := 32) hK dX2_expression_27 rfl ?_
        exact sV.sub [0, 1, 2, 3] (by rfl) (hk32 (1 : Int32))
  · refine r_aload_n (q := 6) hK dX2_expression_5 rfl rfl 0 rfl ?_
    refine r_iload_n (q := 7) hK dX2_expression_6 rfl rfl 2 rfl ?_
    refine r_iload_n (q := 8) hK dX2_expression_7 rfl rfl 3 rfl ?_
    refine callV_vS (q := 11) (j := 24) (As := [.int a2, .int a3]) (rest := []) (f := (rP a2 a3 σ)) hK dX2_expression_8 rfl (fun b hb => hrP a2 a3 σ b hb) ⟨2, _, _, _, kd_lt (rfl : kdC 24 = 2) (by decide), rfl, cC2 (rfl : kdC 24 = 2), rfl⟩ mv_X2_piece rfl rfl (Nat.le_of_ble_eq_true rfl) tw_661 mw_X2_piece (rmOk (by omega) (by omega)) (fun s32 => ?_)
    exact e_vS hK dX2_expression_11
def fX2_piece_B (rE : Int32 → Int32 → Int32 → Store → Option Store) (rP : Int32 → Int32 → Store → Option Store) (a1 : Int32) (a2 : Int32) (σ : Store) : Option Store := (sbd (fX2_signHere σ) fun r1 => (sjn (fun k38 : Unit → Option Store => (if ¬ r1 = (33 : Int32) then (k38 ()) else (if (8 : Int32) ≤ a2 then (k38 ()) else (sbd (fX2_advance σ) fun s20 => (sbd (rP a1 (a2 + (1 : Int32)) s20) fun s21 => (sbd (fX2_addStep (-4 : Int32) s21) fun s22 => (some s22))))))) (fun (_u : Unit) => (sjn (fun k70 : Unit → Option Store => (if ¬ r1 = (40 : Int32) then (k70 ()) else (if (8 : Int32) ≤ a1 then (k70 ()) else (sbd (fX2_advance σ) fun s15 => (sbd (rE (0 : Int32) (a1 + (1 : Int32)) a2 s15) fun s16 => (sbd (fX2_close s16) fun s17 => (some s17))))))) (fun (_u : Unit) => (sbd (fX2_leaf σ) fun s12 => (some s12)))))))
theorem b_X2_piece {l0 : Launch} {G : Geo} {fr kr : Nat} (hfr : 12 ≤ fr) (hkr : 400 ≤ kr) (rE : Int32 → Int32 → Int32 → Store → Option Store) (hrE : ∀ (a1 : Int32) (a2 : Int32) (a3 : Int32) (σ : Store) (a : Store), rE a1 a2 a3 σ = some a → sCon l0 wCls G yX2_expression cX2_expression 7 (none) (rmL fr kr) [.ref (gad G 24), .int a1, .int a2, .int a3] σ none a) (rP : Int32 → Int32 → Store → Option Store) (hrP : ∀ (a1 : Int32) (a2 : Int32) (σ : Store) (a : Store), rP a1 a2 σ = some a → sCon l0 wCls G yX2_piece cX2_piece 4 (none) (rmL fr kr) [.ref (gad G 24), .int a1, .int a2] σ none a) (a1 : Int32) (a2 : Int32) (σ : Store) (a : Store) (hf : fX2_piece_B rE rP a1 a2 σ = some a) : sCon l0 wCls G yX2_piece cX2_piece 4 (none) (rmL (fr + 1) (kr + 64)) [.ref (gad G 24), .int a1, .int a2] σ none a := by
  refine sCon.of (by decide) ⟨rfl, rfl⟩ (Nat.le_of_ble_eq_true rfl) RX2 rfl _ hf (fun K hK => ?_)
  show sV wCls G K a σ 0 [(0, .ref (gad G 24)), (1, .int a1), (2, .int a2)] [] _
  unfold fX2_piece_B
  refine r_aload_n (q := 1) hK dX2_piece_0 rfl rfl 0 rfl ?_
  refine callV_i (q := 4) (j := 24) (As := []) (rest := []) (f := (fX2_signHere σ)) hK dX2_piece_1 rfl (fun b hb => c_X2_signHere σ b hb) ⟨2, _, _, _, kd_lt (rfl : kdC 24 = 2) (by decide), rfl, cC2 (rfl : kdC 24 = 2), rfl⟩ mv_X2_signHere rfl rfl (Nat.le_of_ble_eq_true rfl) tw_665 mw_X2_signHere (rmOk (by omega) (by omega)) (fun r1 => ?_)
  refine r_istore_n (q := 5) (loc' := [(3, .int r1), (0, .ref (gad G 24)), (1, .int a1), (2, .int a2)]) hK dX2_piece_4 rfl rfl (by decide) rfl ?_
  refine r_iload_n (q := 6) hK dX2_piece_5 rfl rfl 0 rfl ?_
  refine r_bipush (q := 8) (v := 33) hK dX2_piece_6 rfl rfl ?_
  refine sV.jn (fun k : Unit → Option Store => ∀ (_u : Unit), sV wCls G K a σ 38 [(0, .ref (gad G 24)), (1, .int a1), (2, .int a2), (3, .int r1)] [] (k ())) (fun _ => ?_) (fun k38 hk38 => ?_)
  · refine r_iload_n (q := 39) hK dX2_piece_38 rfl rfl 3 rfl ?_
    refine r_bipush (q := 41) (v := 40) hK dX2_piece_39 rfl rfl ?_
    refine sV.jn (fun k : Unit → Option Store => ∀ (_u : Unit), sV wCls G K a σ 70 [(0, .ref (gad G 24)), (1, .int a1), (2, .int a2), (3, .int r1)] [] (k ())) (fun _ => ?_) (fun k70 hk70 => ?_)
    · refine r_aload_n (q := 71) hK dX2_piece_70 rfl rfl 0 rfl ?_
      refine callV_vS (q := 74) (j := 24) (As := []) (rest := []) (f := (fX2_leaf σ)) hK dX2_piece_71 rfl (fun b hb => c_X2_leaf σ b hb) ⟨2, _, _, _, kd_lt (rfl : kdC 24 = 2) (by decide), rfl, cC2 (rfl : kdC 24 = 2), rfl⟩ mv_X2_leaf rfl rfl (Nat.le_of_ble_eq_true rfl) tw_677 mw_X2_leaf (rmOk (by omega) (by omega)) (fun s12 => ?_)
      exact e_vS hK dX2_piece_74
    · refine r_icmp_ne (t := 70) (q := 44) hK dX2_piece_41 rfl rfl (fun c13 => ?_) (fun c13 => ?_)
      · exact sV.sub [0, 1, 2, 3] (by rfl) (hk70 ())
      · refine r_iload_n (q := 45) hK dX2_piece_44 rfl rfl 1 rfl ?_
        refine r_bipush (q := 47) (v := 8) hK dX2_piece_45 rfl rfl ?_
        refine r_icmp_ge (t := 70) (q := 50) hK dX2_piece_47 rfl rfl (fun c14 => ?_) (fun c14 => ?_)
        · exact sV.sub [0, 1, 2, 3] (by rfl) (hk70 ())
        · refine r_aload_n (q := 51) hK dX2_piece_50 rfl rfl 0 rfl ?_
          refine callV_vS (q := 54) (j := 24) (As := []) (rest := []) (f := (fX2_advance σ)) hK dX2_piece_51 rfl (fun b hb => c_X2_advance σ b hb) ⟨2, _, _, _, kd_lt (rfl : kdC 24 = 2) (by decide), rfl, cC2 (rfl : kdC 24 = 2), rfl⟩ mv_X2_advance rfl rfl (Nat.le_of_ble_eq_true rfl) tw_634 mw_X2_advance (rmOk (by omega) (by omega)) (fun s15 => ?_)
          refine r_aload_n (q := 55) hK dX2_piece_54 rfl rfl 0 rfl ?_
          refine r_iconst (q := 56) (v := 0) hK dX2_piece_55 rfl rfl ?_
          refine r_iload_n (q := 57) hK dX2_piece_56 rfl rfl 1 rfl ?_
          refine r_iconst (q := 58) (v := 1) hK dX2_piece_57 rfl rfl ?_
          refine r_iadd (q := 59) hK dX2_piece_58 rfl ?_
          refine r_iload_n (q := 60) hK dX2_piece_59 rfl rfl 2 rfl ?_
          refine callV_vS (q := 63) (j := 24) (As := [.int (0 : Int32), .int (a1 + (1 : Int32)), .int a2]) (rest := []) (f := (rE (0 : Int32) (a1 + (1 : Int32)) a2 s15)) hK dX2_piece_60 rfl (fun b hb => hrE (0 : Int32) (a1 + (1 : Int32)) a2 s15 b hb) ⟨2, _, _, _, kd_lt (rfl : kdC 24 = 2) (by decide), rfl, cC2 (rfl : kdC 24 = 2), rfl⟩ mv_X2_expression rfl rfl (Nat.le_of_ble_eq_true rfl) tw_657 mw_X2_expression (rmOk (by omega) (by omega)) (fun s16 => ?_)
          refine r_aload_n (q := 64) hK dX2_piece_63 rfl rfl 0 rfl ?_
          refine callV_vS (q := 67) (j := 24) (As := []) (rest := []) (f := (fX2_close s16)) hK dX2_piece_64 rfl (fun b hb => c_X2_close s16 b hb) ⟨2, _, _, _, kd_lt (rfl : kdC 24 = 2) (by decide), rfl, cC2 (rfl : kdC 24 = 2), rfl⟩ mv_X2_close rfl rfl (Nat.le_of_ble_eq_true rfl) tw_673 mw_X2_close (rmOk (by omega) (by omega)) (fun s17 => ?_)
          refine r_goto (q := 74) hK dX2_piece_67 rfl ?_
          exact e_vS hK dX2_piece_74
  · refine r_icmp_ne (t := 38) (q := 11) hK dX2_piece_8 rfl rfl (fun c18 => ?_) (fun c18 => ?_)
    · exact sV.sub [1, 2, 3, 0] (by rfl) (hk38 ())
    · refine r_iload_n (q := 12) hK dX2_piece_11 rfl rfl 3 rfl ?_
      refine r_bipush (q := 14) (v := 8) hK dX2_piece_12 rfl rfl ?_
      refine r_icmp_ge (t := 38) (q := 17) hK dX2_piece_14 rfl rfl (fun c19 => ?_) (fun c19 => ?_)
      · exact sV.sub [1, 2, 3, 0] (by rfl) (hk38 ())
      · refine r_aload_n (q := 18) hK dX2_piece_17 rfl rfl 1 rfl ?_
        refine callV_vS (q := 21) (j := 24) (As := []) (rest := []) (f := (fX2_advance σ)) hK dX2_piece_18 rfl (fun b hb => c_X2_advance σ b hb) ⟨2, _, _, _, kd_lt (rfl : kdC 24 = 2) (by decide), rfl, cC2 (rfl : kdC 24 = 2), rfl⟩ mv_X2_advance rfl rfl (Nat.le_of_ble_eq_true rfl) tw_634 mw_X2_advance (rmOk (by omega) (by omega)) (fun s20 => ?_)
        refine r_aload_n (q := 22) hK dX2_piece_21 rfl rfl 1 rfl ?_
        refine r_iload_n (q := 23) hK dX2_piece_22 rfl rfl 2 rfl ?_
        refine r_iload_n (q := 24) hK dX2_piece_23 rfl rfl 3 rfl ?_
        refine r_iconst (q := 25) (v := 1) hK dX2_piece_24 rfl rfl ?_
        refine r_iadd (q := 26) hK dX2_piece_25 rfl ?_
        refine callV_vS (q := 29) (j := 24) (As := [.int a1, .int (a2 + (1 : Int32))]) (rest := []) (f := (rP a1 (a2 + (1 : Int32)) s20)) hK dX2_piece_26 rfl (fun b hb => hrP a1 (a2 + (1 : Int32)) s20 b hb) ⟨2, _, _, _, kd_lt (rfl : kdC 24 = 2) (by decide), rfl, cC2 (rfl : kdC 24 = 2), rfl⟩ mv_X2_piece rfl rfl (Nat.le_of_ble_eq_true rfl) tw_661 mw_X2_piece (rmOk (by omega) (by omega)) (fun s21 => ?_)
        refine r_aload_n (q := 30) hK dX2_piece_29 rfl rfl 1 rfl ?_
        refine r_bipush (q := 32) (v := -4) hK dX2_piece_30 rfl rfl ?_
        refine callV_vS (q := 35) (j := 24) (As := [.int (-4 : Int32)]) (rest := []) (f := (fX2_addStep (-4 : Int32) s21)) hK dX2_piece_32 rfl (fun b hb => c_X2_addStep (-4 : Int32) s21 b hb) ⟨2, _, _, _, kd_lt (rfl : kdC 24 = 2) (by decide), rfl, cC2 (rfl : kdC 24 = 2), rfl⟩ mv_X2_addStep rfl rfl (Nat.le_of_ble_eq_true rfl) tw_669 mw_X2_addStep (rmOk (by omega) (by omega)) (fun s22 => ?_)
        refine r_goto (q := 74) hK dX2_piece_35 rfl ?_
        exact e_vS hK dX2_piece_74
def fX2_knot : Nat → (Int32 → Int32 → Int32 → Store → Option Store) × (Int32 → Int32 → Store → Option Store)
  | 0 => ((fun _ _ _ _ => none), (fun _ _ _ => none))
  | d + 1 => (fX2_expression_B (fX2_knot d).1 (fX2_knot d).2, fX2_piece_B (fX2_knot d).1 (fX2_knot d).2)
theorem k_X2 {l0 : Launch} {G : Geo} : ∀ d : Nat, (∀ (a1 : Int32) (a2 : Int32) (a3 : Int32) (σ : Store) (a : Store), (fX2_knot d).1 a1 a2 a3 σ = some a → sCon l0 wCls G yX2_expression cX2_expression 7 (none) (rmL (12 + d) (400 + 64 * d)) [.ref (gad G 24), .int a1, .int a2, .int a3] σ none a) ∧ (∀ (a1 : Int32) (a2 : Int32) (σ : Store) (a : Store), (fX2_knot d).2 a1 a2 σ = some a → sCon l0 wCls G yX2_piece cX2_piece 4 (none) (rmL (12 + d) (400 + 64 * d)) [.ref (gad G 24), .int a1, .int a2] σ none a) := by
  intro d
  induction d with
  | zero =>
    refine ⟨?_, ?_⟩ <;> (intros; rename_i h; cases h)
  | succ d ih =>
    obtain ⟨irE, irP⟩ := ih
    exact ⟨b_X2_expression (fr := 12 + d) (kr := 400 + 64 * d) (by omega) (by omega) _ irE _ irP, b_X2_piece (fr := 12 + d) (kr := 400 + 64 * d) (by omega) (by omega) _ irE _ irP⟩
def fX2_expression (a1 : Int32) (a2 : Int32) (a3 : Int32) (σ : Store) : Option Store := (fX2_knot 100).1 a1 a2 a3 σ
theorem c_X2_expression {l0 : Launch} {G : Geo} (a1 : Int32) (a2 : Int32) (a3 : Int32) (σ : Store) (a : Store) (hf : fX2_expression a1 a2 a3 σ = some a) : sCon l0 wCls G yX2_expression cX2_expression 7 (none) (rmL 112 6800) [.ref (gad G 24), .int a1, .int a2, .int a3] σ none a := (k_X2 100).1 a1 a2 a3 σ a hf
def fX2_piece (a1 : Int32) (a2 : Int32) (σ : Store) : Option Store := (fX2_knot 100).2 a1 a2 σ
theorem c_X2_piece {l0 : Launch} {G : Geo} (a1 : Int32) (a2 : Int32) (σ : Store) (a : Store) (hf : fX2_piece a1 a2 σ = some a) : sCon l0 wCls G yX2_piece cX2_piece 4 (none) (rmL 112 6800) [.ref (gad G 24), .int a1, .int a2] σ none a := (k_X2 100).2 a1 a2 σ a hf
def fX2_keyHere_L36  (v1 : Int32) (σ : Store) (k : Bool → Int32 → Option Int32) : Nat → Bool → Int32 → Option Int32
  | 0, _, _ => none
  | n + 1, i2, i3 => (if i2 = true then (if (4 : Int32) ≤ i3 then (k i2 i3) else (six 96 ((σ 24 7) + i3) (six 12 (((4 : Int32) * v1) + i3) (if ¬ (σ 23 (snx ((σ 24 7) + i3))) = (tb1.getD (snx (((4 : Int32) * v1) + i3)) 0) then (fX2_keyHere_L36 v1 σ k n false (i3 + (1 : Int32))) else (fX2_keyHere_L36 v1 σ k n true (i3 + (1 : Int32))))))) else (k i2 i3))
theorem vX2_keyHere_L36 {G : Geo} {K : KT} {l0 : Launch} (σ : Store) {a : Int32} (v1 : Int32) (hK : sOk wCls G K l0 RX2 cX2_keyHere (rmL 1 60) 4 (some .int) (some (.int a)) σ) (k : Bool → Int32 → Option Int32) (hk : ∀ (e2 : Bool) (e3 : Int32), sV wCls G K a σ 80 [(0, .ref (gad G 24)), (1, .int v1), (2, .int (b2i e2)), (3, .int e3)] [] (k e2 e3)) : ∀ (n : Nat) (i2 : Bool) (i3 : Int32), sV wCls G K a σ 36 [(0, .ref (gad G 24)), (1, .int v1), (2, .int (b2i i2)), (3, .int i3)] [] (fX2_keyHere_L36 v1 σ k n i2 i3) := by
  intro n
  induction n with
  | zero =>
    intro i2 i3
    exact sV.no
  | succ n ih =>
    intro i2 i3
    rw [fX2_keyHere_L36]
    refine r_iload_n (q := 37) hK dX2_keyHere_36 rfl rfl 2 rfl ?_
    refine r_ifb_eq (t := 80) (q := 40) hK dX2_keyHere_37 rfl rfl (fun c60 => ?_) (fun c60 => ?_)
    · refine r_iload_n (q := 41) hK dX2_keyHere_40 rfl rfl 3 rfl ?_
      refine r_iconst (q := 42) (v := 4) hK dX2_keyHere_41 rfl rfl ?_
      refine r_icmp_ge (t := 80) (q := 45) hK dX2_keyHere_42 rfl rfl (fun c61 => ?_) (fun c61 => ?_)
      · exact sV.sub [0, 1, 2, 3] (by rfl) (hk i2 i3)
      · refine r_aload_n (q := 46) hK dX2_keyHere_45 rfl rfl 0 rfl ?_
        refine gf_2_5 (q := 49) (rfl : kdC 24 = 2) hK dX2_keyHere_46 rfl tw_191 ?_
        refine r_aload_n (q := 50) hK dX2_keyHere_49 rfl rfl 0 rfl ?_
        refine gf_2_7 (q := 53) (rfl : kdC 24 = 2) hK dX2_keyHere_50 rfl tw_193 ?_
        refine r_iload_n (q := 54) hK dX2_keyHere_53 rfl rfl 3 rfl ?_
        refine r_iadd (q := 55) hK dX2_keyHere_54 rfl ?_
        refine r_iald (q := 56) hK dX2_keyHere_55 rfl (aC20 (j := 23) rfl) (fun h62 => ?_)
        refine r_gets (i := 0) (q := 59) hK dX2_keyHere_56 rfl (fun U h => h.2.1.1) tw_650 ?_
        refine r_iconst (q := 60) (v := 4) hK dX2_keyHere_59 rfl rfl ?_
        refine r_iload_n (q := 61) hK dX2_keyHere_60 rfl rfl 1 rfl ?_
        refine r_imul (q := 62) hK dX2_keyHere_61 rfl ?_
        refine r_iload_n (q := 63) hK dX2_keyHere_62 rfl rfl 3 rfl ?_
        refine r_iadd (q := 64) hK dX2_keyHere_63 rfl ?_
        refine r_stc (q := 65) (f := fun k => tb1.getD k 0) hK dX2_keyHere_64 rfl (fun U h => h.2.1.2) (fun h63 => ?_)
        refine r_icmp_ne (t := 72) (q := 68) hK dX2_keyHere_65 rfl rfl (fun c64 => ?_) (fun c64 => ?_)
        · refine r_iconst (q := 73) (v := 0) hK dX2_keyHere_72 rfl rfl ?_
          refine r_istore_n (q := 74) (loc' := [(2, .int (0 : Int32)), (0, .ref (gad G 24)), (1, .int v1), (3, .int i3)]) hK dX2_keyHere_73 rfl rfl (by decide) rfl ?_
          refine r_iinc (q := 77) (v := (i3 + (1 : Int32))) (loc' := [(3, .int (i3 + (1 : Int32))), (2, .int (0 : Int32)), (0, .ref (gad G 24)), (1, .int v1)]) hK dX2_keyHere_74 rfl 3 rfl rfl (by decide) rfl ?_
          refine r_goto (q := 36) hK dX2_keyHere_77 rfl ?_
          exact sV.sub [2, 3, 1, 0] (by rfl) (ih false (i3 + (1 : Int32)))
        · refine r_iconst (q := 69) (v := 1) hK dX2_keyHere_68 rfl rfl ?_
          refine r_goto (q := 73) hK dX2_keyHere_69 rfl ?_
          refine r_istore_n (q := 74) (loc' := [(2, .int (1 : Int32)), (0, .ref (gad G 24)), (1, .int v1), (3, .int i3)]) hK dX2_keyHere_73 rfl rfl (by decide) rfl ?_
          refine r_iinc (q := 77) (v := (i3 + (1 : Int32))) (loc' := [(3, .int (i3 + (1 : Int32))), (2, .int (1 : Int32)), (0, .ref (gad G 24)), (1, .int v1)]) hK dX2_keyHere_74 rfl 3 rfl rfl (by decide) rfl ?_
          refine r_goto (q := 36) hK dX2_keyHere_77 rfl ?_
          exact sV.sub [2, 3, 1, 0] (by rfl) (ih true (i3 + (1 : Int32)))
    · exact sV.sub [0, 1, 2, 3] (by rfl) (hk i2 i3)
def fX2_keyHere_L2   (σ : Store) : Nat → Int32 → Option Int32
  | 0, _ => none
  | n + 1, i1 => (if (3 : Int32) ≤ i1 then (some (-1000000005 : Int32)) else (sjn (fun k33 : Bool → Option Int32 => (if ¬ (σ 24 9) = (1 : Int32) then (k33 false) else (if ¬ ((σ 24 8) - (σ 24 7)) = (4 : Int32) then (k33 false) else (k33 true)))) (fun (z0_33 : Bool) => (fX2_keyHere_L36 i1 σ (fun x65 x66 => (if x65 = true then (some i1) else (fX2_keyHere_L2 σ n (i1 + (1 : Int32))))) FU z0_33 (0 : Int32)))))
theorem vX2_keyHere_L2 {G : Geo} {K : KT} {l0 : Launch} (σ : Store) {a : Int32}  (hK : sOk wCls G K l0 RX2 cX2_keyHere (rmL 1 60) 4 (some .int) (some (.int a)) σ) : ∀ (n : Nat) (i1 : Int32), sV wCls G K a σ 2 [(0, .ref (gad G 24)), (1, .int i1)] [] (fX2_keyHere_L2 σ n i1) := by
  intro n
  induction n with
  | zero =>
    intro i1
    exact sV.no
  | succ n ih =>
    intro i1
    rw [fX2_keyHere_L2]
    refine r_iload_n (q := 3) hK dX2_keyHere_2 rfl rfl 1 rfl ?_
    refine r_iconst (q := 4) (v := 3) hK dX2_keyHere_3 rfl rfl ?_
    refine r_icmp_ge (t := 92) (q := 7) hK dX2_keyHere_4 rfl rfl (fun c47 => ?_) (fun c47 => ?_)
    · refine r_ldc (q := 94) hK dX2_keyHere_92 rfl tw_652 ?_
      exact e_i hK dX2_keyHere_94
    · refine r_aload_n (q := 8) hK dX2_keyHere_7 rfl rfl 0 rfl ?_
      refine gf_2_9 (q := 11) (rfl : kdC 24 = 2) hK dX2_keyHere_8 rfl tw_195 ?_
      refine r_iconst (q := 12) (v := 1) hK dX2_keyHere_11 rfl rfl ?_
      refine sV.jn (fun k : Bool → Option Int32 => ∀ (z0_33 : Bool), sV wCls G K a σ 33 [(0, .ref (gad G 24)), (1, .int i1)] [.int (b2i z0_33)] (k z0_33)) (fun z0_33 => ?_) (fun k33 hk33 => ?_)
      · refine r_istore_n (q := 34) (loc' := [(2, .int (b2i z0_33)), (0, .ref (gad G 24)), (1, .int i1)]) hK dX2_keyHere_33 rfl rfl (by decide) rfl ?_
        refine r_iconst (q := 35) (v := 0) hK dX2_keyHere_34 rfl rfl ?_
        refine r_istore_n (q := 36) (loc' := [(3, .int (0 : Int32)), (2, .int (b2i z0_33)), (0, .ref (gad G 24)), (1, .int i1)]) hK dX2_keyHere_35 rfl rfl (by decide) rfl ?_
        refine sV.sub [2, 3, 1, 0] (by rfl) (vX2_keyHere_L36 σ i1 hK _ (fun x65 x66 => ?_) FU z0_33 (0 : Int32))
        refine r_iload_n (q := 81) hK dX2_keyHere_80 rfl rfl 2 rfl ?_
        refine r_ifb_eq (t := 86) (q := 84) hK dX2_keyHere_81 rfl rfl (fun c67 => ?_) (fun c67 => ?_)
        · refine r_iload_n (q := 85) hK dX2_keyHere_84 rfl rfl 1 rfl ?_
          exact e_i hK dX2_keyHere_85
        · refine r_iinc (q := 89) (v := (i1 + (1 : Int32))) (loc' := [(1, .int (i1 + (1 : Int32))), (0, .ref (gad G 24)), (2, .int (b2i x65)), (3, .int x66)]) hK dX2_keyHere_86 rfl 1 rfl rfl (by decide) rfl ?_
          refine r_goto (q := 2) hK dX2_keyHere_89 rfl ?_
          exact sV.sub [1, 0] (by rfl) (ih (i1 + (1 : Int32)))
      · refine r_icmp_ne (t := 32) (q := 15) hK dX2_keyHere_12 rfl rfl (fun c68 => ?_) (fun c68 => ?_)
        · refine r_iconst (q := 33) (v := 0) hK dX2_keyHere_32 rfl rfl ?_
          exact sV.sub [0, 1] (by rfl) (hk33 false)
        · refine r_aload_n (q := 16) hK dX2_keyHere_15 rfl rfl 0 rfl ?_
          refine gf_2_8 (q := 19) (rfl : kdC 24 = 2) hK dX2_keyHere_16 rfl tw_194 ?_
          refine r_aload_n (q := 20) hK dX2_keyHere_19 rfl rfl 0 rfl ?_
          refine gf_2_7 (q := 23) (rfl : kdC 24 = 2) hK dX2_keyHere_20 rfl tw_193 ?_
          refine r_isub (q := 24) hK dX2_keyHere_23 rfl ?_
          refine r_iconst (q := 25) (v := 4) hK dX2_keyHere_24 rfl rfl ?_
          refine r_icmp_ne (t := 32) (q := 28) hK dX2_keyHere_25 rfl rfl (fun c69 => ?_) (fun c69 => ?_)
          · refine r_iconst (q := 33) (v := 0) hK dX2_keyHere_32 rfl rfl ?_
            exact sV.sub [0, 1] (by rfl) (hk33 false)
          · refine r_iconst (q := 29) (v := 1) hK dX2_keyHere_28 rfl rfl ?_
            refine r_goto (q := 33) hK dX2_keyHere_29 rfl ?_
            exact sV.sub [0, 1] (by rfl) (hk33 true)
def fX2_keyHere   (σ : Store) : Option Int32 := (fX2_keyHere_L2 σ FU (0 : Int32))
theorem c_X2_keyHere {l0 : Launch} {G : Geo}  (σ : Store) (a : Int32) (hf : fX2_keyHere   σ = some a) : sCon l0 wCls G yX2_keyHere cX2_keyHere 4 (some .int) (rmL 1 60) [.ref (gad G 24)] σ (some (.int a)) σ := by
  refine sCon.of (by decide) ⟨rfl, rfl⟩ (Nat.le_of_ble_eq_true rfl) RX2 rfl _ hf (fun K hK => ?_)
  show sV wCls G K a σ 0 [(0, .ref (gad G 24))] [] _
  unfold fX2_keyHere
  refine r_iconst (q := 1) (v := 0) hK dX2_keyHere_0 rfl rfl ?_
  refine r_istore_n (q := 2) (loc' := [(1, .int (0 : Int32)), (0, .ref (gad G 24))]) hK dX2_keyHere_1 rfl rfl (by decide) rfl ?_
  exact sV.sub [1, 0] (by rfl) (vX2_keyHere_L2 σ  hK FU (0 : Int32))
def fX2_parse  (a1 : Int32) (σ : Store) : Option Store := (slt (sup σ 24 6 a1) fun s1 => (slt (sup s1 24 1 (0 : Int32)) fun s2 => (slt (sup s2 24 3 (0 : Int32)) fun s3 => (slt (sup s3 24 4 (-1 : Int32)) fun s4 => (slt (sup s4 24 8 (0 : Int32)) fun s5 => (slt (sup s5 24 9 (0 : Int32)) fun s6 => (sbd (fX2_advance s6) fun s7 => (sbd (fX2_keyHere s7) fun r8 => (slt (sup s7 24 2 r8) fun s9 => (if ¬ (s9 24 2) = (-1000000005 : Int32) then (sbd (fX2_advance s9) fun s11 => (sbd (fX2_expression (0 : Int32) (0 : Int32) (0 : Int32) s11) fun s12 => (if (s12 24 9) = 0 then (some s12) else (sbd (fX2_fail s12) fun s14 => (some s14))))) else (sbd (fX2_fail s9) fun s15 => (some s15))))))))))))
theorem c_X2_parse {l0 : Launch} {G : Geo} (a1 : Int32) (σ : Store) (a : Store) (hf : fX2_parse  a1 σ = some a) : sCon l0 wCls G yX2_parse cX2_parse 2 (none) (rmL 113 6826) [.ref (gad G 24), .int a1] σ none a := by
  refine sCon.of (by decide) ⟨rfl, rfl⟩ (Nat.le_of_ble_eq_true rfl) RX2 rfl _ hf (fun K hK => ?_)
  show sV wCls G K a σ 0 [(0, .ref (gad G 24)), (1, .int a1)] [] _
  unfold fX2_parse
  refine r_aload_n (q := 1) hK dX2_parse_0 rfl rfl 0 rfl ?_
  refine r_iload_n (q := 2) hK dX2_parse_1 rfl rfl 1 rfl ?_
  refine pf_2_6 (q := 5) (rfl : kdC 24 = 2) hK dX2_parse_2 rfl tw_192 ?_
  refine sV.ltS (fun s1 => ?_)
  refine r_aload_n (q := 6) hK dX2_parse_5 rfl rfl 0 rfl ?_
  refine r_iconst (q := 7) (v := 0) hK dX2_parse_6 rfl rfl ?_
  refine pf_2_1 (q := 10) (rfl : kdC 24 = 2) hK dX2_parse_7 rfl tw_183 ?_
  refine sV.ltS (fun s2 => ?_)
  refine r_aload_n (q := 11) hK dX2_parse_10 rfl rfl 0 rfl ?_
  refine r_iconst (q := 12) (v := 0) hK dX2_parse_11 rfl rfl ?_
  refine pf_2_3 (q := 15) (rfl : kdC 24 = 2) hK dX2_parse_12 rfl tw_187 ?_
  refine sV.ltS (fun s3 => ?_)
  refine r_aload_n (q := 16) hK dX2_parse_15 rfl rfl 0 rfl ?_
  refine r_iconst (q := 17) (v := -1) hK dX2_parse_16 rfl rfl ?_
  refine pf_2_4 (q := 20) (rfl : kdC 24 = 2) hK dX2_parse_17 rfl tw_189 ?_
  refine sV.ltS (fun s4 => ?_)
  refine r_aload_n (q := 21) hK dX2_parse_20 rfl rfl 0 rfl ?_
  refine r_iconst (q := 22) (v := 0) hK dX2_parse_21 rfl rfl ?_
  refine pf_2_8 (q := 25) (rfl : kdC 24 = 2) hK dX2_parse_22 rfl tw_194 ?_
  refine sV.ltS (fun s5 => ?_)
  refine r_aload_n (q := 26) hK dX2_parse_25 rfl rfl 0 rfl ?_
  refine r_iconst (q := 27) (v := 0) hK dX2_parse_26 rfl rfl ?_
  refine pf_2_9 (q := 30) (rfl : kdC 24 = 2) hK dX2_parse_27 rfl tw_195 ?_
  refine sV.ltS (fun s6 => ?_)
  refine r_aload_n (q := 31) hK dX2_parse_30 rfl rfl 0 rfl ?_
  refine callV_vS (q := 34) (j := 24) (As := []) (rest := []) (f := (fX2_advance s6)) hK dX2_parse_31 rfl (fun b hb => c_X2_advance s6 b hb) ⟨2, _, _, _, kd_lt (rfl : kdC 24 = 2) (by decide), rfl, cC2 (rfl : kdC 24 = 2), rfl⟩ mv_X2_advance rfl rfl (Nat.le_of_ble_eq_true rfl) tw_634 mw_X2_advance (rmOk (Nat.le_of_ble_eq_true rfl) (Nat.le_of_ble_eq_true rfl)) (fun s7 => ?_)
  refine r_aload_n (q := 35) hK dX2_parse_34 rfl rfl 0 rfl ?_
  refine r_aload_n (q := 36) hK dX2_parse_35 rfl rfl 0 rfl ?_
  refine callV_i (q := 39) (j := 24) (As := []) (rest := [.ref (gad G 24)]) (f := (fX2_keyHere s7)) hK dX2_parse_36 rfl (fun b hb => c_X2_keyHere s7 b hb) ⟨2, _, _, _, kd_lt (rfl : kdC 24 = 2) (by decide), rfl, cC2 (rfl : kdC 24 = 2), rfl⟩ mv_X2_keyHere rfl rfl (Nat.le_of_ble_eq_true rfl) tw_646 mw_X2_keyHere (rmOk (Nat.le_of_ble_eq_true rfl) (Nat.le_of_ble_eq_true rfl)) (fun r8 => ?_)
  refine pf_2_2 (q := 42) (rfl : kdC 24 = 2) hK dX2_parse_39 rfl tw_186 ?_
  refine sV.ltS (fun s9 => ?_)
  refine r_aload_n (q := 43) hK dX2_parse_42 rfl rfl 0 rfl ?_
  refine gf_2_2 (q := 46) (rfl : kdC 24 = 2) hK dX2_parse_43 rfl tw_186 ?_
  refine r_ldc (q := 48) hK dX2_parse_46 rfl tw_652 ?_
  refine r_icmp_ne (t := 56) (q := 51) hK dX2_parse_48 rfl rfl (fun c10 => ?_) (fun c10 => ?_)
  · refine r_aload_n (q := 57) hK dX2_parse_56 rfl rfl 0 rfl ?_
    refine callV_vS (q := 60) (j := 24) (As := []) (rest := []) (f := (fX2_advance s9)) hK dX2_parse_57 rfl (fun b hb => c_X2_advance s9 b hb) ⟨2, _, _, _, kd_lt (rfl : kdC 24 = 2) (by decide), rfl, cC2 (rfl : kdC 24 = 2), rfl⟩ mv_X2_advance rfl rfl (Nat.le_of_ble_eq_true rfl) tw_634 mw_X2_advance (rmOk (Nat.le_of_ble_eq_true rfl) (Nat.le_of_ble_eq_true rfl)) (fun s11 => ?_)
    refine r_aload_n (q := 61) hK dX2_parse_60 rfl rfl 0 rfl ?_
    refine r_iconst (q := 62) (v := 0) hK dX2_parse_61 rfl rfl ?_
    refine r_iconst (q := 63) (v := 0) hK dX2_parse_62 rfl rfl ?_
    refine r_iconst (q := 64) (v := 0) hK dX2_parse_63 rfl rfl ?_
    refine callV_vS (q := 67) (j := 24) (As := [.int (0 : Int32), .int (0 : Int32), .int (0 : Int32)]) (rest := []) (f := (fX2_expression (0 : Int32) (0 : Int32) (0 : Int32) s11)) hK dX2_parse_64 rfl (fun b hb => c_X2_expression (0 : Int32) (0 : Int32) (0 : Int32) s11 b hb) ⟨2, _, _, _, kd_lt (rfl : kdC 24 = 2) (by decide), rfl, cC2 (rfl : kdC 24 = 2), rfl⟩ mv_X2_expression rfl rfl (Nat.le_of_ble_eq_true rfl) tw_657 mw_X2_expression (rmOk (Nat.le_of_ble_eq_true rfl) (Nat.le_of_ble_eq_true rfl)) (fun s12 => ?_)
    refine r_aload_n (q := 68) hK dX2_parse_67 rfl rfl 0 rfl ?_
    refine gf_2_9 (q := 71) (rfl : kdC 24 = 2) hK dX2_parse_68 rfl tw_195 ?_
    refine r_if_eq (t := 78) (q := 74) hK dX2_parse_71 rfl rfl (fun c13 => ?_) (fun c13 => ?_)
    · exact e_vS hK dX2_parse_78
    · refine r_aload_n (q := 75) hK dX2_parse_74 rfl rfl 0 rfl ?_
      refine callV_vS (q := 78) (j := 24) (As := []) (rest := []) (f := (fX2_fail s12)) hK dX2_parse_75 rfl (fun b hb => c_X2_fail s12 b hb) ⟨2, _, _, _, kd_lt (rfl : kdC 24 = 2) (by decide), rfl, cC2 (rfl : kdC 24 = 2), rfl⟩ mv_X2_fail rfl rfl (Nat.le_of_ble_eq_true rfl) tw_653 mw_X2_fail (rmOk (Nat.le_of_ble_eq_true rfl) (Nat.le_of_ble_eq_true rfl)) (fun s14 => ?_)
      exact e_vS hK dX2_parse_78
  · refine r_aload_n (q := 52) hK dX2_parse_51 rfl rfl 0 rfl ?_
    refine callV_vS (q := 55) (j := 24) (As := []) (rest := []) (f := (fX2_fail s9)) hK dX2_parse_52 rfl (fun b hb => c_X2_fail s9 b hb) ⟨2, _, _, _, kd_lt (rfl : kdC 24 = 2) (by decide), rfl, cC2 (rfl : kdC 24 = 2), rfl⟩ mv_X2_fail rfl rfl (Nat.le_of_ble_eq_true rfl) tw_653 mw_X2_fail (rmOk (Nat.le_of_ble_eq_true rfl) (Nat.le_of_ble_eq_true rfl)) (fun s15 => ?_)
    exact e_vS hK dX2_parse_55
def fX8_text   (σ : Store) : Option (Int32 × Store) := (sbd (fX2_parse (σ 0 10) σ) fun s1 => (slt (sup s1 0 10 (0 : Int32)) fun s2 => (if (s2 24 4) < 0 then (if (s2 57 5) < (14 : Int32) then (slt (s2 57 5) fun x5 => (sbd (fX1_becomes x5 s2) fun s6 => (slt (sup s6 57 5 ((s6 57 5) + (1 : Int32))) fun s7 => (some (x5, s7))))) else (some ((-1000000003 : Int32), s2))) else (some (((-100 : Int32) - (s2 24 4)), s2)))))
theorem c_X8_text {l0 : Launch} {G : Geo}  (σ : Store) (a : (Int32 × Store)) (hf : fX8_text   σ = some a) : sCon l0 wCls G yX8_text cX8_text 2 (some .int) (rmL 114 6847) [.ref (gad G 0)] σ (some (.int a.1)) a.2 := by
  refine sCon.of (by decide) ⟨rfl, rfl⟩ (Nat.le_of_ble_eq_true rfl) RX8 rfl _ hf (fun K hK => ?_)
  show sV wCls G K a σ 0 [(0, .ref (gad G 0))] [] _
  unfold fX8_text
  refine r_aload_n (q := 1) hK dX8_text_0 rfl rfl 0 rfl ?_
  refine gf_8_6 (q := 4) (rfl : kdC 0 = 8) hK dX8_text_1 rfl tw_273 ?_
  refine r_aload_n (q := 5) hK dX8_text_4 rfl rfl 0 rfl ?_
  refine gf_8_10 (q := 8) (rfl : kdC 0 = 8) hK dX8_text_5 rfl tw_277 ?_
  refine callV_vS (q := 11) (j := 24) (As := [.int (σ 0 10)]) (rest := []) (f := (fX2_parse (σ 0 10) σ)) hK dX8_text_8 rfl (fun b hb => c_X2_parse (σ 0 10) σ b hb) ⟨2, _, _, _, kd_lt (rfl : kdC 24 = 2) (by decide), rfl, cC2 (rfl : kdC 24 = 2), rfl⟩ mv_X2_parse rfl rfl (Nat.le_of_ble_eq_true rfl) tw_630 mw_X2_parse (rmOk (Nat.le_of_ble_eq_true rfl) (Nat.le_of_ble_eq_true rfl)) (fun s1 => ?_)
  refine r_aload_n (q := 12) hK dX8_text_11 rfl rfl 0 rfl ?_
  refine r_iconst (q := 13) (v := 0) hK dX8_text_12 rfl rfl ?_
  refine pf_8_10 (q := 16) (rfl : kdC 0 = 8) hK dX8_text_13 rfl tw_277 ?_
  refine sV.ltS (fun s2 => ?_)
  refine r_aload_n (q := 17) hK dX8_text_16 rfl rfl 0 rfl ?_
  refine gf_8_6 (q := 20) (rfl : kdC 0 = 8) hK dX8_text_17 rfl tw_273 ?_
  refine gf_2_4 (q := 23) (rfl : kdC 24 = 2) hK dX8_text_20 rfl tw_190 ?_
  refine r_if_lt (t := 37) (q := 26) hK dX8_text_23 rfl rfl (fun c3 => ?_) (fun c3 => ?_)
  · refine r_aload_n (q := 38) hK dX8_text_37 rfl rfl 0 rfl ?_
    refine gf_8_1 (q := 41) (rfl : kdC 0 = 8) hK dX8_text_38 rfl tw_268 ?_
    refine gf_0_5 (q := 44) (rfl : kdC 57 = 0) hK dX8_text_41 rfl tw_128 ?_
    refine r_bipush (q := 46) (v := 14) hK dX8_text_44 rfl rfl ?_
    refine r_icmp_lt (t := 52) (q := 49) hK dX8_text_46 rfl rfl (fun c4 => ?_) (fun c4 => ?_)
    · refine r_aload_n (q := 53) hK dX8_text_52 rfl rfl 0 rfl ?_
      refine gf_8_1 (q := 56) (rfl : kdC 0 = 8) hK dX8_text_53 rfl tw_268 ?_
      refine gf_0_5 (q := 59) (rfl : kdC 57 = 0) hK dX8_text_56 rfl tw_128 ?_
      refine sV.ltI (fun x5 => ?_)
      refine r_istore_n (q := 60) (loc' := [(1, .int x5), (0, .ref (gad G 0))]) hK dX8_text_59 rfl rfl (by decide) rfl ?_
      refine r_aload_n (q := 61) hK dX8_text_60 rfl rfl 1 rfl ?_
      refine gf_8_0 (q := 64) (rfl : kdC 0 = 8) hK dX8_text_61 rfl tw_267 ?_
      refine r_iload_n (q := 65) hK dX8_text_64 rfl rfl 0 rfl ?_
      refine r_aload_n (q := 66) hK dX8_text_65 rfl rfl 1 rfl ?_
      refine gf_8_6 (q := 69) (rfl : kdC 0 = 8) hK dX8_text_66 rfl tw_273 ?_
      refine callV_vS (q := 72) (j := 1) (As := [.int x5, .ref (gad G 24)]) (rest := []) (f := (fX1_becomes x5 s2)) hK dX8_text_69 rfl (fun b hb => c_X1_becomes x5 s2 b hb) ⟨1, _, _, _, kd_lt (rfl : kdC 1 = 1) (by decide), rfl, cC1 (rfl : kdC 1 = 1), rfl⟩ mv_X1_becomes rfl rfl (Nat.le_of_ble_eq_true rfl) tw_694 mw_X1_becomes (rmOk (Nat.le_of_ble_eq_true rfl) (Nat.le_of_ble_eq_true rfl)) (fun s6 => ?_)
      refine r_aload_n (q := 73) hK dX8_text_72 rfl rfl 1 rfl ?_
      refine gf_8_1 (q := 76) (rfl : kdC 0 = 8) hK dX8_text_73 rfl tw_268 ?_
      refine r_dup (q := 77) hK dX8_text_76 rfl rfl ?_
      refine gf_0_5 (q := 80) (rfl : kdC 57 = 0) hK dX8_text_77 rfl tw_128 ?_
      refine r_iconst (q := 81) (v := 1) hK dX8_text_80 rfl rfl ?_
      refine r_iadd (q := 82) hK dX8_text_81 rfl ?_
      refine pf_0_5 (q := 85) (rfl : kdC 57 = 0) hK dX8_text_82 rfl tw_128 ?_
      refine sV.ltS (fun s7 => ?_)
      refine r_iload_n (q := 86) hK dX8_text_85 rfl rfl 0 rfl ?_
      exact e_iS hK dX8_text_86
    · refine r_ldc (q := 51) hK dX8_text_49 rfl tw_318 ?_
      exact e_iS hK dX8_text_51
  · refine r_bipush (q := 28) (v := -100) hK dX8_text_26 rfl rfl ?_
    refine r_aload_n (q := 29) hK dX8_text_28 rfl rfl 0 rfl ?_
    refine gf_8_6 (q := 32) (rfl : kdC 0 = 8) hK dX8_text_29 rfl tw_273 ?_
    refine gf_2_4 (q := 35) (rfl : kdC 24 = 2) hK dX8_text_32 rfl tw_190 ?_
    refine r_isub (q := 36) hK dX8_text_35 rfl ?_
    exact e_iS hK dX8_text_36
def fX8_textTold  (a1 : Int32) (a2 : Int32) (σ : Store) : Option Int32 := (sbd (fX8_within a1 (0 : Int32) ((σ 57 5) - (1 : Int32)) σ) fun r1 => (if r1 = true then (sbd (fX8_within a2 (0 : Int32) (1 : Int32) σ) fun r3 => (if r3 = true then (if ¬ a2 = 0 then (six 14 a1 (some (σ 19 (snx a1)))) else (six 14 a1 (some (σ 18 (snx a1))))) else (some (-1000000001 : Int32)))) else (some (-1000000001 : Int32))))
theorem c_X8_textTold {l0 : Launch} {G : Geo} (a1 : Int32) (a2 : Int32) (σ : Store) (a : Int32) (hf : fX8_textTold  a1 a2 σ = some a) : sCon l0 wCls G yX8_textTold cX8_textTold 3 (some .int) (rmL 2 82) [.ref (gad G 0), .int a1, .int a2] σ (some (.int a)) σ := by
  refine sCon.of (by decide) ⟨rfl, rfl⟩ (Nat.le_of_ble_eq_true rfl) RX8 rfl _ hf (fun K hK => ?_)
  show sV wCls G K a σ 0 [(0, .ref (gad G 0)), (1, .int a1), (2, .int a2)] [] _
  unfold fX8_textTold
  refine r_iload_n (q := 1) hK dX8_textTold_0 rfl rfl 1 rfl ?_
  refine r_iconst (q := 2) (v := 0) hK dX8_textTold_1 rfl rfl ?_
  refine r_aload_n (q := 3) hK dX8_textTold_2 rfl rfl 0 rfl ?_
  refine gf_8_1 (q := 6) (rfl : kdC 0 = 8) hK dX8_textTold_3 rfl tw_268 ?_
  refine gf_0_5 (q := 9) (rfl : kdC 57 = 0) hK dX8_textTold_6 rfl tw_128 ?_
  refine r_iconst (q := 10) (v := 1) hK dX8_textTold_9 rfl rfl ?_
  refine r_isub (q := 11) hK dX8_textTold_10 rfl ?_
  refine callS_b (q := 14) (As := [.int a1, .int (0 : Int32), .int ((σ 57 5) - (1 : Int32))]) (rest := []) (f := (fX8_within a1 (0 : Int32) ((σ 57 5) - (1 : Int32)) σ)) hK dX8_textTold_11 rfl (fun b hb => c_X8_within a1 (0 : Int32) ((σ 57 5) - (1 : Int32)) σ b hb) ms_X8_within rfl rfl (Nat.le_of_ble_eq_true rfl) tw_314 mw_X8_within (rmOk (Nat.le_of_ble_eq_true rfl) (Nat.le_of_ble_eq_true rfl)) (fun r1 => ?_)
  refine r_ifb_eq (t := 26) (q := 17) hK dX8_textTold_14 rfl rfl (fun c2 => ?_) (fun c2 => ?_)
  · refine r_iload_n (q := 18) hK dX8_textTold_17 rfl rfl 2 rfl ?_
    refine r_iconst (q := 19) (v := 0) hK dX8_textTold_18 rfl rfl ?_
    refine r_iconst (q := 20) (v := 1) hK dX8_textTold_19 rfl rfl ?_
    refine callS_b (q := 23) (As := [.int a2, .int (0 : Int32), .int (1 : Int32)]) (rest := []) (f := (fX8_within a2 (0 : Int32) (1 : Int32) σ)) hK dX8_textTold_20 rfl (fun b hb => c_X8_within a2 (0 : Int32) (1 : Int32) σ b hb) ms_X8_within rfl rfl (Nat.le_of_ble_eq_true rfl) tw_314 mw_X8_within (rmOk (Nat.le_of_ble_eq_true rfl) (Nat.le_of_ble_eq_true rfl)) (fun r3 => ?_)
    refine r_ifb_ne (t := 29) (q := 26) hK dX8_textTold_23 rfl rfl (fun c4 => ?_) (fun c4 => ?_)
    · refine r_iload_n (q := 30) hK dX8_textTold_29 rfl rfl 2 rfl ?_
      refine r_if_ne (t := 45) (q := 33) hK dX8_textTold_30 rfl rfl (fun c5 => ?_) (fun c5 => ?_)
      · refine r_aload_n (q := 46) hK dX8_textTold_45 rfl rfl 0 rfl ?_
        refine gf_8_0 (q := 49) (rfl : kdC 0 = 8) hK dX8_textTold_46 rfl tw_267 ?_
        refine gf_1_3 (q := 52) (rfl : kdC 1 = 1) hK dX8_textTold_49 rfl tw_40 ?_
        refine r_iload_n (q := 53) hK dX8_textTold_52 rfl rfl 1 rfl ?_
        refine r_iald (q := 54) hK dX8_textTold_53 rfl (aC21 (j := 19) rfl) (fun h6 => ?_)
        exact e_i hK dX8_textTold_54
      · refine r_aload_n (q := 34) hK dX8_textTold_33 rfl rfl 0 rfl ?_
        refine gf_8_0 (q := 37) (rfl : kdC 0 = 8) hK dX8_textTold_34 rfl tw_267 ?_
        refine gf_1_2 (q := 40) (rfl : kdC 1 = 1) hK dX8_textTold_37 rfl tw_38 ?_
        refine r_iload_n (q := 41) hK dX8_textTold_40 rfl rfl 1 rfl ?_
        refine r_iald (q := 42) hK dX8_textTold_41 rfl (aC21 (j := 18) rfl) (fun h7 => ?_)
        refine r_goto (q := 54) hK dX8_textTold_42 rfl ?_
        exact e_i hK dX8_textTold_54
    · refine r_ldc (q := 28) hK dX8_textTold_26 rfl tw_317 ?_
      exact e_i hK dX8_textTold_28
  · refine r_ldc (q := 28) hK dX8_textTold_26 rfl tw_317 ?_
    exact e_i hK dX8_textTold_28
def fX8_why  (a1 : Int32) (σ : Store) : Option Int32 := (sbd (fX8_within a1 (0 : Int32) (2 : Int32) σ) fun r1 => (if r1 = true then (sbd (fX0_countingText 57 a1 σ) fun r3 => (some r3)) else (some (-1000000001 : Int32))))
theorem c_X8_why {l0 : Launch} {G : Geo} (a1 : Int32) (σ : Store) (a : Int32) (hf : fX8_why  a1 σ = some a) : sCon l0 wCls G yX8_why cX8_why 2 (some .int) (rmL 2 82) [.ref (gad G 0), .int a1] σ (some (.int a)) σ := by
  refine sCon.of (by decide) ⟨rfl, rfl⟩ (Nat.le_of_ble_eq_true rfl) RX8 rfl _ hf (fun K hK => ?_)
  show sV wCls G K a σ 0 [(0, .ref (gad G 0)), (1, .int a1)] [] _
  unfold fX8_why
  refine r_iload_n (q := 1) hK dX8_why_0 rfl rfl 1 rfl ?_
  refine r_iconst (q := 2) (v := 0) hK dX8_why_1 rfl rfl ?_
  refine r_iconst (q := 3) (v := 2) hK dX8_why_2 rfl rfl ?_
  refine callS_b (q := 6) (As := [.int a1, .int (0 : Int32), .int (2 : Int32)]) (rest := []) (f := (fX8_within a1 (0 : Int32) (2 : Int32) σ)) hK dX8_why_3 rfl (fun b hb => c_X8_within a1 (0 : Int32) (2 : Int32) σ b hb) ms_X8_within rfl rfl (Nat.le_of_ble_eq_true rfl) tw_314 mw_X8_within (rmOk (Nat.le_of_ble_eq_true rfl) (Nat.le_of_ble_eq_true rfl)) (fun r1 => ?_)
  refine r_ifb_ne (t := 12) (q := 9) hK dX8_why_6 rfl rfl (fun c2 => ?_) (fun c2 => ?_)
  · refine r_aload_n (q := 13) hK dX8_why_12 rfl rfl 0 rfl ?_
    refine gf_8_1 (q := 16) (rfl : kdC 0 = 8) hK dX8_why_13 rfl tw_268 ?_
    refine r_iload_n (q := 17) hK dX8_why_16 rfl rfl 1 rfl ?_
    refine callV_i (q := 20) (j := 57) (As := [.int a1]) (rest := []) (f := (fX0_countingText 57 a1 σ)) hK dX8_why_17 rfl (fun b hb => c_X0_countingText 57 (rfl : kdC 57 = 0) a1 σ b hb) ⟨0, _, _, _, kd_lt (rfl : kdC 57 = 0) (by decide), rfl, cC0 (rfl : kdC 57 = 0), rfl⟩ mv_X0_countingText rfl rfl (Nat.le_of_ble_eq_true rfl) tw_608 mw_X0_countingText (rmOk (Nat.le_of_ble_eq_true rfl) (Nat.le_of_ble_eq_true rfl)) (fun r3 => ?_)
    exact e_i hK dX8_why_20
  · refine r_ldc (q := 11) hK dX8_why_9 rfl tw_317 ?_
    exact e_i hK dX8_why_11
def fX3_clear_L12  (o0 : Nat) : Nat → Int32 → Store → Option Store
  | 0, _, _ => none
  | n + 1, i3, τ => (if (24 : Int32) ≤ i3 then (some τ) else (six 24 i3 (slt (sup τ (fpl o0) (snx i3) (0 : Int32)) fun s11 => (fX3_clear_L12 o0 n (i3 + (1 : Int32)) s11))))
theorem vX3_clear_L12 {G : Geo} {K : KT} {l0 : Launch} (σ : Store) {a : Store} (o0 : Nat) (ho0 : kdC o0 = 3) (v1 : Int32) (v2 : Int32) (hK : sOk wCls G K l0 RX3 cX3_clear (rmL 1 60) 4 (none) none a) : ∀ (n : Nat) (i3 : Int32) (τ : Store), sV wCls G K a τ 12 [(0, .ref (gad G o0)), (1, .int v1), (2, .int v2), (3, .int i3)] [] (fX3_clear_L12 o0 n i3 τ) := by
  intro n
  induction n with
  | zero =>
    intro i3 τ
    exact sV.no
  | succ n ih =>
    intro i3 τ
    rw [fX3_clear_L12]
    refine r_iload_n (q := 13) hK dX3_clear_12 rfl rfl 3 rfl ?_
    refine r_bipush (q := 15) (v := 24) hK dX3_clear_13 rfl rfl ?_
    refine r_icmp_ge (t := 31) (q := 18) hK dX3_clear_15 rfl rfl (fun c9 => ?_) (fun c9 => ?_)
    · exact e_vS hK dX3_clear_31
    · refine r_aload_n (q := 19) hK dX3_clear_18 rfl rfl 0 rfl ?_
      refine gf_3_2 (q := 22) ho0 hK dX3_clear_19 rfl tw_233 ?_
      refine r_iload_n (q := 23) hK dX3_clear_22 rfl rfl 3 rfl ?_
      refine r_iconst (q := 24) (v := 0) hK dX3_clear_23 rfl rfl ?_
      refine r_iast (q := 25) hK dX3_clear_24 rfl (aC23 (kd_rp ho0)) (fun h10 => ?_)
      refine sV.ltS (fun s11 => ?_)
      refine r_iinc (q := 28) (v := (i3 + (1 : Int32))) (loc' := [(3, .int (i3 + (1 : Int32))), (0, .ref (gad G o0)), (1, .int v1), (2, .int v2)]) hK dX3_clear_25 rfl 3 rfl rfl (by decide) rfl ?_
      refine r_goto (q := 12) hK dX3_clear_28 rfl ?_
      exact sV.sub [1, 2, 3, 0] (by rfl) (ih (i3 + (1 : Int32)) s11)
def fX3_clear  (a0 : Nat) (a1 : Int32) (a2 : Int32) (σ : Store) : Option Store := (slt (sup σ a0 0 a1) fun s1 => (slt (sup s1 a0 1 a2) fun s2 => (fX3_clear_L12 a0 FU (0 : Int32) s2)))
theorem c_X3_clear {l0 : Launch} {G : Geo} (a0 : Nat) (h0 : kdC a0 = 3) (a1 : Int32) (a2 : Int32) (σ : Store) (a : Store) (hf : fX3_clear  a0 a1 a2 σ = some a) : sCon l0 wCls G yX3_clear cX3_clear 4 (none) (rmL 1 60) [.ref (gad G a0), .int a1, .int a2] σ none a := by
  refine sCon.of (by decide) ⟨rfl, rfl⟩ (Nat.le_of_ble_eq_true rfl) RX3 rfl _ hf (fun K hK => ?_)
  show sV wCls G K a σ 0 [(0, .ref (gad G a0)), (1, .int a1), (2, .int a2)] [] _
  unfold fX3_clear
  refine r_aload_n (q := 1) hK dX3_clear_0 rfl rfl 0 rfl ?_
  refine r_iload_n (q := 2) hK dX3_clear_1 rfl rfl 1 rfl ?_
  refine pf_3_0 (q := 5) h0 hK dX3_clear_2 rfl tw_229 ?_
  refine sV.ltS (fun s1 => ?_)
  refine r_aload_n (q := 6) hK dX3_clear_5 rfl rfl 0 rfl ?_
  refine r_iload_n (q := 7) hK dX3_clear_6 rfl rfl 2 rfl ?_
  refine pf_3_1 (q := 10) h0 hK dX3_clear_7 rfl tw_231 ?_
  refine sV.ltS (fun s2 => ?_)
  refine r_iconst (q := 11) (v := 0) hK dX3_clear_10 rfl rfl ?_
  refine r_istore_n (q := 12) (loc' := [(3, .int (0 : Int32)), (0, .ref (gad G a0)), (1, .int a1), (2, .int a2)]) hK dX3_clear_11 rfl rfl (by decide) rfl ?_
  exact sV.sub [1, 2, 3, 0] (by rfl) (vX3_clear_L12 s2 a0 h0 a1 a2 hK FU (0 : Int32) s2)
def fX8_sheet  (a1 : Int32) (a2 : Int32) (a3 : Int32) (σ : Store) : Option (Int32 × Store) := (sbd (fX8_isSheet a1 σ) fun r1 => (if r1 = true then (sbd (fX8_within a2 (-1 : Int32) (1 : Int32) σ) fun r3 => (if r3 = true then (if ¬ a2 = (-1 : Int32) then (if a3 ≤ (24 : Int32) then (if 0 ≤ a3 then (six 4 a1 (sbd (fX3_clear (shr a1) a2 a3 σ) fun s9 => (some (a3, s9)))) else (some ((-1000000014 : Int32), σ))) else (some ((-1000000001 : Int32), σ))) else (six 4 a1 (sbd (fX3_clear (shr a1) (-1 : Int32) (0 : Int32) σ) fun s11 => (some ((0 : Int32), s11))))) else (some ((-1000000001 : Int32), σ)))) else (some ((-1000000001 : Int32), σ))))
theorem c_X8_sheet {l0 : Launch} {G : Geo} (a1 : Int32) (a2 : Int32) (a3 : Int32) (σ : Store) (a : (Int32 × Store)) (hf : fX8_sheet  a1 a2 a3 σ = some a) : sCon l0 wCls G yX8_sheet cX8_sheet 4 (some .int) (rmL 3 102) [.ref (gad G 0), .int a1, .int a2, .int a3] σ (some (.int a.1)) a.2 := by
  refine sCon.of (by decide) ⟨rfl, rfl⟩ (Nat.le_of_ble_eq_true rfl) RX8 rfl _ hf (fun K hK => ?_)
  show sV wCls G K a σ 0 [(0, .ref (gad G 0)), (1, .int a1), (2, .int a2), (3, .int a3)] [] _
  unfold fX8_sheet
  refine r_iload_n (q := 1) hK dX8_sheet_0 rfl rfl 1 rfl ?_
  refine callS_b (q := 4) (As := [.int a1]) (rest := []) (f := (fX8_isSheet a1 σ)) hK dX8_sheet_1 rfl (fun b hb => c_X8_isSheet a1 σ b hb) ms_X8_isSheet rfl rfl (Nat.le_of_ble_eq_true rfl) tw_579 mw_X8_isSheet (rmOk (Nat.le_of_ble_eq_true rfl) (Nat.le_of_ble_eq_true rfl)) (fun r1 => ?_)
  refine r_ifb_eq (t := 16) (q := 7) hK dX8_sheet_4 rfl rfl (fun c2 => ?_) (fun c2 => ?_)
  · refine r_iload_n (q := 8) hK dX8_sheet_7 rfl rfl 2 rfl ?_
    refine r_iconst (q := 9) (v := -1) hK dX8_sheet_8 rfl rfl ?_
    refine r_iconst (q := 10) (v := 1) hK dX8_sheet_9 rfl rfl ?_
    refine callS_b (q := 13) (As := [.int a2, .int (-1 : Int32), .int (1 : Int32)]) (rest := []) (f := (fX8_within a2 (-1 : Int32) (1 : Int32) σ)) hK dX8_sheet_10 rfl (fun b hb => c_X8_within a2 (-1 : Int32) (1 : Int32) σ b hb) ms_X8_within rfl rfl (Nat.le_of_ble_eq_true rfl) tw_314 mw_X8_within (rmOk (Nat.le_of_ble_eq_true rfl) (Nat.le_of_ble_eq_true rfl)) (fun r3 => ?_)
    refine r_ifb_ne (t := 19) (q := 16) hK dX8_sheet_13 rfl rfl (fun c4 => ?_) (fun c4 => ?_)
    · refine r_iload_n (q := 20) hK dX8_sheet_19 rfl rfl 2 rfl ?_
      refine r_iconst (q := 21) (v := -1) hK dX8_sheet_20 rfl rfl ?_
      refine r_icmp_ne (t := 37) (q := 24) hK dX8_sheet_21 rfl rfl (fun c5 => ?_) (fun c5 => ?_)
      · refine r_iload_n (q := 38) hK dX8_sheet_37 rfl rfl 3 rfl ?_
        refine r_bipush (q := 40) (v := 24) hK dX8_sheet_38 rfl rfl ?_
        refine r_icmp_le (t := 46) (q := 43) hK dX8_sheet_40 rfl rfl (fun c6 => ?_) (fun c6 => ?_)
        · refine r_iload_n (q := 47) hK dX8_sheet_46 rfl rfl 3 rfl ?_
          refine r_if_ge (t := 54) (q := 50) hK dX8_sheet_47 rfl rfl (fun c7 => ?_) (fun c7 => ?_)
          · refine r_aload_n (q := 55) hK dX8_sheet_54 rfl rfl 0 rfl ?_
            refine gf_8_7 (q := 58) (rfl : kdC 0 = 8) hK dX8_sheet_55 rfl tw_274 ?_
            refine r_iload_n (q := 59) hK dX8_sheet_58 rfl rfl 1 rfl ?_
            refine r_aald (q := 60) hK dX8_sheet_59 rfl (qC10 (rfl : kdC 26 = 10)) (ty := .object RX3) rfl rfl (r := gad G (shr a1)) rfl (fun h8 => ?_)
            refine r_iload_n (q := 61) hK dX8_sheet_60 rfl rfl 2 rfl ?_
            refine r_iload_n (q := 62) hK dX8_sheet_61 rfl rfl 3 rfl ?_
            refine callV_vS (q := 65) (j := (shr a1)) (As := [.int a2, .int a3]) (rest := []) (f := (fX3_clear (shr a1) a2 a3 σ)) hK dX8_sheet_62 rfl (fun b hb => c_X3_clear (shr a1) (kd_shr h8) a2 a3 σ b hb) ⟨3, _, _, _, kd_lt (kd_shr h8) (by decide), rfl, cC3 (kd_shr h8), rfl⟩ mv_X3_clear rfl rfl (Nat.le_of_ble_eq_true rfl) tw_713 mw_X3_clear (rmOk (Nat.le_of_ble_eq_true rfl) (Nat.le_of_ble_eq_true rfl)) (fun s9 => ?_)
            refine r_iload_n (q := 66) hK dX8_sheet_65 rfl rfl 3 rfl ?_
            exact e_iS hK dX8_sheet_66
          · refine r_ldcw (q := 53) hK dX8_sheet_50 rfl tw_717 ?_
            exact e_iS hK dX8_sheet_53
        · refine r_ldc (q := 45) hK dX8_sheet_43 rfl tw_317 ?_
          exact e_iS hK dX8_sheet_45
      · refine r_aload_n (q := 25) hK dX8_sheet_24 rfl rfl 0 rfl ?_
        refine gf_8_7 (q := 28) (rfl : kdC 0 = 8) hK dX8_sheet_25 rfl tw_274 ?_
        refine r_iload_n (q := 29) hK dX8_sheet_28 rfl rfl 1 rfl ?_
        refine r_aald (q := 30) hK dX8_sheet_29 rfl (qC10 (rfl : kdC 26 = 10)) (ty := .object RX3) rfl rfl (r := gad G (shr a1)) rfl (fun h10 => ?_)
        refine r_iconst (q := 31) (v := -1) hK dX8_sheet_30 rfl rfl ?_
        refine r_iconst (q := 32) (v := 0) hK dX8_sheet_31 rfl rfl ?_
        refine callV_vS (q := 35) (j := (shr a1)) (As := [.int (-1 : Int32), .int (0 : Int32)]) (rest := []) (f := (fX3_clear (shr a1) (-1 : Int32) (0 : Int32) σ)) hK dX8_sheet_32 rfl (fun b hb => c_X3_clear (shr a1) (kd_shr h10) (-1 : Int32) (0 : Int32) σ b hb) ⟨3, _, _, _, kd_lt (kd_shr h10) (by decide), rfl, cC3 (kd_shr h10), rfl⟩ mv_X3_clear rfl rfl (Nat.le_of_ble_eq_true rfl) tw_713 mw_X3_clear (rmOk (Nat.le_of_ble_eq_true rfl) (Nat.le_of_ble_eq_true rfl)) (fun s11 => ?_)
        refine r_iconst (q := 36) (v := 0) hK dX8_sheet_35 rfl rfl ?_
        exact e_iS hK dX8_sheet_36
    · refine r_ldc (q := 18) hK dX8_sheet_16 rfl tw_317 ?_
      exact e_iS hK dX8_sheet_18
  · refine r_ldc (q := 18) hK dX8_sheet_16 rfl tw_317 ?_
    exact e_iS hK dX8_sheet_18
def fX8_mark  (a1 : Int32) (a2 : Int32) (a3 : Int32) (σ : Store) : Option (Int32 × Store) := (sbd (fX8_isSheet a1 σ) fun r1 => (if r1 = true then (six 4 a1 (sbd (fX3_isMissing (shr a1) σ) fun r4 => (if r4 = true then (some ((-1000000011 : Int32), σ)) else (sbd (fX3_hasPlace (shr a1) a2 σ) fun r6 => (if r6 = true then (sjn (fun k59 : Unit → Option (Int32 × Store) => (if ¬ (σ (shr a1) 0) = 0 then (k59 ()) else (if ¬ a3 = (-1000000005 : Int32) then (k59 ()) else (some ((-1000000012 : Int32), σ))))) (fun (_u : Unit) => (sjn (fun k90 : Unit → Option (Int32 × Store) => (if ¬ (σ (shr a1) 0) = (1 : Int32) then (k90 ()) else (if a3 = (-1000000005 : Int32) then (k90 ()) else (sbd (fX8_within a3 (-99999 : Int32) (99999 : Int32) σ) fun r20 => (if r20 = true then (k90 ()) else (some ((-1000000001 : Int32), σ))))))) (fun (_u : Unit) => (sjn (fun k110 : Int32 → Option (Int32 × Store) => (if ¬ (σ (shr a1) 0) = 0 then (k110 a3) else (k110 (a3).toInt16.toInt32))) (fun (z0_110 : Int32) => (six 24 a2 (slt (sup σ (fpl (shr a1)) (snx a2) z0_110) fun s16 => (some ((1 : Int32), s16)))))))))) else (some ((-1000000013 : Int32), σ))))))) else (some ((-1000000001 : Int32), σ))))
theorem c_X8_mark {l0 : Launch} {G : Geo} (a1 : Int32) (a2 : Int32) (a3 : Int32) (σ : Store) (a : (Int32 × Store)) (hf : fX8_mark  a1 a2 a3 σ = some a) : sCon l0 wCls G yX8_mark cX8_mark 5 (some .int) (rmL 3 103) [.ref (gad G 0), .int a1, .int a2, .int a3] σ (some (.int a.1)) a.2 := by
  refine sCon.of (by decide) ⟨rfl, rfl⟩ (Nat.le_of_ble_eq_true rfl) RX8 rfl _ hf (fun K hK => ?_)
  show sV wCls G K a σ 0 [(0, .ref (gad G 0)), (1, .int a1), (2, .int a2), (3, .int a3)] [] _
  unfold fX8_mark
  refine r_iload_n (q := 1) hK dX8_mark_0 rfl rfl 1 rfl ?_
  refine callS_b (q := 4) (As := [.int a1]) (rest := []) (f := (fX8_isSheet a1 σ)) hK dX8_mark_1 rfl (fun b hb => c_X8_isSheet a1 σ b hb) ms_X8_isSheet rfl rfl (Nat.le_of_ble_eq_true rfl) tw_579 mw_X8_isSheet (rmOk (Nat.le_of_ble_eq_true rfl) (Nat.le_of_ble_eq_true rfl)) (fun r1 => ?_)
  refine r_ifb_ne (t := 10) (q := 7) hK dX8_mark_4 rfl rfl (fun c2 => ?_) (fun c2 => ?_)
  · refine r_aload_n (q := 11) hK dX8_mark_10 rfl rfl 0 rfl ?_
    refine gf_8_7 (q := 14) (rfl : kdC 0 = 8) hK dX8_mark_11 rfl tw_274 ?_
    refine r_iload_n (q := 15) hK dX8_mark_14 rfl rfl 1 rfl ?_
    refine r_aald (q := 16) hK dX8_mark_15 rfl (qC10 (rfl : kdC 26 = 10)) (ty := .object RX3) rfl rfl (r := gad G (shr a1)) rfl (fun h3 => ?_)
    refine r_astore (q := 18) (loc' := [(4, .ref (gad G (shr a1))), (0, .ref (gad G 0)), (1, .int a1), (2, .int a2), (3, .int a3)]) hK dX8_mark_16 rfl (by decide) rfl ?_
    refine r_aload (q := 20) hK dX8_mark_18 rfl 0 rfl ?_
    refine callV_b (q := 23) (j := (shr a1)) (As := []) (rest := []) (f := (fX3_isMissing (shr a1) σ)) hK dX8_mark_20 rfl (fun b hb => c_X3_isMissing (shr a1) (kd_shr h3) σ b hb) ⟨3, _, _, _, kd_lt (kd_shr h3) (by decide), rfl, cC3 (kd_shr h3), rfl⟩ mv_X3_isMissing rfl rfl (Nat.le_of_ble_eq_true rfl) tw_582 mw_X3_isMissing (rmOk (Nat.le_of_ble_eq_true rfl) (Nat.le_of_ble_eq_true rfl)) (fun r4 => ?_)
    refine r_ifb_eq (t := 29) (q := 26) hK dX8_mark_23 rfl rfl (fun c5 => ?_) (fun c5 => ?_)
    · refine r_ldc (q := 28) hK dX8_mark_26 rfl tw_586 ?_
      exact e_iS hK dX8_mark_28
    · refine r_aload (q := 31) hK dX8_mark_29 rfl 0 rfl ?_
      refine r_iload_n (q := 32) hK dX8_mark_31 rfl rfl 3 rfl ?_
      refine callV_b (q := 35) (j := (shr a1)) (As := [.int a2]) (rest := []) (f := (fX3_hasPlace (shr a1) a2 σ)) hK dX8_mark_32 rfl (fun b hb => c_X3_hasPlace (shr a1) (kd_shr h3) a2 σ b hb) ⟨3, _, _, _, kd_lt (kd_shr h3) (by decide), rfl, cC3 (kd_shr h3), rfl⟩ mv_X3_hasPlace rfl rfl (Nat.le_of_ble_eq_true rfl) tw_722 mw_X3_hasPlace (rmOk (Nat.le_of_ble_eq_true rfl) (Nat.le_of_ble_eq_true rfl)) (fun r6 => ?_)
      refine r_ifb_ne (t := 42) (q := 38) hK dX8_mark_35 rfl rfl (fun c7 => ?_) (fun c7 => ?_)
      · refine r_aload (q := 44) hK dX8_mark_42 rfl 0 rfl ?_
        refine gf_3_0 (q := 47) (kd_shr h3) hK dX8_mark_44 rfl tw_230 ?_
        refine sV.jn (fun k : Unit → Option (Int32 × Store) => ∀ (_u : Unit), sV wCls G K a σ 59 [(0, .ref (gad G 0)), (1, .int a1), (2, .int a2), (3, .int a3), (4, .ref (gad G (shr a1)))] [] (k ())) (fun _ => ?_) (fun k59 hk59 => ?_)
        · refine r_aload (q := 61) hK dX8_mark_59 rfl 4 rfl ?_
          refine gf_3_0 (q := 64) (kd_shr h3) hK dX8_mark_61 rfl tw_230 ?_
          refine r_iconst (q := 65) (v := 1) hK dX8_mark_64 rfl rfl ?_
          refine sV.jn (fun k : Unit → Option (Int32 × Store) => ∀ (_u : Unit), sV wCls G K a σ 90 [(0, .ref (gad G 0)), (1, .int a1), (2, .int a2), (3, .int a3), (4, .ref (gad G (shr a1)))] [] (k ())) (fun _ => ?_) (fun k90 hk90 => ?_)
          · refine r_aload (q := 92) hK dX8_mark_90 rfl 4 rfl ?_
            refine gf_3_2 (q := 95) (kd_shr h3) hK dX8_mark_92 rfl tw_234 ?_
            refine r_iload_n (q := 96) hK dX8_mark_95 rfl rfl 2 rfl ?_
            refine r_aload (q := 98) hK dX8_mark_96 rfl 4 rfl ?_
            refine gf_3_0 (q := 101) (kd_shr h3) hK dX8_mark_98 rfl tw_230 ?_
            refine sV.jn (fun k : Int32 → Option (Int32 × Store) => ∀ (z0_110 : Int32), sV wCls G K a σ 110 [(0, .ref (gad G 0)), (1, .int a1), (2, .int a2), (3, .int a3), (4, .ref (gad G (shr a1)))] [.int z0_110, .int a2, .ref (gad G (fpl (shr a1)))] (k z0_110)) (fun z0_110 => ?_) (fun k110 hk110 => ?_)
            · refine r_iast (q := 111) hK dX8_mark_110 rfl (aC23 (kd_rp (kd_shr h3))) (fun h15 => ?_)
              refine sV.ltS (fun s16 => ?_)
              refine r_iconst (q := 112) (v := 1) hK dX8_mark_111 rfl rfl ?_
              exact e_iS hK dX8_mark_112
            · refine r_if_ne (t := 109) (q := 104) hK dX8_mark_101 rfl rfl (fun c17 => ?_) (fun c17 => ?_)
              · refine r_iload_n (q := 110) hK dX8_mark_109 rfl rfl 3 rfl ?_
                exact sV.sub [0, 1, 2, 3, 4] (by rfl) (hk110 a3)
              · refine r_iload_n (q := 105) hK dX8_mark_104 rfl rfl 3 rfl ?_
                refine r_i2s (q := 106) hK dX8_mark_105 rfl ?_
                refine r_goto (q := 110) hK dX8_mark_106 rfl ?_
                exact sV.sub [0, 1, 2, 3, 4] (by rfl) (hk110 (a3).toInt16.toInt32)
          · refine r_icmp_ne (t := 90) (q := 68) hK dX8_mark_65 rfl rfl (fun c18 => ?_) (fun c18 => ?_)
            · exact sV.sub [0, 1, 2, 3, 4] (by rfl) (hk90 ())
            · refine r_iload_n (q := 69) hK dX8_mark_68 rfl rfl 3 rfl ?_
              refine r_ldc (q := 71) hK dX8_mark_69 rfl tw_522 ?_
              refine r_icmp_eq (t := 90) (q := 74) hK dX8_mark_71 rfl rfl (fun c19 => ?_) (fun c19 => ?_)
              · exact sV.sub [0, 1, 2, 3, 4] (by rfl) (hk90 ())
              · refine r_iload_n (q := 75) hK dX8_mark_74 rfl rfl 3 rfl ?_
                refine r_ldcw (q := 78) hK dX8_mark_75 rfl tw_724 ?_
                refine r_ldcw (q := 81) hK dX8_mark_78 rfl tw_725 ?_
                refine callS_b (q := 84) (As := [.int a3, .int (-99999 : Int32), .int (99999 : Int32)]) (rest := []) (f := (fX8_within a3 (-99999 : Int32) (99999 : Int32) σ)) hK dX8_mark_81 rfl (fun b hb => c_X8_within a3 (-99999 : Int32) (99999 : Int32) σ b hb) ms_X8_within rfl rfl (Nat.le_of_ble_eq_true rfl) tw_314 mw_X8_within (rmOk (Nat.le_of_ble_eq_true rfl) (Nat.le_of_ble_eq_true rfl)) (fun r20 => ?_)
                refine r_ifb_ne (t := 90) (q := 87) hK dX8_mark_84 rfl rfl (fun c21 => ?_) (fun c21 => ?_)
                · exact sV.sub [0, 1, 2, 3, 4] (by rfl) (hk90 ())
                · refine r_ldc (q := 89) hK dX8_mark_87 rfl tw_317 ?_
                  exact e_iS hK dX8_mark_89
        · refine r_if_ne (t := 59) (q := 50) hK dX8_mark_47 rfl rfl (fun c22 => ?_) (fun c22 => ?_)
          · exact sV.sub [1, 2, 3, 4, 0] (by rfl) (hk59 ())
          · refine r_iload_n (q := 51) hK dX8_mark_50 rfl rfl 4 rfl ?_
            refine r_ldc (q := 53) hK dX8_mark_51 rfl tw_522 ?_
            refine r_icmp_ne (t := 59) (q := 56) hK dX8_mark_53 rfl rfl (fun c23 => ?_) (fun c23 => ?_)
            · exact sV.sub [1, 2, 3, 4, 0] (by rfl) (hk59 ())
            · refine r_ldc (q := 58) hK dX8_mark_56 rfl tw_385 ?_
              exact e_iS hK dX8_mark_58
      · refine r_ldcw (q := 41) hK dX8_mark_38 rfl tw_723 ?_
        exact e_iS hK dX8_mark_41
  · refine r_ldc (q := 9) hK dX8_mark_7 rfl tw_317 ?_
    exact e_iS hK dX8_mark_9
def fX8_pour_L32  (o2 : Nat) : Nat → Int32 → Int32 → Store → Option (Int32 × Store)
  | 0, _, _, _ => none
  | n + 1, i3, i4, τ => (if (τ 57 3) ≤ i4 then (some (i3, τ)) else (if (τ o2 1) ≤ i4 then (some (i3, τ)) else (six 10 i4 (slt (τ (wrd 57 i4) 2) fun x43 => (sbd (fX3_isNumber o2 i4 τ) fun r44 => (sjn (fun k102 : Store → Option (Int32 × Store) => (if r44 = true then (six 10 i4 (six 24 i4 (sbd (fX8_held (τ (fpl o2) (snx i4)) (99 : Int32) τ) fun r55 => (slt (sup τ (wrd 57 i4) 2 r55) fun s56 => (k102 s56))))) else (k102 τ))) (fun (s_102 : Store) => (six 10 i4 (if (s_102 (wrd 57 i4) 2) = x43 then (fX8_pour_L32 o2 n i3 (i4 + (1 : Int32)) s_102) else (fX8_pour_L32 o2 n (i3 + (1 : Int32)) (i4 + (1 : Int32)) s_102))))))))))
theorem vX8_pour_L32 {G : Geo} {K : KT} {l0 : Launch} (σ : Store) {a : (Int32 × Store)} (v1 : Int32) (o2 : Nat) (ho2 : kdC o2 = 3) (hK : sOk wCls G K l0 RX8 cX8_pour (rmL 4 124) 6 (some .int) (some (.int a.1)) a.2) : ∀ (n : Nat) (i3 : Int32) (i4 : Int32) (τ : Store), sV wCls G K a τ 32 [(0, .ref (gad G 0)), (1, .int v1), (2, .ref (gad G o2)), (3, .int i3), (4, .int i4)] [] (fX8_pour_L32 o2 n i3 i4 τ) := by
  intro n
  induction n with
  | zero =>
    intro i3 i4 τ
    exact sV.no
  | succ n ih =>
    intro i3 i4 τ
    rw [fX8_pour_L32]
    refine r_iload (q := 34) hK dX8_pour_32 rfl 4 rfl ?_
    refine r_aload_n (q := 35) hK dX8_pour_34 rfl rfl 0 rfl ?_
    refine gf_8_1 (q := 38) (rfl : kdC 0 = 8) hK dX8_pour_35 rfl tw_268 ?_
    refine gf_0_3 (q := 41) (rfl : kdC 57 = 0) hK dX8_pour_38 rfl tw_123 ?_
    refine r_icmp_ge (t := 129) (q := 44) hK dX8_pour_41 rfl rfl (fun c40 => ?_) (fun c40 => ?_)
    · refine r_iload_n (q := 130) hK dX8_pour_129 rfl rfl 3 rfl ?_
      exact e_iS hK dX8_pour_130
    · refine r_iload (q := 46) hK dX8_pour_44 rfl 4 rfl ?_
      refine r_aload_n (q := 47) hK dX8_pour_46 rfl rfl 2 rfl ?_
      refine gf_3_1 (q := 50) ho2 hK dX8_pour_47 rfl tw_232 ?_
      refine r_icmp_ge (t := 129) (q := 53) hK dX8_pour_50 rfl rfl (fun c41 => ?_) (fun c41 => ?_)
      · refine r_iload_n (q := 130) hK dX8_pour_129 rfl rfl 3 rfl ?_
        exact e_iS hK dX8_pour_130
      · refine r_aload_n (q := 54) hK dX8_pour_53 rfl rfl 0 rfl ?_
        refine gf_8_1 (q := 57) (rfl : kdC 0 = 8) hK dX8_pour_54 rfl tw_268 ?_
        refine gf_0_1 (q := 60) (rfl : kdC 57 = 0) hK dX8_pour_57 rfl tw_118 ?_
        refine r_iload (q := 62) hK dX8_pour_60 rfl 4 rfl ?_
        refine r_aald (q := 63) hK dX8_pour_62 rfl (qC13 (kd_bw (rfl : kdC 57 = 0))) (ty := .object RX7) rfl rfl (r := gad G (wrd 57 i4)) rfl (fun h42 => ?_)
        refine gf_7_2 (q := 66) (kd_wrd (rfl : kdC 57 = 0) h42) hK dX8_pour_63 rfl tw_77 ?_
        refine sV.ltI (fun x43 => ?_)
        refine r_istore (q := 68) (loc' := [(5, .int x43), (0, .ref (gad G 0)), (1, .int v1), (2, .ref (gad G o2)), (3, .int i3), (4, .int i4)]) hK dX8_pour_66 rfl (by decide) rfl ?_
        refine r_aload_n (q := 69) hK dX8_pour_68 rfl rfl 3 rfl ?_
        refine r_iload (q := 71) hK dX8_pour_69 rfl 5 rfl ?_
        refine callV_b (q := 74) (j := o2) (As := [.int i4]) (rest := []) (f := (fX3_isNumber o2 i4 τ)) hK dX8_pour_71 rfl (fun b hb => c_X3_isNumber o2 ho2 i4 τ b hb) ⟨3, _, _, _, kd_lt ho2 (by decide), rfl, cC3 ho2, rfl⟩ mv_X3_isNumber rfl rfl (Nat.le_of_ble_eq_true rfl) tw_591 mw_X3_isNumber (rmOk (Nat.le_of_ble_eq_true rfl) (Nat.le_of_ble_eq_true rfl)) (fun r44 => ?_)
        refine sV.jn (fun k : Store → Option (Int32 × Store) => ∀ (s_102 : Store), sV wCls G K a s_102 102 [(0, .ref (gad G 0)), (1, .int v1), (2, .ref (gad G o2)), (3, .int i3), (4, .int i4), (5, .int x43)] [] (k s_102)) (fun s_102 => ?_) (fun k102 hk102 => ?_)
        · refine r_aload_n (q := 103) hK dX8_pour_102 rfl rfl 0 rfl ?_
          refine gf_8_1 (q := 106) (rfl : kdC 0 = 8) hK dX8_pour_103 rfl tw_268 ?_
          refine gf_0_1 (q := 109) (rfl : kdC 57 = 0) hK dX8_pour_106 rfl tw_118 ?_
          refine r_iload (q := 111) hK dX8_pour_109 rfl 4 rfl ?_
          refine r_aald (q := 112) hK dX8_pour_111 rfl (qC13 (kd_bw (rfl : kdC 57 = 0))) (ty := .object RX7) rfl rfl (r := gad G (wrd 57 i4)) rfl (fun h50 => ?_)
          refine gf_7_2 (q := 115) (kd_wrd (rfl : kdC 57 = 0) h50) hK dX8_pour_112 rfl tw_77 ?_
          refine r_iload (q := 117) hK dX8_pour_115 rfl 5 rfl ?_
          refine r_icmp_eq (t := 123) (q := 120) hK dX8_pour_117 rfl rfl (fun c51 => ?_) (fun c51 => ?_)
          · refine r_iinc (q := 126) (v := (i4 + (1 : Int32))) (loc' := [(4, .int (i4 + (1 : Int32))), (0, .ref (gad G 0)), (1, .int v1), (2, .ref (gad G o2)), (3, .int i3), (5, .int x43)]) hK dX8_pour_123 rfl 4 rfl rfl (by decide) rfl ?_
            refine r_goto (q := 32) hK dX8_pour_126 rfl ?_
            exact sV.sub [1, 2, 3, 4, 0] (by rfl) (ih i3 (i4 + (1 : Int32)) s_102)
          · refine r_iinc (q := 123) (v := (i3 + (1 : Int32))) (loc' := [(3, .int (i3 + (1 : Int32))), (0, .ref (gad G 0)), (1, .int v1), (2, .ref (gad G o2)), (4, .int i4), (5, .int x43)]) hK dX8_pour_120 rfl 3 rfl rfl (by decide) rfl ?_
            refine r_iinc (q := 126) (v := (i4 + (1 : Int32))) (loc' := [(4, .int (i4 + (1 : Int32))), (3, .int (i3 + (1 : Int32))), (0, .ref (gad G 0)), (1, .int v1), (2, .ref (gad G o2)), (5, .int x43)]) hK dX8_pour_123 rfl 4 rfl rfl (by decide) rfl ?_
            refine r_goto (q := 32) hK dX8_pour_126 rfl ?_
            exact sV.sub [2, 3, 4, 1, 0] (by rfl) (ih (i3 + (1 : Int32)) (i4 + (1 : Int32)) s_102)
        · refine r_ifb_eq (t := 102) (q := 77) hK dX8_pour_74 rfl rfl (fun c52 => ?_) (fun c52 => ?_)
          · refine r_aload_n (q := 78) hK dX8_pour_77 rfl rfl 1 rfl ?_
            refine gf_8_1 (q := 81) (rfl : kdC 0 = 8) hK dX8_pour_78 rfl tw_268 ?_
            refine gf_0_1 (q := 84) (rfl : kdC 57 = 0) hK dX8_pour_81 rfl tw_118 ?_
            refine r_iload (q := 86) hK dX8_pour_84 rfl 5 rfl ?_
            refine r_aald (q := 87) hK dX8_pour_86 rfl (qC13 (kd_bw (rfl : kdC 57 = 0))) (ty := .object RX7) rfl rfl (r := gad G (wrd 57 i4)) rfl (fun h53 => ?_)
            refine r_aload_n (q := 88) hK dX8_pour_87 rfl rfl 3 rfl ?_
            refine gf_3_2 (q := 91) ho2 hK dX8_pour_88 rfl tw_234 ?_
            refine r_iload (q := 93) hK dX8_pour_91 rfl 5 rfl ?_
            refine r_iald (q := 94) hK dX8_pour_93 rfl (aC23 (kd_rp ho2)) (fun h54 => ?_)
            refine r_bipush (q := 96) (v := 99) hK dX8_pour_94 rfl rfl ?_
            refine callS_i (q := 99) (As := [.int (τ (fpl o2) (snx i4)), .int (99 : Int32)]) (rest := [.ref (gad G (wrd 57 i4))]) (f := (fX8_held (τ (fpl o2) (snx i4)) (99 : Int32) τ)) hK dX8_pour_96 rfl (fun b hb => c_X8_held (τ (fpl o2) (snx i4)) (99 : Int32) τ b hb) ms_X8_held rfl rfl (Nat.le_of_ble_eq_true rfl) tw_730 mw_X8_held (rmOk (Nat.le_of_ble_eq_true rfl) (Nat.le_of_ble_eq_true rfl)) (fun r55 => ?_)
            refine pf_7_2 (q := 102) (kd_wrd (rfl : kdC 57 = 0) h53) hK dX8_pour_99 rfl tw_77 ?_
            refine sV.ltS (fun s56 => ?_)
            exact sV.sub [1, 2, 3, 4, 5, 0] (by rfl) (hk102 s56)
          · exact sV.sub [1, 2, 3, 4, 5, 0] (by rfl) (hk102 τ)
def fX8_pour  (a1 : Int32) (σ : Store) : Option (Int32 × Store) := (sbd (fX8_isSheet a1 σ) fun r1 => (if r1 = true then (six 4 a1 (sbd (fX3_isMissing (shr a1) σ) fun r4 => (if r4 = true then (some ((-1000000011 : Int32), σ)) else (fX8_pour_L32 (shr a1) FU (0 : Int32) (0 : Int32) σ)))) else (some ((-1000000001 : Int32), σ))))
theorem c_X8_pour {l0 : Launch} {G : Geo} (a1 : Int32) (σ : Store) (a : (Int32 × Store)) (hf : fX8_pour  a1 σ = some a) : sCon l0 wCls G yX8_pour cX8_pour 6 (some .int) (rmL 4 124) [.ref (gad G 0), .int a1] σ (some (.int a.1)) a.2 := by
  refine sCon.of (by decide) ⟨rfl, rfl⟩ (Nat.le_of_ble_eq_true rfl) RX8 rfl _ hf (fun K hK => ?_)
  show sV wCls G K a σ 0 [(0, .ref (gad G 0)), (1, .int a1)] [] _
  unfold fX8_pour
  refine r_iload_n (q := 1) hK dX8_pour_0 rfl rfl 1 rfl ?_
  refine callS_b (q := 4) (As := [.int a1]) (rest := []) (f := (fX8_isSheet a1 σ)) hK dX8_pour_1 rfl (fun b hb => c_X8_isSheet a1 σ b hb) ms_X8_isSheet rfl rfl (Nat.le_of_ble_eq_true rfl) tw_579 mw_X8_isSheet (rmOk (Nat.le_of_ble_eq_true rfl) (Nat.le_of_ble_eq_true rfl)) (fun r1 => ?_)
  refine r_ifb_ne (t := 10) (q := 7) hK dX8_pour_4 rfl rfl (fun c2 => ?_) (fun c2 => ?_)
  · refine r_aload_n (q := 11) hK dX8_pour_10 rfl rfl 0 rfl ?_
    refine gf_8_7 (q := 14) (rfl : kdC 0 = 8) hK dX8_pour_11 rfl tw_274 ?_
    refine r_iload_n (q := 15) hK dX8_pour_14 rfl rfl 1 rfl ?_
    refine r_aald (q := 16) hK dX8_pour_15 rfl (qC10 (rfl : kdC 26 = 10)) (ty := .object RX3) rfl rfl (r := gad G (shr a1)) rfl (fun h3 => ?_)
    refine r_astore_n (q := 17) (loc' := [(2, .ref (gad G (shr a1))), (0, .ref (gad G 0)), (1, .int a1)]) hK dX8_pour_16 rfl rfl (by decide) rfl ?_
    refine r_aload_n (q := 18) hK dX8_pour_17 rfl rfl 0 rfl ?_
    refine callV_b (q := 21) (j := (shr a1)) (As := []) (rest := []) (f := (fX3_isMissing (shr a1) σ)) hK dX8_pour_18 rfl (fun b hb => c_X3_isMissing (shr a1) (kd_shr h3) σ b hb) ⟨3, _, _, _, kd_lt (kd_shr h3) (by decide), rfl, cC3 (kd_shr h3), rfl⟩ mv_X3_isMissing rfl rfl (Nat.le_of_ble_eq_true rfl) tw_582 mw_X3_isMissing (rmOk (Nat.le_of_ble_eq_true rfl) (Nat.le_of_ble_eq_true rfl)) (fun r4 => ?_)
    refine r_ifb_eq (t := 27) (q := 24) hK dX8_pour_21 rfl rfl (fun c5 => ?_) (fun c5 => ?_)
    · refine r_ldc (q := 26) hK dX8_pour_24 rfl tw_586 ?_
      exact e_iS hK dX8_pour_26
    · refine r_iconst (q := 28) (v := 0) hK dX8_pour_27 rfl rfl ?_
      refine r_istore_n (q := 29) (loc' := [(3, .int (0 : Int32)), (2, .ref (gad G (shr a1))), (0, .ref (gad G 0)), (1, .int a1)]) hK dX8_pour_28 rfl rfl (by decide) rfl ?_
      refine r_iconst (q := 30) (v := 0) hK dX8_pour_29 rfl rfl ?_
      refine r_istore (q := 32) (loc' := [(4, .int (0 : Int32)), (3, .int (0 : Int32)), (2, .ref (gad G (shr a1))), (0, .ref (gad G 0)), (1, .int a1)]) hK dX8_pour_30 rfl (by decide) rfl ?_
      exact sV.sub [3, 4, 2, 1, 0] (by rfl) (vX8_pour_L32 σ a1 (shr a1) (kd_shr h3) hK FU (0 : Int32) (0 : Int32) σ)
  · refine r_ldc (q := 9) hK dX8_pour_7 rfl tw_317 ?_
    exact e_iS hK dX8_pour_9
def fX8_reads_L29  (o2 : Nat) (σ : Store) : Nat → Int32 → Option Int32
  | 0, _ => none
  | n + 1, i3 => (if (σ o2 1) ≤ i3 then (some (-1000000005 : Int32)) else (sbd (fX0_hasWord 57 i3 σ) fun r33 => (sjn (fun k74 : Bool → Option Int32 => (if r33 = true then (six 10 i3 (six 24 i3 (if ¬ (σ (wrd 57 i3) 4) = (σ (fpl o2) (snx i3)) then (k74 false) else (k74 true)))) else (k74 false))) (fun (z0_74 : Bool) => (sbd (fX3_isNumber o2 i3 σ) fun r38 => (if r38 = true then (if z0_74 = true then (fX8_reads_L29 o2 σ n (i3 + (1 : Int32))) else (some i3)) else (fX8_reads_L29 o2 σ n (i3 + (1 : Int32)))))))))
theorem vX8_reads_L29 {G : Geo} {K : KT} {l0 : Launch} (σ : Store) {a : Int32} (v1 : Int32) (o2 : Nat) (ho2 : kdC o2 = 3) (hK : sOk wCls G K l0 RX8 cX8_reads (rmL 4 124) 5 (some .int) (some (.int a)) σ) : ∀ (n : Nat) (i3 : Int32), sV wCls G K a σ 29 [(0, .ref (gad G 0)), (1, .int v1), (2, .ref (gad G o2)), (3, .int i3)] [] (fX8_reads_L29 o2 σ n i3) := by
  intro n
  induction n with
  | zero =>
    intro i3
    exact sV.no
  | succ n ih =>
    intro i3
    rw [fX8_reads_L29]
    refine r_iload_n (q := 30) hK dX8_reads_29 rfl rfl 3 rfl ?_
    refine r_aload_n (q := 31) hK dX8_reads_30 rfl rfl 2 rfl ?_
    refine gf_3_1 (q := 34) ho2 hK dX8_reads_31 rfl tw_232 ?_
    refine r_icmp_ge (t := 97) (q := 37) hK dX8_reads_34 rfl rfl (fun c32 => ?_) (fun c32 => ?_)
    · refine r_ldc (q := 99) hK dX8_reads_97 rfl tw_522 ?_
      exact e_i hK dX8_reads_99
    · refine r_aload_n (q := 38) hK dX8_reads_37 rfl rfl 0 rfl ?_
      refine gf_8_1 (q := 41) (rfl : kdC 0 = 8) hK dX8_reads_38 rfl tw_268 ?_
      refine r_iload_n (q := 42) hK dX8_reads_41 rfl rfl 3 rfl ?_
      refine callV_b (q := 45) (j := 57) (As := [.int i3]) (rest := []) (f := (fX0_hasWord 57 i3 σ)) hK dX8_reads_42 rfl (fun b hb => c_X0_hasWord 57 (rfl : kdC 57 = 0) i3 σ b hb) ⟨0, _, _, _, kd_lt (rfl : kdC 57 = 0) (by decide), rfl, cC0 (rfl : kdC 57 = 0), rfl⟩ mv_X0_hasWord rfl rfl (Nat.le_of_ble_eq_true rfl) tw_327 mw_X0_hasWord (rmOk (Nat.le_of_ble_eq_true rfl) (Nat.le_of_ble_eq_true rfl)) (fun r33 => ?_)
      refine sV.jn (fun k : Bool → Option Int32 => ∀ (z0_74 : Bool), sV wCls G K a σ 74 [(0, .ref (gad G 0)), (1, .int v1), (2, .ref (gad G o2)), (3, .int i3)] [.int (b2i z0_74)] (k z0_74)) (fun z0_74 => ?_) (fun k74 hk74 => ?_)
      · refine r_istore (q := 76) (loc' := [(4, .int (b2i z0_74)), (0, .ref (gad G 0)), (1, .int v1), (2, .ref (gad G o2)), (3, .int i3)]) hK dX8_reads_74 rfl (by decide) rfl ?_
        refine r_aload_n (q := 77) hK dX8_reads_76 rfl rfl 3 rfl ?_
        refine r_iload_n (q := 78) hK dX8_reads_77 rfl rfl 4 rfl ?_
        refine callV_b (q := 81) (j := o2) (As := [.int i3]) (rest := []) (f := (fX3_isNumber o2 i3 σ)) hK dX8_reads_78 rfl (fun b hb => c_X3_isNumber o2 ho2 i3 σ b hb) ⟨3, _, _, _, kd_lt ho2 (by decide), rfl, cC3 ho2, rfl⟩ mv_X3_isNumber rfl rfl (Nat.le_of_ble_eq_true rfl) tw_591 mw_X3_isNumber (rmOk (Nat.le_of_ble_eq_true rfl) (Nat.le_of_ble_eq_true rfl)) (fun r38 => ?_)
        refine r_ifb_eq (t := 91) (q := 84) hK dX8_reads_81 rfl rfl (fun c39 => ?_) (fun c39 => ?_)
        · refine r_iload (q := 86) hK dX8_reads_84 rfl 0 rfl ?_
          refine r_ifb_ne (t := 91) (q := 89) hK dX8_reads_86 rfl rfl (fun c40 => ?_) (fun c40 => ?_)
          · refine r_iinc (q := 94) (v := (i3 + (1 : Int32))) (loc' := [(3, .int (i3 + (1 : Int32))), (4, .int (b2i z0_74)), (0, .ref (gad G 0)), (1, .int v1), (2, .ref (gad G o2))]) hK dX8_reads_91 rfl 4 rfl rfl (by decide) rfl ?_
            refine r_goto (q := 29) hK dX8_reads_94 rfl ?_
            exact sV.sub [2, 3, 4, 0] (by rfl) (ih (i3 + (1 : Int32)))
          · refine r_iload_n (q := 90) hK dX8_reads_89 rfl rfl 4 rfl ?_
            exact e_i hK dX8_reads_90
        · refine r_iinc (q := 94) (v := (i3 + (1 : Int32))) (loc' := [(3, .int (i3 + (1 : Int32))), (4, .int (b2i z0_74)), (0, .ref (gad G 0)), (1, .int v1), (2, .ref (gad G o2))]) hK dX8_reads_91 rfl 4 rfl rfl (by decide) rfl ?_
          refine r_goto (q := 29) hK dX8_reads_94 rfl ?_
          exact sV.sub [2, 3, 4, 0] (by rfl) (ih (i3 + (1 : Int32)))
      · refine r_ifb_eq (t := 73) (q := 48) hK dX8_reads_45 rfl rfl (fun c41 => ?_) (fun c41 => ?_)
        · refine r_aload_n (q := 49) hK dX8_reads_48 rfl rfl 0 rfl ?_
          refine gf_8_1 (q := 52) (rfl : kdC 0 = 8) hK dX8_reads_49 rfl tw_268 ?_
          refine gf_0_1 (q := 55) (rfl : kdC 57 = 0) hK dX8_reads_52 rfl tw_118 ?_
          refine r_iload_n (q := 56) hK dX8_reads_55 rfl rfl 3 rfl ?_
          refine r_aald (q := 57) hK dX8_reads_56 rfl (qC13 (kd_bw (rfl : kdC 57 = 0))) (ty := .object RX7) rfl rfl (r := gad G (wrd 57 i3)) rfl (fun h42 => ?_)
          refine gf_7_4 (q := 60) (kd_wrd (rfl : kdC 57 = 0) h42) hK dX8_reads_57 rfl tw_83 ?_
          refine r_aload_n (q := 61) hK dX8_reads_60 rfl rfl 2 rfl ?_
          refine gf_3_2 (q := 64) ho2 hK dX8_reads_61 rfl tw_234 ?_
          refine r_iload_n (q := 65) hK dX8_reads_64 rfl rfl 3 rfl ?_
          refine r_iald (q := 66) hK dX8_reads_65 rfl (aC23 (kd_rp ho2)) (fun h43 => ?_)
          refine r_icmp_ne (t := 73) (q := 69) hK dX8_reads_66 rfl rfl (fun c44 => ?_) (fun c44 => ?_)
          · refine r_iconst (q := 74) (v := 0) hK dX8_reads_73 rfl rfl ?_
            exact sV.sub [0, 1, 2, 3] (by rfl) (hk74 false)
          · refine r_iconst (q := 70) (v := 1) hK dX8_reads_69 rfl rfl ?_
            refine r_goto (q := 74) hK dX8_reads_70 rfl ?_
            exact sV.sub [0, 1, 2, 3] (by rfl) (hk74 true)
        · refine r_iconst (q := 74) (v := 0) hK dX8_reads_73 rfl rfl ?_
          exact sV.sub [0, 1, 2, 3] (by rfl) (hk74 false)
def fX8_reads  (a1 : Int32) (σ : Store) : Option Int32 := (sbd (fX8_isSheet a1 σ) fun r1 => (if r1 = true then (six 4 a1 (sbd (fX3_isMissing (shr a1) σ) fun r4 => (if r4 = true then (some (-1000000011 : Int32)) else (fX8_reads_L29 (shr a1) σ FU (0 : Int32))))) else (some (-1000000001 : Int32))))
theorem c_X8_reads {l0 : Launch} {G : Geo} (a1 : Int32) (σ : Store) (a : Int32) (hf : fX8_reads  a1 σ = some a) : sCon l0 wCls G yX8_reads cX8_reads 5 (some .int) (rmL 4 124) [.ref (gad G 0), .int a1] σ (some (.int a)) σ := by
  refine sCon.of (by decide) ⟨rfl, rfl⟩ (Nat.le_of_ble_eq_true rfl) RX8 rfl _ hf (fun K hK => ?_)
  show sV wCls G K a σ 0 [(0, .ref (gad G 0)), (1, .int a1)] [] _
  unfold fX8_reads
  refine r_iload_n (q := 1) hK dX8_reads_0 rfl rfl 1 rfl ?_
  refine callS_b (q := 4) (As := [.int a1]) (rest := []) (f := (fX8_isSheet a1 σ)) hK dX8_reads_1 rfl (fun b hb => c_X8_isSheet a1 σ b hb) ms_X8_isSheet rfl rfl (Nat.le_of_ble_eq_true rfl) tw_579 mw_X8_isSheet (rmOk (Nat.le_of_ble_eq_true rfl) (Nat.le_of_ble_eq_true rfl)) (fun r1 => ?_)
  refine r_ifb_ne (t := 10) (q := 7) hK dX8_reads_4 rfl rfl (fun c2 => ?_) (fun c2 => ?_)
  · refine r_aload_n (q := 11) hK dX8_reads_10 rfl rfl 0 rfl ?_
    refine gf_8_7 (q := 14) (rfl : kdC 0 = 8) hK dX8_reads_11 rfl tw_274 ?_
    refine r_iload_n (q := 15) hK dX8_reads_14 rfl rfl 1 rfl ?_
    refine r_aald (q := 16) hK dX8_reads_15 rfl (qC10 (rfl : kdC 26 = 10)) (ty := .object RX3) rfl rfl (r := gad G (shr a1)) rfl (fun h3 => ?_)
    refine r_astore_n (q := 17) (loc' := [(2, .ref (gad G (shr a1))), (0, .ref (gad G 0)), (1, .int a1)]) hK dX8_reads_16 rfl rfl (by decide) rfl ?_
    refine r_aload_n (q := 18) hK dX8_reads_17 rfl rfl 0 rfl ?_
    refine callV_b (q := 21) (j := (shr a1)) (As := []) (rest := []) (f := (fX3_isMissing (shr a1) σ)) hK dX8_reads_18 rfl (fun b hb => c_X3_isMissing (shr a1) (kd_shr h3) σ b hb) ⟨3, _, _, _, kd_lt (kd_shr h3) (by decide), rfl, cC3 (kd_shr h3), rfl⟩ mv_X3_isMissing rfl rfl (Nat.le_of_ble_eq_true rfl) tw_582 mw_X3_isMissing (rmOk (Nat.le_of_ble_eq_true rfl) (Nat.le_of_ble_eq_true rfl)) (fun r4 => ?_)
    refine r_ifb_eq (t := 27) (q := 24) hK dX8_reads_21 rfl rfl (fun c5 => ?_) (fun c5 => ?_)
    · refine r_ldc (q := 26) hK dX8_reads_24 rfl tw_586 ?_
      exact e_i hK dX8_reads_26
    · refine r_iconst (q := 28) (v := 0) hK dX8_reads_27 rfl rfl ?_
      refine r_istore_n (q := 29) (loc' := [(3, .int (0 : Int32)), (2, .ref (gad G (shr a1))), (0, .ref (gad G 0)), (1, .int a1)]) hK dX8_reads_28 rfl rfl (by decide) rfl ?_
      exact sV.sub [2, 3, 1, 0] (by rfl) (vX8_reads_L29 σ a1 (shr a1) (kd_shr h3) hK FU (0 : Int32))
  · refine r_ldc (q := 9) hK dX8_reads_7 rfl tw_317 ?_
    exact e_i hK dX8_reads_9
def fX3_hasSpan  (a0 : Nat) (a1 : Int32) (a2 : Int32) (σ : Store) : Option Bool := (sbd (fX8_within a1 (0 : Int32) (σ a0 1) σ) fun r1 => (if r1 = true then (sbd (fX8_within a2 (0 : Int32) ((σ a0 1) - a1) σ) fun r3 => (if r3 = true then (some true) else (some false))) else (some false)))
theorem c_X3_hasSpan {l0 : Launch} {G : Geo} (a0 : Nat) (h0 : kdC a0 = 3) (a1 : Int32) (a2 : Int32) (σ : Store) (a : Bool) (hf : fX3_hasSpan  a0 a1 a2 σ = some a) : sCon l0 wCls G yX3_hasSpan cX3_hasSpan 3 (some .boolean) (rmL 2 82) [.ref (gad G a0), .int a1, .int a2] σ (some (.int (b2i a))) σ := by
  refine sCon.of (by decide) ⟨rfl, rfl⟩ (Nat.le_of_ble_eq_true rfl) RX3 rfl _ hf (fun K hK => ?_)
  show sV wCls G K a σ 0 [(0, .ref (gad G a0)), (1, .int a1), (2, .int a2)] [] _
  unfold fX3_hasSpan
  refine r_iload_n (q := 1) hK dX3_hasSpan_0 rfl rfl 1 rfl ?_
  refine r_iconst (q := 2) (v := 0) hK dX3_hasSpan_1 rfl rfl ?_
  refine r_aload_n (q := 3) hK dX3_hasSpan_2 rfl rfl 0 rfl ?_
  refine gf_3_1 (q := 6) h0 hK dX3_hasSpan_3 rfl tw_231 ?_
  refine callN_b (q := 9) (host := RX8) (As := [.int a1, .int (0 : Int32), .int (σ a0 1)]) (rest := []) (f := (fX8_within a1 (0 : Int32) (σ a0 1) σ)) hK dX3_hasSpan_6 rfl (fun b hb => c_X8_within a1 (0 : Int32) (σ a0 1) σ b hb) (fun s h => h.2.2) ms_X8_within rfl rfl (Nat.le_of_ble_eq_true rfl) mw_X8_within (rmOk (Nat.le_of_ble_eq_true rfl) (Nat.le_of_ble_eq_true rfl)) (fun r1 => ?_)
  refine r_ifb_eq (t := 30) (q := 12) hK dX3_hasSpan_9 rfl rfl (fun c2 => ?_) (fun c2 => ?_)
  · refine r_iload_n (q := 13) hK dX3_hasSpan_12 rfl rfl 2 rfl ?_
    refine r_iconst (q := 14) (v := 0) hK dX3_hasSpan_13 rfl rfl ?_
    refine r_aload_n (q := 15) hK dX3_hasSpan_14 rfl rfl 0 rfl ?_
    refine gf_3_1 (q := 18) h0 hK dX3_hasSpan_15 rfl tw_231 ?_
    refine r_iload_n (q := 19) hK dX3_hasSpan_18 rfl rfl 1 rfl ?_
    refine r_isub (q := 20) hK dX3_hasSpan_19 rfl ?_
    refine callN_b (q := 23) (host := RX8) (As := [.int a2, .int (0 : Int32), .int ((σ a0 1) - a1)]) (rest := []) (f := (fX8_within a2 (0 : Int32) ((σ a0 1) - a1) σ)) hK dX3_hasSpan_20 rfl (fun b hb => c_X8_within a2 (0 : Int32) ((σ a0 1) - a1) σ b hb) (fun s h => h.2.2) ms_X8_within rfl rfl (Nat.le_of_ble_eq_true rfl) mw_X8_within (rmOk (Nat.le_of_ble_eq_true rfl) (Nat.le_of_ble_eq_true rfl)) (fun r3 => ?_)
    refine r_ifb_eq (t := 30) (q := 26) hK dX3_hasSpan_23 rfl rfl (fun c4 => ?_) (fun c4 => ?_)
    · refine r_iconst (q := 27) (v := 1) hK dX3_hasSpan_26 rfl rfl ?_
      refine r_goto (q := 31) hK dX3_hasSpan_27 rfl ?_
      exact e_b (b := true) hK dX3_hasSpan_31
    · refine r_iconst (q := 31) (v := 0) hK dX3_hasSpan_30 rfl rfl ?_
      exact e_b (b := false) hK dX3_hasSpan_31
  · refine r_iconst (q := 31) (v := 0) hK dX3_hasSpan_30 rfl rfl ?_
    exact e_b (b := false) hK dX3_hasSpan_31
def fX8_copy  (a1 : Int32) (a2 : Int32) (a3 : Int32) (a4 : Int32) (a5 : Int32) (σ : Store) : Option (Int32 × Store) := (sbd (fX8_isSheet a1 σ) fun r1 => (if r1 = true then (sbd (fX8_isSheet a3 σ) fun r3 => (if r3 = true then (six 4 a1 (six 4 a3 (sbd (fX3_isMissing (shr a1) σ) fun r7 => (if r7 = true then (some ((-1000000011 : Int32), σ)) else (sbd (fX3_isMissing (shr a3) σ) fun r9 => (if r9 = true then (some ((-1000000011 : Int32), σ)) else (if (σ (shr a1) 0) = (σ (shr a3) 0) then (sbd (fX3_hasSpan (shr a1) a2 a5 σ) fun r12 => (if r12 = true then (sbd (fX3_hasSpan (shr a3) a4 a5 σ) fun r14 => (if r14 = true then (scp σ (fpl (shr a1)) 24 a2 (fpl (shr a3)) 24 a4 a5 fun s16 => (some (a5, s16))) else (some ((-1000000013 : Int32), σ)))) else (some ((-1000000013 : Int32), σ)))) else (some ((-1000000012 : Int32), σ))))))))) else (some ((-1000000001 : Int32), σ)))) else (some ((-1000000001 : Int32), σ))))
theorem c_X8_copy {l0 : Launch} {G : Geo} (a1 : Int32) (a2 : Int32) (a3 : Int32) (a4 : Int32) (a5 : Int32) (σ : Store) (a : (Int32 × Store)) (hf : fX8_copy  a1 a2 a3 a4 a5 σ = some a) : sCon l0 wCls G yX8_copy cX8_copy 8 (some .int) (rmL 3 104) [.ref (gad G 0), .int a1, .int a2, .int a3, .int a4, .int a5] σ (some (.int a.1)) a.2 := by
  refine sCon.of (by decide) ⟨rfl, rfl⟩ (Nat.le_of_ble_eq_true rfl) RX8 rfl _ hf (fun K hK => ?_)
  show sV wCls G K a σ 0 [(0, .ref (gad G 0)), (1, .int a1), (2, .int a2), (3, .int a3), (4, .int a4), (5, .int a5)] [] _
  unfold fX8_copy
  refine r_iload_n (q := 1) hK dX8_copy_0 rfl rfl 1 rfl ?_
  refine callS_b (q := 4) (As := [.int a1]) (rest := []) (f := (fX8_isSheet a1 σ)) hK dX8_copy_1 rfl (fun b hb => c_X8_isSheet a1 σ b hb) ms_X8_isSheet rfl rfl (Nat.le_of_ble_eq_true rfl) tw_579 mw_X8_isSheet (rmOk (Nat.le_of_ble_eq_true rfl) (Nat.le_of_ble_eq_true rfl)) (fun r1 => ?_)
  refine r_ifb_eq (t := 14) (q := 7) hK dX8_copy_4 rfl rfl (fun c2 => ?_) (fun c2 => ?_)
  · refine r_iload_n (q := 8) hK dX8_copy_7 rfl rfl 3 rfl ?_
    refine callS_b (q := 11) (As := [.int a3]) (rest := []) (f := (fX8_isSheet a3 σ)) hK dX8_copy_8 rfl (fun b hb => c_X8_isSheet a3 σ b hb) ms_X8_isSheet rfl rfl (Nat.le_of_ble_eq_true rfl) tw_579 mw_X8_isSheet (rmOk (Nat.le_of_ble_eq_true rfl) (Nat.le_of_ble_eq_true rfl)) (fun r3 => ?_)
    refine r_ifb_ne (t := 17) (q := 14) hK dX8_copy_11 rfl rfl (fun c4 => ?_) (fun c4 => ?_)
    · refine r_aload_n (q := 18) hK dX8_copy_17 rfl rfl 0 rfl ?_
      refine gf_8_7 (q := 21) (rfl : kdC 0 = 8) hK dX8_copy_18 rfl tw_274 ?_
      refine r_iload_n (q := 22) hK dX8_copy_21 rfl rfl 1 rfl ?_
      refine r_aald (q := 23) hK dX8_copy_22 rfl (qC10 (rfl : kdC 26 = 10)) (ty := .object RX3) rfl rfl (r := gad G (shr a1)) rfl (fun h5 => ?_)
      refine r_astore (q := 25) (loc' := [(6, .ref (gad G (shr a1))), (0, .ref (gad G 0)), (1, .int a1), (2, .int a2), (3, .int a3), (4, .int a4), (5, .int a5)]) hK dX8_copy_23 rfl (by decide) rfl ?_
      refine r_aload_n (q := 26) hK dX8_copy_25 rfl rfl 1 rfl ?_
      refine gf_8_7 (q := 29) (rfl : kdC 0 = 8) hK dX8_copy_26 rfl tw_274 ?_
      refine r_iload_n (q := 30) hK dX8_copy_29 rfl rfl 4 rfl ?_
      refine r_aald (q := 31) hK dX8_copy_30 rfl (qC10 (rfl : kdC 26 = 10)) (ty := .object RX3) rfl rfl (r := gad G (shr a3)) rfl (fun h6 => ?_)
      refine r_astore (q := 33) (loc' := [(7, .ref (gad G (shr a3))), (6, .ref (gad G (shr a1))), (0, .ref (gad G 0)), (1, .int a1), (2, .int a2), (3, .int a3), (4, .int a4), (5, .int a5)]) hK dX8_copy_31 rfl (by decide) rfl ?_
      refine r_aload (q := 35) hK dX8_copy_33 rfl 1 rfl ?_
      refine callV_b (q := 38) (j := (shr a1)) (As := []) (rest := []) (f := (fX3_isMissing (shr a1) σ)) hK dX8_copy_35 rfl (fun b hb => c_X3_isMissing (shr a1) (kd_shr h5) σ b hb) ⟨3, _, _, _, kd_lt (kd_shr h5) (by decide), rfl, cC3 (kd_shr h5), rfl⟩ mv_X3_isMissing rfl rfl (Nat.le_of_ble_eq_true rfl) tw_582 mw_X3_isMissing (rmOk (Nat.le_of_ble_eq_true rfl) (Nat.le_of_ble_eq_true rfl)) (fun r7 => ?_)
      refine r_ifb_ne (t := 49) (q := 41) hK dX8_copy_38 rfl rfl (fun c8 => ?_) (fun c8 => ?_)
      · refine r_ldc (q := 51) hK dX8_copy_49 rfl tw_586 ?_
        exact e_iS hK dX8_copy_51
      · refine r_aload (q := 43) hK dX8_copy_41 rfl 0 rfl ?_
        refine callV_b (q := 46) (j := (shr a3)) (As := []) (rest := []) (f := (fX3_isMissing (shr a3) σ)) hK dX8_copy_43 rfl (fun b hb => c_X3_isMissing (shr a3) (kd_shr h6) σ b hb) ⟨3, _, _, _, kd_lt (kd_shr h6) (by decide), rfl, cC3 (kd_shr h6), rfl⟩ mv_X3_isMissing rfl rfl (Nat.le_of_ble_eq_true rfl) tw_582 mw_X3_isMissing (rmOk (Nat.le_of_ble_eq_true rfl) (Nat.le_of_ble_eq_true rfl)) (fun r9 => ?_)
        refine r_ifb_eq (t := 52) (q := 49) hK dX8_copy_46 rfl rfl (fun c10 => ?_) (fun c10 => ?_)
        · refine r_ldc (q := 51) hK dX8_copy_49 rfl tw_586 ?_
          exact e_iS hK dX8_copy_51
        · refine r_aload (q := 54) hK dX8_copy_52 rfl 1 rfl ?_
          refine gf_3_0 (q := 57) (kd_shr h5) hK dX8_copy_54 rfl tw_230 ?_
          refine r_aload (q := 59) hK dX8_copy_57 rfl 0 rfl ?_
          refine gf_3_0 (q := 62) (kd_shr h6) hK dX8_copy_59 rfl tw_230 ?_
          refine r_icmp_eq (t := 68) (q := 65) hK dX8_copy_62 rfl rfl (fun c11 => ?_) (fun c11 => ?_)
          · refine r_aload (q := 70) hK dX8_copy_68 rfl 1 rfl ?_
            refine r_iload_n (q := 71) hK dX8_copy_70 rfl rfl 4 rfl ?_
            refine r_iload (q := 73) hK dX8_copy_71 rfl 7 rfl ?_
            refine callV_b (q := 76) (j := (shr a1)) (As := [.int a2, .int a5]) (rest := []) (f := (fX3_hasSpan (shr a1) a2 a5 σ)) hK dX8_copy_73 rfl (fun b hb => c_X3_hasSpan (shr a1) (kd_shr h5) a2 a5 σ b hb) ⟨3, _, _, _, kd_lt (kd_shr h5) (by decide), rfl, cC3 (kd_shr h5), rfl⟩ mv_X3_hasSpan rfl rfl (Nat.le_of_ble_eq_true rfl) tw_739 mw_X3_hasSpan (rmOk (Nat.le_of_ble_eq_true rfl) (Nat.le_of_ble_eq_true rfl)) (fun r12 => ?_)
            refine r_ifb_eq (t := 91) (q := 79) hK dX8_copy_76 rfl rfl (fun c13 => ?_) (fun c13 => ?_)
            · refine r_aload (q := 81) hK dX8_copy_79 rfl 0 rfl ?_
              refine r_iload (q := 83) hK dX8_copy_81 rfl 6 rfl ?_
              refine r_iload (q := 85) hK dX8_copy_83 rfl 7 rfl ?_
              refine callV_b (q := 88) (j := (shr a3)) (As := [.int a4, .int a5]) (rest := []) (f := (fX3_hasSpan (shr a3) a4 a5 σ)) hK dX8_copy_85 rfl (fun b hb => c_X3_hasSpan (shr a3) (kd_shr h6) a4 a5 σ b hb) ⟨3, _, _, _, kd_lt (kd_shr h6) (by decide), rfl, cC3 (kd_shr h6), rfl⟩ mv_X3_hasSpan rfl rfl (Nat.le_of_ble_eq_true rfl) tw_739 mw_X3_hasSpan (rmOk (Nat.le_of_ble_eq_true rfl) (Nat.le_of_ble_eq_true rfl)) (fun r14 => ?_)
              refine r_ifb_ne (t := 95) (q := 91) hK dX8_copy_88 rfl rfl (fun c15 => ?_) (fun c15 => ?_)
              · refine r_aload (q := 97) hK dX8_copy_95 rfl 1 rfl ?_
                refine gf_3_2 (q := 100) (kd_shr h5) hK dX8_copy_97 rfl tw_234 ?_
                refine r_iload_n (q := 101) hK dX8_copy_100 rfl rfl 4 rfl ?_
                refine r_aload (q := 103) hK dX8_copy_101 rfl 0 rfl ?_
                refine gf_3_2 (q := 106) (kd_shr h6) hK dX8_copy_103 rfl tw_234 ?_
                refine r_iload (q := 108) hK dX8_copy_106 rfl 6 rfl ?_
                refine r_iload (q := 110) hK dX8_copy_108 rfl 7 rfl ?_
                refine r_acp (q := 113) hK dX8_copy_110 rfl (aC23 (kd_rp (kd_shr h5))) (aC23 (kd_rp (kd_shr h6))) tw_743 mt_acp (rmM (Nat.le_of_ble_eq_true rfl) (Nat.le_of_ble_eq_true (by decide +kernel))) (fun s16 => ?_)
                refine r_iload (q := 115) hK dX8_copy_113 rfl 7 rfl ?_
                exact e_iS hK dX8_copy_115
              · refine r_ldcw (q := 94) hK dX8_copy_91 rfl tw_723 ?_
                exact e_iS hK dX8_copy_94
            · refine r_ldcw (q := 94) hK dX8_copy_91 rfl tw_723 ?_
              exact e_iS hK dX8_copy_94
          · refine r_ldc (q := 67) hK dX8_copy_65 rfl tw_385 ?_
            exact e_iS hK dX8_copy_67
    · refine r_ldc (q := 16) hK dX8_copy_14 rfl tw_317 ?_
      exact e_iS hK dX8_copy_16
  · refine r_ldc (q := 16) hK dX8_copy_14 rfl tw_317 ?_
    exact e_iS hK dX8_copy_16
def fX3_becomes  (a0 : Nat) (a1 : Nat) (σ : Store) : Option Store := (slt (sup σ a0 0 (σ a1 0)) fun s1 => (slt (sup s1 a0 1 (s1 a1 1)) fun s2 => (scp s2 (fpl a1) 24 (0 : Int32) (fpl a0) 24 (0 : Int32) (24 : Int32) fun s3 => (some s3))))
theorem c_X3_becomes {l0 : Launch} {G : Geo} (a0 : Nat) (h0 : kdC a0 = 3) (a1 : Nat) (h1 : kdC a1 = 3) (σ : Store) (a : Store) (hf : fX3_becomes  a0 a1 σ = some a) : sCon l0 wCls G yX3_becomes cX3_becomes 2 (none) (rmL 1 60) [.ref (gad G a0), .ref (gad G a1)] σ none a := by
  refine sCon.of (by decide) ⟨rfl, rfl⟩ (Nat.le_of_ble_eq_true rfl) RX3 rfl _ hf (fun K hK => ?_)
  show sV wCls G K a σ 0 [(0, .ref (gad G a0)), (1, .ref (gad G a1))] [] _
  unfold fX3_becomes
  refine r_aload_n (q := 1) hK dX3_becomes_0 rfl rfl 0 rfl ?_
  refine r_aload_n (q := 2) hK dX3_becomes_1 rfl rfl 1 rfl ?_
  refine gf_3_0 (q := 5) h1 hK dX3_becomes_2 rfl tw_229 ?_
  refine pf_3_0 (q := 8) h0 hK dX3_becomes_5 rfl tw_229 ?_
  refine sV.ltS (fun s1 => ?_)
  refine r_aload_n (q := 9) hK dX3_becomes_8 rfl rfl 0 rfl ?_
  refine r_aload_n (q := 10) hK dX3_becomes_9 rfl rfl 1 rfl ?_
  refine gf_3_1 (q := 13) h1 hK dX3_becomes_10 rfl tw_231 ?_
  refine pf_3_1 (q := 16) h0 hK dX3_becomes_13 rfl tw_231 ?_
  refine sV.ltS (fun s2 => ?_)
  refine r_aload_n (q := 17) hK dX3_becomes_16 rfl rfl 1 rfl ?_
  refine gf_3_2 (q := 20) h1 hK dX3_becomes_17 rfl tw_233 ?_
  refine r_iconst (q := 21) (v := 0) hK dX3_becomes_20 rfl rfl ?_
  refine r_aload_n (q := 22) hK dX3_becomes_21 rfl rfl 0 rfl ?_
  refine gf_3_2 (q := 25) h0 hK dX3_becomes_22 rfl tw_233 ?_
  refine r_iconst (q := 26) (v := 0) hK dX3_becomes_25 rfl rfl ?_
  refine r_bipush (q := 28) (v := 24) hK dX3_becomes_26 rfl rfl ?_
  refine r_acp (q := 31) hK dX3_becomes_28 rfl (aC23 (kd_rp h1)) (aC23 (kd_rp h0)) tw_756 mt_acp (rmM (Nat.le_of_ble_eq_true rfl) (Nat.le_of_ble_eq_true (by decide +kernel))) (fun s3 => ?_)
  exact e_vS hK dX3_becomes_31
def fX8_isSlot  (a0 : Int32) (σ : Store) : Option Bool := (sbd (fX8_within a0 (0 : Int32) (4 : Int32) σ) fun r1 => (some r1))
theorem c_X8_isSlot {l0 : Launch} {G : Geo} (a0 : Int32) (σ : Store) (a : Bool) (hf : fX8_isSlot  a0 σ = some a) : sCon l0 wCls G yX8_isSlot cX8_isSlot 1 (some .boolean) (rmL 2 82) [.int a0] σ (some (.int (b2i a))) σ := by
  refine sCon.of (by decide) ⟨rfl, rfl⟩ (Nat.le_of_ble_eq_true rfl) RX8 rfl _ hf (fun K hK => ?_)
  show sV wCls G K a σ 0 [(0, .int a0)] [] _
  unfold fX8_isSlot
  refine r_iload_n (q := 1) hK dX8_isSlot_0 rfl rfl 0 rfl ?_
  refine r_iconst (q := 2) (v := 0) hK dX8_isSlot_1 rfl rfl ?_
  refine r_iconst (q := 3) (v := 4) hK dX8_isSlot_2 rfl rfl ?_
  refine callS_b (q := 6) (As := [.int a0, .int (0 : Int32), .int (4 : Int32)]) (rest := []) (f := (fX8_within a0 (0 : Int32) (4 : Int32) σ)) hK dX8_isSlot_3 rfl (fun b hb => c_X8_within a0 (0 : Int32) (4 : Int32) σ b hb) ms_X8_within rfl rfl (Nat.le_of_ble_eq_true rfl) tw_314 mw_X8_within (rmOk (Nat.le_of_ble_eq_true rfl) (Nat.le_of_ble_eq_true rfl)) (fun r1 => ?_)
  exact e_b (b := r1) hK dX8_isSlot_6
def fX8_lay  (a1 : Int32) (a2 : Int32) (a3 : Int32) (σ : Store) : Option (Int32 × Store) := (sbd (fX8_isSlot a1 σ) fun r1 => (if r1 = true then (sbd (fX8_within a2 (0 : Int32) (3 : Int32) σ) fun r3 => (if r3 = true then (sjn (fun k35 : Unit → Option (Int32 × Store) => (if ¬ a2 = (1 : Int32) then (k35 ()) else (sbd (fX0_hasWord 57 a3 σ) fun r33 => (if r33 = true then (k35 ()) else (some ((-1000000001 : Int32), σ)))))) (fun (_u : Unit) => (sjn (fun k50 : Unit → Option (Int32 × Store) => (if ¬ a2 = (2 : Int32) then (k50 ()) else (sbd (fX8_isSheet a3 σ) fun r30 => (if r30 = true then (k50 ()) else (some ((-1000000001 : Int32), σ)))))) (fun (_u : Unit) => (sjn (fun k70 : Unit → Option (Int32 × Store) => (if ¬ a2 = (2 : Int32) then (k70 ()) else (six 4 a3 (sbd (fX3_isMissing (shr a3) σ) fun r27 => (if r27 = true then (some ((-1000000011 : Int32), σ)) else (k70 ())))))) (fun (_u : Unit) => (six 5 a1 (slt (σ (slo a1) 0) fun x16 => (slt (sup σ (slo a1) 0 a2) fun s17 => (if ¬ a2 = (1 : Int32) then (if ¬ a2 = (2 : Int32) then (slt (sup s17 (slo a1) 1 a3) fun s20 => (some (x16, s20))) else (six 4 a3 (sbd (fX3_becomes ((slo a1) + 10) (shr a3) s17) fun s22 => (some (x16, s22))))) else (six 10 a3 (sbd (fX7_becomes ((slo a1) + 5) (wrd 57 a3) s17) fun s24 => (some (x16, s24)))))))))))))) else (some ((-1000000001 : Int32), σ)))) else (some ((-1000000001 : Int32), σ))))
theorem c_X8_lay {l0 : Launch} {G : Geo} (a1 : Int32) (a2 : Int32) (a3 : Int32) (σ : Store) (a : (Int32 × Store)) (hf : fX8_lay  a1 a2 a3 σ = some a) : sCon l0 wCls G yX8_lay cX8_lay 6 (some .int) (rmL 3 103) [.ref (gad G 0), .int a1, .int a2, .int a3] σ (some (.int a.1)) a.2 := by
  refine sCon.of (by decide) ⟨rfl, rfl⟩ (Nat.le_of_ble_eq_true rfl) RX8 rfl _ hf (fun K hK => ?_)
  show sV wCls G K a σ 0 [(0, .ref (gad G 0)), (1, .int a1), (2, .int a2), (3, .int a3)] [] _
  unfold fX8_lay
  refine r_iload_n (q := 1) hK dX8_lay_0 rfl rfl 1 rfl ?_
  refine callS_b (q := 4) (As := [.int a1]) (rest := []) (f := (fX8_isSlot a1 σ)) hK dX8_lay_1 rfl (fun b hb => c_X8_isSlot a1 σ b hb) ms_X8_isSlot rfl rfl (Nat.le_of_ble_eq_true rfl) tw_748 mw_X8_isSlot (rmOk (Nat.le_of_ble_eq_true rfl) (Nat.le_of_ble_eq_true rfl)) (fun r1 => ?_)
  refine r_ifb_eq (t := 16) (q := 7) hK dX8_lay_4 rfl rfl (fun c2 => ?_) (fun c2 => ?_)
  · refine r_iload_n (q := 8) hK dX8_lay_7 rfl rfl 2 rfl ?_
    refine r_iconst (q := 9) (v := 0) hK dX8_lay_8 rfl rfl ?_
    refine r_iconst (q := 10) (v := 3) hK dX8_lay_9 rfl rfl ?_
    refine callS_b (q := 13) (As := [.int a2, .int (0 : Int32), .int (3 : Int32)]) (rest := []) (f := (fX8_within a2 (0 : Int32) (3 : Int32) σ)) hK dX8_lay_10 rfl (fun b hb => c_X8_within a2 (0 : Int32) (3 : Int32) σ b hb) ms_X8_within rfl rfl (Nat.le_of_ble_eq_true rfl) tw_314 mw_X8_within (rmOk (Nat.le_of_ble_eq_true rfl) (Nat.le_of_ble_eq_true rfl)) (fun r3 => ?_)
    refine r_ifb_ne (t := 19) (q := 16) hK dX8_lay_13 rfl rfl (fun c4 => ?_) (fun c4 => ?_)
    · refine r_iload_n (q := 20) hK dX8_lay_19 rfl rfl 2 rfl ?_
      refine r_iconst (q := 21) (v := 1) hK dX8_lay_20 rfl rfl ?_
      refine sV.jn (fun k : Unit → Option (Int32 × Store) => ∀ (_u : Unit), sV wCls G K a σ 35 [(0, .ref (gad G 0)), (1, .int a1), (2, .int a2), (3, .int a3)] [] (k ())) (fun _ => ?_) (fun k35 hk35 => ?_)
      · refine r_iload_n (q := 36) hK dX8_lay_35 rfl rfl 2 rfl ?_
        refine r_iconst (q := 37) (v := 2) hK dX8_lay_36 rfl rfl ?_
        refine sV.jn (fun k : Unit → Option (Int32 × Store) => ∀ (_u : Unit), sV wCls G K a σ 50 [(0, .ref (gad G 0)), (1, .int a1), (2, .int a2), (3, .int a3)] [] (k ())) (fun _ => ?_) (fun k50 hk50 => ?_)
        · refine r_iload_n (q := 51) hK dX8_lay_50 rfl rfl 2 rfl ?_
          refine r_iconst (q := 52) (v := 2) hK dX8_lay_51 rfl rfl ?_
          refine sV.jn (fun k : Unit → Option (Int32 × Store) => ∀ (_u : Unit), sV wCls G K a σ 70 [(0, .ref (gad G 0)), (1, .int a1), (2, .int a2), (3, .int a3)] [] (k ())) (fun _ => ?_) (fun k70 hk70 => ?_)
          · refine r_aload_n (q := 71) hK dX8_lay_70 rfl rfl 0 rfl ?_
            refine gf_8_8 (q := 74) (rfl : kdC 0 = 8) hK dX8_lay_71 rfl tw_275 ?_
            refine r_iload_n (q := 75) hK dX8_lay_74 rfl rfl 1 rfl ?_
            refine r_aald (q := 76) hK dX8_lay_75 rfl (qC11 (rfl : kdC 35 = 11)) (ty := .object RX5) rfl rfl (r := gad G (slo a1)) rfl (fun h15 => ?_)
            refine r_astore (q := 78) (loc' := [(4, .ref (gad G (slo a1))), (0, .ref (gad G 0)), (1, .int a1), (2, .int a2), (3, .int a3)]) hK dX8_lay_76 rfl (by decide) rfl ?_
            refine r_aload (q := 80) hK dX8_lay_78 rfl 0 rfl ?_
            refine gf_5_0 (q := 83) (kd_slo h15) hK dX8_lay_80 rfl tw_252 ?_
            refine sV.ltI (fun x16 => ?_)
            refine r_istore (q := 85) (loc' := [(5, .int x16), (4, .ref (gad G (slo a1))), (0, .ref (gad G 0)), (1, .int a1), (2, .int a2), (3, .int a3)]) hK dX8_lay_83 rfl (by decide) rfl ?_
            refine r_aload (q := 87) hK dX8_lay_85 rfl 1 rfl ?_
            refine r_iload_n (q := 88) hK dX8_lay_87 rfl rfl 4 rfl ?_
            refine pf_5_0 (q := 91) (kd_slo h15) hK dX8_lay_88 rfl tw_252 ?_
            refine sV.ltS (fun s17 => ?_)
            refine r_iload_n (q := 92) hK dX8_lay_91 rfl rfl 4 rfl ?_
            refine r_iconst (q := 93) (v := 1) hK dX8_lay_92 rfl rfl ?_
            refine r_icmp_ne (t := 116) (q := 96) hK dX8_lay_93 rfl rfl (fun c18 => ?_) (fun c18 => ?_)
            · refine r_iload_n (q := 117) hK dX8_lay_116 rfl rfl 4 rfl ?_
              refine r_iconst (q := 118) (v := 2) hK dX8_lay_117 rfl rfl ?_
              refine r_icmp_ne (t := 138) (q := 121) hK dX8_lay_118 rfl rfl (fun c19 => ?_) (fun c19 => ?_)
              · refine r_aload (q := 140) hK dX8_lay_138 rfl 1 rfl ?_
                refine r_iload_n (q := 141) hK dX8_lay_140 rfl rfl 5 rfl ?_
                refine pf_5_1 (q := 144) (kd_slo h15) hK dX8_lay_141 rfl tw_253 ?_
                refine sV.ltS (fun s20 => ?_)
                refine r_iload (q := 146) hK dX8_lay_144 rfl 0 rfl ?_
                exact e_iS hK dX8_lay_146
              · refine r_aload (q := 123) hK dX8_lay_121 rfl 1 rfl ?_
                refine gf_5_3 (q := 126) (kd_slo h15) hK dX8_lay_123 rfl tw_257 ?_
                refine r_aload_n (q := 127) hK dX8_lay_126 rfl rfl 2 rfl ?_
                refine gf_8_7 (q := 130) (rfl : kdC 0 = 8) hK dX8_lay_127 rfl tw_274 ?_
                refine r_iload_n (q := 131) hK dX8_lay_130 rfl rfl 5 rfl ?_
                refine r_aald (q := 132) hK dX8_lay_131 rfl (qC10 (rfl : kdC 26 = 10)) (ty := .object RX3) rfl rfl (r := gad G (shr a3)) rfl (fun h21 => ?_)
                refine callV_vS (q := 135) (j := ((slo a1) + 10)) (As := [.ref (gad G (shr a3))]) (rest := []) (f := (fX3_becomes ((slo a1) + 10) (shr a3) s17)) hK dX8_lay_132 rfl (fun b hb => c_X3_becomes ((slo a1) + 10) (kd_sr (kd_slo h15)) (shr a3) (kd_shr h21) s17 b hb) ⟨3, _, _, _, kd_lt (kd_sr (kd_slo h15)) (by decide), rfl, cC3 (kd_sr (kd_slo h15)), rfl⟩ mv_X3_becomes rfl rfl (Nat.le_of_ble_eq_true rfl) tw_752 mw_X3_becomes (rmOk (Nat.le_of_ble_eq_true rfl) (Nat.le_of_ble_eq_true rfl)) (fun s22 => ?_)
                refine r_goto (q := 144) hK dX8_lay_135 rfl ?_
                refine r_iload (q := 146) hK dX8_lay_144 rfl 0 rfl ?_
                exact e_iS hK dX8_lay_146
            · refine r_aload (q := 98) hK dX8_lay_96 rfl 1 rfl ?_
              refine gf_5_2 (q := 101) (kd_slo h15) hK dX8_lay_98 rfl tw_255 ?_
              refine r_aload_n (q := 102) hK dX8_lay_101 rfl rfl 2 rfl ?_
              refine gf_8_1 (q := 105) (rfl : kdC 0 = 8) hK dX8_lay_102 rfl tw_268 ?_
              refine gf_0_1 (q := 108) (rfl : kdC 57 = 0) hK dX8_lay_105 rfl tw_118 ?_
              refine r_iload_n (q := 109) hK dX8_lay_108 rfl rfl 5 rfl ?_
              refine r_aald (q := 110) hK dX8_lay_109 rfl (qC13 (kd_bw (rfl : kdC 57 = 0))) (ty := .object RX7) rfl rfl (r := gad G (wrd 57 a3)) rfl (fun h23 => ?_)
              refine callV_vS (q := 113) (j := ((slo a1) + 5)) (As := [.ref (gad G (wrd 57 a3))]) (rest := []) (f := (fX7_becomes ((slo a1) + 5) (wrd 57 a3) s17)) hK dX8_lay_110 rfl (fun b hb => c_X7_becomes ((slo a1) + 5) (kd_sw (kd_slo h15)) (wrd 57 a3) (kd_wrd (rfl : kdC 57 = 0) h23) s17 b hb) ⟨7, _, _, _, kd_lt (kd_sw (kd_slo h15)) (by decide), rfl, cC7 (kd_sw (kd_slo h15)), rfl⟩ mv_X7_becomes rfl rfl (Nat.le_of_ble_eq_true rfl) tw_751 mw_X7_becomes (rmOk (Nat.le_of_ble_eq_true rfl) (Nat.le_of_ble_eq_true rfl)) (fun s24 => ?_)
              refine r_goto (q := 144) hK dX8_lay_113 rfl ?_
              refine r_iload (q := 146) hK dX8_lay_144 rfl 0 rfl ?_
              exact e_iS hK dX8_lay_146
          · refine r_icmp_ne (t := 70) (q := 55) hK dX8_lay_52 rfl rfl (fun c25 => ?_) (fun c25 => ?_)
            · exact sV.sub [0, 1, 2, 3] (by rfl) (hk70 ())
            · refine r_aload_n (q := 56) hK dX8_lay_55 rfl rfl 0 rfl ?_
              refine gf_8_7 (q := 59) (rfl : kdC 0 = 8) hK dX8_lay_56 rfl tw_274 ?_
              refine r_iload_n (q := 60) hK dX8_lay_59 rfl rfl 3 rfl ?_
              refine r_aald (q := 61) hK dX8_lay_60 rfl (qC10 (rfl : kdC 26 = 10)) (ty := .object RX3) rfl rfl (r := gad G (shr a3)) rfl (fun h26 => ?_)
              refine callV_b (q := 64) (j := (shr a3)) (As := []) (rest := []) (f := (fX3_isMissing (shr a3) σ)) hK dX8_lay_61 rfl (fun b hb => c_X3_isMissing (shr a3) (kd_shr h26) σ b hb) ⟨3, _, _, _, kd_lt (kd_shr h26) (by decide), rfl, cC3 (kd_shr h26), rfl⟩ mv_X3_isMissing rfl rfl (Nat.le_of_ble_eq_true rfl) tw_582 mw_X3_isMissing (rmOk (Nat.le_of_ble_eq_true rfl) (Nat.le_of_ble_eq_true rfl)) (fun r27 => ?_)
              refine r_ifb_eq (t := 70) (q := 67) hK dX8_lay_64 rfl rfl (fun c28 => ?_) (fun c28 => ?_)
              · refine r_ldc (q := 69) hK dX8_lay_67 rfl tw_586 ?_
                exact e_iS hK dX8_lay_69
              · exact sV.sub [0, 1, 2, 3] (by rfl) (hk70 ())
        · refine r_icmp_ne (t := 50) (q := 40) hK dX8_lay_37 rfl rfl (fun c29 => ?_) (fun c29 => ?_)
          · exact sV.sub [0, 1, 2, 3] (by rfl) (hk50 ())
          · refine r_iload_n (q := 41) hK dX8_lay_40 rfl rfl 3 rfl ?_
            refine callS_b (q := 44) (As := [.int a3]) (rest := []) (f := (fX8_isSheet a3 σ)) hK dX8_lay_41 rfl (fun b hb => c_X8_isSheet a3 σ b hb) ms_X8_isSheet rfl rfl (Nat.le_of_ble_eq_true rfl) tw_579 mw_X8_isSheet (rmOk (Nat.le_of_ble_eq_true rfl) (Nat.le_of_ble_eq_true rfl)) (fun r30 => ?_)
            refine r_ifb_ne (t := 50) (q := 47) hK dX8_lay_44 rfl rfl (fun c31 => ?_) (fun c31 => ?_)
            · exact sV.sub [0, 1, 2, 3] (by rfl) (hk50 ())
            · refine r_ldc (q := 49) hK dX8_lay_47 rfl tw_317 ?_
              exact e_iS hK dX8_lay_49
      · refine r_icmp_ne (t := 35) (q := 24) hK dX8_lay_21 rfl rfl (fun c32 => ?_) (fun c32 => ?_)
        · exact sV.sub [0, 1, 2, 3] (by rfl) (hk35 ())
        · refine r_aload_n (q := 25) hK dX8_lay_24 rfl rfl 0 rfl ?_
          refine gf_8_1 (q := 28) (rfl : kdC 0 = 8) hK dX8_lay_25 rfl tw_268 ?_
          refine r_iload_n (q := 29) hK dX8_lay_28 rfl rfl 3 rfl ?_
          refine callV_b (q := 32) (j := 57) (As := [.int a3]) (rest := []) (f := (fX0_hasWord 57 a3 σ)) hK dX8_lay_29 rfl (fun b hb => c_X0_hasWord 57 (rfl : kdC 57 = 0) a3 σ b hb) ⟨0, _, _, _, kd_lt (rfl : kdC 57 = 0) (by decide), rfl, cC0 (rfl : kdC 57 = 0), rfl⟩ mv_X0_hasWord rfl rfl (Nat.le_of_ble_eq_true rfl) tw_327 mw_X0_hasWord (rmOk (Nat.le_of_ble_eq_true rfl) (Nat.le_of_ble_eq_true rfl)) (fun r33 => ?_)
          refine r_ifb_eq (t := 47) (q := 35) hK dX8_lay_32 rfl rfl (fun c34 => ?_) (fun c34 => ?_)
          · exact sV.sub [0, 1, 2, 3] (by rfl) (hk35 ())
          · refine r_ldc (q := 49) hK dX8_lay_47 rfl tw_317 ?_
            exact e_iS hK dX8_lay_49
    · refine r_ldc (q := 18) hK dX8_lay_16 rfl tw_317 ?_
      exact e_iS hK dX8_lay_18
  · refine r_ldc (q := 18) hK dX8_lay_16 rfl tw_317 ?_
    exact e_iS hK dX8_lay_18
