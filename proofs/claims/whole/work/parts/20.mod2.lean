def fX9_must  (a1 : Bool) (σ : Store) : Option Store := (sjn (fun k17 : Bool → Option Store => (if ¬ (σ 0 12) = 0 then (k17 true) else (if a1 = true then (k17 false) else (k17 true)))) (fun (z0_17 : Bool) => (slt (sup σ 0 12 (b2i z0_17)) fun s3 => (if ¬ (s3 0 12) = 0 then (some s3) else (sbd (fX9_next s3) fun s5 => (some s5))))))
theorem c_X9_must {l0 : Launch} {G : Geo} (a1 : Bool) (σ : Store) (a : Store) (hf : fX9_must  a1 σ = some a) : sCon l0 wMod G yX9_must cX9_must 2 (none) (rmL 4 124) [.ref (gad G 0), .int (b2i a1)] σ none a := by
  refine sCon.of (by decide) ⟨rfl, rfl⟩ (Nat.le_of_ble_eq_true rfl) RX9 rfl _ hf (fun K hK => ?_)
  show sV wMod G K a σ 0 [(0, .ref (gad G 0)), (1, .int (b2i a1))] [] _
  unfold fX9_must
  refine r_aload_n (q := 1) hK dX9_must_0 rfl rfl 0 rfl ?_
  refine r_aload_n (q := 2) hK dX9_must_1 rfl rfl 0 rfl ?_
  refine gf_9_12 (q := 5) hK dX9_must_2 rfl tw_816 ?_
  refine sV.jn (fun k : Bool → Option Store => ∀ (z0_17 : Bool), sV wMod G K a σ 17 [(0, .ref (gad G 0)), (1, .int (b2i a1))] [.int (b2i z0_17), .ref (gad G 0)] (k z0_17)) (fun z0_17 => ?_) (fun k17 hk17 => ?_)
  · refine pf_9_12 (q := 20) (b := z0_17) hK dX9_must_17 rfl tw_816 ?_
    refine sV.ltS (fun s3 => ?_)
    refine r_aload_n (q := 21) hK dX9_must_20 rfl rfl 0 rfl ?_
    refine gf_9_12 (q := 24) hK dX9_must_21 rfl tw_816 ?_
    refine r_if_ne (t := 31) (q := 27) hK dX9_must_24 rfl rfl (fun c4 => ?_) (fun c4 => ?_)
    · exact e_vS hK dX9_must_31
    · refine r_aload_n (q := 28) hK dX9_must_27 rfl rfl 0 rfl ?_
      refine callV_vS (q := 31) (j := 0) (As := []) (rest := []) (f := (fX9_next s3)) hK dX9_must_28 rfl (fun b hb => c_X9_next s3 b hb) ⟨9, _, _, _, by decide, rfl, cM, rfl⟩ mv_X9_next rfl rfl (Nat.le_of_ble_eq_true rfl) tw_1151 mw_X9_next (rmOk (Nat.le_of_ble_eq_true rfl) (Nat.le_of_ble_eq_true rfl)) (fun s5 => ?_)
      exact e_vS hK dX9_must_31
  · refine r_if_ne (t := 12) (q := 8) hK dX9_must_5 rfl rfl (fun c6 => ?_) (fun c6 => ?_)
    · refine r_iconst (q := 13) (v := 1) hK dX9_must_12 rfl rfl ?_
      refine r_goto (q := 17) hK dX9_must_13 rfl ?_
      exact sV.sub [0, 1] (by rfl) (hk17 true)
    · refine r_iload_n (q := 9) hK dX9_must_8 rfl rfl 1 rfl ?_
      refine r_ifb_ne (t := 16) (q := 12) hK dX9_must_9 rfl rfl (fun c7 => ?_) (fun c7 => ?_)
      · refine r_iconst (q := 17) (v := 0) hK dX9_must_16 rfl rfl ?_
        exact sV.sub [0, 1] (by rfl) (hk17 false)
      · refine r_iconst (q := 13) (v := 1) hK dX9_must_12 rfl rfl ?_
        refine r_goto (q := 17) hK dX9_must_13 rfl ?_
        exact sV.sub [0, 1] (by rfl) (hk17 true)
def fX9_isSign  (a1 : Int32) (σ : Store) : Option Bool := (if ¬ (σ 0 12) = 0 then (some false) else (if ¬ (σ 0 11) = (3 : Int32) then (some false) else (six 96 (σ 0 9) (if ¬ (σ 5 (snx (σ 0 9))) = a1 then (some false) else (some true)))))
theorem c_X9_isSign {l0 : Launch} {G : Geo} (a1 : Int32) (σ : Store) (a : Bool) (hf : fX9_isSign  a1 σ = some a) : sCon l0 wMod G yX9_isSign cX9_isSign 2 (some .boolean) (rmL 1 60) [.ref (gad G 0), .int a1] σ (some (.int (b2i a))) σ := by
  refine sCon.of (by decide) ⟨rfl, rfl⟩ (Nat.le_of_ble_eq_true rfl) RX9 rfl _ hf (fun K hK => ?_)
  show sV wMod G K a σ 0 [(0, .ref (gad G 0)), (1, .int a1)] [] _
  unfold fX9_isSign
  refine r_aload_n (q := 1) hK dX9_isSign_0 rfl rfl 0 rfl ?_
  refine gf_9_12 (q := 4) hK dX9_isSign_1 rfl tw_816 ?_
  refine r_if_ne (t := 32) (q := 7) hK dX9_isSign_4 rfl rfl (fun c1 => ?_) (fun c1 => ?_)
  · refine r_iconst (q := 33) (v := 0) hK dX9_isSign_32 rfl rfl ?_
    exact e_b (b := false) hK dX9_isSign_33
  · refine r_aload_n (q := 8) hK dX9_isSign_7 rfl rfl 0 rfl ?_
    refine gf_9_11 (q := 11) hK dX9_isSign_8 rfl tw_815 ?_
    refine r_iconst (q := 12) (v := 3) hK dX9_isSign_11 rfl rfl ?_
    refine r_icmp_ne (t := 32) (q := 15) hK dX9_isSign_12 rfl rfl (fun c2 => ?_) (fun c2 => ?_)
    · refine r_iconst (q := 33) (v := 0) hK dX9_isSign_32 rfl rfl ?_
      exact e_b (b := false) hK dX9_isSign_33
    · refine r_aload_n (q := 16) hK dX9_isSign_15 rfl rfl 0 rfl ?_
      refine gf_9_5 (q := 19) hK dX9_isSign_16 rfl tw_809 ?_
      refine r_aload_n (q := 20) hK dX9_isSign_19 rfl rfl 0 rfl ?_
      refine gf_9_9 (q := 23) hK dX9_isSign_20 rfl tw_813 ?_
      refine r_iald (q := 24) hK dX9_isSign_23 rfl aM5 (fun h3 => ?_)
      refine r_iload_n (q := 25) hK dX9_isSign_24 rfl rfl 1 rfl ?_
      refine r_icmp_ne (t := 32) (q := 28) hK dX9_isSign_25 rfl rfl (fun c4 => ?_) (fun c4 => ?_)
      · refine r_iconst (q := 33) (v := 0) hK dX9_isSign_32 rfl rfl ?_
        exact e_b (b := false) hK dX9_isSign_33
      · refine r_iconst (q := 29) (v := 1) hK dX9_isSign_28 rfl rfl ?_
        refine r_goto (q := 33) hK dX9_isSign_29 rfl ?_
        exact e_b (b := true) hK dX9_isSign_33
def fX9_step  (a1 : Int32) (σ : Store) : Option Store := (if ¬ (σ 0 12) = 0 then (some σ) else (six 100 (σ 0 17) (slt (sup σ 8 (snx (σ 0 17)) a1) fun s3 => (slt (sup s3 0 17 ((s3 0 17) + (1 : Int32))) fun s4 => (some s4)))))
theorem c_X9_step {l0 : Launch} {G : Geo} (a1 : Int32) (σ : Store) (a : Store) (hf : fX9_step  a1 σ = some a) : sCon l0 wMod G yX9_step cX9_step 2 (none) (rmL 1 60) [.ref (gad G 0), .int a1] σ none a := by
  refine sCon.of (by decide) ⟨rfl, rfl⟩ (Nat.le_of_ble_eq_true rfl) RX9 rfl _ hf (fun K hK => ?_)
  show sV wMod G K a σ 0 [(0, .ref (gad G 0)), (1, .int a1)] [] _
  unfold fX9_step
  refine r_aload_n (q := 1) hK dX9_step_0 rfl rfl 0 rfl ?_
  refine gf_9_12 (q := 4) hK dX9_step_1 rfl tw_816 ?_
  refine r_if_ne (t := 27) (q := 7) hK dX9_step_4 rfl rfl (fun c1 => ?_) (fun c1 => ?_)
  · exact e_vS hK dX9_step_27
  · refine r_aload_n (q := 8) hK dX9_step_7 rfl rfl 0 rfl ?_
    refine gf_9_18 (q := 11) hK dX9_step_8 rfl tw_822 ?_
    refine r_aload_n (q := 12) hK dX9_step_11 rfl rfl 0 rfl ?_
    refine gf_9_17 (q := 15) hK dX9_step_12 rfl tw_821 ?_
    refine r_iload_n (q := 16) hK dX9_step_15 rfl rfl 1 rfl ?_
    refine r_iast (q := 17) hK dX9_step_16 rfl aM8 (fun h2 => ?_)
    refine sV.ltS (fun s3 => ?_)
    refine r_aload_n (q := 18) hK dX9_step_17 rfl rfl 0 rfl ?_
    refine r_dup (q := 19) hK dX9_step_18 rfl rfl ?_
    refine gf_9_17 (q := 22) hK dX9_step_19 rfl tw_821 ?_
    refine r_iconst (q := 23) (v := 1) hK dX9_step_22 rfl rfl ?_
    refine r_iadd (q := 24) hK dX9_step_23 rfl ?_
    refine pf_9_17 (q := 27) hK dX9_step_24 rfl tw_821 ?_
    refine sV.ltS (fun s4 => ?_)
    exact e_vS hK dX9_step_27
def fX9_spells_L32  (o1 : Nat) (σ : Store) : Nat → Bool → Int32 → Option Bool
  | 0, _, _ => none
  | n + 1, i2, i3 => (sbd (fJ0_length_8abf5 o1 σ) fun r16 => (if r16 ≤ i3 then (some i2) else (if i2 = true then (six 96 ((σ 0 9) + i3) (sbd (fJ0_charAt_5068e o1 i3 σ) fun r20 => (if ¬ (σ 5 (snx ((σ 0 9) + i3))) = r20 then (fX9_spells_L32 o1 σ n false (i3 + (1 : Int32))) else (fX9_spells_L32 o1 σ n true (i3 + (1 : Int32)))))) else (some i2))))
theorem vX9_spells_L32 {G : Geo} {K : KT} {l0 : Launch} (σ : Store) {a : Bool} (o1 : Nat) (ho1 : o1 < 6) (hK : sOk wMod G K l0 RX9 cX9_spells (rmL 5 221) 4 (some .boolean) (some (.int (b2i a))) σ) : ∀ (n : Nat) (i2 : Bool) (i3 : Int32), sV wMod G K a σ 32 [(0, .ref (gad G 0)), (1, .ref (gsk G o1)), (2, .int (b2i i2)), (3, .int i3)] [] (fX9_spells_L32 o1 σ n i2 i3) := by
  intro n
  induction n with
  | zero =>
    intro i2 i3
    exact sV.no
  | succ n ih =>
    intro i2 i3
    rw [fX9_spells_L32]
    refine r_iload_n (q := 33) hK dX9_spells_32 rfl rfl 3 rfl ?_
    refine r_aload_n (q := 34) hK dX9_spells_33 rfl rfl 1 rfl ?_
    refine callT_i (q := 37) (As := []) (rest := [.int i3]) (f := (fJ0_length_8abf5 o1 σ)) hK dX9_spells_34 rfl (fun b hb => c_J0_length_8abf5 o1 ho1 σ b hb) ho1 mv_J0_length_8abf5 rfl rfl (Nat.le_of_ble_eq_true rfl) tw_1169 mw_J0_length_8abf5 (rmOk (Nat.le_of_ble_eq_true rfl) (Nat.le_of_ble_eq_true rfl)) (fun r16 => ?_)
    refine r_icmp_ge (t := 75) (q := 40) hK dX9_spells_37 rfl rfl (fun c17 => ?_) (fun c17 => ?_)
    · refine r_iload_n (q := 76) hK dX9_spells_75 rfl rfl 2 rfl ?_
      exact e_b (b := i2) hK dX9_spells_76
    · refine r_iload_n (q := 41) hK dX9_spells_40 rfl rfl 2 rfl ?_
      refine r_ifb_eq (t := 75) (q := 44) hK dX9_spells_41 rfl rfl (fun c18 => ?_) (fun c18 => ?_)
      · refine r_aload_n (q := 45) hK dX9_spells_44 rfl rfl 0 rfl ?_
        refine gf_9_5 (q := 48) hK dX9_spells_45 rfl tw_809 ?_
        refine r_aload_n (q := 49) hK dX9_spells_48 rfl rfl 0 rfl ?_
        refine gf_9_9 (q := 52) hK dX9_spells_49 rfl tw_813 ?_
        refine r_iload_n (q := 53) hK dX9_spells_52 rfl rfl 3 rfl ?_
        refine r_iadd (q := 54) hK dX9_spells_53 rfl ?_
        refine r_iald (q := 55) hK dX9_spells_54 rfl aM5 (fun h19 => ?_)
        refine r_aload_n (q := 56) hK dX9_spells_55 rfl rfl 1 rfl ?_
        refine r_iload_n (q := 57) hK dX9_spells_56 rfl rfl 3 rfl ?_
        refine callT_i (q := 60) (As := [.int i3]) (rest := [.int (σ 5 (snx ((σ 0 9) + i3)))]) (f := (fJ0_charAt_5068e o1 i3 σ)) hK dX9_spells_57 rfl (fun b hb => c_J0_charAt_5068e o1 ho1 i3 σ b hb) ho1 mv_J0_charAt_5068e rfl rfl (Nat.le_of_ble_eq_true rfl) tw_1179 mw_J0_charAt_5068e (rmOk (Nat.le_of_ble_eq_true rfl) (Nat.le_of_ble_eq_true rfl)) (fun r20 => ?_)
        refine r_icmp_ne (t := 67) (q := 63) hK dX9_spells_60 rfl rfl (fun c21 => ?_) (fun c21 => ?_)
        · refine r_iconst (q := 68) (v := 0) hK dX9_spells_67 rfl rfl ?_
          refine r_istore_n (q := 69) (loc' := [(2, .int (0 : Int32)), (0, .ref (gad G 0)), (1, .ref (gsk G o1)), (3, .int i3)]) hK dX9_spells_68 rfl rfl (by decide) rfl ?_
          refine r_iinc (q := 72) (v := (i3 + (1 : Int32))) (loc' := [(3, .int (i3 + (1 : Int32))), (2, .int (0 : Int32)), (0, .ref (gad G 0)), (1, .ref (gsk G o1))]) hK dX9_spells_69 rfl 3 rfl rfl (by decide) rfl ?_
          refine r_goto (q := 32) hK dX9_spells_72 rfl ?_
          exact sV.sub [2, 3, 1, 0] (by rfl) (ih false (i3 + (1 : Int32)))
        · refine r_iconst (q := 64) (v := 1) hK dX9_spells_63 rfl rfl ?_
          refine r_goto (q := 68) hK dX9_spells_64 rfl ?_
          refine r_istore_n (q := 69) (loc' := [(2, .int (1 : Int32)), (0, .ref (gad G 0)), (1, .ref (gsk G o1)), (3, .int i3)]) hK dX9_spells_68 rfl rfl (by decide) rfl ?_
          refine r_iinc (q := 72) (v := (i3 + (1 : Int32))) (loc' := [(3, .int (i3 + (1 : Int32))), (2, .int (1 : Int32)), (0, .ref (gad G 0)), (1, .ref (gsk G o1))]) hK dX9_spells_69 rfl 3 rfl rfl (by decide) rfl ?_
          refine r_goto (q := 32) hK dX9_spells_72 rfl ?_
          exact sV.sub [2, 3, 1, 0] (by rfl) (ih true (i3 + (1 : Int32)))
      · refine r_iload_n (q := 76) hK dX9_spells_75 rfl rfl 2 rfl ?_
        exact e_b (b := i2) hK dX9_spells_76
def fX9_spells  (a1 : Nat) (σ : Store) : Option Bool := (sjn (fun k29 : Bool → Option Bool => (if ¬ (σ 0 11) = (1 : Int32) then (k29 false) else (sbd (fJ0_length_8abf5 a1 σ) fun r23 => (if ¬ ((σ 0 10) - (σ 0 9)) = r23 then (k29 false) else (k29 true))))) (fun (z0_29 : Bool) => (fX9_spells_L32 a1 σ FU z0_29 (0 : Int32))))
theorem c_X9_spells {l0 : Launch} {G : Geo} (a1 : Nat) (h1 : a1 < 6) (σ : Store) (a : Bool) (hf : fX9_spells  a1 σ = some a) : sCon l0 wMod G yX9_spells cX9_spells 4 (some .boolean) (rmL 5 221) [.ref (gad G 0), .ref (gsk G a1)] σ (some (.int (b2i a))) σ := by
  refine sCon.of (by decide) ⟨rfl, rfl⟩ (Nat.le_of_ble_eq_true rfl) RX9 rfl _ hf (fun K hK => ?_)
  show sV wMod G K a σ 0 [(0, .ref (gad G 0)), (1, .ref (gsk G a1))] [] _
  unfold fX9_spells
  refine r_aload_n (q := 1) hK dX9_spells_0 rfl rfl 0 rfl ?_
  refine gf_9_11 (q := 4) hK dX9_spells_1 rfl tw_815 ?_
  refine r_iconst (q := 5) (v := 1) hK dX9_spells_4 rfl rfl ?_
  refine sV.jn (fun k : Bool → Option Bool => ∀ (z0_29 : Bool), sV wMod G K a σ 29 [(0, .ref (gad G 0)), (1, .ref (gsk G a1))] [.int (b2i z0_29)] (k z0_29)) (fun z0_29 => ?_) (fun k29 hk29 => ?_)
  · refine r_istore_n (q := 30) (loc' := [(2, .int (b2i z0_29)), (0, .ref (gad G 0)), (1, .ref (gsk G a1))]) hK dX9_spells_29 rfl rfl (by decide) rfl ?_
    refine r_iconst (q := 31) (v := 0) hK dX9_spells_30 rfl rfl ?_
    refine r_istore_n (q := 32) (loc' := [(3, .int (0 : Int32)), (2, .int (b2i z0_29)), (0, .ref (gad G 0)), (1, .ref (gsk G a1))]) hK dX9_spells_31 rfl rfl (by decide) rfl ?_
    exact sV.sub [2, 3, 1, 0] (by rfl) (vX9_spells_L32 σ a1 h1 hK FU z0_29 (0 : Int32))
  · refine r_icmp_ne (t := 28) (q := 8) hK dX9_spells_5 rfl rfl (fun c22 => ?_) (fun c22 => ?_)
    · refine r_iconst (q := 29) (v := 0) hK dX9_spells_28 rfl rfl ?_
      exact sV.sub [0, 1] (by rfl) (hk29 false)
    · refine r_aload_n (q := 9) hK dX9_spells_8 rfl rfl 0 rfl ?_
      refine gf_9_10 (q := 12) hK dX9_spells_9 rfl tw_814 ?_
      refine r_aload_n (q := 13) hK dX9_spells_12 rfl rfl 0 rfl ?_
      refine gf_9_9 (q := 16) hK dX9_spells_13 rfl tw_813 ?_
      refine r_isub (q := 17) hK dX9_spells_16 rfl ?_
      refine r_aload_n (q := 18) hK dX9_spells_17 rfl rfl 1 rfl ?_
      refine callT_i (q := 21) (As := []) (rest := [.int ((σ 0 10) - (σ 0 9))]) (f := (fJ0_length_8abf5 a1 σ)) hK dX9_spells_18 rfl (fun b hb => c_J0_length_8abf5 a1 h1 σ b hb) h1 mv_J0_length_8abf5 rfl rfl (Nat.le_of_ble_eq_true rfl) tw_1169 mw_J0_length_8abf5 (rmOk (Nat.le_of_ble_eq_true rfl) (Nat.le_of_ble_eq_true rfl)) (fun r23 => ?_)
      refine r_icmp_ne (t := 28) (q := 24) hK dX9_spells_21 rfl rfl (fun c24 => ?_) (fun c24 => ?_)
      · refine r_iconst (q := 29) (v := 0) hK dX9_spells_28 rfl rfl ?_
        exact sV.sub [0, 1] (by rfl) (hk29 false)
      · refine r_iconst (q := 25) (v := 1) hK dX9_spells_24 rfl rfl ?_
        refine r_goto (q := 29) hK dX9_spells_25 rfl ?_
        exact sV.sub [0, 1] (by rfl) (hk29 true)
def fX9_readLeaf_L63   (σ : Store) (k : Int32 → Int32 → Option Store) : Nat → Int32 → Int32 → Option Store
  | 0, _, _ => none
  | n + 1, i2, i3 => (six 3 (σ 0 13) (sbd (fJ0_length_8abf5 (3 + snx (σ 0 13)) σ) fun r34 => (if r34 ≤ i3 then (k i2 i3) else (if ¬ (σ 0 11) = (1 : Int32) then (k i2 i3) else (if ¬ (σ 0 10) = ((σ 0 9) + (1 : Int32)) then (k i2 i3) else (six 96 (σ 0 9) (six 3 (σ 0 13) (sbd (fJ0_charAt_5068e (3 + snx (σ 0 13)) i3 σ) fun r40 => (if ¬ (σ 5 (snx (σ 0 9))) = r40 then (fX9_readLeaf_L63 σ k n i2 (i3 + (1 : Int32))) else (fX9_readLeaf_L63 σ k n i3 (i3 + (1 : Int32))))))))))))
theorem vX9_readLeaf_L63 {G : Geo} {K : KT} {l0 : Launch} (σ : Store) {a : Store} (v1 : Int32) (hK : sOk wMod G K l0 RX9 cX9_readLeaf (rmL 5 221) 4 (none) none a) (k : Int32 → Int32 → Option Store) (hk : ∀ (e2 : Int32) (e3 : Int32), sV wMod G K a σ 137 [(0, .ref (gad G 0)), (1, .int v1), (2, .int e2), (3, .int e3)] [] (k e2 e3)) : ∀ (n : Nat) (i2 : Int32) (i3 : Int32), sV wMod G K a σ 63 [(0, .ref (gad G 0)), (1, .int v1), (2, .int i2), (3, .int i3)] [] (fX9_readLeaf_L63 σ k n i2 i3) := by
  intro n
  induction n with
  | zero =>
    intro i2 i3
    exact sV.no
  | succ n ih =>
    intro i2 i3
    rw [fX9_readLeaf_L63]
    refine r_iload_n (q := 64) hK dX9_readLeaf_63 rfl rfl 3 rfl ?_
    refine r_aload_n (q := 65) hK dX9_readLeaf_64 rfl rfl 0 rfl ?_
    refine gf_9_8 (q := 68) hK dX9_readLeaf_65 rfl tw_812 ?_
    refine r_aload_n (q := 69) hK dX9_readLeaf_68 rfl rfl 0 rfl ?_
    refine gf_9_13 (q := 72) hK dX9_readLeaf_69 rfl tw_817 ?_
    refine r_aald (q := 73) hK dX9_readLeaf_72 rfl qM7 (ty := .object "java/lang/String") rfl rfl (r := gsk G (3 + snx (σ 0 13))) rfl (fun h33 => ?_)
    refine callT_i (q := 76) (As := []) (rest := [.int i3]) (f := (fJ0_length_8abf5 (3 + snx (σ 0 13)) σ)) hK dX9_readLeaf_73 rfl (fun b hb => c_J0_length_8abf5 (3 + snx (σ 0 13)) (by have := snx_lt h33; omega) σ b hb) (by have := snx_lt h33; omega) mv_J0_length_8abf5 rfl rfl (Nat.le_of_ble_eq_true rfl) tw_1169 mw_J0_length_8abf5 (rmOk (Nat.le_of_ble_eq_true rfl) (Nat.le_of_ble_eq_true rfl)) (fun r34 => ?_)
    refine r_icmp_ge (t := 137) (q := 79) hK dX9_readLeaf_76 rfl rfl (fun c35 => ?_) (fun c35 => ?_)
    · exact sV.sub [0, 1, 2, 3] (by rfl) (hk i2 i3)
    · refine r_aload_n (q := 80) hK dX9_readLeaf_79 rfl rfl 0 rfl ?_
      refine gf_9_11 (q := 83) hK dX9_readLeaf_80 rfl tw_815 ?_
      refine r_iconst (q := 84) (v := 1) hK dX9_readLeaf_83 rfl rfl ?_
      refine r_icmp_ne (t := 137) (q := 87) hK dX9_readLeaf_84 rfl rfl (fun c36 => ?_) (fun c36 => ?_)
      · exact sV.sub [0, 1, 2, 3] (by rfl) (hk i2 i3)
      · refine r_aload_n (q := 88) hK dX9_readLeaf_87 rfl rfl 0 rfl ?_
        refine gf_9_10 (q := 91) hK dX9_readLeaf_88 rfl tw_814 ?_
        refine r_aload_n (q := 92) hK dX9_readLeaf_91 rfl rfl 0 rfl ?_
        refine gf_9_9 (q := 95) hK dX9_readLeaf_92 rfl tw_813 ?_
        refine r_iconst (q := 96) (v := 1) hK dX9_readLeaf_95 rfl rfl ?_
        refine r_iadd (q := 97) hK dX9_readLeaf_96 rfl ?_
        refine r_icmp_ne (t := 137) (q := 100) hK dX9_readLeaf_97 rfl rfl (fun c37 => ?_) (fun c37 => ?_)
        · exact sV.sub [0, 1, 2, 3] (by rfl) (hk i2 i3)
        · refine r_aload_n (q := 101) hK dX9_readLeaf_100 rfl rfl 0 rfl ?_
          refine gf_9_5 (q := 104) hK dX9_readLeaf_101 rfl tw_809 ?_
          refine r_aload_n (q := 105) hK dX9_readLeaf_104 rfl rfl 0 rfl ?_
          refine gf_9_9 (q := 108) hK dX9_readLeaf_105 rfl tw_813 ?_
          refine r_iald (q := 109) hK dX9_readLeaf_108 rfl aM5 (fun h38 => ?_)
          refine r_aload_n (q := 110) hK dX9_readLeaf_109 rfl rfl 0 rfl ?_
          refine gf_9_8 (q := 113) hK dX9_readLeaf_110 rfl tw_812 ?_
          refine r_aload_n (q := 114) hK dX9_readLeaf_113 rfl rfl 0 rfl ?_
          refine gf_9_13 (q := 117) hK dX9_readLeaf_114 rfl tw_817 ?_
          refine r_aald (q := 118) hK dX9_readLeaf_117 rfl qM7 (ty := .object "java/lang/String") rfl rfl (r := gsk G (3 + snx (σ 0 13))) rfl (fun h39 => ?_)
          refine r_iload_n (q := 119) hK dX9_readLeaf_118 rfl rfl 3 rfl ?_
          refine callT_i (q := 122) (As := [.int i3]) (rest := [.int (σ 5 (snx (σ 0 9)))]) (f := (fJ0_charAt_5068e (3 + snx (σ 0 13)) i3 σ)) hK dX9_readLeaf_119 rfl (fun b hb => c_J0_charAt_5068e (3 + snx (σ 0 13)) (by have := snx_lt h39; omega) i3 σ b hb) (by have := snx_lt h39; omega) mv_J0_charAt_5068e rfl rfl (Nat.le_of_ble_eq_true rfl) tw_1179 mw_J0_charAt_5068e (rmOk (Nat.le_of_ble_eq_true rfl) (Nat.le_of_ble_eq_true rfl)) (fun r40 => ?_)
          refine r_icmp_ne (t := 129) (q := 125) hK dX9_readLeaf_122 rfl rfl (fun c41 => ?_) (fun c41 => ?_)
          · refine r_iload_n (q := 130) hK dX9_readLeaf_129 rfl rfl 2 rfl ?_
            refine r_istore_n (q := 131) (loc' := [(2, .int i2), (0, .ref (gad G 0)), (1, .int v1), (3, .int i3)]) hK dX9_readLeaf_130 rfl rfl (by decide) rfl ?_
            refine r_iinc (q := 134) (v := (i3 + (1 : Int32))) (loc' := [(3, .int (i3 + (1 : Int32))), (2, .int i2), (0, .ref (gad G 0)), (1, .int v1)]) hK dX9_readLeaf_131 rfl 3 rfl rfl (by decide) rfl ?_
            refine r_goto (q := 63) hK dX9_readLeaf_134 rfl ?_
            exact sV.sub [2, 3, 1, 0] (by rfl) (ih i2 (i3 + (1 : Int32)))
          · refine r_iload_n (q := 126) hK dX9_readLeaf_125 rfl rfl 3 rfl ?_
            refine r_goto (q := 130) hK dX9_readLeaf_126 rfl ?_
            refine r_istore_n (q := 131) (loc' := [(2, .int i3), (0, .ref (gad G 0)), (1, .int v1), (3, .int i3)]) hK dX9_readLeaf_130 rfl rfl (by decide) rfl ?_
            refine r_iinc (q := 134) (v := (i3 + (1 : Int32))) (loc' := [(3, .int (i3 + (1 : Int32))), (2, .int i3), (0, .ref (gad G 0)), (1, .int v1)]) hK dX9_readLeaf_131 rfl 3 rfl rfl (by decide) rfl ?_
            refine r_goto (q := 63) hK dX9_readLeaf_134 rfl ?_
            exact sV.sub [2, 3, 1, 0] (by rfl) (ih i3 (i3 + (1 : Int32)))
def fX9_readLeaf_L30   (σ : Store) (k : Int32 → Int32 → Option Store) : Nat → Int32 → Int32 → Option Store
  | 0, _, _ => none
  | n + 1, i1, i2 => (if (σ 0 10) ≤ i2 then (k i1 i2) else (six 96 i2 (slt ((((10 : Int32) * i1) + (σ 5 (snx i2))) - (48 : Int32)) fun x64 => (fX9_readLeaf_L30 σ k n x64 (i2 + (1 : Int32))))))
theorem vX9_readLeaf_L30 {G : Geo} {K : KT} {l0 : Launch} (σ : Store) {a : Store}  (hK : sOk wMod G K l0 RX9 cX9_readLeaf (rmL 5 221) 4 (none) none a) (k : Int32 → Int32 → Option Store) (hk : ∀ (e1 : Int32) (e2 : Int32), sV wMod G K a σ 59 [(0, .ref (gad G 0)), (1, .int e1), (2, .int e2)] [] (k e1 e2)) : ∀ (n : Nat) (i1 : Int32) (i2 : Int32), sV wMod G K a σ 30 [(0, .ref (gad G 0)), (1, .int i1), (2, .int i2)] [] (fX9_readLeaf_L30 σ k n i1 i2) := by
  intro n
  induction n with
  | zero =>
    intro i1 i2
    exact sV.no
  | succ n ih =>
    intro i1 i2
    rw [fX9_readLeaf_L30]
    refine r_iload_n (q := 31) hK dX9_readLeaf_30 rfl rfl 2 rfl ?_
    refine r_aload_n (q := 32) hK dX9_readLeaf_31 rfl rfl 0 rfl ?_
    refine gf_9_10 (q := 35) hK dX9_readLeaf_32 rfl tw_814 ?_
    refine r_icmp_ge (t := 59) (q := 38) hK dX9_readLeaf_35 rfl rfl (fun c62 => ?_) (fun c62 => ?_)
    · exact sV.sub [0, 1, 2] (by rfl) (hk i1 i2)
    · refine r_bipush (q := 40) (v := 10) hK dX9_readLeaf_38 rfl rfl ?_
      refine r_iload_n (q := 41) hK dX9_readLeaf_40 rfl rfl 1 rfl ?_
      refine r_imul (q := 42) hK dX9_readLeaf_41 rfl ?_
      refine r_aload_n (q := 43) hK dX9_readLeaf_42 rfl rfl 0 rfl ?_
      refine gf_9_5 (q := 46) hK dX9_readLeaf_43 rfl tw_809 ?_
      refine r_iload_n (q := 47) hK dX9_readLeaf_46 rfl rfl 2 rfl ?_
      refine r_iald (q := 48) hK dX9_readLeaf_47 rfl aM5 (fun h63 => ?_)
      refine r_iadd (q := 49) hK dX9_readLeaf_48 rfl ?_
      refine r_bipush (q := 51) (v := 48) hK dX9_readLeaf_49 rfl rfl ?_
      refine r_isub (q := 52) hK dX9_readLeaf_51 rfl ?_
      refine sV.ltI (fun x64 => ?_)
      refine r_istore_n (q := 53) (loc' := [(1, .int x64), (0, .ref (gad G 0)), (2, .int i2)]) hK dX9_readLeaf_52 rfl rfl (by decide) rfl ?_
      refine r_iinc (q := 56) (v := (i2 + (1 : Int32))) (loc' := [(2, .int (i2 + (1 : Int32))), (1, .int x64), (0, .ref (gad G 0))]) hK dX9_readLeaf_53 rfl 2 rfl rfl (by decide) rfl ?_
      refine r_goto (q := 30) hK dX9_readLeaf_56 rfl ?_
      exact sV.sub [2, 1, 0] (by rfl) (ih x64 (i2 + (1 : Int32)))
def fX9_readLeaf   (σ : Store) : Option Store := (sjn (fun k59 : Int32 → Option Store => (if ¬ (σ 0 11) = (2 : Int32) then (k59 (-1 : Int32)) else (if (4 : Int32) < ((σ 0 10) - (σ 0 9)) then (k59 (-1 : Int32)) else (slt (σ 0 9) fun x55 => (fX9_readLeaf_L30 σ (fun x65 x66 => (k59 x65)) FU (0 : Int32) x55))))) (fun (y1_59 : Int32) => (fX9_readLeaf_L63 σ (fun x42 x43 => (slt (sup σ 0 16 ((σ 0 16) + (1 : Int32))) fun s44 => (sjn (fun k161 : Bool → Option Store => (if 0 ≤ y1_59 then (k161 true) else (if x42 < 0 then (k161 false) else (k161 true)))) (fun (z0_161 : Bool) => (sbd (fX9_must z0_161 s44) fun s47 => (sjn (fun k177 : Int32 → Option Store => (if y1_59 < 0 then (k177 ((-10 : Int32) + x42)) else (k177 y1_59))) (fun (z0_177 : Int32) => (sbd (fX9_step z0_177 s47) fun s49 => (some s49))))))))) FU (-1 : Int32) (0 : Int32))))
theorem c_X9_readLeaf {l0 : Launch} {G : Geo}  (σ : Store) (a : Store) (hf : fX9_readLeaf   σ = some a) : sCon l0 wMod G yX9_readLeaf cX9_readLeaf 4 (none) (rmL 5 221) [.ref (gad G 0)] σ none a := by
  refine sCon.of (by decide) ⟨rfl, rfl⟩ (Nat.le_of_ble_eq_true rfl) RX9 rfl _ hf (fun K hK => ?_)
  show sV wMod G K a σ 0 [(0, .ref (gad G 0))] [] _
  unfold fX9_readLeaf
  refine r_iconst (q := 1) (v := -1) hK dX9_readLeaf_0 rfl rfl ?_
  refine r_istore_n (q := 2) (loc' := [(1, .int (-1 : Int32)), (0, .ref (gad G 0))]) hK dX9_readLeaf_1 rfl rfl (by decide) rfl ?_
  refine r_aload_n (q := 3) hK dX9_readLeaf_2 rfl rfl 1 rfl ?_
  refine gf_9_11 (q := 6) hK dX9_readLeaf_3 rfl tw_815 ?_
  refine r_iconst (q := 7) (v := 2) hK dX9_readLeaf_6 rfl rfl ?_
  refine sV.jn (fun k : Int32 → Option Store => ∀ (y1_59 : Int32), sV wMod G K a σ 59 [(0, .ref (gad G 0)), (1, .int y1_59)] [] (k y1_59)) (fun y1_59 => ?_) (fun k59 hk59 => ?_)
  · refine r_iconst (q := 60) (v := -1) hK dX9_readLeaf_59 rfl rfl ?_
    refine r_istore_n (q := 61) (loc' := [(2, .int (-1 : Int32)), (0, .ref (gad G 0)), (1, .int y1_59)]) hK dX9_readLeaf_60 rfl rfl (by decide) rfl ?_
    refine r_iconst (q := 62) (v := 0) hK dX9_readLeaf_61 rfl rfl ?_
    refine r_istore_n (q := 63) (loc' := [(3, .int (0 : Int32)), (2, .int (-1 : Int32)), (0, .ref (gad G 0)), (1, .int y1_59)]) hK dX9_readLeaf_62 rfl rfl (by decide) rfl ?_
    refine sV.sub [2, 3, 1, 0] (by rfl) (vX9_readLeaf_L63 σ y1_59 hK _ (fun x42 x43 => ?_) FU (-1 : Int32) (0 : Int32))
    refine r_aload_n (q := 138) hK dX9_readLeaf_137 rfl rfl 0 rfl ?_
    refine r_dup (q := 139) hK dX9_readLeaf_138 rfl rfl ?_
    refine gf_9_16 (q := 142) hK dX9_readLeaf_139 rfl tw_820 ?_
    refine r_iconst (q := 143) (v := 1) hK dX9_readLeaf_142 rfl rfl ?_
    refine r_iadd (q := 144) hK dX9_readLeaf_143 rfl ?_
    refine pf_9_16 (q := 147) hK dX9_readLeaf_144 rfl tw_820 ?_
    refine sV.ltS (fun s44 => ?_)
    refine r_aload_n (q := 148) hK dX9_readLeaf_147 rfl rfl 0 rfl ?_
    refine r_iload_n (q := 149) hK dX9_readLeaf_148 rfl rfl 1 rfl ?_
    refine sV.jn (fun k : Bool → Option Store => ∀ (z0_161 : Bool), sV wMod G K a s44 161 [(0, .ref (gad G 0)), (1, .int y1_59), (2, .int x42), (3, .int x43)] [.int (b2i z0_161), .ref (gad G 0)] (k z0_161)) (fun z0_161 => ?_) (fun k161 hk161 => ?_)
    · refine callV_vS (q := 164) (j := 0) (As := [.int (b2i z0_161)]) (rest := []) (f := (fX9_must z0_161 s44)) hK dX9_readLeaf_161 rfl (fun b hb => c_X9_must z0_161 s44 b hb) ⟨9, _, _, _, by decide, rfl, cM, rfl⟩ mv_X9_must rfl rfl (Nat.le_of_ble_eq_true rfl) tw_1217 mw_X9_must (rmOk (Nat.le_of_ble_eq_true rfl) (Nat.le_of_ble_eq_true rfl)) (fun s47 => ?_)
      refine r_aload_n (q := 165) hK dX9_readLeaf_164 rfl rfl 0 rfl ?_
      refine r_iload_n (q := 166) hK dX9_readLeaf_165 rfl rfl 1 rfl ?_
      refine sV.jn (fun k : Int32 → Option Store => ∀ (z0_177 : Int32), sV wMod G K a s47 177 [(0, .ref (gad G 0)), (1, .int y1_59), (2, .int x42), (3, .int x43)] [.int z0_177, .ref (gad G 0)] (k z0_177)) (fun z0_177 => ?_) (fun k177 hk177 => ?_)
      · refine callV_vS (q := 180) (j := 0) (As := [.int z0_177]) (rest := []) (f := (fX9_step z0_177 s47)) hK dX9_readLeaf_177 rfl (fun b hb => c_X9_step z0_177 s47 b hb) ⟨9, _, _, _, by decide, rfl, cM, rfl⟩ mv_X9_step rfl rfl (Nat.le_of_ble_eq_true rfl) tw_1249 mw_X9_step (rmOk (Nat.le_of_ble_eq_true rfl) (Nat.le_of_ble_eq_true rfl)) (fun s49 => ?_)
        exact e_vS hK dX9_readLeaf_180
      · refine r_if_lt (t := 173) (q := 169) hK dX9_readLeaf_166 rfl rfl (fun c50 => ?_) (fun c50 => ?_)
        · refine r_bipush (q := 175) (v := -10) hK dX9_readLeaf_173 rfl rfl ?_
          refine r_iload_n (q := 176) hK dX9_readLeaf_175 rfl rfl 2 rfl ?_
          refine r_iadd (q := 177) hK dX9_readLeaf_176 rfl ?_
          exact sV.sub [0, 1, 2, 3] (by rfl) (hk177 ((-10 : Int32) + x42))
        · refine r_iload_n (q := 170) hK dX9_readLeaf_169 rfl rfl 1 rfl ?_
          refine r_goto (q := 177) hK dX9_readLeaf_170 rfl ?_
          exact sV.sub [0, 1, 2, 3] (by rfl) (hk177 y1_59)
    · refine r_if_ge (t := 156) (q := 152) hK dX9_readLeaf_149 rfl rfl (fun c51 => ?_) (fun c51 => ?_)
      · refine r_iconst (q := 157) (v := 1) hK dX9_readLeaf_156 rfl rfl ?_
        refine r_goto (q := 161) hK dX9_readLeaf_157 rfl ?_
        exact sV.sub [0, 1, 2, 3] (by rfl) (hk161 true)
      · refine r_iload_n (q := 153) hK dX9_readLeaf_152 rfl rfl 2 rfl ?_
        refine r_if_lt (t := 160) (q := 156) hK dX9_readLeaf_153 rfl rfl (fun c52 => ?_) (fun c52 => ?_)
        · refine r_iconst (q := 161) (v := 0) hK dX9_readLeaf_160 rfl rfl ?_
          exact sV.sub [0, 1, 2, 3] (by rfl) (hk161 false)
        · refine r_iconst (q := 157) (v := 1) hK dX9_readLeaf_156 rfl rfl ?_
          refine r_goto (q := 161) hK dX9_readLeaf_157 rfl ?_
          exact sV.sub [0, 1, 2, 3] (by rfl) (hk161 true)
  · refine r_icmp_ne (t := 59) (q := 10) hK dX9_readLeaf_7 rfl rfl (fun c53 => ?_) (fun c53 => ?_)
    · exact sV.sub [1, 0] (by rfl) (hk59 (-1 : Int32))
    · refine r_aload_n (q := 11) hK dX9_readLeaf_10 rfl rfl 1 rfl ?_
      refine gf_9_10 (q := 14) hK dX9_readLeaf_11 rfl tw_814 ?_
      refine r_aload_n (q := 15) hK dX9_readLeaf_14 rfl rfl 1 rfl ?_
      refine gf_9_9 (q := 18) hK dX9_readLeaf_15 rfl tw_813 ?_
      refine r_isub (q := 19) hK dX9_readLeaf_18 rfl ?_
      refine r_iconst (q := 20) (v := 4) hK dX9_readLeaf_19 rfl rfl ?_
      refine r_icmp_gt (t := 59) (q := 23) hK dX9_readLeaf_20 rfl rfl (fun c54 => ?_) (fun c54 => ?_)
      · exact sV.sub [1, 0] (by rfl) (hk59 (-1 : Int32))
      · refine r_iconst (q := 24) (v := 0) hK dX9_readLeaf_23 rfl rfl ?_
        refine r_istore_n (q := 25) (loc' := [(1, .int (0 : Int32)), (0, .ref (gad G 0))]) hK dX9_readLeaf_24 rfl rfl (by decide) rfl ?_
        refine r_aload_n (q := 26) hK dX9_readLeaf_25 rfl rfl 1 rfl ?_
        refine gf_9_9 (q := 29) hK dX9_readLeaf_26 rfl tw_813 ?_
        refine sV.ltI (fun x55 => ?_)
        refine r_istore_n (q := 30) (loc' := [(2, .int x55), (1, .int (0 : Int32)), (0, .ref (gad G 0))]) hK dX9_readLeaf_29 rfl rfl (by decide) rfl ?_
        refine sV.sub [2, 1, 0] (by rfl) (vX9_readLeaf_L30 σ  hK _ (fun x65 x66 => ?_) FU (0 : Int32) x55)
        exact sV.sub [0, 1] (by rfl) (hk59 x65)
def fX9_readOr_L4 (rA : Store → Option Store)  : Nat → Store → Option Store
  | 0, _ => none
  | n + 1, τ => (sbd (fX9_isSign (124 : Int32) τ) fun r12 => (if r12 = true then (sbd (fX9_must true τ) fun s14 => (sbd (rA s14) fun s15 => (sbd (fX9_step (-20 : Int32) s15) fun s16 => (fX9_readOr_L4 rA n s16)))) else (some τ)))
theorem vX9_readOr_L4 {G : Geo} {K : KT} {l0 : Launch} (σ : Store) {a : Store} {fr kr : Nat} (hfr : 12 ≤ fr) (hkr : 400 ≤ kr) (rO : Store → Option Store) (hrO : ∀  (σ : Store) (a : Store), rO  σ = some a → sCon l0 wMod G yX9_readOr cX9_readOr 1 (none) (rmL fr kr) [.ref (gad G 0)] σ none a) (rA : Store → Option Store) (hrA : ∀  (σ : Store) (a : Store), rA  σ = some a → sCon l0 wMod G yX9_readAnd cX9_readAnd 1 (none) (rmL fr kr) [.ref (gad G 0)] σ none a) (rT : Store → Option Store) (hrT : ∀  (σ : Store) (a : Store), rT  σ = some a → sCon l0 wMod G yX9_readTest cX9_readTest 2 (none) (rmL fr kr) [.ref (gad G 0)] σ none a) (rS : Store → Option Store) (hrS : ∀  (σ : Store) (a : Store), rS  σ = some a → sCon l0 wMod G yX9_readSum cX9_readSum 2 (none) (rmL fr kr) [.ref (gad G 0)] σ none a) (rM : Store → Option Store) (hrM : ∀  (σ : Store) (a : Store), rM  σ = some a → sCon l0 wMod G yX9_readTerm cX9_readTerm 2 (none) (rmL fr kr) [.ref (gad G 0)] σ none a) (rP : Store → Option Store) (hrP : ∀  (σ : Store) (a : Store), rP  σ = some a → sCon l0 wMod G yX9_readPiece cX9_readPiece 1 (none) (rmL fr kr) [.ref (gad G 0)] σ none a)  (hK : sOk wMod G K l0 RX9 cX9_readOr (rmL (fr + 1) (kr + 64)) 1 (none) none a) : ∀ (n : Nat) (τ : Store), sV wMod G K a τ 4 [(0, .ref (gad G 0))] [] (fX9_readOr_L4 rA n τ) := by
  intro n
  induction n with
  | zero =>
    intro τ
    exact sV.no
  | succ n ih =>
    intro τ
    rw [fX9_readOr_L4]
    refine r_aload_n (q := 5) hK dX9_readOr_4 rfl rfl 0 rfl ?_
    refine r_bipush (q := 7) (v := 124) hK dX9_readOr_5 rfl rfl ?_
    refine callV_b (q := 10) (j := 0) (As := [.int (124 : Int32)]) (rest := []) (f := (fX9_isSign (124 : Int32) τ)) hK dX9_readOr_7 rfl (fun b hb => c_X9_isSign (124 : Int32) τ b hb) ⟨9, _, _, _, by decide, rfl, cM, rfl⟩ mv_X9_isSign rfl rfl (Nat.le_of_ble_eq_true rfl) tw_1245 mw_X9_isSign (rmOk (by omega) (by omega)) (fun r12 => ?_)
    refine r_ifb_eq (t := 31) (q := 13) hK dX9_readOr_10 rfl rfl (fun c13 => ?_) (fun c13 => ?_)
    · refine r_aload_n (q := 14) hK dX9_readOr_13 rfl rfl 0 rfl ?_
      refine r_iconst (q := 15) (v := 1) hK dX9_readOr_14 rfl rfl ?_
      refine callV_vS (q := 18) (j := 0) (As := [.int (b2i true)]) (rest := []) (f := (fX9_must true τ)) hK dX9_readOr_15 rfl (fun b hb => c_X9_must true τ b hb) ⟨9, _, _, _, by decide, rfl, cM, rfl⟩ mv_X9_must rfl rfl (Nat.le_of_ble_eq_true rfl) tw_1217 mw_X9_must (rmOk (by omega) (by omega)) (fun s14 => ?_)
      refine r_aload_n (q := 19) hK dX9_readOr_18 rfl rfl 0 rfl ?_
      refine callV_vS (q := 22) (j := 0) (As := []) (rest := []) (f := (rA s14)) hK dX9_readOr_19 rfl (fun b hb => hrA s14 b hb) ⟨9, _, _, _, by decide, rfl, cM, rfl⟩ mv_X9_readAnd rfl rfl (Nat.le_of_ble_eq_true rfl) tw_1225 mw_X9_readAnd (rmOk (by omega) (by omega)) (fun s15 => ?_)
      refine r_aload_n (q := 23) hK dX9_readOr_22 rfl rfl 0 rfl ?_
      refine r_bipush (q := 25) (v := -20) hK dX9_readOr_23 rfl rfl ?_
      refine callV_vS (q := 28) (j := 0) (As := [.int (-20 : Int32)]) (rest := []) (f := (fX9_step (-20 : Int32) s15)) hK dX9_readOr_25 rfl (fun b hb => c_X9_step (-20 : Int32) s15 b hb) ⟨9, _, _, _, by decide, rfl, cM, rfl⟩ mv_X9_step rfl rfl (Nat.le_of_ble_eq_true rfl) tw_1249 mw_X9_step (rmOk (by omega) (by omega)) (fun s16 => ?_)
      refine r_goto (q := 4) hK dX9_readOr_28 rfl ?_
      exact sV.sub [0] (by rfl) (ih s16)
    · exact e_vS hK dX9_readOr_31
def fX9_readOr_B (rO : Store → Option Store) (rA : Store → Option Store) (rT : Store → Option Store) (rS : Store → Option Store) (rM : Store → Option Store) (rP : Store → Option Store)  (σ : Store) : Option Store := (sbd (rA σ) fun s1 => (fX9_readOr_L4 rA FU s1))
theorem b_X9_readOr {l0 : Launch} {G : Geo} {fr kr : Nat} (hfr : 12 ≤ fr) (hkr : 400 ≤ kr) (rO : Store → Option Store) (hrO : ∀  (σ : Store) (a : Store), rO  σ = some a → sCon l0 wMod G yX9_readOr cX9_readOr 1 (none) (rmL fr kr) [.ref (gad G 0)] σ none a) (rA : Store → Option Store) (hrA : ∀  (σ : Store) (a : Store), rA  σ = some a → sCon l0 wMod G yX9_readAnd cX9_readAnd 1 (none) (rmL fr kr) [.ref (gad G 0)] σ none a) (rT : Store → Option Store) (hrT : ∀  (σ : Store) (a : Store), rT  σ = some a → sCon l0 wMod G yX9_readTest cX9_readTest 2 (none) (rmL fr kr) [.ref (gad G 0)] σ none a) (rS : Store → Option Store) (hrS : ∀  (σ : Store) (a : Store), rS  σ = some a → sCon l0 wMod G yX9_readSum cX9_readSum 2 (none) (rmL fr kr) [.ref (gad G 0)] σ none a) (rM : Store → Option Store) (hrM : ∀  (σ : Store) (a : Store), rM  σ = some a → sCon l0 wMod G yX9_readTerm cX9_readTerm 2 (none) (rmL fr kr) [.ref (gad G 0)] σ none a) (rP : Store → Option Store) (hrP : ∀  (σ : Store) (a : Store), rP  σ = some a → sCon l0 wMod G yX9_readPiece cX9_readPiece 1 (none) (rmL fr kr) [.ref (gad G 0)] σ none a)  (σ : Store) (a : Store) (hf : fX9_readOr_B rO rA rT rS rM rP  σ = some a) : sCon l0 wMod G yX9_readOr cX9_readOr 1 (none) (rmL (fr + 1) (kr + 64)) [.ref (gad G 0)] σ none a := by
  refine sCon.of (by decide) ⟨rfl, rfl⟩ (Nat.le_of_ble_eq_true rfl) RX9 rfl _ hf (fun K hK => ?_)
  show sV wMod G K a σ 0 [(0, .ref (gad G 0))] [] _
  unfold fX9_readOr_B
  refine r_aload_n (q := 1) hK dX9_readOr_0 rfl rfl 0 rfl ?_
  refine callV_vS (q := 4) (j := 0) (As := []) (rest := []) (f := (rA σ)) hK dX9_readOr_1 rfl (fun b hb => hrA σ b hb) ⟨9, _, _, _, by decide, rfl, cM, rfl⟩ mv_X9_readAnd rfl rfl (Nat.le_of_ble_eq_true rfl) tw_1225 mw_X9_readAnd (rmOk (by omega) (by omega)) (fun s1 => ?_)
  exact sV.sub [0] (by rfl) (vX9_readOr_L4 s1 hfr hkr rO hrO rA hrA rT hrT rS hrS rM hrM rP hrP  hK FU s1)
def fX9_readAnd_L4 (rT : Store → Option Store)  : Nat → Store → Option Store
  | 0, _ => none
  | n + 1, τ => (sbd (fX9_isSign (38 : Int32) τ) fun r12 => (if r12 = true then (sbd (fX9_must true τ) fun s14 => (sbd (rT s14) fun s15 => (sbd (fX9_step (-21 : Int32) s15) fun s16 => (fX9_readAnd_L4 rT n s16)))) else (some τ)))
theorem vX9_readAnd_L4 {G : Geo} {K : KT} {l0 : Launch} (σ : Store) {a : Store} {fr kr : Nat} (hfr : 12 ≤ fr) (hkr : 400 ≤ kr) (rO : Store → Option Store) (hrO : ∀  (σ : Store) (a : Store), rO  σ = some a → sCon l0 wMod G yX9_readOr cX9_readOr 1 (none) (rmL fr kr) [.ref (gad G 0)] σ none a) (rA : Store → Option Store) (hrA : ∀  (σ : Store) (a : Store), rA  σ = some a → sCon l0 wMod G yX9_readAnd cX9_readAnd 1 (none) (rmL fr kr) [.ref (gad G 0)] σ none a) (rT : Store → Option Store) (hrT : ∀  (σ : Store) (a : Store), rT  σ = some a → sCon l0 wMod G yX9_readTest cX9_readTest 2 (none) (rmL fr kr) [.ref (gad G 0)] σ none a) (rS : Store → Option Store) (hrS : ∀  (σ : Store) (a : Store), rS  σ = some a → sCon l0 wMod G yX9_readSum cX9_readSum 2 (none) (rmL fr kr) [.ref (gad G 0)] σ none a) (rM : Store → Option Store) (hrM : ∀  (σ : Store) (a : Store), rM  σ = some a → sCon l0 wMod G yX9_readTerm cX9_readTerm 2 (none) (rmL fr kr) [.ref (gad G 0)] σ none a) (rP : Store → Option Store) (hrP : ∀  (σ : Store) (a : Store), rP  σ = some a → sCon l0 wMod G yX9_readPiece cX9_readPiece 1 (none) (rmL fr kr) [.ref (gad G 0)] σ none a)  (hK : sOk wMod G K l0 RX9 cX9_readAnd (rmL (fr + 1) (kr + 64)) 1 (none) none a) : ∀ (n : Nat) (τ : Store), sV wMod G K a τ 4 [(0, .ref (gad G 0))] [] (fX9_readAnd_L4 rT n τ) := by
  intro n
  induction n with
  | zero =>
    intro τ
    exact sV.no
  | succ n ih =>
    intro τ
    rw [fX9_readAnd_L4]
    refine r_aload_n (q := 5) hK dX9_readAnd_4 rfl rfl 0 rfl ?_
    refine r_bipush (q := 7) (v := 38) hK dX9_readAnd_5 rfl rfl ?_
    refine callV_b (q := 10) (j := 0) (As := [.int (38 : Int32)]) (rest := []) (f := (fX9_isSign (38 : Int32) τ)) hK dX9_readAnd_7 rfl (fun b hb => c_X9_isSign (38 : Int32) τ b hb) ⟨9, _, _, _, by decide, rfl, cM, rfl⟩ mv_X9_isSign rfl rfl (Nat.le_of_ble_eq_true rfl) tw_1245 mw_X9_isSign (rmOk (by omega) (by omega)) (fun r12 => ?_)
    refine r_ifb_eq (t := 31) (q := 13) hK dX9_readAnd_10 rfl rfl (fun c13 => ?_) (fun c13 => ?_)
    · refine r_aload_n (q := 14) hK dX9_readAnd_13 rfl rfl 0 rfl ?_
      refine r_iconst (q := 15) (v := 1) hK dX9_readAnd_14 rfl rfl ?_
      refine callV_vS (q := 18) (j := 0) (As := [.int (b2i true)]) (rest := []) (f := (fX9_must true τ)) hK dX9_readAnd_15 rfl (fun b hb => c_X9_must true τ b hb) ⟨9, _, _, _, by decide, rfl, cM, rfl⟩ mv_X9_must rfl rfl (Nat.le_of_ble_eq_true rfl) tw_1217 mw_X9_must (rmOk (by omega) (by omega)) (fun s14 => ?_)
      refine r_aload_n (q := 19) hK dX9_readAnd_18 rfl rfl 0 rfl ?_
      refine callV_vS (q := 22) (j := 0) (As := []) (rest := []) (f := (rT s14)) hK dX9_readAnd_19 rfl (fun b hb => hrT s14 b hb) ⟨9, _, _, _, by decide, rfl, cM, rfl⟩ mv_X9_readTest rfl rfl (Nat.le_of_ble_eq_true rfl) tw_1229 mw_X9_readTest (rmOk (by omega) (by omega)) (fun s15 => ?_)
      refine r_aload_n (q := 23) hK dX9_readAnd_22 rfl rfl 0 rfl ?_
      refine r_bipush (q := 25) (v := -21) hK dX9_readAnd_23 rfl rfl ?_
      refine callV_vS (q := 28) (j := 0) (As := [.int (-21 : Int32)]) (rest := []) (f := (fX9_step (-21 : Int32) s15)) hK dX9_readAnd_25 rfl (fun b hb => c_X9_step (-21 : Int32) s15 b hb) ⟨9, _, _, _, by decide, rfl, cM, rfl⟩ mv_X9_step rfl rfl (Nat.le_of_ble_eq_true rfl) tw_1249 mw_X9_step (rmOk (by omega) (by omega)) (fun s16 => ?_)
      refine r_goto (q := 4) hK dX9_readAnd_28 rfl ?_
      exact sV.sub [0] (by rfl) (ih s16)
    · exact e_vS hK dX9_readAnd_31
def fX9_readAnd_B (rO : Store → Option Store) (rA : Store → Option Store) (rT : Store → Option Store) (rS : Store → Option Store) (rM : Store → Option Store) (rP : Store → Option Store)  (σ : Store) : Option Store := (sbd (rT σ) fun s1 => (fX9_readAnd_L4 rT FU s1))
theorem b_X9_readAnd {l0 : Launch} {G : Geo} {fr kr : Nat} (hfr : 12 ≤ fr) (hkr : 400 ≤ kr) (rO : Store → Option Store) (hrO : ∀  (σ : Store) (a : Store), rO  σ = some a → sCon l0 wMod G yX9_readOr cX9_readOr 1 (none) (rmL fr kr) [.ref (gad G 0)] σ none a) (rA : Store → Option Store) (hrA : ∀  (σ : Store) (a : Store), rA  σ = some a → sCon l0 wMod G yX9_readAnd cX9_readAnd 1 (none) (rmL fr kr) [.ref (gad G 0)] σ none a) (rT : Store → Option Store) (hrT : ∀  (σ : Store) (a : Store), rT  σ = some a → sCon l0 wMod G yX9_readTest cX9_readTest 2 (none) (rmL fr kr) [.ref (gad G 0)] σ none a) (rS : Store → Option Store) (hrS : ∀  (σ : Store) (a : Store), rS  σ = some a → sCon l0 wMod G yX9_readSum cX9_readSum 2 (none) (rmL fr kr) [.ref (gad G 0)] σ none a) (rM : Store → Option Store) (hrM : ∀  (σ : Store) (a : Store), rM  σ = some a → sCon l0 wMod G yX9_readTerm cX9_readTerm 2 (none) (rmL fr kr) [.ref (gad G 0)] σ none a) (rP : Store → Option Store) (hrP : ∀  (σ : Store) (a : Store), rP  σ = some a → sCon l0 wMod G yX9_readPiece cX9_readPiece 1 (none) (rmL fr kr) [.ref (gad G 0)] σ none a)  (σ : Store) (a : Store) (hf : fX9_readAnd_B rO rA rT rS rM rP  σ = some a) : sCon l0 wMod G yX9_readAnd cX9_readAnd 1 (none) (rmL (fr + 1) (kr + 64)) [.ref (gad G 0)] σ none a := by
  refine sCon.of (by decide) ⟨rfl, rfl⟩ (Nat.le_of_ble_eq_true rfl) RX9 rfl _ hf (fun K hK => ?_)
  show sV wMod G K a σ 0 [(0, .ref (gad G 0))] [] _
  unfold fX9_readAnd_B
  refine r_aload_n (q := 1) hK dX9_readAnd_0 rfl rfl 0 rfl ?_
  refine callV_vS (q := 4) (j := 0) (As := []) (rest := []) (f := (rT σ)) hK dX9_readAnd_1 rfl (fun b hb => hrT σ b hb) ⟨9, _, _, _, by decide, rfl, cM, rfl⟩ mv_X9_readTest rfl rfl (Nat.le_of_ble_eq_true rfl) tw_1229 mw_X9_readTest (rmOk (by omega) (by omega)) (fun s1 => ?_)
  exact sV.sub [0] (by rfl) (vX9_readAnd_L4 s1 hfr hkr rO hrO rA hrA rT hrT rS hrS rM hrM rP hrP  hK FU s1)
def fX9_readTest_B (rO : Store → Option Store) (rA : Store → Option Store) (rT : Store → Option Store) (rS : Store → Option Store) (rM : Store → Option Store) (rP : Store → Option Store)  (σ : Store) : Option Store := (sbd (rS σ) fun s1 => (sbd (fX9_isSign (60 : Int32) s1) fun r2 => (sjn (fun k31 : Unit → Option Store => (if r2 = true then (k31 ()) else (sbd (fX9_isSign (61 : Int32) s1) fun r19 => (if r19 = true then (k31 ()) else (sbd (fX9_isSign (62 : Int32) s1) fun r21 => (if r21 = true then (k31 ()) else (some s1))))))) (fun (_u : Unit) => (six 96 (s1 0 9) (sjn (fun k71 : Int32 → Option Store => (if ¬ (s1 5 (snx (s1 0 9))) = (60 : Int32) then (six 96 (s1 0 9) (if ¬ (s1 5 (snx (s1 0 9))) = (61 : Int32) then (k71 (-24 : Int32)) else (k71 (-23 : Int32)))) else (k71 (-22 : Int32)))) (fun (z0_71 : Int32) => (sbd (fX9_must true s1) fun s12 => (sbd (rS s12) fun s13 => (sbd (fX9_step z0_71 s13) fun s14 => (some s14)))))))))))
theorem b_X9_readTest {l0 : Launch} {G : Geo} {fr kr : Nat} (hfr : 12 ≤ fr) (hkr : 400 ≤ kr) (rO : Store → Option Store) (hrO : ∀  (σ : Store) (a : Store), rO  σ = some a → sCon l0 wMod G yX9_readOr cX9_readOr 1 (none) (rmL fr kr) [.ref (gad G 0)] σ none a) (rA : Store → Option Store) (hrA : ∀  (σ : Store) (a : Store), rA  σ = some a → sCon l0 wMod G yX9_readAnd cX9_readAnd 1 (none) (rmL fr kr) [.ref (gad G 0)] σ none a) (rT : Store → Option Store) (hrT : ∀  (σ : Store) (a : Store), rT  σ = some a → sCon l0 wMod G yX9_readTest cX9_readTest 2 (none) (rmL fr kr) [.ref (gad G 0)] σ none a) (rS : Store → Option Store) (hrS : ∀  (σ : Store) (a : Store), rS  σ = some a → sCon l0 wMod G yX9_readSum cX9_readSum 2 (none) (rmL fr kr) [.ref (gad G 0)] σ none a) (rM : Store → Option Store) (hrM : ∀  (σ : Store) (a : Store), rM  σ = some a → sCon l0 wMod G yX9_readTerm cX9_readTerm 2 (none) (rmL fr kr) [.ref (gad G 0)] σ none a) (rP : Store → Option Store) (hrP : ∀  (σ : Store) (a : Store), rP  σ = some a → sCon l0 wMod G yX9_readPiece cX9_readPiece 1 (none) (rmL fr kr) [.ref (gad G 0)] σ none a)  (σ : Store) (a : Store) (hf : fX9_readTest_B rO rA rT rS rM rP  σ = some a) : sCon l0 wMod G yX9_readTest cX9_readTest 2 (none) (rmL (fr + 1) (kr + 64)) [.ref (gad G 0)] σ none a := by
  refine sCon.of (by decide) ⟨rfl, rfl⟩ (Nat.le_of_ble_eq_true rfl) RX9 rfl _ hf (fun K hK => ?_)
  show sV wMod G K a σ 0 [(0, .ref (gad G 0))] [] _
  unfold fX9_readTest_B
  refine r_aload_n (q := 1) hK dX9_readTest_0 rfl rfl 0 rfl ?_
  refine callV_vS (q := 4) (j := 0) (As := []) (rest := []) (f := (rS σ)) hK dX9_readTest_1 rfl (fun b hb => hrS σ b hb) ⟨9, _, _, _, by decide, rfl, cM, rfl⟩ mv_X9_readSum rfl rfl (Nat.le_of_ble_eq_true rfl) tw_1233 mw_X9_readSum (rmOk (by omega) (by omega)) (fun s1 => ?_)
  refine r_aload_n (q := 5) hK dX9_readTest_4 rfl rfl 0 rfl ?_
  refine r_bipush (q := 7) (v := 60) hK dX9_readTest_5 rfl rfl ?_
  refine callV_b (q := 10) (j := 0) (As := [.int (60 : Int32)]) (rest := []) (f := (fX9_isSign (60 : Int32) s1)) hK dX9_readTest_7 rfl (fun b hb => c_X9_isSign (60 : Int32) s1 b hb) ⟨9, _, _, _, by decide, rfl, cM, rfl⟩ mv_X9_isSign rfl rfl (Nat.le_of_ble_eq_true rfl) tw_1245 mw_X9_isSign (rmOk (by omega) (by omega)) (fun r2 => ?_)
  refine sV.jn (fun k : Unit → Option Store => ∀ (_u : Unit), sV wMod G K a s1 31 [(0, .ref (gad G 0))] [] (k ())) (fun _ => ?_) (fun k31 hk31 => ?_)
  · refine r_aload_n (q := 32) hK dX9_readTest_31 rfl rfl 0 rfl ?_
    refine gf_9_5 (q := 35) hK dX9_readTest_32 rfl tw_809 ?_
    refine r_aload_n (q := 36) hK dX9_readTest_35 rfl rfl 0 rfl ?_
    refine gf_9_9 (q := 39) hK dX9_readTest_36 rfl tw_813 ?_
    refine r_iald (q := 40) hK dX9_readTest_39 rfl aM5 (fun h8 => ?_)
    refine r_bipush (q := 42) (v := 60) hK dX9_readTest_40 rfl rfl ?_
    refine sV.jn (fun k : Int32 → Option Store => ∀ (z0_71 : Int32), sV wMod G K a s1 71 [(0, .ref (gad G 0))] [.int z0_71] (k z0_71)) (fun z0_71 => ?_) (fun k71 hk71 => ?_)
    · refine r_istore_n (q := 72) (loc' := [(1, .int z0_71), (0, .ref (gad G 0))]) hK dX9_readTest_71 rfl rfl (by decide) rfl ?_
      refine r_aload_n (q := 73) hK dX9_readTest_72 rfl rfl 1 rfl ?_
      refine r_iconst (q := 74) (v := 1) hK dX9_readTest_73 rfl rfl ?_
      refine callV_vS (q := 77) (j := 0) (As := [.int (b2i true)]) (rest := []) (f := (fX9_must true s1)) hK dX9_readTest_74 rfl (fun b hb => c_X9_must true s1 b hb) ⟨9, _, _, _, by decide, rfl, cM, rfl⟩ mv_X9_must rfl rfl (Nat.le_of_ble_eq_true rfl) tw_1217 mw_X9_must (rmOk (by omega) (by omega)) (fun s12 => ?_)
      refine r_aload_n (q := 78) hK dX9_readTest_77 rfl rfl 1 rfl ?_
      refine callV_vS (q := 81) (j := 0) (As := []) (rest := []) (f := (rS s12)) hK dX9_readTest_78 rfl (fun b hb => hrS s12 b hb) ⟨9, _, _, _, by decide, rfl, cM, rfl⟩ mv_X9_readSum rfl rfl (Nat.le_of_ble_eq_true rfl) tw_1233 mw_X9_readSum (rmOk (by omega) (by omega)) (fun s13 => ?_)
      refine r_aload_n (q := 82) hK dX9_readTest_81 rfl rfl 1 rfl ?_
      refine r_iload_n (q := 83) hK dX9_readTest_82 rfl rfl 0 rfl ?_
      refine callV_vS (q := 86) (j := 0) (As := [.int z0_71]) (rest := []) (f := (fX9_step z0_71 s13)) hK dX9_readTest_83 rfl (fun b hb => c_X9_step z0_71 s13 b hb) ⟨9, _, _, _, by decide, rfl, cM, rfl⟩ mv_X9_step rfl rfl (Nat.le_of_ble_eq_true rfl) tw_1249 mw_X9_step (rmOk (by omega) (by omega)) (fun s14 => ?_)
      exact e_vS hK dX9_readTest_86
    · refine r_icmp_ne (t := 50) (q := 45) hK dX9_readTest_42 rfl rfl (fun c15 => ?_) (fun c15 => ?_)
      · refine r_aload_n (q := 51) hK dX9_readTest_50 rfl rfl 0 rfl ?_
        refine gf_9_5 (q := 54) hK dX9_readTest_51 rfl tw_809 ?_
        refine r_aload_n (q := 55) hK dX9_readTest_54 rfl rfl 0 rfl ?_
        refine gf_9_9 (q := 58) hK dX9_readTest_55 rfl tw_813 ?_
        refine r_iald (q := 59) hK dX9_readTest_58 rfl aM5 (fun h16 => ?_)
        refine r_bipush (q := 61) (v := 61) hK dX9_readTest_59 rfl rfl ?_
        refine r_icmp_ne (t := 69) (q := 64) hK dX9_readTest_61 rfl rfl (fun c17 => ?_) (fun c17 => ?_)
        · refine r_bipush (q := 71) (v := -24) hK dX9_readTest_69 rfl rfl ?_
          exact sV.sub [0] (by rfl) (hk71 (-24 : Int32))
        · refine r_bipush (q := 66) (v := -23) hK dX9_readTest_64 rfl rfl ?_
          refine r_goto (q := 71) hK dX9_readTest_66 rfl ?_
          exact sV.sub [0] (by rfl) (hk71 (-23 : Int32))
      · refine r_bipush (q := 47) (v := -22) hK dX9_readTest_45 rfl rfl ?_
        refine r_goto (q := 71) hK dX9_readTest_47 rfl ?_
        exact sV.sub [0] (by rfl) (hk71 (-22 : Int32))
  · refine r_ifb_ne (t := 31) (q := 13) hK dX9_readTest_10 rfl rfl (fun c18 => ?_) (fun c18 => ?_)
    · exact sV.sub [0] (by rfl) (hk31 ())
    · refine r_aload_n (q := 14) hK dX9_readTest_13 rfl rfl 0 rfl ?_
      refine r_bipush (q := 16) (v := 61) hK dX9_readTest_14 rfl rfl ?_
      refine callV_b (q := 19) (j := 0) (As := [.int (61 : Int32)]) (rest := []) (f := (fX9_isSign (61 : Int32) s1)) hK dX9_readTest_16 rfl (fun b hb => c_X9_isSign (61 : Int32) s1 b hb) ⟨9, _, _, _, by decide, rfl, cM, rfl⟩ mv_X9_isSign rfl rfl (Nat.le_of_ble_eq_true rfl) tw_1245 mw_X9_isSign (rmOk (by omega) (by omega)) (fun r19 => ?_)
      refine r_ifb_ne (t := 31) (q := 22) hK dX9_readTest_19 rfl rfl (fun c20 => ?_) (fun c20 => ?_)
      · exact sV.sub [0] (by rfl) (hk31 ())
      · refine r_aload_n (q := 23) hK dX9_readTest_22 rfl rfl 0 rfl ?_
        refine r_bipush (q := 25) (v := 62) hK dX9_readTest_23 rfl rfl ?_
        refine callV_b (q := 28) (j := 0) (As := [.int (62 : Int32)]) (rest := []) (f := (fX9_isSign (62 : Int32) s1)) hK dX9_readTest_25 rfl (fun b hb => c_X9_isSign (62 : Int32) s1 b hb) ⟨9, _, _, _, by decide, rfl, cM, rfl⟩ mv_X9_isSign rfl rfl (Nat.le_of_ble_eq_true rfl) tw_1245 mw_X9_isSign (rmOk (by omega) (by omega)) (fun r21 => ?_)
        refine r_ifb_eq (t := 86) (q := 31) hK dX9_readTest_28 rfl rfl (fun c22 => ?_) (fun c22 => ?_)
        · exact sV.sub [0] (by rfl) (hk31 ())
        · exact e_vS hK dX9_readTest_86
def fX9_readSum_L4 (rM : Store → Option Store)  : Nat → Store → Option Store
  | 0, _ => none
  | n + 1, τ => (sbd (fX9_isSign (43 : Int32) τ) fun r28 => (sjn (fun k22 : Unit → Option Store => (if r28 = true then (k22 ()) else (sbd (fX9_isSign (45 : Int32) τ) fun r39 => (if r39 = true then (k22 ()) else (some τ))))) (fun (_u : Unit) => (six 96 (τ 0 9) (sjn (fun k43 : Int32 → Option Store => (if ¬ (τ 5 (snx (τ 0 9))) = (43 : Int32) then (k43 (-26 : Int32)) else (k43 (-25 : Int32)))) (fun (z0_43 : Int32) => (sbd (fX9_must true τ) fun s34 => (sbd (rM s34) fun s35 => (sbd (fX9_step z0_43 s35) fun s36 => (fX9_readSum_L4 rM n s36))))))))))
theorem vX9_readSum_L4 {G : Geo} {K : KT} {l0 : Launch} (σ : Store) {a : Store} {fr kr : Nat} (hfr : 12 ≤ fr) (hkr : 400 ≤ kr) (rO : Store → Option Store) (hrO : ∀  (σ : Store) (a : Store), rO  σ = some a → sCon l0 wMod G yX9_readOr cX9_readOr 1 (none) (rmL fr kr) [.ref (gad G 0)] σ none a) (rA : Store → Option Store) (hrA : ∀  (σ : Store) (a : Store), rA  σ = some a → sCon l0 wMod G yX9_readAnd cX9_readAnd 1 (none) (rmL fr kr) [.ref (gad G 0)] σ none a) (rT : Store → Option Store) (hrT : ∀  (σ : Store) (a : Store), rT  σ = some a → sCon l0 wMod G yX9_readTest cX9_readTest 2 (none) (rmL fr kr) [.ref (gad G 0)] σ none a) (rS : Store → Option Store) (hrS : ∀  (σ : Store) (a : Store), rS  σ = some a → sCon l0 wMod G yX9_readSum cX9_readSum 2 (none) (rmL fr kr) [.ref (gad G 0)] σ none a) (rM : Store → Option Store) (hrM : ∀  (σ : Store) (a : Store), rM  σ = some a → sCon l0 wMod G yX9_readTerm cX9_readTerm 2 (none) (rmL fr kr) [.ref (gad G 0)] σ none a) (rP : Store → Option Store) (hrP : ∀  (σ : Store) (a : Store), rP  σ = some a → sCon l0 wMod G yX9_readPiece cX9_readPiece 1 (none) (rmL fr kr) [.ref (gad G 0)] σ none a)  (hK : sOk wMod G K l0 RX9 cX9_readSum (rmL (fr + 1) (kr + 64)) 2 (none) none a) : ∀ (n : Nat) (τ : Store), sV wMod G K a τ 4 [(0, .ref (gad G 0))] [] (fX9_readSum_L4 rM n τ) := by
  intro n
  induction n with
  | zero =>
    intro τ
    exact sV.no
  | succ n ih =>
    intro τ
    rw [fX9_readSum_L4]
    refine r_aload_n (q := 5) hK dX9_readSum_4 rfl rfl 0 rfl ?_
    refine r_bipush (q := 7) (v := 43) hK dX9_readSum_5 rfl rfl ?_
    refine callV_b (q := 10) (j := 0) (As := [.int (43 : Int32)]) (rest := []) (f := (fX9_isSign (43 : Int32) τ)) hK dX9_readSum_7 rfl (fun b hb => c_X9_isSign (43 : Int32) τ b hb) ⟨9, _, _, _, by decide, rfl, cM, rfl⟩ mv_X9_isSign rfl rfl (Nat.le_of_ble_eq_true rfl) tw_1245 mw_X9_isSign (rmOk (by omega) (by omega)) (fun r28 => ?_)
    refine sV.jn (fun k : Unit → Option Store => ∀ (_u : Unit), sV wMod G K a τ 22 [(0, .ref (gad G 0))] [] (k ())) (fun _ => ?_) (fun k22 hk22 => ?_)
    · refine r_aload_n (q := 23) hK dX9_readSum_22 rfl rfl 0 rfl ?_
      refine gf_9_5 (q := 26) hK dX9_readSum_23 rfl tw_809 ?_
      refine r_aload_n (q := 27) hK dX9_readSum_26 rfl rfl 0 rfl ?_
      refine gf_9_9 (q := 30) hK dX9_readSum_27 rfl tw_813 ?_
      refine r_iald (q := 31) hK dX9_readSum_30 rfl aM5 (fun h32 => ?_)
      refine r_bipush (q := 33) (v := 43) hK dX9_readSum_31 rfl rfl ?_
      refine sV.jn (fun k : Int32 → Option Store => ∀ (z0_43 : Int32), sV wMod G K a τ 43 [(0, .ref (gad G 0))] [.int z0_43] (k z0_43)) (fun z0_43 => ?_) (fun k43 hk43 => ?_)
      · refine r_istore_n (q := 44) (loc' := [(1, .int z0_43), (0, .ref (gad G 0))]) hK dX9_readSum_43 rfl rfl (by decide) rfl ?_
        refine r_aload_n (q := 45) hK dX9_readSum_44 rfl rfl 1 rfl ?_
        refine r_iconst (q := 46) (v := 1) hK dX9_readSum_45 rfl rfl ?_
        refine callV_vS (q := 49) (j := 0) (As := [.int (b2i true)]) (rest := []) (f := (fX9_must true τ)) hK dX9_readSum_46 rfl (fun b hb => c_X9_must true τ b hb) ⟨9, _, _, _, by decide, rfl, cM, rfl⟩ mv_X9_must rfl rfl (Nat.le_of_ble_eq_true rfl) tw_1217 mw_X9_must (rmOk (by omega) (by omega)) (fun s34 => ?_)
        refine r_aload_n (q := 50) hK dX9_readSum_49 rfl rfl 1 rfl ?_
        refine callV_vS (q := 53) (j := 0) (As := []) (rest := []) (f := (rM s34)) hK dX9_readSum_50 rfl (fun b hb => hrM s34 b hb) ⟨9, _, _, _, by decide, rfl, cM, rfl⟩ mv_X9_readTerm rfl rfl (Nat.le_of_ble_eq_true rfl) tw_1237 mw_X9_readTerm (rmOk (by omega) (by omega)) (fun s35 => ?_)
        refine r_aload_n (q := 54) hK dX9_readSum_53 rfl rfl 1 rfl ?_
        refine r_iload_n (q := 55) hK dX9_readSum_54 rfl rfl 0 rfl ?_
        refine callV_vS (q := 58) (j := 0) (As := [.int z0_43]) (rest := []) (f := (fX9_step z0_43 s35)) hK dX9_readSum_55 rfl (fun b hb => c_X9_step z0_43 s35 b hb) ⟨9, _, _, _, by decide, rfl, cM, rfl⟩ mv_X9_step rfl rfl (Nat.le_of_ble_eq_true rfl) tw_1249 mw_X9_step (rmOk (by omega) (by omega)) (fun s36 => ?_)
        refine r_goto (q := 4) hK dX9_readSum_58 rfl ?_
        exact sV.sub [1] (by rfl) (ih s36)
      · refine r_icmp_ne (t := 41) (q := 36) hK dX9_readSum_33 rfl rfl (fun c37 => ?_) (fun c37 => ?_)
        · refine r_bipush (q := 43) (v := -26) hK dX9_readSum_41 rfl rfl ?_
          exact sV.sub [0] (by rfl) (hk43 (-26 : Int32))
        · refine r_bipush (q := 38) (v := -25) hK dX9_readSum_36 rfl rfl ?_
          refine r_goto (q := 43) hK dX9_readSum_38 rfl ?_
          exact sV.sub [0] (by rfl) (hk43 (-25 : Int32))
    · refine r_ifb_ne (t := 22) (q := 13) hK dX9_readSum_10 rfl rfl (fun c38 => ?_) (fun c38 => ?_)
      · exact sV.sub [0] (by rfl) (hk22 ())
      · refine r_aload_n (q := 14) hK dX9_readSum_13 rfl rfl 0 rfl ?_
        refine r_bipush (q := 16) (v := 45) hK dX9_readSum_14 rfl rfl ?_
        refine callV_b (q := 19) (j := 0) (As := [.int (45 : Int32)]) (rest := []) (f := (fX9_isSign (45 : Int32) τ)) hK dX9_readSum_16 rfl (fun b hb => c_X9_isSign (45 : Int32) τ b hb) ⟨9, _, _, _, by decide, rfl, cM, rfl⟩ mv_X9_isSign rfl rfl (Nat.le_of_ble_eq_true rfl) tw_1245 mw_X9_isSign (rmOk (by omega) (by omega)) (fun r39 => ?_)
        refine r_ifb_eq (t := 61) (q := 22) hK dX9_readSum_19 rfl rfl (fun c40 => ?_) (fun c40 => ?_)
        · exact sV.sub [0] (by rfl) (hk22 ())
        · exact e_vS hK dX9_readSum_61
def fX9_readSum_B (rO : Store → Option Store) (rA : Store → Option Store) (rT : Store → Option Store) (rS : Store → Option Store) (rM : Store → Option Store) (rP : Store → Option Store)  (σ : Store) : Option Store := (sbd (rM σ) fun s1 => (fX9_readSum_L4 rM FU s1))
theorem b_X9_readSum {l0 : Launch} {G : Geo} {fr kr : Nat} (hfr : 12 ≤ fr) (hkr : 400 ≤ kr) (rO : Store → Option Store) (hrO : ∀  (σ : Store) (a : Store), rO  σ = some a → sCon l0 wMod G yX9_readOr cX9_readOr 1 (none) (rmL fr kr) [.ref (gad G 0)] σ none a) (rA : Store → Option Store) (hrA : ∀  (σ : Store) (a : Store), rA  σ = some a → sCon l0 wMod G yX9_readAnd cX9_readAnd 1 (none) (rmL fr kr) [.ref (gad G 0)] σ none a) (rT : Store → Option Store) (hrT : ∀  (σ : Store) (a : Store), rT  σ = some a → sCon l0 wMod G yX9_readTest cX9_readTest 2 (none) (rmL fr kr) [.ref (gad G 0)] σ none a) (rS : Store → Option Store) (hrS : ∀  (σ : Store) (a : Store), rS  σ = some a → sCon l0 wMod G yX9_readSum cX9_readSum 2 (none) (rmL fr kr) [.ref (gad G 0)] σ none a) (rM : Store → Option Store) (hrM : ∀  (σ : Store) (a : Store), rM  σ = some a → sCon l0 wMod G yX9_readTerm cX9_readTerm 2 (none) (rmL fr kr) [.ref (gad G 0)] σ none a) (rP : Store → Option Store) (hrP : ∀  (σ : Store) (a : Store), rP  σ = some a → sCon l0 wMod G yX9_readPiece cX9_readPiece 1 (none) (rmL fr kr) [.ref (gad G 0)] σ none a)  (σ : Store) (a : Store) (hf : fX9_readSum_B rO rA rT rS rM rP  σ = some a) : sCon l0 wMod G yX9_readSum cX9_readSum 2 (none) (rmL (fr + 1) (kr + 64)) [.ref (gad G 0)] σ none a := by
  refine sCon.of (by decide) ⟨rfl, rfl⟩ (Nat.le_of_ble_eq_true rfl) RX9 rfl _ hf (fun K hK => ?_)
  show sV wMod G K a σ 0 [(0, .ref (gad G 0))] [] _
  unfold fX9_readSum_B
  refine r_aload_n (q := 1) hK dX9_readSum_0 rfl rfl 0 rfl ?_
  refine callV_vS (q := 4) (j := 0) (As := []) (rest := []) (f := (rM σ)) hK dX9_readSum_1 rfl (fun b hb => hrM σ b hb) ⟨9, _, _, _, by decide, rfl, cM, rfl⟩ mv_X9_readTerm rfl rfl (Nat.le_of_ble_eq_true rfl) tw_1237 mw_X9_readTerm (rmOk (by omega) (by omega)) (fun s1 => ?_)
  exact sV.sub [0] (by rfl) (vX9_readSum_L4 s1 hfr hkr rO hrO rA hrA rT hrT rS hrS rM hrM rP hrP  hK FU s1)
def fX9_readTerm_L4 (rP : Store → Option Store)  : Nat → Store → Option Store
  | 0, _ => none
  | n + 1, τ => (sbd (fX9_isSign (42 : Int32) τ) fun r28 => (sjn (fun k22 : Unit → Option Store => (if r28 = true then (k22 ()) else (sbd (fX9_isSign (47 : Int32) τ) fun r39 => (if r39 = true then (k22 ()) else (some τ))))) (fun (_u : Unit) => (six 96 (τ 0 9) (sjn (fun k43 : Int32 → Option Store => (if ¬ (τ 5 (snx (τ 0 9))) = (42 : Int32) then (k43 (-28 : Int32)) else (k43 (-27 : Int32)))) (fun (z0_43 : Int32) => (sbd (fX9_must true τ) fun s34 => (sbd (rP s34) fun s35 => (sbd (fX9_step z0_43 s35) fun s36 => (fX9_readTerm_L4 rP n s36))))))))))
theorem vX9_readTerm_L4 {G : Geo} {K : KT} {l0 : Launch} (σ : Store) {a : Store} {fr kr : Nat} (hfr : 12 ≤ fr) (hkr : 400 ≤ kr) (rO : Store → Option Store) (hrO : ∀  (σ : Store) (a : Store), rO  σ = some a → sCon l0 wMod G yX9_readOr cX9_readOr 1 (none) (rmL fr kr) [.ref (gad G 0)] σ none a) (rA : Store → Option Store) (hrA : ∀  (σ : Store) (a : Store), rA  σ = some a → sCon l0 wMod G yX9_readAnd cX9_readAnd 1 (none) (rmL fr kr) [.ref (gad G 0)] σ none a) (rT : Store → Option Store) (hrT : ∀  (σ : Store) (a : Store), rT  σ = some a → sCon l0 wMod G yX9_readTest cX9_readTest 2 (none) (rmL fr kr) [.ref (gad G 0)] σ none a) (rS : Store → Option Store) (hrS : ∀  (σ : Store) (a : Store), rS  σ = some a → sCon l0 wMod G yX9_readSum cX9_readSum 2 (none) (rmL fr kr) [.ref (gad G 0)] σ none a) (rM : Store → Option Store) (hrM : ∀  (σ : Store) (a : Store), rM  σ = some a → sCon l0 wMod G yX9_readTerm cX9_readTerm 2 (none) (rmL fr kr) [.ref (gad G 0)] σ none a) (rP : Store → Option Store) (hrP : ∀  (σ : Store) (a : Store), rP  σ = some a → sCon l0 wMod G yX9_readPiece cX9_readPiece 1 (none) (rmL fr kr) [.ref (gad G 0)] σ none a)  (hK : sOk wMod G K l0 RX9 cX9_readTerm (rmL (fr + 1) (kr + 64)) 2 (none) none a) : ∀ (n : Nat) (τ : Store), sV wMod G K a τ 4 [(0, .ref (gad G 0))] [] (fX9_readTerm_L4 rP n τ) := by
  intro n
  induction n with
  | zero =>
    intro τ
    exact sV.no
  | succ n ih =>
    intro τ
    rw [fX9_readTerm_L4]
    refine r_aload_n (q := 5) hK dX9_readTerm_4 rfl rfl 0 rfl ?_
    refine r_bipush (q := 7) (v := 42) hK dX9_readTerm_5 rfl rfl ?_
    refine callV_b (q := 10) (j := 0) (As := [.int (42 : Int32)]) (rest := []) (f := (fX9_isSign (42 : Int32) τ)) hK dX9_readTerm_7 rfl (fun b hb => c_X9_isSign (42 : Int32) τ b hb) ⟨9, _, _, _, by decide, rfl, cM, rfl⟩ mv_X9_isSign rfl rfl (Nat.le_of_ble_eq_true rfl) tw_1245 mw_X9_isSign (rmOk (by omega) (by omega)) (fun r28 => ?_)
    refine sV.jn (fun k : Unit → Option Store => ∀ (_u : Unit), sV wMod G K a τ 22 [(0, .ref (gad G 0))] [] (k ())) (fun _ => ?_) (fun k22 hk22 => ?_)
    · refine r_aload_n (q := 23) hK dX9_readTerm_22 rfl rfl 0 rfl ?_
      refine gf_9_5 (q := 26) hK dX9_readTerm_23 rfl tw_809 ?_
      refine r_aload_n (q := 27) hK dX9_readTerm_26 rfl rfl 0 rfl ?_
      refine gf_9_9 (q := 30) hK dX9_readTerm_27 rfl tw_813 ?_
      refine r_iald (q := 31) hK dX9_readTerm_30 rfl aM5 (fun h32 => ?_)
      refine r_bipush (q := 33) (v := 42) hK dX9_readTerm_31 rfl rfl ?_
      refine sV.jn (fun k : Int32 → Option Store => ∀ (z0_43 : Int32), sV wMod G K a τ 43 [(0, .ref (gad G 0))] [.int z0_43] (k z0_43)) (fun z0_43 => ?_) (fun k43 hk43 => ?_)
      · refine r_istore_n (q := 44) (loc' := [(1, .int z0_43), (0, .ref (gad G 0))]) hK dX9_readTerm_43 rfl rfl (by decide) rfl ?_
        refine r_aload_n (q := 45) hK dX9_readTerm_44 rfl rfl 1 rfl ?_
        refine r_iconst (q := 46) (v := 1) hK dX9_readTerm_45 rfl rfl ?_
        refine callV_vS (q := 49) (j := 0) (As := [.int (b2i true)]) (rest := []) (f := (fX9_must true τ)) hK dX9_readTerm_46 rfl (fun b hb => c_X9_must true τ b hb) ⟨9, _, _, _, by decide, rfl, cM, rfl⟩ mv_X9_must rfl rfl (Nat.le_of_ble_eq_true rfl) tw_1217 mw_X9_must (rmOk (by omega) (by omega)) (fun s34 => ?_)
        refine r_aload_n (q := 50) hK dX9_readTerm_49 rfl rfl 1 rfl ?_
        refine callV_vS (q := 53) (j := 0) (As := []) (rest := []) (f := (rP s34)) hK dX9_readTerm_50 rfl (fun b hb => hrP s34 b hb) ⟨9, _, _, _, by decide, rfl, cM, rfl⟩ mv_X9_readPiece rfl rfl (Nat.le_of_ble_eq_true rfl) tw_1241 mw_X9_readPiece (rmOk (by omega) (by omega)) (fun s35 => ?_)
        refine r_aload_n (q := 54) hK dX9_readTerm_53 rfl rfl 1 rfl ?_
        refine r_iload_n (q := 55) hK dX9_readTerm_54 rfl rfl 0 rfl ?_
        refine callV_vS (q := 58) (j := 0) (As := [.int z0_43]) (rest := []) (f := (fX9_step z0_43 s35)) hK dX9_readTerm_55 rfl (fun b hb => c_X9_step z0_43 s35 b hb) ⟨9, _, _, _, by decide, rfl, cM, rfl⟩ mv_X9_step rfl rfl (Nat.le_of_ble_eq_true rfl) tw_1249 mw_X9_step (rmOk (by omega) (by omega)) (fun s36 => ?_)
        refine r_goto (q := 4) hK dX9_readTerm_58 rfl ?_
        exact sV.sub [1] (by rfl) (ih s36)
      · refine r_icmp_ne (t := 41) (q := 36) hK dX9_readTerm_33 rfl rfl (fun c37 => ?_) (fun c37 => ?_)
        · refine r_bipush (q := 43) (v := -28) hK dX9_readTerm_41 rfl rfl ?_
          exact sV.sub [0] (by rfl) (hk43 (-28 : Int32))
        · refine r_bipush (q := 38) (v := -27) hK dX9_readTerm_36 rfl rfl ?_
          refine r_goto (q := 43) hK dX9_readTerm_38 rfl ?_
          exact sV.sub [0] (by rfl) (hk43 (-27 : Int32))
    · refine r_ifb_ne (t := 22) (q := 13) hK dX9_readTerm_10 rfl rfl (fun c38 => ?_) (fun c38 => ?_)
      · exact sV.sub [0] (by rfl) (hk22 ())
      · refine r_aload_n (q := 14) hK dX9_readTerm_13 rfl rfl 0 rfl ?_
        refine r_bipush (q := 16) (v := 47) hK dX9_readTerm_14 rfl rfl ?_
        refine callV_b (q := 19) (j := 0) (As := [.int (47 : Int32)]) (rest := []) (f := (fX9_isSign (47 : Int32) τ)) hK dX9_readTerm_16 rfl (fun b hb => c_X9_isSign (47 : Int32) τ b hb) ⟨9, _, _, _, by decide, rfl, cM, rfl⟩ mv_X9_isSign rfl rfl (Nat.le_of_ble_eq_true rfl) tw_1245 mw_X9_isSign (rmOk (by omega) (by omega)) (fun r39 => ?_)
        refine r_ifb_eq (t := 61) (q := 22) hK dX9_readTerm_19 rfl rfl (fun c40 => ?_) (fun c40 => ?_)
        · exact sV.sub [0] (by rfl) (hk22 ())
        · exact e_vS hK dX9_readTerm_61
def fX9_readTerm_B (rO : Store → Option Store) (rA : Store → Option Store) (rT : Store → Option Store) (rS : Store → Option Store) (rM : Store → Option Store) (rP : Store → Option Store)  (σ : Store) : Option Store := (sbd (rP σ) fun s1 => (fX9_readTerm_L4 rP FU s1))
theorem b_X9_readTerm {l0 : Launch} {G : Geo} {fr kr : Nat} (hfr : 12 ≤ fr) (hkr : 400 ≤ kr) (rO : Store → Option Store) (hrO : ∀  (σ : Store) (a : Store), rO  σ = some a → sCon l0 wMod G yX9_readOr cX9_readOr 1 (none) (rmL fr kr) [.ref (gad G 0)] σ none a) (rA : Store → Option Store) (hrA : ∀  (σ : Store) (a : Store), rA  σ = some a → sCon l0 wMod G yX9_readAnd cX9_readAnd 1 (none) (rmL fr kr) [.ref (gad G 0)] σ none a) (rT : Store → Option Store) (hrT : ∀  (σ : Store) (a : Store), rT  σ = some a → sCon l0 wMod G yX9_readTest cX9_readTest 2 (none) (rmL fr kr) [.ref (gad G 0)] σ none a) (rS : Store → Option Store) (hrS : ∀  (σ : Store) (a : Store), rS  σ = some a → sCon l0 wMod G yX9_readSum cX9_readSum 2 (none) (rmL fr kr) [.ref (gad G 0)] σ none a) (rM : Store → Option Store) (hrM : ∀  (σ : Store) (a : Store), rM  σ = some a → sCon l0 wMod G yX9_readTerm cX9_readTerm 2 (none) (rmL fr kr) [.ref (gad G 0)] σ none a) (rP : Store → Option Store) (hrP : ∀  (σ : Store) (a : Store), rP  σ = some a → sCon l0 wMod G yX9_readPiece cX9_readPiece 1 (none) (rmL fr kr) [.ref (gad G 0)] σ none a)  (σ : Store) (a : Store) (hf : fX9_readTerm_B rO rA rT rS rM rP  σ = some a) : sCon l0 wMod G yX9_readTerm cX9_readTerm 2 (none) (rmL (fr + 1) (kr + 64)) [.ref (gad G 0)] σ none a := by
  refine sCon.of (by decide) ⟨rfl, rfl⟩ (Nat.le_of_ble_eq_true rfl) RX9 rfl _ hf (fun K hK => ?_)
  show sV wMod G K a σ 0 [(0, .ref (gad G 0))] [] _
  unfold fX9_readTerm_B
  refine r_aload_n (q := 1) hK dX9_readTerm_0 rfl rfl 0 rfl ?_
  refine callV_vS (q := 4) (j := 0) (As := []) (rest := []) (f := (rP σ)) hK dX9_readTerm_1 rfl (fun b hb => hrP σ b hb) ⟨9, _, _, _, by decide, rfl, cM, rfl⟩ mv_X9_readPiece rfl rfl (Nat.le_of_ble_eq_true rfl) tw_1241 mw_X9_readPiece (rmOk (by omega) (by omega)) (fun s1 => ?_)
  exact sV.sub [0] (by rfl) (vX9_readTerm_L4 s1 hfr hkr rO hrO rA hrA rT hrT rS hrS rM hrM rP hrP  hK FU s1)
def fX9_readPiece_B (rO : Store → Option Store) (rA : Store → Option Store) (rT : Store → Option Store) (rS : Store → Option Store) (rM : Store → Option Store) (rP : Store → Option Store)  (σ : Store) : Option Store := (sbd (fX9_isSign (33 : Int32) σ) fun r1 => (if r1 = true then (sjn (fun k24 : Bool → Option Store => (if (8 : Int32) ≤ (σ 0 15) then (k24 false) else (k24 true))) (fun (z0_24 : Bool) => (sbd (fX9_must z0_24 σ) fun s4 => (slt (sup s4 0 15 ((s4 0 15) + (1 : Int32))) fun s5 => (sbd (rP s5) fun s6 => (slt (sup s6 0 15 ((s6 0 15) - (1 : Int32))) fun s7 => (sbd (fX9_step (-29 : Int32) s7) fun s8 => (some s8)))))))) else (sbd (fX9_isSign (40 : Int32) σ) fun r10 => (if r10 = true then (sjn (fun k84 : Bool → Option Store => (if (8 : Int32) ≤ (σ 0 14) then (k84 false) else (k84 true))) (fun (z0_84 : Bool) => (sbd (fX9_must z0_84 σ) fun s13 => (slt (sup s13 0 14 ((s13 0 14) + (1 : Int32))) fun s14 => (sbd (rO s14) fun s15 => (sbd (fX9_isSign (41 : Int32) s15) fun r16 => (sbd (fX9_must r16 s15) fun s17 => (slt (sup s17 0 14 ((s17 0 14) - (1 : Int32))) fun s18 => (some s18))))))))) else (sbd (fX9_readLeaf σ) fun s20 => (some s20))))))
theorem b_X9_readPiece {l0 : Launch} {G : Geo} {fr kr : Nat} (hfr : 12 ≤ fr) (hkr : 400 ≤ kr) (rO : Store → Option Store) (hrO : ∀  (σ : Store) (a : Store), rO  σ = some a → sCon l0 wMod G yX9_readOr cX9_readOr 1 (none) (rmL fr kr) [.ref (gad G 0)] σ none a) (rA : Store → Option Store) (hrA : ∀  (σ : Store) (a : Store), rA  σ = some a → sCon l0 wMod G yX9_readAnd cX9_readAnd 1 (none) (rmL fr kr) [.ref (gad G 0)] σ none a) (rT : Store → Option Store) (hrT : ∀  (σ : Store) (a : Store), rT  σ = some a → sCon l0 wMod G yX9_readTest cX9_readTest 2 (none) (rmL fr kr) [.ref (gad G 0)] σ none a) (rS : Store → Option Store) (hrS : ∀  (σ : Store) (a : Store), rS  σ = some a → sCon l0 wMod G yX9_readSum cX9_readSum 2 (none) (rmL fr kr) [.ref (gad G 0)] σ none a) (rM : Store → Option Store) (hrM : ∀  (σ : Store) (a : Store), rM  σ = some a → sCon l0 wMod G yX9_readTerm cX9_readTerm 2 (none) (rmL fr kr) [.ref (gad G 0)] σ none a) (rP : Store → Option Store) (hrP : ∀  (σ : Store) (a : Store), rP  σ = some a → sCon l0 wMod G yX9_readPiece cX9_readPiece 1 (none) (rmL fr kr) [.ref (gad G 0)] σ none a)  (σ : Store) (a : Store) (hf : fX9_readPiece_B rO rA rT rS rM rP  σ = some a) : sCon l0 wMod G yX9_readPiece cX9_readPiece 1 (none) (rmL (fr + 1) (kr + 64)) [.ref (gad G 0)] σ none a := by
  refine sCon.of (by decide) ⟨rfl, rfl⟩ (Nat.le_of_ble_eq_true rfl) RX9 rfl _ hf (fun K hK => ?_)
  show sV wMod G K a σ 0 [(0, .ref (gad G 0))] [] _
  unfold fX9_readPiece_B
  refine r_aload_n (q := 1) hK dX9_readPiece_0 rfl rfl 0 rfl ?_
  refine r_bipush (q := 3) (v := 33) hK dX9_readPiece_1 rfl rfl ?_
  refine callV_b (q := 6) (j := 0) (As := [.int (33 : Int32)]) (rest := []) (f := (fX9_isSign (33 : Int32) σ)) hK dX9_readPiece_3 rfl (fun b hb => c_X9_isSign (33 : Int32) σ b hb) ⟨9, _, _, _, by decide, rfl, cM, rfl⟩ mv_X9_isSign rfl rfl (Nat.le_of_ble_eq_true rfl) tw_1245 mw_X9_isSign (rmOk (by omega) (by omega)) (fun r1 => ?_)
  refine r_ifb_eq (t := 60) (q := 9) hK dX9_readPiece_6 rfl rfl (fun c2 => ?_) (fun c2 => ?_)
  · refine r_aload_n (q := 10) hK dX9_readPiece_9 rfl rfl 0 rfl ?_
    refine r_aload_n (q := 11) hK dX9_readPiece_10 rfl rfl 0 rfl ?_
    refine gf_9_15 (q := 14) hK dX9_readPiece_11 rfl tw_819 ?_
    refine r_bipush (q := 16) (v := 8) hK dX9_readPiece_14 rfl rfl ?_
    refine sV.jn (fun k : Bool → Option Store => ∀ (z0_24 : Bool), sV wMod G K a σ 24 [(0, .ref (gad G 0))] [.int (b2i z0_24), .ref (gad G 0)] (k z0_24)) (fun z0_24 => ?_) (fun k24 hk24 => ?_)
    · refine callV_vS (q := 27) (j := 0) (As := [.int (b2i z0_24)]) (rest := []) (f := (fX9_must z0_24 σ)) hK dX9_readPiece_24 rfl (fun b hb => c_X9_must z0_24 σ b hb) ⟨9, _, _, _, by decide, rfl, cM, rfl⟩ mv_X9_must rfl rfl (Nat.le_of_ble_eq_true rfl) tw_1217 mw_X9_must (rmOk (by omega) (by omega)) (fun s4 => ?_)
      refine r_aload_n (q := 28) hK dX9_readPiece_27 rfl rfl 0 rfl ?_
      refine r_dup (q := 29) hK dX9_readPiece_28 rfl rfl ?_
      refine gf_9_15 (q := 32) hK dX9_readPiece_29 rfl tw_819 ?_
      refine r_iconst (q := 33) (v := 1) hK dX9_readPiece_32 rfl rfl ?_
      refine r_iadd (q := 34) hK dX9_readPiece_33 rfl ?_
      refine pf_9_15 (q := 37) hK dX9_readPiece_34 rfl tw_819 ?_
      refine sV.ltS (fun s5 => ?_)
      refine r_aload_n (q := 38) hK dX9_readPiece_37 rfl rfl 0 rfl ?_
      refine callV_vS (q := 41) (j := 0) (As := []) (rest := []) (f := (rP s5)) hK dX9_readPiece_38 rfl (fun b hb => hrP s5 b hb) ⟨9, _, _, _, by decide, rfl, cM, rfl⟩ mv_X9_readPiece rfl rfl (Nat.le_of_ble_eq_true rfl) tw_1241 mw_X9_readPiece (rmOk (by omega) (by omega)) (fun s6 => ?_)
      refine r_aload_n (q := 42) hK dX9_readPiece_41 rfl rfl 0 rfl ?_
      refine r_dup (q := 43) hK dX9_readPiece_42 rfl rfl ?_
      refine gf_9_15 (q := 46) hK dX9_readPiece_43 rfl tw_819 ?_
      refine r_iconst (q := 47) (v := 1) hK dX9_readPiece_46 rfl rfl ?_
      refine r_isub (q := 48) hK dX9_readPiece_47 rfl ?_
      refine pf_9_15 (q := 51) hK dX9_readPiece_48 rfl tw_819 ?_
      refine sV.ltS (fun s7 => ?_)
      refine r_aload_n (q := 52) hK dX9_readPiece_51 rfl rfl 0 rfl ?_
      refine r_bipush (q := 54) (v := -29) hK dX9_readPiece_52 rfl rfl ?_
      refine callV_vS (q := 57) (j := 0) (As := [.int (-29 : Int32)]) (rest := []) (f := (fX9_step (-29 : Int32) s7)) hK dX9_readPiece_54 rfl (fun b hb => c_X9_step (-29 : Int32) s7 b hb) ⟨9, _, _, _, by decide, rfl, cM, rfl⟩ mv_X9_step rfl rfl (Nat.le_of_ble_eq_true rfl) tw_1249 mw_X9_step (rmOk (by omega) (by omega)) (fun s8 => ?_)
      refine r_goto (q := 128) hK dX9_readPiece_57 rfl ?_
      exact e_vS hK dX9_readPiece_128
    · refine r_icmp_ge (t := 23) (q := 19) hK dX9_readPiece_16 rfl rfl (fun c9 => ?_) (fun c9 => ?_)
      · refine r_iconst (q := 24) (v := 0) hK dX9_readPiece_23 rfl rfl ?_
        exact sV.sub [0] (by rfl) (hk24 false)
      · refine r_iconst (q := 20) (v := 1) hK dX9_readPiece_19 rfl rfl ?_
        refine r_goto (q := 24) hK dX9_readPiece_20 rfl ?_
        exact sV.sub [0] (by rfl) (hk24 true)
  · refine r_aload_n (q := 61) hK dX9_readPiece_60 rfl rfl 0 rfl ?_
    refine r_bipush (q := 63) (v := 40) hK dX9_readPiece_61 rfl rfl ?_
    refine callV_b (q := 66) (j := 0) (As := [.int (40 : Int32)]) (rest := []) (f := (fX9_isSign (40 : Int32) σ)) hK dX9_readPiece_63 rfl (fun b hb => c_X9_isSign (40 : Int32) σ b hb) ⟨9, _, _, _, by decide, rfl, cM, rfl⟩ mv_X9_isSign rfl rfl (Nat.le_of_ble_eq_true rfl) tw_1245 mw_X9_isSign (rmOk (by omega) (by omega)) (fun r10 => ?_)
    refine r_ifb_eq (t := 124) (q := 69) hK dX9_readPiece_66 rfl rfl (fun c11 => ?_) (fun c11 => ?_)
    · refine r_aload_n (q := 70) hK dX9_readPiece_69 rfl rfl 0 rfl ?_
      refine r_aload_n (q := 71) hK dX9_readPiece_70 rfl rfl 0 rfl ?_
      refine gf_9_14 (q := 74) hK dX9_readPiece_71 rfl tw_818 ?_
      refine r_bipush (q := 76) (v := 8) hK dX9_readPiece_74 rfl rfl ?_
      refine sV.jn (fun k : Bool → Option Store => ∀ (z0_84 : Bool), sV wMod G K a σ 84 [(0, .ref (gad G 0))] [.int (b2i z0_84), .ref (gad G 0)] (k z0_84)) (fun z0_84 => ?_) (fun k84 hk84 => ?_)
      · refine callV_vS (q := 87) (j := 0) (As := [.int (b2i z0_84)]) (rest := []) (f := (fX9_must z0_84 σ)) hK dX9_readPiece_84 rfl (fun b hb => c_X9_must z0_84 σ b hb) ⟨9, _, _, _, by decide, rfl, cM, rfl⟩ mv_X9_must rfl rfl (Nat.le_of_ble_eq_true rfl) tw_1217 mw_X9_must (rmOk (by omega) (by omega)) (fun s13 => ?_)
        refine r_aload_n (q := 88) hK dX9_readPiece_87 rfl rfl 0 rfl ?_
        refine r_dup (q := 89) hK dX9_readPiece_88 rfl rfl ?_
        refine gf_9_14 (q := 92) hK dX9_readPiece_89 rfl tw_818 ?_
        refine r_iconst (q := 93) (v := 1) hK dX9_readPiece_92 rfl rfl ?_
        refine r_iadd (q := 94) hK dX9_readPiece_93 rfl ?_
        refine pf_9_14 (q := 97) hK dX9_readPiece_94 rfl tw_818 ?_
        refine sV.ltS (fun s14 => ?_)
        refine r_aload_n (q := 98) hK dX9_readPiece_97 rfl rfl 0 rfl ?_
        refine callV_vS (q := 101) (j := 0) (As := []) (rest := []) (f := (rO s14)) hK dX9_readPiece_98 rfl (fun b hb => hrO s14 b hb) ⟨9, _, _, _, by decide, rfl, cM, rfl⟩ mv_X9_readOr rfl rfl (Nat.le_of_ble_eq_true rfl) tw_1221 mw_X9_readOr (rmOk (by omega) (by omega)) (fun s15 => ?_)
        refine r_aload_n (q := 102) hK dX9_readPiece_101 rfl rfl 0 rfl ?_
        refine r_aload_n (q := 103) hK dX9_readPiece_102 rfl rfl 0 rfl ?_
        refine r_bipush (q := 105) (v := 41) hK dX9_readPiece_103 rfl rfl ?_
        refine callV_b (q := 108) (j := 0) (As := [.int (41 : Int32)]) (rest := [.ref (gad G 0)]) (f := (fX9_isSign (41 : Int32) s15)) hK dX9_readPiece_105 rfl (fun b hb => c_X9_isSign (41 : Int32) s15 b hb) ⟨9, _, _, _, by decide, rfl, cM, rfl⟩ mv_X9_isSign rfl rfl (Nat.le_of_ble_eq_true rfl) tw_1245 mw_X9_isSign (rmOk (by omega) (by omega)) (fun r16 => ?_)
        refine callV_vS (q := 111) (j := 0) (As := [.int (b2i r16)]) (rest := []) (f := (fX9_must r16 s15)) hK dX9_readPiece_108 rfl (fun b hb => c_X9_must r16 s15 b hb) ⟨9, _, _, _, by decide, rfl, cM, rfl⟩ mv_X9_must rfl rfl (Nat.le_of_ble_eq_true rfl) tw_1217 mw_X9_must (rmOk (by omega) (by omega)) (fun s17 => ?_)
        refine r_aload_n (q := 112) hK dX9_readPiece_111 rfl rfl 0 rfl ?_
        refine r_dup (q := 113) hK dX9_readPiece_112 rfl rfl ?_
        refine gf_9_14 (q := 116) hK dX9_readPiece_113 rfl tw_818 ?_
        refine r_iconst (q := 117) (v := 1) hK dX9_readPiece_116 rfl rfl ?_
        refine r_isub (q := 118) hK dX9_readPiece_117 rfl ?_
        refine pf_9_14 (q := 121) hK dX9_readPiece_118 rfl tw_818 ?_
        refine sV.ltS (fun s18 => ?_)
        refine r_goto (q := 128) hK dX9_readPiece_121 rfl ?_
        exact e_vS hK dX9_readPiece_128
      · refine r_icmp_ge (t := 83) (q := 79) hK dX9_readPiece_76 rfl rfl (fun c19 => ?_) (fun c19 => ?_)
        · refine r_iconst (q := 84) (v := 0) hK dX9_readPiece_83 rfl rfl ?_
          exact sV.sub [0] (by rfl) (hk84 false)
        · refine r_iconst (q := 80) (v := 1) hK dX9_readPiece_79 rfl rfl ?_
          refine r_goto (q := 84) hK dX9_readPiece_80 rfl ?_
          exact sV.sub [0] (by rfl) (hk84 true)
    · refine r_aload_n (q := 125) hK dX9_readPiece_124 rfl rfl 0 rfl ?_
      refine callV_vS (q := 128) (j := 0) (As := []) (rest := []) (f := (fX9_readLeaf σ)) hK dX9_readPiece_125 rfl (fun b hb => c_X9_readLeaf σ b hb) ⟨9, _, _, _, by decide, rfl, cM, rfl⟩ mv_X9_readLeaf rfl rfl (Nat.le_of_ble_eq_true rfl) tw_1253 mw_X9_readLeaf (rmOk (by omega) (by omega)) (fun s20 => ?_)
      exact e_vS hK dX9_readPiece_128
def fX9_knot : Nat → (Store → Option Store) × (Store → Option Store) × (Store → Option Store) × (Store → Option Store) × (Store → Option Store) × (Store → Option Store)
  | 0 => ((fun _ => none), (fun _ => none), (fun _ => none), (fun _ => none), (fun _ => none), (fun _ => none))
  | d + 1 => (fX9_readOr_B (fX9_knot d).1 (fX9_knot d).2.1 (fX9_knot d).2.2.1 (fX9_knot d).2.2.2.1 (fX9_knot d).2.2.2.2.1 (fX9_knot d).2.2.2.2.2, fX9_readAnd_B (fX9_knot d).1 (fX9_knot d).2.1 (fX9_knot d).2.2.1 (fX9_knot d).2.2.2.1 (fX9_knot d).2.2.2.2.1 (fX9_knot d).2.2.2.2.2, fX9_readTest_B (fX9_knot d).1 (fX9_knot d).2.1 (fX9_knot d).2.2.1 (fX9_knot d).2.2.2.1 (fX9_knot d).2.2.2.2.1 (fX9_knot d).2.2.2.2.2, fX9_readSum_B (fX9_knot d).1 (fX9_knot d).2.1 (fX9_knot d).2.2.1 (fX9_knot d).2.2.2.1 (fX9_knot d).2.2.2.2.1 (fX9_knot d).2.2.2.2.2, fX9_readTerm_B (fX9_knot d).1 (fX9_knot d).2.1 (fX9_knot d).2.2.1 (fX9_knot d).2.2.2.1 (fX9_knot d).2.2.2.2.1 (fX9_knot d).2.2.2.2.2, fX9_readPiece_B (fX9_knot d).1 (fX9_knot d).2.1 (fX9_knot d).2.2.1 (fX9_knot d).2.2.2.1 (fX9_knot d).2.2.2.2.1 (fX9_knot d).2.2.2.2.2)
theorem k_X9 {l0 : Launch} {G : Geo} : ∀ d : Nat, (∀  (σ : Store) (a : Store), (fX9_knot d).1  σ = some a → sCon l0 wMod G yX9_readOr cX9_readOr 1 (none) (rmL (12 + d) (400 + 64 * d)) [.ref (gad G 0)] σ none a) ∧ (∀  (σ : Store) (a : Store), (fX9_knot d).2.1  σ = some a → sCon l0 wMod G yX9_readAnd cX9_readAnd 1 (none) (rmL (12 + d) (400 + 64 * d)) [.ref (gad G 0)] σ none a) ∧ (∀  (σ : Store) (a : Store), (fX9_knot d).2.2.1  σ = some a → sCon l0 wMod G yX9_readTest cX9_readTest 2 (none) (rmL (12 + d) (400 + 64 * d)) [.ref (gad G 0)] σ none a) ∧ (∀  (σ : Store) (a : Store), (fX9_knot d).2.2.2.1  σ = some a → sCon l0 wMod G yX9_readSum cX9_readSum 2 (none) (rmL (12 + d) (400 + 64 * d)) [.ref (gad G 0)] σ none a) ∧ (∀  (σ : Store) (a : Store), (fX9_knot d).2.2.2.2.1  σ = some a → sCon l0 wMod G yX9_readTerm cX9_readTerm 2 (none) (rmL (12 + d) (400 + 64 * d)) [.ref (gad G 0)] σ none a) ∧ (∀  (σ : Store) (a : Store), (fX9_knot d).2.2.2.2.2  σ = some a → sCon l0 wMod G yX9_readPiece cX9_readPiece 1 (none) (rmL (12 + d) (400 + 64 * d)) [.ref (gad G 0)] σ none a) := by
  intro d
  induction d with
  | zero =>
    refine ⟨?_, ?_, ?_, ?_, ?_, ?_⟩ <;> (intros; rename_i h; cases h)
  | succ d ih =>
    obtain ⟨irO, irA, irT, irS, irM, irP⟩ := ih
    exact ⟨b_X9_readOr (fr := 12 + d) (kr := 400 + 64 * d) (by omega) (by omega) _ irO _ irA _ irT _ irS _ irM _ irP, b_X9_readAnd (fr := 12 + d) (kr := 400 + 64 * d) (by omega) (by omega) _ irO _ irA _ irT _ irS _ irM _ irP, b_X9_readTest (fr := 12 + d) (kr := 400 + 64 * d) (by omega) (by omega) _ irO _ irA _ irT _ irS _ irM _ irP, b_X9_readSum (fr := 12 + d) (kr := 400 + 64 * d) (by omega) (by omega) _ irO _ irA _ irT _ irS _ irM _ irP, b_X9_readTerm (fr := 12 + d) (kr := 400 + 64 * d) (by omega) (by omega) _ irO _ irA _ irT _ irS _ irM _ irP, b_X9_readPiece (fr := 12 + d) (kr := 400 + 64 * d) (by omega) (by omega) _ irO _ irA _ irT _ irS _ irM _ irP⟩
def fX9_readOr  (σ : Store) : Option Store := (fX9_knot 100).1  σ
theorem c_X9_readOr {l0 : Launch} {G : Geo}  (σ : Store) (a : Store) (hf : fX9_readOr  σ = some a) : sCon l0 wMod G yX9_readOr cX9_readOr 1 (none) (rmL 112 6800) [.ref (gad G 0)] σ none a := (k_X9 100).1  σ a hf
def fX9_readAnd  (σ : Store) : Option Store := (fX9_knot 100).2.1  σ
theorem c_X9_readAnd {l0 : Launch} {G : Geo}  (σ : Store) (a : Store) (hf : fX9_readAnd  σ = some a) : sCon l0 wMod G yX9_readAnd cX9_readAnd 1 (none) (rmL 112 6800) [.ref (gad G 0)] σ none a := (k_X9 100).2.1  σ a hf
def fX9_readTest  (σ : Store) : Option Store := (fX9_knot 100).2.2.1  σ
theorem c_X9_readTest {l0 : Launch} {G : Geo}  (σ : Store) (a : Store) (hf : fX9_readTest  σ = some a) : sCon l0 wMod G yX9_readTest cX9_readTest 2 (none) (rmL 112 6800) [.ref (gad G 0)] σ none a := (k_X9 100).2.2.1  σ a hf
def fX9_readSum  (σ : Store) : Option Store := (fX9_knot 100).2.2.2.1  σ
theorem c_X9_readSum {l0 : Launch} {G : Geo}  (σ : Store) (a : Store) (hf : fX9_readSum  σ = some a) : sCon l0 wMod G yX9_readSum cX9_readSum 2 (none) (rmL 112 6800) [.ref (gad G 0)] σ none a := (k_X9 100).2.2.2.1  σ a hf
def fX9_readTerm  (σ : Store) : Option Store := (fX9_knot 100).2.2.2.2.1  σ
theorem c_X9_readTerm {l0 : Launch} {G : Geo}  (σ : Store) (a : Store) (hf : fX9_readTerm  σ = some a) : sCon l0 wMod G yX9_readTerm cX9_readTerm 2 (none) (rmL 112 6800) [.ref (gad G 0)] σ none a := (k_X9 100).2.2.2.2.1  σ a hf
def fX9_readPiece  (σ : Store) : Option Store := (fX9_knot 100).2.2.2.2.2  σ
theorem c_X9_readPiece {l0 : Launch} {G : Geo}  (σ : Store) (a : Store) (hf : fX9_readPiece  σ = some a) : sCon l0 wMod G yX9_readPiece cX9_readPiece 1 (none) (rmL 112 6800) [.ref (gad G 0)] σ none a := (k_X9 100).2.2.2.2.2  σ a hf
def fX9_readAll   (σ : Store) : Option Store := (slt (sup σ 0 10 (0 : Int32)) fun s1 => (slt (sup s1 0 11 (0 : Int32)) fun s2 => (slt (sup s2 0 12 (b2i false)) fun s3 => (slt (sup s3 0 14 (0 : Int32)) fun s4 => (slt (sup s4 0 15 (0 : Int32)) fun s5 => (slt (sup s5 0 16 (0 : Int32)) fun s6 => (slt (sup s6 0 17 (0 : Int32)) fun s7 => (sbd (fX9_next s7) fun s8 => (six 3 (0 : Int32) (sbd (fX9_spells (snx (0 : Int32)) s8) fun r10 => (sjn (fun k92 : Int32 → Option Store => (if r10 = true then (k92 (0 : Int32)) else (six 3 (1 : Int32) (sbd (fX9_spells (snx (1 : Int32)) s8) fun r29 => (if r29 = true then (k92 (1 : Int32)) else (six 3 (2 : Int32) (sbd (fX9_spells (snx (2 : Int32)) s8) fun r32 => (if r32 = true then (k92 (2 : Int32)) else (k92 (-1 : Int32)))))))))) (fun (z0_92 : Int32) => (slt (sup s8 0 13 z0_92) fun s18 => (sjn (fun k108 : Bool → Option Store => (if (s18 0 13) < 0 then (k108 false) else (k108 true))) (fun (z0_108 : Bool) => (sbd (fX9_must z0_108 s18) fun s20 => (if ¬ (s20 0 12) = 0 then (some s20) else (sbd (fX9_readOr s20) fun s22 => (sjn (fun k135 : Bool → Option Store => (if ¬ (s22 0 11) = 0 then (k135 false) else (k135 true))) (fun (z0_135 : Bool) => (sbd (fX9_must z0_135 s22) fun s24 => (some s24))))))))))))))))))))))
theorem c_X9_readAll {l0 : Launch} {G : Geo}  (σ : Store) (a : Store) (hf : fX9_readAll   σ = some a) : sCon l0 wMod G yX9_readAll cX9_readAll 1 (none) (rmL 113 6820) [.ref (gad G 0)] σ none a := by
  refine sCon.of (by decide) ⟨rfl, rfl⟩ (Nat.le_of_ble_eq_true rfl) RX9 rfl _ hf (fun K hK => ?_)
  show sV wMod G K a σ 0 [(0, .ref (gad G 0))] [] _
  unfold fX9_readAll
  refine r_aload_n (q := 1) hK dX9_readAll_0 rfl rfl 0 rfl ?_
  refine r_iconst (q := 2) (v := 0) hK dX9_readAll_1 rfl rfl ?_
  refine pf_9_10 (q := 5) hK dX9_readAll_2 rfl tw_814 ?_
  refine sV.ltS (fun s1 => ?_)
  refine r_aload_n (q := 6) hK dX9_readAll_5 rfl rfl 0 rfl ?_
  refine r_iconst (q := 7) (v := 0) hK dX9_readAll_6 rfl rfl ?_
  refine pf_9_11 (q := 10) hK dX9_readAll_7 rfl tw_815 ?_
  refine sV.ltS (fun s2 => ?_)
  refine r_aload_n (q := 11) hK dX9_readAll_10 rfl rfl 0 rfl ?_
  refine r_iconst (q := 12) (v := 0) hK dX9_readAll_11 rfl rfl ?_
  refine pf_9_12 (q := 15) (b := false) hK dX9_readAll_12 rfl tw_816 ?_
  refine sV.ltS (fun s3 => ?_)
  refine r_aload_n (q := 16) hK dX9_readAll_15 rfl rfl 0 rfl ?_
  refine r_iconst (q := 17) (v := 0) hK dX9_readAll_16 rfl rfl ?_
  refine pf_9_14 (q := 20) hK dX9_readAll_17 rfl tw_818 ?_
  refine sV.ltS (fun s4 => ?_)
  refine r_aload_n (q := 21) hK dX9_readAll_20 rfl rfl 0 rfl ?_
  refine r_iconst (q := 22) (v := 0) hK dX9_readAll_21 rfl rfl ?_
  refine pf_9_15 (q := 25) hK dX9_readAll_22 rfl tw_819 ?_
  refine sV.ltS (fun s5 => ?_)
  refine r_aload_n (q := 26) hK dX9_readAll_25 rfl rfl 0 rfl ?_
  refine r_iconst (q := 27) (v := 0) hK dX9_readAll_26 rfl rfl ?_
  refine pf_9_16 (q := 30) hK dX9_readAll_27 rfl tw_820 ?_
  refine sV.ltS (fun s6 => ?_)
  refine r_aload_n (q := 31) hK dX9_readAll_30 rfl rfl 0 rfl ?_
  refine r_iconst (q := 32) (v := 0) hK dX9_readAll_31 rfl rfl ?_
  refine pf_9_17 (q := 35) hK dX9_readAll_32 rfl tw_821 ?_
  refine sV.ltS (fun s7 => ?_)
  refine r_aload_n (q := 36) hK dX9_readAll_35 rfl rfl 0 rfl ?_
  refine callV_vS (q := 39) (j := 0) (As := []) (rest := []) (f := (fX9_next s7)) hK dX9_readAll_36 rfl (fun b hb => c_X9_next s7 b hb) ⟨9, _, _, _, by decide, rfl, cM, rfl⟩ mv_X9_next rfl rfl (Nat.le_of_ble_eq_true rfl) tw_1151 mw_X9_next (rmOk (Nat.le_of_ble_eq_true rfl) (Nat.le_of_ble_eq_true rfl)) (fun s8 => ?_)
  refine r_aload_n (q := 40) hK dX9_readAll_39 rfl rfl 0 rfl ?_
  refine r_aload_n (q := 41) hK dX9_readAll_40 rfl rfl 0 rfl ?_
  refine r_aload_n (q := 42) hK dX9_readAll_41 rfl rfl 0 rfl ?_
  refine gf_9_7 (q := 45) hK dX9_readAll_42 rfl tw_811 ?_
  refine r_iconst (q := 46) (v := 0) hK dX9_readAll_45 rfl rfl ?_
  refine r_aald (q := 47) hK dX9_readAll_46 rfl qM6 (ty := .object "java/lang/String") rfl rfl (r := gsk G (snx (0 : Int32))) rfl (fun h9 => ?_)
  refine callV_b (q := 50) (j := 0) (As := [.ref (gsk G (snx (0 : Int32)))]) (rest := [.ref (gad G 0)]) (f := (fX9_spells (snx (0 : Int32)) s8)) hK dX9_readAll_47 rfl (fun b hb => c_X9_spells (snx (0 : Int32)) (by have := snx_lt h9; omega) s8 b hb) ⟨9, _, _, _, by decide, rfl, cM, rfl⟩ mv_X9_spells rfl rfl (Nat.le_of_ble_eq_true rfl) tw_1165 mw_X9_spells (rmOk (Nat.le_of_ble_eq_true rfl) (Nat.le_of_ble_eq_true rfl)) (fun r10 => ?_)
  refine sV.jn (fun k : Int32 → Option Store => ∀ (z0_92 : Int32), sV wMod G K a s8 92 [(0, .ref (gad G 0))] [.int z0_92, .ref (gad G 0)] (k z0_92)) (fun z0_92 => ?_) (fun k92 hk92 => ?_)
  · refine pf_9_13 (q := 95) hK dX9_readAll_92 rfl tw_817 ?_
    refine sV.ltS (fun s18 => ?_)
    refine r_aload_n (q := 96) hK dX9_readAll_95 rfl rfl 0 rfl ?_
    refine r_aload_n (q := 97) hK dX9_readAll_96 rfl rfl 0 rfl ?_
    refine gf_9_13 (q := 100) hK dX9_readAll_97 rfl tw_817 ?_
    refine sV.jn (fun k : Bool → Option Store => ∀ (z0_108 : Bool), sV wMod G K a s18 108 [(0, .ref (gad G 0))] [.int (b2i z0_108), .ref (gad G 0)] (k z0_108)) (fun z0_108 => ?_) (fun k108 hk108 => ?_)
    · refine callV_vS (q := 111) (j := 0) (As := [.int (b2i z0_108)]) (rest := []) (f := (fX9_must z0_108 s18)) hK dX9_readAll_108 rfl (fun b hb => c_X9_must z0_108 s18 b hb) ⟨9, _, _, _, by decide, rfl, cM, rfl⟩ mv_X9_must rfl rfl (Nat.le_of_ble_eq_true rfl) tw_1217 mw_X9_must (rmOk (Nat.le_of_ble_eq_true rfl) (Nat.le_of_ble_eq_true rfl)) (fun s20 => ?_)
      refine r_aload_n (q := 112) hK dX9_readAll_111 rfl rfl 0 rfl ?_
      refine gf_9_12 (q := 115) hK dX9_readAll_112 rfl tw_816 ?_
      refine r_if_ne (t := 138) (q := 118) hK dX9_readAll_115 rfl rfl (fun c21 => ?_) (fun c21 => ?_)
      · exact e_vS hK dX9_readAll_138
      · refine r_aload_n (q := 119) hK dX9_readAll_118 rfl rfl 0 rfl ?_
        refine callV_vS (q := 122) (j := 0) (As := []) (rest := []) (f := (fX9_readOr s20)) hK dX9_readAll_119 rfl (fun b hb => c_X9_readOr s20 b hb) ⟨9, _, _, _, by decide, rfl, cM, rfl⟩ mv_X9_readOr rfl rfl (Nat.le_of_ble_eq_true rfl) tw_1221 mw_X9_readOr (rmOk (Nat.le_of_ble_eq_true rfl) (Nat.le_of_ble_eq_true rfl)) (fun s22 => ?_)
        refine r_aload_n (q := 123) hK dX9_readAll_122 rfl rfl 0 rfl ?_
        refine r_aload_n (q := 124) hK dX9_readAll_123 rfl rfl 0 rfl ?_
        refine gf_9_11 (q := 127) hK dX9_readAll_124 rfl tw_815 ?_
        refine sV.jn (fun k : Bool → Option Store => ∀ (z0_135 : Bool), sV wMod G K a s22 135 [(0, .ref (gad G 0))] [.int (b2i z0_135), .ref (gad G 0)] (k z0_135)) (fun z0_135 => ?_) (fun k135 hk135 => ?_)
        · refine callV_vS (q := 138) (j := 0) (As := [.int (b2i z0_135)]) (rest := []) (f := (fX9_must z0_135 s22)) hK dX9_readAll_135 rfl (fun b hb => c_X9_must z0_135 s22 b hb) ⟨9, _, _, _, by decide, rfl, cM, rfl⟩ mv_X9_must rfl rfl (Nat.le_of_ble_eq_true rfl) tw_1217 mw_X9_must (rmOk (Nat.le_of_ble_eq_true rfl) (Nat.le_of_ble_eq_true rfl)) (fun s24 => ?_)
          exact e_vS hK dX9_readAll_138
        · refine r_if_ne (t := 134) (q := 130) hK dX9_readAll_127 rfl rfl (fun c25 => ?_) (fun c25 => ?_)
          · refine r_iconst (q := 135) (v := 0) hK dX9_readAll_134 rfl rfl ?_
            exact sV.sub [0] (by rfl) (hk135 false)
          · refine r_iconst (q := 131) (v := 1) hK dX9_readAll_130 rfl rfl ?_
            refine r_goto (q := 135) hK dX9_readAll_131 rfl ?_
            exact sV.sub [0] (by rfl) (hk135 true)
    · refine r_if_lt (t := 107) (q := 103) hK dX9_readAll_100 rfl rfl (fun c26 => ?_) (fun c26 => ?_)
      · refine r_iconst (q := 108) (v := 0) hK dX9_readAll_107 rfl rfl ?_
        exact sV.sub [0] (by rfl) (hk108 false)
      · refine r_iconst (q := 104) (v := 1) hK dX9_readAll_103 rfl rfl ?_
        refine r_goto (q := 108) hK dX9_readAll_104 rfl ?_
        exact sV.sub [0] (by rfl) (hk108 true)
  · refine r_ifb_eq (t := 57) (q := 53) hK dX9_readAll_50 rfl rfl (fun c27 => ?_) (fun c27 => ?_)
    · refine r_iconst (q := 54) (v := 0) hK dX9_readAll_53 rfl rfl ?_
      refine r_goto (q := 92) hK dX9_readAll_54 rfl ?_
      exact sV.sub [0] (by rfl) (hk92 (0 : Int32))
    · refine r_aload_n (q := 58) hK dX9_readAll_57 rfl rfl 0 rfl ?_
      refine r_aload_n (q := 59) hK dX9_readAll_58 rfl rfl 0 rfl ?_
      refine gf_9_7 (q := 62) hK dX9_readAll_59 rfl tw_811 ?_
      refine r_iconst (q := 63) (v := 1) hK dX9_readAll_62 rfl rfl ?_
      refine r_aald (q := 64) hK dX9_readAll_63 rfl qM6 (ty := .object "java/lang/String") rfl rfl (r := gsk G (snx (1 : Int32))) rfl (fun h28 => ?_)
      refine callV_b (q := 67) (j := 0) (As := [.ref (gsk G (snx (1 : Int32)))]) (rest := [.ref (gad G 0)]) (f := (fX9_spells (snx (1 : Int32)) s8)) hK dX9_readAll_64 rfl (fun b hb => c_X9_spells (snx (1 : Int32)) (by have := snx_lt h28; omega) s8 b hb) ⟨9, _, _, _, by decide, rfl, cM, rfl⟩ mv_X9_spells rfl rfl (Nat.le_of_ble_eq_true rfl) tw_1165 mw_X9_spells (rmOk (Nat.le_of_ble_eq_true rfl) (Nat.le_of_ble_eq_true rfl)) (fun r29 => ?_)
      refine r_ifb_eq (t := 74) (q := 70) hK dX9_readAll_67 rfl rfl (fun c30 => ?_) (fun c30 => ?_)
      · refine r_iconst (q := 71) (v := 1) hK dX9_readAll_70 rfl rfl ?_
        refine r_goto (q := 92) hK dX9_readAll_71 rfl ?_
        exact sV.sub [0] (by rfl) (hk92 (1 : Int32))
      · refine r_aload_n (q := 75) hK dX9_readAll_74 rfl rfl 0 rfl ?_
        refine r_aload_n (q := 76) hK dX9_readAll_75 rfl rfl 0 rfl ?_
        refine gf_9_7 (q := 79) hK dX9_readAll_76 rfl tw_811 ?_
        refine r_iconst (q := 80) (v := 2) hK dX9_readAll_79 rfl rfl ?_
        refine r_aald (q := 81) hK dX9_readAll_80 rfl qM6 (ty := .object "java/lang/String") rfl rfl (r := gsk G (snx (2 : Int32))) rfl (fun h31 => ?_)
        refine callV_b (q := 84) (j := 0) (As := [.ref (gsk G (snx (2 : Int32)))]) (rest := [.ref (gad G 0)]) (f := (fX9_spells (snx (2 : Int32)) s8)) hK dX9_readAll_81 rfl (fun b hb => c_X9_spells (snx (2 : Int32)) (by have := snx_lt h31; omega) s8 b hb) ⟨9, _, _, _, by decide, rfl, cM, rfl⟩ mv_X9_spells rfl rfl (Nat.le_of_ble_eq_true rfl) tw_1165 mw_X9_spells (rmOk (Nat.le_of_ble_eq_true rfl) (Nat.le_of_ble_eq_true rfl)) (fun r32 => ?_)
        refine r_ifb_eq (t := 91) (q := 87) hK dX9_readAll_84 rfl rfl (fun c33 => ?_) (fun c33 => ?_)
        · refine r_iconst (q := 88) (v := 2) hK dX9_readAll_87 rfl rfl ?_
          refine r_goto (q := 92) hK dX9_readAll_88 rfl ?_
          exact sV.sub [0] (by rfl) (hk92 (2 : Int32))
        · refine r_iconst (q := 92) (v := -1) hK dX9_readAll_91 rfl rfl ?_
          exact sV.sub [0] (by rfl) (hk92 (-1 : Int32))
def fX9_text_L87  (v2 : Int32) (k : Int32 → Store → Option (Int32 × Store)) : Nat → Int32 → Store → Option (Int32 × Store)
  | 0, _, _ => none
  | n + 1, i3, τ => (if (τ 0 17) ≤ i3 then (k i3 τ) else (six 100 i3 (six 1480 ((v2 + (3 : Int32)) + i3) (slt (sup τ 1 (snx ((v2 + (3 : Int32)) + i3)) (τ 8 (snx i3))) fun s25 => (fX9_text_L87 v2 k n (i3 + (1 : Int32)) s25)))))
theorem vX9_text_L87 {G : Geo} {K : KT} {l0 : Launch} (σ : Store) {a : (Int32 × Store)} (v1 : Int32) (v2 : Int32) (hK : sOk wMod G K l0 RX9 cX9_text (rmL 114 6840) 4 (some .int) (some (.int a.1)) a.2) (k : Int32 → Store → Option (Int32 × Store)) (hk : ∀ (e3 : Int32) (ε : Store), sV wMod G K a ε 117 [(0, .ref (gad G 0)), (1, .int v1), (2, .int v2), (3, .int e3)] [] (k e3 ε)) : ∀ (n : Nat) (i3 : Int32) (τ : Store), sV wMod G K a τ 87 [(0, .ref (gad G 0)), (1, .int v1), (2, .int v2), (3, .int i3)] [] (fX9_text_L87 v2 k n i3 τ) := by
  intro n
  induction n with
  | zero =>
    intro i3 τ
    exact sV.no
  | succ n ih =>
    intro i3 τ
    rw [fX9_text_L87]
    refine r_iload_n (q := 88) hK dX9_text_87 rfl rfl 3 rfl ?_
    refine r_aload_n (q := 89) hK dX9_text_88 rfl rfl 0 rfl ?_
    refine gf_9_17 (q := 92) hK dX9_text_89 rfl tw_821 ?_
    refine r_icmp_ge (t := 117) (q := 95) hK dX9_text_92 rfl rfl (fun c22 => ?_) (fun c22 => ?_)
    · exact sV.sub [0, 1, 2, 3] (by rfl) (hk i3 τ)
    · refine r_aload_n (q := 96) hK dX9_text_95 rfl rfl 0 rfl ?_
      refine gf_9_0 (q := 99) hK dX9_text_96 rfl tw_804 ?_
      refine r_iload_n (q := 100) hK dX9_text_99 rfl rfl 2 rfl ?_
      refine r_iconst (q := 101) (v := 3) hK dX9_text_100 rfl rfl ?_
      refine r_iadd (q := 102) hK dX9_text_101 rfl ?_
      refine r_iload_n (q := 103) hK dX9_text_102 rfl rfl 3 rfl ?_
      refine r_iadd (q := 104) hK dX9_text_103 rfl ?_
      refine r_aload_n (q := 105) hK dX9_text_104 rfl rfl 0 rfl ?_
      refine gf_9_18 (q := 108) hK dX9_text_105 rfl tw_822 ?_
      refine r_iload_n (q := 109) hK dX9_text_108 rfl rfl 3 rfl ?_
      refine r_iald (q := 110) hK dX9_text_109 rfl aM8 (fun h23 => ?_)
      refine r_iast (q := 111) hK dX9_text_110 rfl aM1 (fun h24 => ?_)
      refine sV.ltS (fun s25 => ?_)
      refine r_iinc (q := 114) (v := (i3 + (1 : Int32))) (loc' := [(3, .int (i3 + (1 : Int32))), (0, .ref (gad G 0)), (1, .int v1), (2, .int v2)]) hK dX9_text_111 rfl 3 rfl rfl (by decide) rfl ?_
      refine r_goto (q := 87) hK dX9_text_114 rfl ?_
      exact sV.sub [1, 2, 3, 0] (by rfl) (ih (i3 + (1 : Int32)) s25)
def fX9_text   (σ : Store) : Option (Int32 × Store) := (sbd (fX9_readAll σ) fun s1 => (slt (sup s1 0 6 (0 : Int32)) fun s2 => (if (s2 0 12) = 0 then (six 1480 (7 : Int32) (slt (s2 1 (snx (7 : Int32))) fun x5 => (if ¬ x5 = (14 : Int32) then (slt ((80 : Int32) + ((100 : Int32) * x5)) fun x7 => (six 1480 (x7 + (0 : Int32)) (slt (sup s2 1 (snx (x7 + (0 : Int32))) (s2 0 13)) fun s9 => (six 1480 (x7 + (1 : Int32)) (slt (sup s9 1 (snx (x7 + (1 : Int32))) (s9 0 16)) fun s11 => (six 1480 (x7 + (2 : Int32)) (slt (sup s11 1 (snx (x7 + (2 : Int32))) (s11 0 17)) fun s13 => (fX9_text_L87 x7 (fun x26 s27 => (six 1480 (7 : Int32) (six 1480 (7 : Int32) (slt (sup s27 1 (snx (7 : Int32)) ((s27 1 (snx (7 : Int32))) + (1 : Int32))) fun s30 => (some (x5, s30)))))) FU (0 : Int32) s13)))))))) else (some ((-1000000003 : Int32), s2))))) else (some (((-100 : Int32) - (s2 0 9)), s2)))))
theorem c_X9_text {l0 : Launch} {G : Geo}  (σ : Store) (a : (Int32 × Store)) (hf : fX9_text   σ = some a) : sCon l0 wMod G yX9_text cX9_text 4 (some .int) (rmL 114 6840) [.ref (gad G 0)] σ (some (.int a.1)) a.2 := by
  refine sCon.of (by decide) ⟨rfl, rfl⟩ (Nat.le_of_ble_eq_true rfl) RX9 rfl _ hf (fun K hK => ?_)
  show sV wMod G K a σ 0 [(0, .ref (gad G 0))] [] _
  unfold fX9_text
  refine r_aload_n (q := 1) hK dX9_text_0 rfl rfl 0 rfl ?_
  refine callV_vS (q := 4) (j := 0) (As := []) (rest := []) (f := (fX9_readAll σ)) hK dX9_text_1 rfl (fun b hb => c_X9_readAll σ b hb) ⟨9, _, _, _, by decide, rfl, cM, rfl⟩ mv_X9_readAll rfl rfl (Nat.le_of_ble_eq_true rfl) tw_1147 mw_X9_readAll (rmOk (Nat.le_of_ble_eq_true rfl) (Nat.le_of_ble_eq_true rfl)) (fun s1 => ?_)
  refine r_aload_n (q := 5) hK dX9_text_4 rfl rfl 0 rfl ?_
  refine r_iconst (q := 6) (v := 0) hK dX9_text_5 rfl rfl ?_
  refine pf_9_6 (q := 9) hK dX9_text_6 rfl tw_810 ?_
  refine sV.ltS (fun s2 => ?_)
  refine r_aload_n (q := 10) hK dX9_text_9 rfl rfl 0 rfl ?_
  refine gf_9_12 (q := 13) hK dX9_text_10 rfl tw_816 ?_
  refine r_if_eq (t := 24) (q := 16) hK dX9_text_13 rfl rfl (fun c3 => ?_) (fun c3 => ?_)
  · refine r_aload_n (q := 25) hK dX9_text_24 rfl rfl 0 rfl ?_
    refine gf_9_0 (q := 28) hK dX9_text_25 rfl tw_804 ?_
    refine r_bipush (q := 30) (v := 7) hK dX9_text_28 rfl rfl ?_
    refine r_iald (q := 31) hK dX9_text_30 rfl aM1 (fun h4 => ?_)
    refine sV.ltI (fun x5 => ?_)
    refine r_istore_n (q := 32) (loc' := [(1, .int x5), (0, .ref (gad G 0))]) hK dX9_text_31 rfl rfl (by decide) rfl ?_
    refine r_iload_n (q := 33) hK dX9_text_32 rfl rfl 0 rfl ?_
    refine r_bipush (q := 35) (v := 14) hK dX9_text_33 rfl rfl ?_
    refine r_icmp_ne (t := 41) (q := 38) hK dX9_text_35 rfl rfl (fun c6 => ?_) (fun c6 => ?_)
    · refine r_bipush (q := 43) (v := 80) hK dX9_text_41 rfl rfl ?_
      refine r_bipush (q := 45) (v := 100) hK dX9_text_43 rfl rfl ?_
      refine r_iload_n (q := 46) hK dX9_text_45 rfl rfl 0 rfl ?_
      refine r_imul (q := 47) hK dX9_text_46 rfl ?_
      refine r_iadd (q := 48) hK dX9_text_47 rfl ?_
      refine sV.ltI (fun x7 => ?_)
      refine r_istore_n (q := 49) (loc' := [(2, .int x7), (1, .int x5), (0, .ref (gad G 0))]) hK dX9_text_48 rfl rfl (by decide) rfl ?_
      refine r_aload_n (q := 50) hK dX9_text_49 rfl rfl 2 rfl ?_
      refine gf_9_0 (q := 53) hK dX9_text_50 rfl tw_804 ?_
      refine r_iload_n (q := 54) hK dX9_text_53 rfl rfl 0 rfl ?_
      refine r_iconst (q := 55) (v := 0) hK dX9_text_54 rfl rfl ?_
      refine r_iadd (q := 56) hK dX9_text_55 rfl ?_
      refine r_aload_n (q := 57) hK dX9_text_56 rfl rfl 2 rfl ?_
      refine gf_9_13 (q := 60) hK dX9_text_57 rfl tw_817 ?_
      refine r_iast (q := 61) hK dX9_text_60 rfl aM1 (fun h8 => ?_)
      refine sV.ltS (fun s9 => ?_)
      refine r_aload_n (q := 62) hK dX9_text_61 rfl rfl 2 rfl ?_
      refine gf_9_0 (q := 65) hK dX9_text_62 rfl tw_804 ?_
      refine r_iload_n (q := 66) hK dX9_text_65 rfl rfl 0 rfl ?_
      refine r_iconst (q := 67) (v := 1) hK dX9_text_66 rfl rfl ?_
      refine r_iadd (q := 68) hK dX9_text_67 rfl ?_
      refine r_aload_n (q := 69) hK dX9_text_68 rfl rfl 2 rfl ?_
      refine gf_9_16 (q := 72) hK dX9_text_69 rfl tw_820 ?_
      refine r_iast (q := 73) hK dX9_text_72 rfl aM1 (fun h10 => ?_)
      refine sV.ltS (fun s11 => ?_)
      refine r_aload_n (q := 74) hK dX9_text_73 rfl rfl 2 rfl ?_
      refine gf_9_0 (q := 77) hK dX9_text_74 rfl tw_804 ?_
      refine r_iload_n (q := 78) hK dX9_text_77 rfl rfl 0 rfl ?_
      refine r_iconst (q := 79) (v := 2) hK dX9_text_78 rfl rfl ?_
      refine r_iadd (q := 80) hK dX9_text_79 rfl ?_
      refine r_aload_n (q := 81) hK dX9_text_80 rfl rfl 2 rfl ?_
      refine gf_9_17 (q := 84) hK dX9_text_81 rfl tw_821 ?_
      refine r_iast (q := 85) hK dX9_text_84 rfl aM1 (fun h12 => ?_)
      refine sV.ltS (fun s13 => ?_)
      refine r_iconst (q := 86) (v := 0) hK dX9_text_85 rfl rfl ?_
      refine r_istore_n (q := 87) (loc' := [(3, .int (0 : Int32)), (2, .int x7), (1, .int x5), (0, .ref (gad G 0))]) hK dX9_text_86 rfl rfl (by decide) rfl ?_
      refine sV.sub [3, 2, 1, 0] (by rfl) (vX9_text_L87 s13 x5 x7 hK _ (fun x26 s27 => ?_) FU (0 : Int32) s13)
      refine r_aload_n (q := 118) hK dX9_text_117 rfl rfl 0 rfl ?_
      refine gf_9_0 (q := 121) hK dX9_text_118 rfl tw_804 ?_
      refine r_bipush (q := 123) (v := 7) hK dX9_text_121 rfl rfl ?_
      refine r_dup2 (q := 124) hK dX9_text_123 rfl rfl rfl ?_
      refine r_iald (q := 125) hK dX9_text_124 rfl aM1 (fun h28 => ?_)
      refine r_iconst (q := 126) (v := 1) hK dX9_text_125 rfl rfl ?_
      refine r_iadd (q := 127) hK dX9_text_126 rfl ?_
      refine r_iast (q := 128) hK dX9_text_127 rfl aM1 (fun h29 => ?_)
      refine sV.ltS (fun s30 => ?_)
      refine r_iload_n (q := 129) hK dX9_text_128 rfl rfl 1 rfl ?_
      exact e_iS hK dX9_text_129
    · refine r_ldc (q := 40) hK dX9_text_38 rfl tw_907 ?_
      exact e_iS hK dX9_text_40
  · refine r_bipush (q := 18) (v := -100) hK dX9_text_16 rfl rfl ?_
    refine r_aload_n (q := 19) hK dX9_text_18 rfl rfl 0 rfl ?_
    refine gf_9_9 (q := 22) hK dX9_text_19 rfl tw_813 ?_
    refine r_isub (q := 23) hK dX9_text_22 rfl ?_
    exact e_iS hK dX9_text_23
def fX9_textTold  (a1 : Int32) (a2 : Int32) (σ : Store) : Option Int32 := (six 1480 (7 : Int32) (sbd (fX9_within a1 (0 : Int32) ((σ 1 (snx (7 : Int32))) - (1 : Int32)) σ) fun r2 => (if r2 = true then (sbd (fX9_within a2 (0 : Int32) (1 : Int32) σ) fun r4 => (if r4 = true then (six 1480 (((80 : Int32) + ((100 : Int32) * a1)) + a2) (some (σ 1 (snx (((80 : Int32) + ((100 : Int32) * a1)) + a2))))) else (some (-1000000001 : Int32)))) else (some (-1000000001 : Int32)))))
theorem c_X9_textTold {l0 : Launch} {G : Geo} (a1 : Int32) (a2 : Int32) (σ : Store) (a : Int32) (hf : fX9_textTold  a1 a2 σ = some a) : sCon l0 wMod G yX9_textTold cX9_textTold 3 (some .int) (rmL 2 82) [.ref (gad G 0), .int a1, .int a2] σ (some (.int a)) σ := by
  refine sCon.of (by decide) ⟨rfl, rfl⟩ (Nat.le_of_ble_eq_true rfl) RX9 rfl _ hf (fun K hK => ?_)
  show sV wMod G K a σ 0 [(0, .ref (gad G 0)), (1, .int a1), (2, .int a2)] [] _
  unfold fX9_textTold
  refine r_iload_n (q := 1) hK dX9_textTold_0 rfl rfl 1 rfl ?_
  refine r_iconst (q := 2) (v := 0) hK dX9_textTold_1 rfl rfl ?_
  refine r_aload_n (q := 3) hK dX9_textTold_2 rfl rfl 0 rfl ?_
  refine gf_9_0 (q := 6) hK dX9_textTold_3 rfl tw_804 ?_
  refine r_bipush (q := 8) (v := 7) hK dX9_textTold_6 rfl rfl ?_
  refine r_iald (q := 9) hK dX9_textTold_8 rfl aM1 (fun h1 => ?_)
  refine r_iconst (q := 10) (v := 1) hK dX9_textTold_9 rfl rfl ?_
  refine r_isub (q := 11) hK dX9_textTold_10 rfl ?_
  refine callS_b (q := 14) (As := [.int a1, .int (0 : Int32), .int ((σ 1 (snx (7 : Int32))) - (1 : Int32))]) (rest := []) (f := (fX9_within a1 (0 : Int32) ((σ 1 (snx (7 : Int32))) - (1 : Int32)) σ)) hK dX9_textTold_11 rfl (fun b hb => c_X9_within a1 (0 : Int32) ((σ 1 (snx (7 : Int32))) - (1 : Int32)) σ b hb) ms_X9_within rfl rfl (Nat.le_of_ble_eq_true rfl) tw_900 mw_X9_within (rmOk (Nat.le_of_ble_eq_true rfl) (Nat.le_of_ble_eq_true rfl)) (fun r2 => ?_)
  refine r_ifb_eq (t := 43) (q := 17) hK dX9_textTold_14 rfl rfl (fun c3 => ?_) (fun c3 => ?_)
  · refine r_iload_n (q := 18) hK dX9_textTold_17 rfl rfl 2 rfl ?_
    refine r_iconst (q := 19) (v := 0) hK dX9_textTold_18 rfl rfl ?_
    refine r_iconst (q := 20) (v := 1) hK dX9_textTold_19 rfl rfl ?_
    refine callS_b (q := 23) (As := [.int a2, .int (0 : Int32), .int (1 : Int32)]) (rest := []) (f := (fX9_within a2 (0 : Int32) (1 : Int32) σ)) hK dX9_textTold_20 rfl (fun b hb => c_X9_within a2 (0 : Int32) (1 : Int32) σ b hb) ms_X9_within rfl rfl (Nat.le_of_ble_eq_true rfl) tw_900 mw_X9_within (rmOk (Nat.le_of_ble_eq_true rfl) (Nat.le_of_ble_eq_true rfl)) (fun r4 => ?_)
    refine r_ifb_eq (t := 43) (q := 26) hK dX9_textTold_23 rfl rfl (fun c5 => ?_) (fun c5 => ?_)
    · refine r_aload_n (q := 27) hK dX9_textTold_26 rfl rfl 0 rfl ?_
      refine gf_9_0 (q := 30) hK dX9_textTold_27 rfl tw_804 ?_
      refine r_bipush (q := 32) (v := 80) hK dX9_textTold_30 rfl rfl ?_
      refine r_bipush (q := 34) (v := 100) hK dX9_textTold_32 rfl rfl ?_
      refine r_iload_n (q := 35) hK dX9_textTold_34 rfl rfl 1 rfl ?_
      refine r_imul (q := 36) hK dX9_textTold_35 rfl ?_
      refine r_iadd (q := 37) hK dX9_textTold_36 rfl ?_
      refine r_iload_n (q := 38) hK dX9_textTold_37 rfl rfl 2 rfl ?_
      refine r_iadd (q := 39) hK dX9_textTold_38 rfl ?_
      refine r_iald (q := 40) hK dX9_textTold_39 rfl aM1 (fun h6 => ?_)
      refine r_goto (q := 45) hK dX9_textTold_40 rfl ?_
      exact e_i hK dX9_textTold_45
    · refine r_ldc (q := 45) hK dX9_textTold_43 rfl tw_906 ?_
      exact e_i hK dX9_textTold_45
  · refine r_ldc (q := 45) hK dX9_textTold_43 rfl tw_906 ?_
    exact e_i hK dX9_textTold_45
def fX9_why  (a1 : Int32) (σ : Store) : Option Int32 := (sbd (fX9_within a1 (0 : Int32) (2 : Int32) σ) fun r1 => (if r1 = true then (sbd (fX9_counting a1 σ) fun r3 => (if 0 ≤ r3 then (some r3) else (some (-1000000005 : Int32)))) else (some (-1000000001 : Int32))))
theorem c_X9_why {l0 : Launch} {G : Geo} (a1 : Int32) (σ : Store) (a : Int32) (hf : fX9_why  a1 σ = some a) : sCon l0 wMod G yX9_why cX9_why 3 (some .int) (rmL 2 83) [.ref (gad G 0), .int a1] σ (some (.int a)) σ := by
  refine sCon.of (by decide) ⟨rfl, rfl⟩ (Nat.le_of_ble_eq_true rfl) RX9 rfl _ hf (fun K hK => ?_)
  show sV wMod G K a σ 0 [(0, .ref (gad G 0)), (1, .int a1)] [] _
  unfold fX9_why
  refine r_iload_n (q := 1) hK dX9_why_0 rfl rfl 1 rfl ?_
  refine r_iconst (q := 2) (v := 0) hK dX9_why_1 rfl rfl ?_
  refine r_iconst (q := 3) (v := 2) hK dX9_why_2 rfl rfl ?_
  refine callS_b (q := 6) (As := [.int a1, .int (0 : Int32), .int (2 : Int32)]) (rest := []) (f := (fX9_within a1 (0 : Int32) (2 : Int32) σ)) hK dX9_why_3 rfl (fun b hb => c_X9_within a1 (0 : Int32) (2 : Int32) σ b hb) ms_X9_within rfl rfl (Nat.le_of_ble_eq_true rfl) tw_900 mw_X9_within (rmOk (Nat.le_of_ble_eq_true rfl) (Nat.le_of_ble_eq_true rfl)) (fun r1 => ?_)
  refine r_ifb_ne (t := 12) (q := 9) hK dX9_why_6 rfl rfl (fun c2 => ?_) (fun c2 => ?_)
  · refine r_aload_n (q := 13) hK dX9_why_12 rfl rfl 0 rfl ?_
    refine r_iload_n (q := 14) hK dX9_why_13 rfl rfl 1 rfl ?_
    refine callV_i (q := 17) (j := 0) (As := [.int a1]) (rest := []) (f := (fX9_counting a1 σ)) hK dX9_why_14 rfl (fun b hb => c_X9_counting a1 σ b hb) ⟨9, _, _, _, by decide, rfl, cM, rfl⟩ mv_X9_counting rfl rfl (Nat.le_of_ble_eq_true rfl) tw_928 mw_X9_counting (rmOk (Nat.le_of_ble_eq_true rfl) (Nat.le_of_ble_eq_true rfl)) (fun r3 => ?_)
    refine r_istore_n (q := 18) (loc' := [(2, .int r3), (0, .ref (gad G 0)), (1, .int a1)]) hK dX9_why_17 rfl rfl (by decide) rfl ?_
    refine r_iload_n (q := 19) hK dX9_why_18 rfl rfl 0 rfl ?_
    refine r_if_ge (t := 27) (q := 22) hK dX9_why_19 rfl rfl (fun c4 => ?_) (fun c4 => ?_)
    · refine r_iload_n (q := 28) hK dX9_why_27 rfl rfl 0 rfl ?_
      exact e_i hK dX9_why_28
    · refine r_ldc (q := 24) hK dX9_why_22 rfl tw_1077 ?_
      refine r_goto (q := 28) hK dX9_why_24 rfl ?_
      exact e_i hK dX9_why_28
  · refine r_ldc (q := 11) hK dX9_why_9 rfl tw_906 ?_
    exact e_i hK dX9_why_11
def fX9_sheet_L66  (v1 : Int32) (k : Int32 → Store → Option (Int32 × Store)) : Nat → Int32 → Store → Option (Int32 × Store)
  | 0, _, _ => none
  | n + 1, i4, τ => (if (24 : Int32) ≤ i4 then (k i4 τ) else (six 96 (((24 : Int32) * v1) + i4) (slt (sup τ 13 (snx (((24 : Int32) * v1) + i4)) (0 : Int32)) fun s22 => (fX9_sheet_L66 v1 k n (i4 + (1 : Int32)) s22))))
theorem vX9_sheet_L66 {G : Geo} {K : KT} {l0 : Launch} (σ : Store) {a : (Int32 × Store)} (v1 : Int32) (v2 : Int32) (v3 : Int32) (hK : sOk wMod G K l0 RX9 cX9_sheet (rmL 3 102) 5 (some .int) (some (.int a.1)) a.2) (k : Int32 → Store → Option (Int32 × Store)) (hk : ∀ (e4 : Int32) (ε : Store), sV wMod G K a ε 92 [(0, .ref (gad G 0)), (1, .int v1), (2, .int v2), (3, .int v3), (4, .int e4)] [] (k e4 ε)) : ∀ (n : Nat) (i4 : Int32) (τ : Store), sV wMod G K a τ 66 [(0, .ref (gad G 0)), (1, .int v1), (2, .int v2), (3, .int v3), (4, .int i4)] [] (fX9_sheet_L66 v1 k n i4 τ) := by
  intro n
  induction n with
  | zero =>
    intro i4 τ
    exact sV.no
  | succ n ih =>
    intro i4 τ
    rw [fX9_sheet_L66]
    refine r_iload (q := 68) hK dX9_sheet_66 rfl 4 rfl ?_
    refine r_bipush (q := 70) (v := 24) hK dX9_sheet_68 rfl rfl ?_
    refine r_icmp_ge (t := 92) (q := 73) hK dX9_sheet_70 rfl rfl (fun c20 => ?_) (fun c20 => ?_)
    · exact sV.sub [0, 1, 2, 3, 4] (by rfl) (hk i4 τ)
    · refine r_aload_n (q := 74) hK dX9_sheet_73 rfl rfl 0 rfl ?_
      refine gf_9_23 (q := 77) hK dX9_sheet_74 rfl tw_827 ?_
      refine r_bipush (q := 79) (v := 24) hK dX9_sheet_77 rfl rfl ?_
      refine r_iload_n (q := 80) hK dX9_sheet_79 rfl rfl 1 rfl ?_
      refine r_imul (q := 81) hK dX9_sheet_80 rfl ?_
      refine r_iload (q := 83) hK dX9_sheet_81 rfl 4 rfl ?_
      refine r_iadd (q := 84) hK dX9_sheet_83 rfl ?_
      refine r_iconst (q := 85) (v := 0) hK dX9_sheet_84 rfl rfl ?_
      refine r_iast (q := 86) hK dX9_sheet_85 rfl aM13 (fun h21 => ?_)
      refine sV.ltS (fun s22 => ?_)
      refine r_iinc (q := 89) (v := (i4 + (1 : Int32))) (loc' := [(4, .int (i4 + (1 : Int32))), (0, .ref (gad G 0)), (1, .int v1), (2, .int v2), (3, .int v3)]) hK dX9_sheet_86 rfl 4 rfl rfl (by decide) rfl ?_
      refine r_goto (q := 66) hK dX9_sheet_89 rfl ?_
      exact sV.sub [1, 2, 3, 4, 0] (by rfl) (ih (i4 + (1 : Int32)) s22)
def fX9_sheet  (a1 : Int32) (a2 : Int32) (a3 : Int32) (σ : Store) : Option (Int32 × Store) := (sbd (fX9_isSheet a1 σ) fun r1 => (if r1 = true then (sbd (fX9_within a2 (-1 : Int32) (1 : Int32) σ) fun r3 => (if r3 = true then (sjn (fun k29 : Unit → Option (Int32 × Store) => (if a2 < 0 then (k29 ()) else (if a3 ≤ (24 : Int32) then (k29 ()) else (some ((-1000000001 : Int32), σ))))) (fun (_u : Unit) => (sjn (fun k41 : Unit → Option (Int32 × Store) => (if a2 < 0 then (k41 ()) else (if 0 ≤ a3 then (k41 ()) else (some ((-1000000014 : Int32), σ))))) (fun (_u : Unit) => (six 4 a1 (slt (sup σ 11 (snx a1) a2) fun s10 => (sjn (fun k62 : Int32 → Option (Int32 × Store) => (if 0 ≤ a2 then (k62 a3) else (k62 (0 : Int32)))) (fun (z0_62 : Int32) => (six 4 a1 (slt (sup s10 12 (snx a1) z0_62) fun s13 => (fX9_sheet_L66 a1 (fun x23 s24 => (six 4 a1 (some ((s24 12 (snx a1)), s24)))) FU (0 : Int32) s13))))))))))) else (some ((-1000000001 : Int32), σ)))) else (some ((-1000000001 : Int32), σ))))
theorem c_X9_sheet {l0 : Launch} {G : Geo} (a1 : Int32) (a2 : Int32) (a3 : Int32) (σ : Store) (a : (Int32 × Store)) (hf : fX9_sheet  a1 a2 a3 σ = some a) : sCon l0 wMod G yX9_sheet cX9_sheet 5 (some .int) (rmL 3 102) [.ref (gad G 0), .int a1, .int a2, .int a3] σ (some (.int a.1)) a.2 := by
  refine sCon.of (by decide) ⟨rfl, rfl⟩ (Nat.le_of_ble_eq_true rfl) RX9 rfl _ hf (fun K hK => ?_)
  show sV wMod G K a σ 0 [(0, .ref (gad G 0)), (1, .int a1), (2, .int a2), (3, .int a3)] [] _
  unfold fX9_sheet
  refine r_iload_n (q := 1) hK dX9_sheet_0 rfl rfl 1 rfl ?_
  refine callS_b (q := 4) (As := [.int a1]) (rest := []) (f := (fX9_isSheet a1 σ)) hK dX9_sheet_1 rfl (fun b hb => c_X9_isSheet a1 σ b hb) ms_X9_isSheet rfl rfl (Nat.le_of_ble_eq_true rfl) tw_1117 mw_X9_isSheet (rmOk (Nat.le_of_ble_eq_true rfl) (Nat.le_of_ble_eq_true rfl)) (fun r1 => ?_)
  refine r_ifb_eq (t := 26) (q := 7) hK dX9_sheet_4 rfl rfl (fun c2 => ?_) (fun c2 => ?_)
  · refine r_iload_n (q := 8) hK dX9_sheet_7 rfl rfl 2 rfl ?_
    refine r_iconst (q := 9) (v := -1) hK dX9_sheet_8 rfl rfl ?_
    refine r_iconst (q := 10) (v := 1) hK dX9_sheet_9 rfl rfl ?_
    refine callS_b (q := 13) (As := [.int a2, .int (-1 : Int32), .int (1 : Int32)]) (rest := []) (f := (fX9_within a2 (-1 : Int32) (1 : Int32) σ)) hK dX9_sheet_10 rfl (fun b hb => c_X9_within a2 (-1 : Int32) (1 : Int32) σ b hb) ms_X9_within rfl rfl (Nat.le_of_ble_eq_true rfl) tw_900 mw_X9_within (rmOk (Nat.le_of_ble_eq_true rfl) (Nat.le_of_ble_eq_true rfl)) (fun r3 => ?_)
    refine r_ifb_eq (t := 26) (q := 16) hK dX9_sheet_13 rfl rfl (fun c4 => ?_) (fun c4 => ?_)
    · refine r_iload_n (q := 17) hK dX9_sheet_16 rfl rfl 2 rfl ?_
      refine sV.jn (fun k : Unit → Option (Int32 × Store) => ∀ (_u : Unit), sV wMod G K a σ 29 [(0, .ref (gad G 0)), (1, .int a1), (2, .int a2), (3, .int a3)] [] (k ())) (fun _ => ?_) (fun k29 hk29 => ?_)
      · refine r_iload_n (q := 30) hK dX9_sheet_29 rfl rfl 2 rfl ?_
        refine sV.jn (fun k : Unit → Option (Int32 × Store) => ∀ (_u : Unit), sV wMod G K a σ 41 [(0, .ref (gad G 0)), (1, .int a1), (2, .int a2), (3, .int a3)] [] (k ())) (fun _ => ?_) (fun k41 hk41 => ?_)
        · refine r_aload_n (q := 42) hK dX9_sheet_41 rfl rfl 0 rfl ?_
          refine gf_9_21 (q := 45) hK dX9_sheet_42 rfl tw_825 ?_
          refine r_iload_n (q := 46) hK dX9_sheet_45 rfl rfl 1 rfl ?_
          refine r_iload_n (q := 47) hK dX9_sheet_46 rfl rfl 2 rfl ?_
          refine r_iast (q := 48) hK dX9_sheet_47 rfl aM11 (fun h9 => ?_)
          refine sV.ltS (fun s10 => ?_)
          refine r_aload_n (q := 49) hK dX9_sheet_48 rfl rfl 0 rfl ?_
          refine gf_9_22 (q := 52) hK dX9_sheet_49 rfl tw_826 ?_
          refine r_iload_n (q := 53) hK dX9_sheet_52 rfl rfl 1 rfl ?_
          refine r_iload_n (q := 54) hK dX9_sheet_53 rfl rfl 2 rfl ?_
          refine sV.jn (fun k : Int32 → Option (Int32 × Store) => ∀ (z0_62 : Int32), sV wMod G K a s10 62 [(0, .ref (gad G 0)), (1, .int a1), (2, .int a2), (3, .int a3)] [.int z0_62, .int a1, .ref (gad G 12)] (k z0_62)) (fun z0_62 => ?_) (fun k62 hk62 => ?_)
          · refine r_iast (q := 63) hK dX9_sheet_62 rfl aM12 (fun h12 => ?_)
            refine sV.ltS (fun s13 => ?_)
            refine r_iconst (q := 64) (v := 0) hK dX9_sheet_63 rfl rfl ?_
            refine r_istore (q := 66) (loc' := [(4, .int (0 : Int32)), (0, .ref (gad G 0)), (1, .int a1), (2, .int a2), (3, .int a3)]) hK dX9_sheet_64 rfl (by decide) rfl ?_
            refine sV.sub [1, 2, 3, 4, 0] (by rfl) (vX9_sheet_L66 s13 a1 a2 a3 hK _ (fun x23 s24 => ?_) FU (0 : Int32) s13)
            refine r_aload_n (q := 93) hK dX9_sheet_92 rfl rfl 0 rfl ?_
            refine gf_9_22 (q := 96) hK dX9_sheet_93 rfl tw_826 ?_
            refine r_iload_n (q := 97) hK dX9_sheet_96 rfl rfl 1 rfl ?_
            refine r_iald (q := 98) hK dX9_sheet_97 rfl aM12 (fun h25 => ?_)
            exact e_iS hK dX9_sheet_98
          · refine r_if_ge (t := 61) (q := 57) hK dX9_sheet_54 rfl rfl (fun c26 => ?_) (fun c26 => ?_)
            · refine r_iload_n (q := 62) hK dX9_sheet_61 rfl rfl 3 rfl ?_
              exact sV.sub [0, 1, 2, 3] (by rfl) (hk62 a3)
            · refine r_iconst (q := 58) (v := 0) hK dX9_sheet_57 rfl rfl ?_
              refine r_goto (q := 62) hK dX9_sheet_58 rfl ?_
              exact sV.sub [0, 1, 2, 3] (by rfl) (hk62 (0 : Int32))
        · refine r_if_lt (t := 41) (q := 33) hK dX9_sheet_30 rfl rfl (fun c27 => ?_) (fun c27 => ?_)
          · exact sV.sub [0, 1, 2, 3] (by rfl) (hk41 ())
          · refine r_iload_n (q := 34) hK dX9_sheet_33 rfl rfl 3 rfl ?_
            refine r_if_ge (t := 41) (q := 37) hK dX9_sheet_34 rfl rfl (fun c28 => ?_) (fun c28 => ?_)
            · exact sV.sub [0, 1, 2, 3] (by rfl) (hk41 ())
            · refine r_ldcw (q := 40) hK dX9_sheet_37 rfl tw_1269 ?_
              exact e_iS hK dX9_sheet_40
      · refine r_if_lt (t := 29) (q := 20) hK dX9_sheet_17 rfl rfl (fun c29 => ?_) (fun c29 => ?_)
        · exact sV.sub [0, 1, 2, 3] (by rfl) (hk29 ())
        · refine r_iload_n (q := 21) hK dX9_sheet_20 rfl rfl 3 rfl ?_
          refine r_bipush (q := 23) (v := 24) hK dX9_sheet_21 rfl rfl ?_
          refine r_icmp_le (t := 29) (q := 26) hK dX9_sheet_23 rfl rfl (fun c30 => ?_) (fun c30 => ?_)
          · exact sV.sub [0, 1, 2, 3] (by rfl) (hk29 ())
          · refine r_ldc (q := 28) hK dX9_sheet_26 rfl tw_906 ?_
            exact e_iS hK dX9_sheet_28
    · refine r_ldc (q := 28) hK dX9_sheet_26 rfl tw_906 ?_
      exact e_iS hK dX9_sheet_28
  · refine r_ldc (q := 28) hK dX9_sheet_26 rfl tw_906 ?_
    exact e_iS hK dX9_sheet_28
def fX9_mark  (a1 : Int32) (a2 : Int32) (a3 : Int32) (σ : Store) : Option (Int32 × Store) := (sbd (fX9_isSheet a1 σ) fun r1 => (if r1 = true then (six 4 a1 (if 0 ≤ (σ 11 (snx a1)) then (six 4 a1 (sbd (fX9_within a2 (0 : Int32) ((σ 12 (snx a1)) - (1 : Int32)) σ) fun r6 => (if r6 = true then (six 4 a1 (sjn (fun k60 : Unit → Option (Int32 × Store) => (if ¬ (σ 11 (snx a1)) = 0 then (k60 ()) else (if ¬ a3 = (-1000000005 : Int32) then (k60 ()) else (some ((-1000000012 : Int32), σ))))) (fun (_u : Unit) => (six 4 a1 (sjn (fun k92 : Unit → Option (Int32 × Store) => (if ¬ (σ 11 (snx a1)) = (1 : Int32) then (k92 ()) else (if a3 = (-1000000005 : Int32) then (k92 ()) else (sbd (fX9_within a3 (-99999 : Int32) (99999 : Int32) σ) fun r23 => (if r23 = true then (k92 ()) else (some ((-1000000001 : Int32), σ))))))) (fun (_u : Unit) => (six 4 a1 (sjn (fun k117 : Int32 → Option (Int32 × Store) => (if ¬ (σ 11 (snx a1)) = 0 then (k117 a3) else (k117 (a3).toInt16.toInt32))) (fun (z0_117 : Int32) => (six 96 (((24 : Int32) * a1) + a2) (slt (sup σ 13 (snx (((24 : Int32) * a1) + a2)) z0_117) fun s19 => (some ((1 : Int32), s19))))))))))))) else (some ((-1000000013 : Int32), σ))))) else (some ((-1000000011 : Int32), σ)))) else (some ((-1000000001 : Int32), σ))))
theorem c_X9_mark {l0 : Launch} {G : Geo} (a1 : Int32) (a2 : Int32) (a3 : Int32) (σ : Store) (a : (Int32 × Store)) (hf : fX9_mark  a1 a2 a3 σ = some a) : sCon l0 wMod G yX9_mark cX9_mark 4 (some .int) (rmL 3 102) [.ref (gad G 0), .int a1, .int a2, .int a3] σ (some (.int a.1)) a.2 := by
  refine sCon.of (by decide) ⟨rfl, rfl⟩ (Nat.le_of_ble_eq_true rfl) RX9 rfl _ hf (fun K hK => ?_)
  show sV wMod G K a σ 0 [(0, .ref (gad G 0)), (1, .int a1), (2, .int a2), (3, .int a3)] [] _
  unfold fX9_mark
  refine r_iload_n (q := 1) hK dX9_mark_0 rfl rfl 1 rfl ?_
  refine callS_b (q := 4) (As := [.int a1]) (rest := []) (f := (fX9_isSheet a1 σ)) hK dX9_mark_1 rfl (fun b hb => c_X9_isSheet a1 σ b hb) ms_X9_isSheet rfl rfl (Nat.le_of_ble_eq_true rfl) tw_1117 mw_X9_isSheet (rmOk (Nat.le_of_ble_eq_true rfl) (Nat.le_of_ble_eq_true rfl)) (fun r1 => ?_)
  refine r_ifb_ne (t := 10) (q := 7) hK dX9_mark_4 rfl rfl (fun c2 => ?_) (fun c2 => ?_)
  · refine r_aload_n (q := 11) hK dX9_mark_10 rfl rfl 0 rfl ?_
    refine gf_9_21 (q := 14) hK dX9_mark_11 rfl tw_825 ?_
    refine r_iload_n (q := 15) hK dX9_mark_14 rfl rfl 1 rfl ?_
    refine r_iald (q := 16) hK dX9_mark_15 rfl aM11 (fun h3 => ?_)
    refine r_if_ge (t := 22) (q := 19) hK dX9_mark_16 rfl rfl (fun c4 => ?_) (fun c4 => ?_)
    · refine r_iload_n (q := 23) hK dX9_mark_22 rfl rfl 2 rfl ?_
      refine r_iconst (q := 24) (v := 0) hK dX9_mark_23 rfl rfl ?_
      refine r_aload_n (q := 25) hK dX9_mark_24 rfl rfl 0 rfl ?_
      refine gf_9_22 (q := 28) hK dX9_mark_25 rfl tw_826 ?_
      refine r_iload_n (q := 29) hK dX9_mark_28 rfl rfl 1 rfl ?_
      refine r_iald (q := 30) hK dX9_mark_29 rfl aM12 (fun h5 => ?_)
      refine r_iconst (q := 31) (v := 1) hK dX9_mark_30 rfl rfl ?_
      refine r_isub (q := 32) hK dX9_mark_31 rfl ?_
      refine callS_b (q := 35) (As := [.int a2, .int (0 : Int32), .int ((σ 12 (snx a1)) - (1 : Int32))]) (rest := []) (f := (fX9_within a2 (0 : Int32) ((σ 12 (snx a1)) - (1 : Int32)) σ)) hK dX9_mark_32 rfl (fun b hb => c_X9_within a2 (0 : Int32) ((σ 12 (snx a1)) - (1 : Int32)) σ b hb) ms_X9_within rfl rfl (Nat.le_of_ble_eq_true rfl) tw_900 mw_X9_within (rmOk (Nat.le_of_ble_eq_true rfl) (Nat.le_of_ble_eq_true rfl)) (fun r6 => ?_)
      refine r_ifb_ne (t := 42) (q := 38) hK dX9_mark_35 rfl rfl (fun c7 => ?_) (fun c7 => ?_)
      · refine r_aload_n (q := 43) hK dX9_mark_42 rfl rfl 0 rfl ?_
        refine gf_9_21 (q := 46) hK dX9_mark_43 rfl tw_825 ?_
        refine r_iload_n (q := 47) hK dX9_mark_46 rfl rfl 1 rfl ?_
        refine r_iald (q := 48) hK dX9_mark_47 rfl aM11 (fun h8 => ?_)
        refine sV.jn (fun k : Unit → Option (Int32 × Store) => ∀ (_u : Unit), sV wMod G K a σ 60 [(0, .ref (gad G 0)), (1, .int a1), (2, .int a2), (3, .int a3)] [] (k ())) (fun _ => ?_) (fun k60 hk60 => ?_)
        · refine r_aload_n (q := 61) hK dX9_mark_60 rfl rfl 0 rfl ?_
          refine gf_9_21 (q := 64) hK dX9_mark_61 rfl tw_825 ?_
          refine r_iload_n (q := 65) hK dX9_mark_64 rfl rfl 1 rfl ?_
          refine r_iald (q := 66) hK dX9_mark_65 rfl aM11 (fun h11 => ?_)
          refine r_iconst (q := 67) (v := 1) hK dX9_mark_66 rfl rfl ?_
          refine sV.jn (fun k : Unit → Option (Int32 × Store) => ∀ (_u : Unit), sV wMod G K a σ 92 [(0, .ref (gad G 0)), (1, .int a1), (2, .int a2), (3, .int a3)] [] (k ())) (fun _ => ?_) (fun k92 hk92 => ?_)
          · refine r_aload_n (q := 93) hK dX9_mark_92 rfl rfl 0 rfl ?_
            refine gf_9_23 (q := 96) hK dX9_mark_93 rfl tw_827 ?_
            refine r_bipush (q := 98) (v := 24) hK dX9_mark_96 rfl rfl ?_
            refine r_iload_n (q := 99) hK dX9_mark_98 rfl rfl 1 rfl ?_
            refine r_imul (q := 100) hK dX9_mark_99 rfl ?_
            refine r_iload_n (q := 101) hK dX9_mark_100 rfl rfl 2 rfl ?_
            refine r_iadd (q := 102) hK dX9_mark_101 rfl ?_
            refine r_aload_n (q := 103) hK dX9_mark_102 rfl rfl 0 rfl ?_
            refine gf_9_21 (q := 106) hK dX9_mark_103 rfl tw_825 ?_
            refine r_iload_n (q := 107) hK dX9_mark_106 rfl rfl 1 rfl ?_
            refine r_iald (q := 108) hK dX9_mark_107 rfl aM11 (fun h16 => ?_)
            refine sV.jn (fun k : Int32 → Option (Int32 × Store) => ∀ (z0_117 : Int32), sV wMod G K a σ 117 [(0, .ref (gad G 0)), (1, .int a1), (2, .int a2), (3, .int a3)] [.int z0_117, .int (((24 : Int32) * a1) + a2), .ref (gad G 13)] (k z0_117)) (fun z0_117 => ?_) (fun k117 hk117 => ?_)
            · refine r_iast (q := 118) hK dX9_mark_117 rfl aM13 (fun h18 => ?_)
              refine sV.ltS (fun s19 => ?_)
              refine r_iconst (q := 119) (v := 1) hK dX9_mark_118 rfl rfl ?_
              exact e_iS hK dX9_mark_119
            · refine r_if_ne (t := 116) (q := 111) hK dX9_mark_108 rfl rfl (fun c20 => ?_) (fun c20 => ?_)
              · refine r_iload_n (q := 117) hK dX9_mark_116 rfl rfl 3 rfl ?_
                exact sV.sub [0, 1, 2, 3] (by rfl) (hk117 a3)
              · refine r_iload_n (q := 112) hK dX9_mark_111 rfl rfl 3 rfl ?_
                refine r_i2s (q := 113) hK dX9_mark_112 rfl ?_
                refine r_goto (q := 117) hK dX9_mark_113 rfl ?_
                exact sV.sub [0, 1, 2, 3] (by rfl) (hk117 (a3).toInt16.toInt32)
          · refine r_icmp_ne (t := 92) (q := 70) hK dX9_mark_67 rfl rfl (fun c21 => ?_) (fun c21 => ?_)
            · exact sV.sub [0, 1, 2, 3] (by rfl) (hk92 ())
            · refine r_iload_n (q := 71) hK dX9_mark_70 rfl rfl 3 rfl ?_
              refine r_ldc (q := 73) hK dX9_mark_71 rfl tw_1077 ?_
              refine r_icmp_eq (t := 92) (q := 76) hK dX9_mark_73 rfl rfl (fun c22 => ?_) (fun c22 => ?_)
              · exact sV.sub [0, 1, 2, 3] (by rfl) (hk92 ())
              · refine r_iload_n (q := 77) hK dX9_mark_76 rfl rfl 3 rfl ?_
                refine r_ldcw (q := 80) hK dX9_mark_77 rfl tw_1275 ?_
                refine r_ldcw (q := 83) hK dX9_mark_80 rfl tw_1276 ?_
                refine callS_b (q := 86) (As := [.int a3, .int (-99999 : Int32), .int (99999 : Int32)]) (rest := []) (f := (fX9_within a3 (-99999 : Int32) (99999 : Int32) σ)) hK dX9_mark_83 rfl (fun b hb => c_X9_within a3 (-99999 : Int32) (99999 : Int32) σ b hb) ms_X9_within rfl rfl (Nat.le_of_ble_eq_true rfl) tw_900 mw_X9_within (rmOk (Nat.le_of_ble_eq_true rfl) (Nat.le_of_ble_eq_true rfl)) (fun r23 => ?_)
                refine r_ifb_ne (t := 92) (q := 89) hK dX9_mark_86 rfl rfl (fun c24 => ?_) (fun c24 => ?_)
                · exact sV.sub [0, 1, 2, 3] (by rfl) (hk92 ())
                · refine r_ldc (q := 91) hK dX9_mark_89 rfl tw_906 ?_
                  exact e_iS hK dX9_mark_91
        · refine r_if_ne (t := 60) (q := 51) hK dX9_mark_48 rfl rfl (fun c25 => ?_) (fun c25 => ?_)
          · exact sV.sub [0, 1, 2, 3] (by rfl) (hk60 ())
          · refine r_iload_n (q := 52) hK dX9_mark_51 rfl rfl 3 rfl ?_
            refine r_ldc (q := 54) hK dX9_mark_52 rfl tw_1077 ?_
            refine r_icmp_ne (t := 60) (q := 57) hK dX9_mark_54 rfl rfl (fun c26 => ?_) (fun c26 => ?_)
            · exact sV.sub [0, 1, 2, 3] (by rfl) (hk60 ())
            · refine r_ldc (q := 59) hK dX9_mark_57 rfl tw_961 ?_
              exact e_iS hK dX9_mark_59
      · refine r_ldcw (q := 41) hK dX9_mark_38 rfl tw_1274 ?_
        exact e_iS hK dX9_mark_41
    · refine r_ldc (q := 21) hK dX9_mark_19 rfl tw_1120 ?_
      exact e_iS hK dX9_mark_21
  · refine r_ldc (q := 9) hK dX9_mark_7 rfl tw_906 ?_
    exact e_iS hK dX9_mark_9
def fX9_pour_L26  (v1 : Int32) : Nat → Int32 → Int32 → Store → Option (Int32 × Store)
  | 0, _, _, _ => none
  | n + 1, i2, i3, τ => (six 1480 (5 : Int32) (if (τ 1 (snx (5 : Int32))) ≤ i3 then (some (i2, τ)) else (six 4 v1 (if (τ 12 (snx v1)) ≤ i3 then (some (i2, τ)) else (six 96 (((24 : Int32) * v1) + i3) (slt (τ 13 (snx (((24 : Int32) * v1) + i3))) fun x40 => (sjn (fun k86 : Int32 → Option (Int32 × Store) => (if ¬ x40 = (-1000000005 : Int32) then (k86 (smax (0 : Int32) (smin (99 : Int32) x40))) else (sbd (fX9_wordIs i3 (2 : Int32) τ) fun r49 => (k86 r49)))) (fun (z0_86 : Int32) => (sbd2 (fX9_become (((8 : Int32) + ((6 : Int32) * i3)) + (2 : Int32)) z0_86 τ) fun r43 s44 => (if ¬ r43 = z0_86 then (slt (i2 + (1 : Int32)) fun x46 => (fX9_pour_L26 v1 n x46 (i3 + (1 : Int32)) s44)) else (slt (i2 + (0 : Int32)) fun x47 => (fX9_pour_L26 v1 n x47 (i3 + (1 : Int32)) s44))))))))))))
theorem vX9_pour_L26 {G : Geo} {K : KT} {l0 : Launch} (σ : Store) {a : (Int32 × Store)} (v1 : Int32) (hK : sOk wMod G K l0 RX9 cX9_pour (rmL 3 102) 6 (some .int) (some (.int a.1)) a.2) : ∀ (n : Nat) (i2 : Int32) (i3 : Int32) (τ : Store), sV wMod G K a τ 26 [(0, .ref (gad G 0)), (1, .int v1), (2, .int i2), (3, .int i3)] [] (fX9_pour_L26 v1 n i2 i3 τ) := by
  intro n
  induction n with
  | zero =>
    intro i2 i3 τ
    exact sV.no
  | succ n ih =>
    intro i2 i3 τ
    rw [fX9_pour_L26]
    refine r_iload_n (q := 27) hK dX9_pour_26 rfl rfl 3 rfl ?_
    refine r_aload_n (q := 28) hK dX9_pour_27 rfl rfl 0 rfl ?_
    refine gf_9_0 (q := 31) hK dX9_pour_28 rfl tw_804 ?_
    refine r_iconst (q := 32) (v := 5) hK dX9_pour_31 rfl rfl ?_
    refine r_iald (q := 33) hK dX9_pour_32 rfl aM1 (fun h35 => ?_)
    refine r_icmp_ge (t := 122) (q := 36) hK dX9_pour_33 rfl rfl (fun c36 => ?_) (fun c36 => ?_)
    · refine r_iload_n (q := 123) hK dX9_pour_122 rfl rfl 2 rfl ?_
      exact e_iS hK dX9_pour_123
    · refine r_iload_n (q := 37) hK dX9_pour_36 rfl rfl 3 rfl ?_
      refine r_aload_n (q := 38) hK dX9_pour_37 rfl rfl 0 rfl ?_
      refine gf_9_22 (q := 41) hK dX9_pour_38 rfl tw_826 ?_
      refine r_iload_n (q := 42) hK dX9_pour_41 rfl rfl 1 rfl ?_
      refine r_iald (q := 43) hK dX9_pour_42 rfl aM12 (fun h37 => ?_)
      refine r_icmp_ge (t := 122) (q := 46) hK dX9_pour_43 rfl rfl (fun c38 => ?_) (fun c38 => ?_)
      · refine r_iload_n (q := 123) hK dX9_pour_122 rfl rfl 2 rfl ?_
        exact e_iS hK dX9_pour_123
      · refine r_aload_n (q := 47) hK dX9_pour_46 rfl rfl 0 rfl ?_
        refine gf_9_23 (q := 50) hK dX9_pour_47 rfl tw_827 ?_
        refine r_bipush (q := 52) (v := 24) hK dX9_pour_50 rfl rfl ?_
        refine r_iload_n (q := 53) hK dX9_pour_52 rfl rfl 1 rfl ?_
        refine r_imul (q := 54) hK dX9_pour_53 rfl ?_
        refine r_iload_n (q := 55) hK dX9_pour_54 rfl rfl 3 rfl ?_
        refine r_iadd (q := 56) hK dX9_pour_55 rfl ?_
        refine r_iald (q := 57) hK dX9_pour_56 rfl aM13 (fun h39 => ?_)
        refine sV.ltI (fun x40 => ?_)
        refine r_istore (q := 59) (loc' := [(4, .int x40), (0, .ref (gad G 0)), (1, .int v1), (2, .int i2), (3, .int i3)]) hK dX9_pour_57 rfl (by decide) rfl ?_
        refine r_iload (q := 61) hK dX9_pour_59 rfl 0 rfl ?_
        refine r_ldc (q := 63) hK dX9_pour_61 rfl tw_1077 ?_
        refine sV.jn (fun k : Int32 → Option (Int32 × Store) => ∀ (z0_86 : Int32), sV wMod G K a τ 86 [(0, .ref (gad G 0)), (1, .int v1), (2, .int i2), (3, .int i3), (4, .int x40)] [.int z0_86] (k z0_86)) (fun z0_86 => ?_) (fun k86 hk86 => ?_)
        · refine r_istore (q := 88) (loc' := [(5, .int z0_86), (0, .ref (gad G 0)), (1, .int v1), (2, .int i2), (3, .int i3), (4, .int x40)]) hK dX9_pour_86 rfl (by decide) rfl ?_
          refine r_iload_n (q := 89) hK dX9_pour_88 rfl rfl 3 rfl ?_
          refine r_aload_n (q := 90) hK dX9_pour_89 rfl rfl 1 rfl ?_
          refine r_bipush (q := 92) (v := 8) hK dX9_pour_90 rfl rfl ?_
          refine r_bipush (q := 94) (v := 6) hK dX9_pour_92 rfl rfl ?_
          refine r_iload_n (q := 95) hK dX9_pour_94 rfl rfl 4 rfl ?_
          refine r_imul (q := 96) hK dX9_pour_95 rfl ?_
          refine r_iadd (q := 97) hK dX9_pour_96 rfl ?_
          refine r_iconst (q := 98) (v := 2) hK dX9_pour_97 rfl rfl ?_
          refine r_iadd (q := 99) hK dX9_pour_98 rfl ?_
          refine r_iload (q := 101) hK dX9_pour_99 rfl 0 rfl ?_
          refine callV_iS (q := 104) (j := 0) (As := [.int (((8 : Int32) + ((6 : Int32) * i3)) + (2 : Int32)), .int z0_86]) (rest := [.int i2]) (f := (fX9_become (((8 : Int32) + ((6 : Int32) * i3)) + (2 : Int32)) z0_86 τ)) hK dX9_pour_101 rfl (fun b hb => c_X9_become (((8 : Int32) + ((6 : Int32) * i3)) + (2 : Int32)) z0_86 τ b hb) ⟨9, _, _, _, by decide, rfl, cM, rfl⟩ mv_X9_become rfl rfl (Nat.le_of_ble_eq_true rfl) tw_966 mw_X9_become (rmOk (Nat.le_of_ble_eq_true rfl) (Nat.le_of_ble_eq_true rfl)) (fun r43 s44 => ?_)
          refine r_iload (q := 106) hK dX9_pour_104 rfl 0 rfl ?_
          refine r_icmp_ne (t := 113) (q := 109) hK dX9_pour_106 rfl rfl (fun c45 => ?_) (fun c45 => ?_)
          · refine r_iconst (q := 114) (v := 1) hK dX9_pour_113 rfl rfl ?_
            refine r_iadd (q := 115) hK dX9_pour_114 rfl ?_
            refine sV.ltI (fun x46 => ?_)
            refine r_istore_n (q := 116) (loc' := [(2, .int x46), (5, .int z0_86), (0, .ref (gad G 0)), (1, .int v1), (3, .int i3), (4, .int x40)]) hK dX9_pour_115 rfl rfl (by decide) rfl ?_
            refine r_iinc (q := 119) (v := (i3 + (1 : Int32))) (loc' := [(3, .int (i3 + (1 : Int32))), (2, .int x46), (5, .int z0_86), (0, .ref (gad G 0)), (1, .int v1), (4, .int x40)]) hK dX9_pour_116 rfl 4 rfl rfl (by decide) rfl ?_
            refine r_goto (q := 26) hK dX9_pour_119 rfl ?_
            exact sV.sub [3, 4, 1, 0] (by rfl) (ih x46 (i3 + (1 : Int32)) s44)
          · refine r_iconst (q := 110) (v := 0) hK dX9_pour_109 rfl rfl ?_
            refine r_goto (q := 114) hK dX9_pour_110 rfl ?_
            refine r_iadd (q := 115) hK dX9_pour_114 rfl ?_
            refine sV.ltI (fun x47 => ?_)
            refine r_istore_n (q := 116) (loc' := [(2, .int x47), (5, .int z0_86), (0, .ref (gad G 0)), (1, .int v1), (3, .int i3), (4, .int x40)]) hK dX9_pour_115 rfl rfl (by decide) rfl ?_
            refine r_iinc (q := 119) (v := (i3 + (1 : Int32))) (loc' := [(3, .int (i3 + (1 : Int32))), (2, .int x47), (5, .int z0_86), (0, .ref (gad G 0)), (1, .int v1), (4, .int x40)]) hK dX9_pour_116 rfl 4 rfl rfl (by decide) rfl ?_
            refine r_goto (q := 26) hK dX9_pour_119 rfl ?_
            exact sV.sub [3, 4, 1, 0] (by rfl) (ih x47 (i3 + (1 : Int32)) s44)
        · refine r_icmp_ne (t := 75) (q := 66) hK dX9_pour_63 rfl rfl (fun c48 => ?_) (fun c48 => ?_)
          · refine r_iconst (q := 76) (v := 0) hK dX9_pour_75 rfl rfl ?_
            refine r_bipush (q := 78) (v := 99) hK dX9_pour_76 rfl rfl ?_
            refine r_iload (q := 80) hK dX9_pour_78 rfl 0 rfl ?_
            refine r_min (q := 83) hK dX9_pour_80 rfl tw_943 mt_min (rmM (Nat.le_of_ble_eq_true rfl) (Nat.le_of_ble_eq_true rfl)) ?_
            refine r_max (q := 86) hK dX9_pour_83 rfl tw_944 mt_max (rmM (Nat.le_of_ble_eq_true rfl) (Nat.le_of_ble_eq_true rfl)) ?_
            exact sV.sub [1, 2, 3, 4, 0] (by rfl) (hk86 (smax (0 : Int32) (smin (99 : Int32) x40)))
          · refine r_aload_n (q := 67) hK dX9_pour_66 rfl rfl 1 rfl ?_
            refine r_iload_n (q := 68) hK dX9_pour_67 rfl rfl 4 rfl ?_
            refine r_iconst (q := 69) (v := 2) hK dX9_pour_68 rfl rfl ?_
            refine callV_i (q := 72) (j := 0) (As := [.int i3, .int (2 : Int32)]) (rest := []) (f := (fX9_wordIs i3 (2 : Int32) τ)) hK dX9_pour_69 rfl (fun b hb => c_X9_wordIs i3 (2 : Int32) τ b hb) ⟨9, _, _, _, by decide, rfl, cM, rfl⟩ mv_X9_wordIs rfl rfl (Nat.le_of_ble_eq_true rfl) tw_932 mw_X9_wordIs (rmOk (Nat.le_of_ble_eq_true rfl) (Nat.le_of_ble_eq_true rfl)) (fun r49 => ?_)
            refine r_goto (q := 86) hK dX9_pour_72 rfl ?_
            exact sV.sub [1, 2, 3, 4, 0] (by rfl) (hk86 r49)
def fX9_pour  (a1 : Int32) (σ : Store) : Option (Int32 × Store) := (sbd (fX9_isSheet a1 σ) fun r1 => (if r1 = true then (six 4 a1 (if 0 ≤ (σ 11 (snx a1)) then (fX9_pour_L26 a1 FU (0 : Int32) (0 : Int32) σ) else (some ((-1000000011 : Int32), σ)))) else (some ((-1000000001 : Int32), σ))))
theorem c_X9_pour {l0 : Launch} {G : Geo} (a1 : Int32) (σ : Store) (a : (Int32 × Store)) (hf : fX9_pour  a1 σ = some a) : sCon l0 wMod G yX9_pour cX9_pour 6 (some .int) (rmL 3 102) [.ref (gad G 0), .int a1] σ (some (.int a.1)) a.2 := by
  refine sCon.of (by decide) ⟨rfl, rfl⟩ (Nat.le_of_ble_eq_true rfl) RX9 rfl _ hf (fun K hK => ?_)
  show sV wMod G K a σ 0 [(0, .ref (gad G 0)), (1, .int a1)] [] _
  unfold fX9_pour
  refine r_iload_n (q := 1) hK dX9_pour_0 rfl rfl 1 rfl ?_
  refine callS_b (q := 4) (As := [.int a1]) (rest := []) (f := (fX9_isSheet a1 σ)) hK dX9_pour_1 rfl (fun b hb => c_X9_isSheet a1 σ b hb) ms_X9_isSheet rfl rfl (Nat.le_of_ble_eq_true rfl) tw_1117 mw_X9_isSheet (rmOk (Nat.le_of_ble_eq_true rfl) (Nat.le_of_ble_eq_true rfl)) (fun r1 => ?_)
  refine r_ifb_ne (t := 10) (q := 7) hK dX9_pour_4 rfl rfl (fun c2 => ?_) (fun c2 => ?_)
  · refine r_aload_n (q := 11) hK dX9_pour_10 rfl rfl 0 rfl ?_
    refine gf_9_21 (q := 14) hK dX9_pour_11 rfl tw_825 ?_
    refine r_iload_n (q := 15) hK dX9_pour_14 rfl rfl 1 rfl ?_
    refine r_iald (q := 16) hK dX9_pour_15 rfl aM11 (fun h3 => ?_)
    refine r_if_ge (t := 22) (q := 19) hK dX9_pour_16 rfl rfl (fun c4 => ?_) (fun c4 => ?_)
    · refine r_iconst (q := 23) (v := 0) hK dX9_pour_22 rfl rfl ?_
      refine r_istore_n (q := 24) (loc' := [(2, .int (0 : Int32)), (0, .ref (gad G 0)), (1, .int a1)]) hK dX9_pour_23 rfl rfl (by decide) rfl ?_
      refine r_iconst (q := 25) (v := 0) hK dX9_pour_24 rfl rfl ?_
      refine r_istore_n (q := 26) (loc' := [(3, .int (0 : Int32)), (2, .int (0 : Int32)), (0, .ref (gad G 0)), (1, .int a1)]) hK dX9_pour_25 rfl rfl (by decide) rfl ?_
      exact sV.sub [2, 3, 1, 0] (by rfl) (vX9_pour_L26 σ a1 hK FU (0 : Int32) (0 : Int32) σ)
    · refine r_ldc (q := 21) hK dX9_pour_19 rfl tw_1120 ?_
      exact e_iS hK dX9_pour_21
  · refine r_ldc (q := 9) hK dX9_pour_7 rfl tw_906 ?_
    exact e_iS hK dX9_pour_9
def fX9_reads_L24  (v1 : Int32) (σ : Store) : Nat → Int32 → Option Int32
  | 0, _ => none
  | n + 1, i2 => (six 4 v1 (if (σ 12 (snx v1)) ≤ i2 then (some (-1000000005 : Int32)) else (six 96 (((24 : Int32) * v1) + i2) (slt (σ 13 (snx (((24 : Int32) * v1) + i2))) fun x26 => (if x26 = (-1000000005 : Int32) then (fX9_reads_L24 v1 σ n (i2 + (1 : Int32))) else (sbd (fX9_isWord i2 σ) fun r28 => (if r28 = true then (sbd (fX9_wordIs i2 (4 : Int32) σ) fun r30 => (if x26 = r30 then (fX9_reads_L24 v1 σ n (i2 + (1 : Int32))) else (some i2))) else (some i2))))))))
theorem vX9_reads_L24 {G : Geo} {K : KT} {l0 : Launch} (σ : Store) {a : Int32} (v1 : Int32) (hK : sOk wMod G K l0 RX9 cX9_reads (rmL 3 103) 4 (some .int) (some (.int a)) σ) : ∀ (n : Nat) (i2 : Int32), sV wMod G K a σ 24 [(0, .ref (gad G 0)), (1, .int v1), (2, .int i2)] [] (fX9_reads_L24 v1 σ n i2) := by
  intro n
  induction n with
  | zero =>
    intro i2
    exact sV.no
  | succ n ih =>
    intro i2
    rw [fX9_reads_L24]
    refine r_iload_n (q := 25) hK dX9_reads_24 rfl rfl 2 rfl ?_
    refine r_aload_n (q := 26) hK dX9_reads_25 rfl rfl 0 rfl ?_
    refine gf_9_22 (q := 29) hK dX9_reads_26 rfl tw_826 ?_
    refine r_iload_n (q := 30) hK dX9_reads_29 rfl rfl 1 rfl ?_
    refine r_iald (q := 31) hK dX9_reads_30 rfl aM12 (fun h23 => ?_)
    refine r_icmp_ge (t := 78) (q := 34) hK dX9_reads_31 rfl rfl (fun c24 => ?_) (fun c24 => ?_)
    · refine r_ldc (q := 80) hK dX9_reads_78 rfl tw_1077 ?_
      exact e_i hK dX9_reads_80
    · refine r_aload_n (q := 35) hK dX9_reads_34 rfl rfl 0 rfl ?_
      refine gf_9_23 (q := 38) hK dX9_reads_35 rfl tw_827 ?_
      refine r_bipush (q := 40) (v := 24) hK dX9_reads_38 rfl rfl ?_
      refine r_iload_n (q := 41) hK dX9_reads_40 rfl rfl 1 rfl ?_
      refine r_imul (q := 42) hK dX9_reads_41 rfl ?_
      refine r_iload_n (q := 43) hK dX9_reads_42 rfl rfl 2 rfl ?_
      refine r_iadd (q := 44) hK dX9_reads_43 rfl ?_
      refine r_iald (q := 45) hK dX9_reads_44 rfl aM13 (fun h25 => ?_)
      refine sV.ltI (fun x26 => ?_)
      refine r_istore_n (q := 46) (loc' := [(3, .int x26), (0, .ref (gad G 0)), (1, .int v1), (2, .int i2)]) hK dX9_reads_45 rfl rfl (by decide) rfl ?_
      refine r_iload_n (q := 47) hK dX9_reads_46 rfl rfl 0 rfl ?_
      refine r_ldc (q := 49) hK dX9_reads_47 rfl tw_1077 ?_
      refine r_icmp_eq (t := 72) (q := 52) hK dX9_reads_49 rfl rfl (fun c27 => ?_) (fun c27 => ?_)
      · refine r_iinc (q := 75) (v := (i2 + (1 : Int32))) (loc' := [(2, .int (i2 + (1 : Int32))), (3, .int x26), (0, .ref (gad G 0)), (1, .int v1)]) hK dX9_reads_72 rfl 3 rfl rfl (by decide) rfl ?_
        refine r_goto (q := 24) hK dX9_reads_75 rfl ?_
        exact sV.sub [2, 3, 0] (by rfl) (ih (i2 + (1 : Int32)))
      · refine r_aload_n (q := 53) hK dX9_reads_52 rfl rfl 1 rfl ?_
        refine r_iload_n (q := 54) hK dX9_reads_53 rfl rfl 3 rfl ?_
        refine callV_b (q := 57) (j := 0) (As := [.int i2]) (rest := []) (f := (fX9_isWord i2 σ)) hK dX9_reads_54 rfl (fun b hb => c_X9_isWord i2 σ b hb) ⟨9, _, _, _, by decide, rfl, cM, rfl⟩ mv_X9_isWord rfl rfl (Nat.le_of_ble_eq_true rfl) tw_916 mw_X9_isWord (rmOk (Nat.le_of_ble_eq_true rfl) (Nat.le_of_ble_eq_true rfl)) (fun r28 => ?_)
        refine r_ifb_eq (t := 70) (q := 60) hK dX9_reads_57 rfl rfl (fun c29 => ?_) (fun c29 => ?_)
        · refine r_iload_n (q := 61) hK dX9_reads_60 rfl rfl 0 rfl ?_
          refine r_aload_n (q := 62) hK dX9_reads_61 rfl rfl 1 rfl ?_
          refine r_iload_n (q := 63) hK dX9_reads_62 rfl rfl 3 rfl ?_
          refine r_iconst (q := 64) (v := 4) hK dX9_reads_63 rfl rfl ?_
          refine callV_i (q := 67) (j := 0) (As := [.int i2, .int (4 : Int32)]) (rest := [.int x26]) (f := (fX9_wordIs i2 (4 : Int32) σ)) hK dX9_reads_64 rfl (fun b hb => c_X9_wordIs i2 (4 : Int32) σ b hb) ⟨9, _, _, _, by decide, rfl, cM, rfl⟩ mv_X9_wordIs rfl rfl (Nat.le_of_ble_eq_true rfl) tw_932 mw_X9_wordIs (rmOk (Nat.le_of_ble_eq_true rfl) (Nat.le_of_ble_eq_true rfl)) (fun r30 => ?_)
          refine r_icmp_eq (t := 72) (q := 70) hK dX9_reads_67 rfl rfl (fun c31 => ?_) (fun c31 => ?_)
          · refine r_iinc (q := 75) (v := (i2 + (1 : Int32))) (loc' := [(2, .int (i2 + (1 : Int32))), (3, .int x26), (0, .ref (gad G 0)), (1, .int v1)]) hK dX9_reads_72 rfl 3 rfl rfl (by decide) rfl ?_
            refine r_goto (q := 24) hK dX9_reads_75 rfl ?_
            exact sV.sub [2, 3, 0] (by rfl) (ih (i2 + (1 : Int32)))
          · refine r_iload_n (q := 71) hK dX9_reads_70 rfl rfl 3 rfl ?_
            exact e_i hK dX9_reads_71
        · refine r_iload_n (q := 71) hK dX9_reads_70 rfl rfl 3 rfl ?_
          exact e_i hK dX9_reads_71
def fX9_reads  (a1 : Int32) (σ : Store) : Option Int32 := (sbd (fX9_isSheet a1 σ) fun r1 => (if r1 = true then (six 4 a1 (if 0 ≤ (σ 11 (snx a1)) then (fX9_reads_L24 a1 σ FU (0 : Int32)) else (some (-1000000011 : Int32)))) else (some (-1000000001 : Int32))))
theorem c_X9_reads {l0 : Launch} {G : Geo} (a1 : Int32) (σ : Store) (a : Int32) (hf : fX9_reads  a1 σ = some a) : sCon l0 wMod G yX9_reads cX9_reads 4 (some .int) (rmL 3 103) [.ref (gad G 0), .int a1] σ (some (.int a)) σ := by
  refine sCon.of (by decide) ⟨rfl, rfl⟩ (Nat.le_of_ble_eq_true rfl) RX9 rfl _ hf (fun K hK => ?_)
  show sV wMod G K a σ 0 [(0, .ref (gad G 0)), (1, .int a1)] [] _
  unfold fX9_reads
  refine r_iload_n (q := 1) hK dX9_reads_0 rfl rfl 1 rfl ?_
  refine callS_b (q := 4) (As := [.int a1]) (rest := []) (f := (fX9_isSheet a1 σ)) hK dX9_reads_1 rfl (fun b hb => c_X9_isSheet a1 σ b hb) ms_X9_isSheet rfl rfl (Nat.le_of_ble_eq_true rfl) tw_1117 mw_X9_isSheet (rmOk (Nat.le_of_ble_eq_true rfl) (Nat.le_of_ble_eq_true rfl)) (fun r1 => ?_)
  refine r_ifb_ne (t := 10) (q := 7) hK dX9_reads_4 rfl rfl (fun c2 => ?_) (fun c2 => ?_)
  · refine r_aload_n (q := 11) hK dX9_reads_10 rfl rfl 0 rfl ?_
    refine gf_9_21 (q := 14) hK dX9_reads_11 rfl tw_825 ?_
    refine r_iload_n (q := 15) hK dX9_reads_14 rfl rfl 1 rfl ?_
    refine r_iald (q := 16) hK dX9_reads_15 rfl aM11 (fun h3 => ?_)
    refine r_if_ge (t := 22) (q := 19) hK dX9_reads_16 rfl rfl (fun c4 => ?_) (fun c4 => ?_)
    · refine r_iconst (q := 23) (v := 0) hK dX9_reads_22 rfl rfl ?_
      refine r_istore_n (q := 24) (loc' := [(2, .int (0 : Int32)), (0, .ref (gad G 0)), (1, .int a1)]) hK dX9_reads_23 rfl rfl (by decide) rfl ?_
      exact sV.sub [1, 2, 0] (by rfl) (vX9_reads_L24 σ a1 hK FU (0 : Int32))
    · refine r_ldc (q := 21) hK dX9_reads_19 rfl tw_1120 ?_
      exact e_i hK dX9_reads_21
  · refine r_ldc (q := 9) hK dX9_reads_7 rfl tw_906 ?_
    exact e_i hK dX9_reads_9
def fX9_copy_L112  (v1 : Int32) (v2 : Int32) (v5 : Int32) (k : Int32 → Store → Option (Int32 × Store)) : Nat → Int32 → Store → Option (Int32 × Store)
  | 0, _, _ => none
  | n + 1, i6, τ => (if v5 ≤ i6 then (k i6 τ) else (six 96 ((((24 : Int32) * v1) + v2) + i6) (six 24 i6 (slt (sup τ 14 (snx i6) (τ 13 (snx ((((24 : Int32) * v1) + v2) + i6)))) fun s30 => (fX9_copy_L112 v1 v2 v5 k n (i6 + (1 : Int32)) s30)))))
theorem vX9_copy_L112 {G : Geo} {K : KT} {l0 : Launch} (σ : Store) {a : (Int32 × Store)} (v1 : Int32) (v2 : Int32) (v3 : Int32) (v4 : Int32) (v5 : Int32) (hK : sOk wMod G K l0 RX9 cX9_copy (rmL 3 102) 7 (some .int) (some (.int a.1)) a.2) (k : Int32 → Store → Option (Int32 × Store)) (hk : ∀ (e6 : Int32) (ε : Store), sV wMod G K a ε 146 [(0, .ref (gad G 0)), (1, .int v1), (2, .int v2), (3, .int v3), (4, .int v4), (5, .int v5), (6, .int e6)] [] (k e6 ε)) : ∀ (n : Nat) (i6 : Int32) (τ : Store), sV wMod G K a τ 112 [(0, .ref (gad G 0)), (1, .int v1), (2, .int v2), (3, .int v3), (4, .int v4), (5, .int v5), (6, .int i6)] [] (fX9_copy_L112 v1 v2 v5 k n i6 τ) := by
  intro n
  induction n with
  | zero =>
    intro i6 τ
    exact sV.no
  | succ n ih =>
    intro i6 τ
    rw [fX9_copy_L112]
    refine r_iload (q := 114) hK dX9_copy_112 rfl 6 rfl ?_
    refine r_iload (q := 116) hK dX9_copy_114 rfl 5 rfl ?_
    refine r_icmp_ge (t := 146) (q := 119) hK dX9_copy_116 rfl rfl (fun c27 => ?_) (fun c27 => ?_)
    · exact sV.sub [0, 1, 2, 3, 4, 5, 6] (by rfl) (hk i6 τ)
    · refine r_aload_n (q := 120) hK dX9_copy_119 rfl rfl 0 rfl ?_
      refine gf_9_24 (q := 123) hK dX9_copy_120 rfl tw_828 ?_
      refine r_iload (q := 125) hK dX9_copy_123 rfl 6 rfl ?_
      refine r_aload_n (q := 126) hK dX9_copy_125 rfl rfl 0 rfl ?_
      refine gf_9_23 (q := 129) hK dX9_copy_126 rfl tw_827 ?_
      refine r_bipush (q := 131) (v := 24) hK dX9_copy_129 rfl rfl ?_
      refine r_iload_n (q := 132) hK dX9_copy_131 rfl rfl 1 rfl ?_
      refine r_imul (q := 133) hK dX9_copy_132 rfl ?_
      refine r_iload_n (q := 134) hK dX9_copy_133 rfl rfl 2 rfl ?_
      refine r_iadd (q := 135) hK dX9_copy_134 rfl ?_
      refine r_iload (q := 137) hK dX9_copy_135 rfl 6 rfl ?_
      refine r_iadd (q := 138) hK dX9_copy_137 rfl ?_
      refine r_iald (q := 139) hK dX9_copy_138 rfl aM13 (fun h28 => ?_)
      refine r_iast (q := 140) hK dX9_copy_139 rfl aM14 (fun h29 => ?_)
      refine sV.ltS (fun s30 => ?_)
      refine r_iinc (q := 143) (v := (i6 + (1 : Int32))) (loc' := [(6, .int (i6 + (1 : Int32))), (0, .ref (gad G 0)), (1, .int v1), (2, .int v2), (3, .int v3), (4, .int v4), (5, .int v5)]) hK dX9_copy_140 rfl 6 rfl rfl (by decide) rfl ?_
      refine r_goto (q := 112) hK dX9_copy_143 rfl ?_
      exact sV.sub [1, 2, 3, 4, 5, 6, 0] (by rfl) (ih (i6 + (1 : Int32)) s30)
def fX9_copy_L149  (v3 : Int32) (v4 : Int32) (v5 : Int32) : Nat → Int32 → Store → Option (Int32 × Store)
  | 0, _, _ => none
  | n + 1, i6, τ => (if v5 ≤ i6 then (some (v5, τ)) else (six 24 i6 (six 96 ((((24 : Int32) * v3) + v4) + i6) (slt (sup τ 13 (snx ((((24 : Int32) * v3) + v4) + i6)) (τ 14 (snx i6))) fun s44 => (fX9_copy_L149 v3 v4 v5 n (i6 + (1 : Int32)) s44)))))
theorem vX9_copy_L149 {G : Geo} {K : KT} {l0 : Launch} (σ : Store) {a : (Int32 × Store)} (v1 : Int32) (v2 : Int32) (v3 : Int32) (v4 : Int32) (v5 : Int32) (hK : sOk wMod G K l0 RX9 cX9_copy (rmL 3 102) 7 (some .int) (some (.int a.1)) a.2) : ∀ (n : Nat) (i6 : Int32) (τ : Store), sV wMod G K a τ 149 [(0, .ref (gad G 0)), (1, .int v1), (2, .int v2), (3, .int v3), (4, .int v4), (5, .int v5), (6, .int i6)] [] (fX9_copy_L149 v3 v4 v5 n i6 τ) := by
  intro n
  induction n with
  | zero =>
    intro i6 τ
    exact sV.no
  | succ n ih =>
    intro i6 τ
    rw [fX9_copy_L149]
    refine r_iload (q := 151) hK dX9_copy_149 rfl 6 rfl ?_
    refine r_iload (q := 153) hK dX9_copy_151 rfl 5 rfl ?_
    refine r_icmp_ge (t := 184) (q := 156) hK dX9_copy_153 rfl rfl (fun c41 => ?_) (fun c41 => ?_)
    · refine r_iload (q := 186) hK dX9_copy_184 rfl 5 rfl ?_
      exact e_iS hK dX9_copy_186
    · refine r_aload_n (q := 157) hK dX9_copy_156 rfl rfl 0 rfl ?_
      refine gf_9_23 (q := 160) hK dX9_copy_157 rfl tw_827 ?_
      refine r_bipush (q := 162) (v := 24) hK dX9_copy_160 rfl rfl ?_
      refine r_iload_n (q := 163) hK dX9_copy_162 rfl rfl 3 rfl ?_
      refine r_imul (q := 164) hK dX9_copy_163 rfl ?_
      refine r_iload (q := 166) hK dX9_copy_164 rfl 4 rfl ?_
      refine r_iadd (q := 167) hK dX9_copy_166 rfl ?_
      refine r_iload (q := 169) hK dX9_copy_167 rfl 6 rfl ?_
      refine r_iadd (q := 170) hK dX9_copy_169 rfl ?_
      refine r_aload_n (q := 171) hK dX9_copy_170 rfl rfl 0 rfl ?_
      refine gf_9_24 (q := 174) hK dX9_copy_171 rfl tw_828 ?_
      refine r_iload (q := 176) hK dX9_copy_174 rfl 6 rfl ?_
      refine r_iald (q := 177) hK dX9_copy_176 rfl aM14 (fun h42 => ?_)
      refine r_iast (q := 178) hK dX9_copy_177 rfl aM13 (fun h43 => ?_)
      refine sV.ltS (fun s44 => ?_)
      refine r_iinc (q := 181) (v := (i6 + (1 : Int32))) (loc' := [(6, .int (i6 + (1 : Int32))), (0, .ref (gad G 0)), (1, .int v1), (2, .int v2), (3, .int v3), (4, .int v4), (5, .int v5)]) hK dX9_copy_178 rfl 6 rfl rfl (by decide) rfl ?_
      refine r_goto (q := 149) hK dX9_copy_181 rfl ?_
      exact sV.sub [1, 2, 3, 4, 5, 6, 0] (by rfl) (ih (i6 + (1 : Int32)) s44)
def fX9_copy  (a1 : Int32) (a2 : Int32) (a3 : Int32) (a4 : Int32) (a5 : Int32) (σ : Store) : Option (Int32 × Store) := (sbd (fX9_isSheet a1 σ) fun r1 => (if r1 = true then (sbd (fX9_isSheet a3 σ) fun r3 => (if r3 = true then (six 4 a1 (if (σ 11 (snx a1)) < 0 then (some ((-1000000011 : Int32), σ)) else (six 4 a3 (if 0 ≤ (σ 11 (snx a3)) then (six 4 a1 (six 4 a3 (if (σ 11 (snx a1)) = (σ 11 (snx a3)) then (if a2 < 0 then (some ((-1000000013 : Int32), σ)) else (if a4 < 0 then (some ((-1000000013 : Int32), σ)) else (if a5 < 0 then (some ((-1000000013 : Int32), σ)) else (six 4 a1 (if 0 < (lg_cmp ((a2).toInt64 + (a5).toInt64) ((σ 12 (snx a1))).toInt64) then (some ((-1000000013 : Int32), σ)) else (six 4 a3 (if (lg_cmp ((a4).toInt64 + (a5).toInt64) ((σ 12 (snx a3))).toInt64) ≤ 0 then (fX9_copy_L112 a1 a2 a5 (fun x31 s32 => (fX9_copy_L149 a3 a4 a5 FU (0 : Int32) s32)) FU (0 : Int32) σ) else (some ((-1000000013 : Int32), σ))))))))) else (some ((-1000000012 : Int32), σ))))) else (some ((-1000000011 : Int32), σ)))))) else (some ((-1000000001 : Int32), σ)))) else (some ((-1000000001 : Int32), σ))))
theorem c_X9_copy {l0 : Launch} {G : Geo} (a1 : Int32) (a2 : Int32) (a3 : Int32) (a4 : Int32) (a5 : Int32) (σ : Store) (a : (Int32 × Store)) (hf : fX9_copy  a1 a2 a3 a4 a5 σ = some a) : sCon l0 wMod G yX9_copy cX9_copy 7 (some .int) (rmL 3 102) [.ref (gad G 0), .int a1, .int a2, .int a3, .int a4, .int a5] σ (some (.int a.1)) a.2 := by
  refine sCon.of (by decide) ⟨rfl, rfl⟩ (Nat.le_of_ble_eq_true rfl) RX9 rfl _ hf (fun K hK => ?_)
  show sV wMod G K a σ 0 [(0, .ref (gad G 0)), (1, .int a1), (2, .int a2), (3, .int a3), (4, .int a4), (5, .int a5)] [] _
  unfold fX9_copy
  refine r_iload_n (q := 1) hK dX9_copy_0 rfl rfl 1 rfl ?_
  refine callS_b (q := 4) (As := [.int a1]) (rest := []) (f := (fX9_isSheet a1 σ)) hK dX9_copy_1 rfl (fun b hb => c_X9_isSheet a1 σ b hb) ms_X9_isSheet rfl rfl (Nat.le_of_ble_eq_true rfl) tw_1117 mw_X9_isSheet (rmOk (Nat.le_of_ble_eq_true rfl) (Nat.le_of_ble_eq_true rfl)) (fun r1 => ?_)
  refine r_ifb_eq (t := 14) (q := 7) hK dX9_copy_4 rfl rfl (fun c2 => ?_) (fun c2 => ?_)
  · refine r_iload_n (q := 8) hK dX9_copy_7 rfl rfl 3 rfl ?_
    refine callS_b (q := 11) (As := [.int a3]) (rest := []) (f := (fX9_isSheet a3 σ)) hK dX9_copy_8 rfl (fun b hb => c_X9_isSheet a3 σ b hb) ms_X9_isSheet rfl rfl (Nat.le_of_ble_eq_true rfl) tw_1117 mw_X9_isSheet (rmOk (Nat.le_of_ble_eq_true rfl) (Nat.le_of_ble_eq_true rfl)) (fun r3 => ?_)
    refine r_ifb_ne (t := 17) (q := 14) hK dX9_copy_11 rfl rfl (fun c4 => ?_) (fun c4 => ?_)
    · refine r_aload_n (q := 18) hK dX9_copy_17 rfl rfl 0 rfl ?_
      refine gf_9_21 (q := 21) hK dX9_copy_18 rfl tw_825 ?_
      refine r_iload_n (q := 22) hK dX9_copy_21 rfl rfl 1 rfl ?_
      refine r_iald (q := 23) hK dX9_copy_22 rfl aM11 (fun h5 => ?_)
      refine r_if_lt (t := 35) (q := 26) hK dX9_copy_23 rfl rfl (fun c6 => ?_) (fun c6 => ?_)
      · refine r_ldc (q := 37) hK dX9_copy_35 rfl tw_1120 ?_
        exact e_iS hK dX9_copy_37
      · refine r_aload_n (q := 27) hK dX9_copy_26 rfl rfl 0 rfl ?_
        refine gf_9_21 (q := 30) hK dX9_copy_27 rfl tw_825 ?_
        refine r_iload_n (q := 31) hK dX9_copy_30 rfl rfl 3 rfl ?_
        refine r_iald (q := 32) hK dX9_copy_31 rfl aM11 (fun h7 => ?_)
        refine r_if_ge (t := 38) (q := 35) hK dX9_copy_32 rfl rfl (fun c8 => ?_) (fun c8 => ?_)
        · refine r_aload_n (q := 39) hK dX9_copy_38 rfl rfl 0 rfl ?_
          refine gf_9_21 (q := 42) hK dX9_copy_39 rfl tw_825 ?_
          refine r_iload_n (q := 43) hK dX9_copy_42 rfl rfl 1 rfl ?_
          refine r_iald (q := 44) hK dX9_copy_43 rfl aM11 (fun h9 => ?_)
          refine r_aload_n (q := 45) hK dX9_copy_44 rfl rfl 0 rfl ?_
          refine gf_9_21 (q := 48) hK dX9_copy_45 rfl tw_825 ?_
          refine r_iload_n (q := 49) hK dX9_copy_48 rfl rfl 3 rfl ?_
          refine r_iald (q := 50) hK dX9_copy_49 rfl aM11 (fun h10 => ?_)
          refine r_icmp_eq (t := 56) (q := 53) hK dX9_copy_50 rfl rfl (fun c11 => ?_) (fun c11 => ?_)
          · refine r_iload_n (q := 57) hK dX9_copy_56 rfl rfl 2 rfl ?_
            refine r_if_lt (t := 105) (q := 60) hK dX9_copy_57 rfl rfl (fun c12 => ?_) (fun c12 => ?_)
            · refine r_ldcw (q := 108) hK dX9_copy_105 rfl tw_1274 ?_
              exact e_iS hK dX9_copy_108
            · refine r_iload (q := 62) hK dX9_copy_60 rfl 4 rfl ?_
              refine r_if_lt (t := 105) (q := 65) hK dX9_copy_62 rfl rfl (fun c13 => ?_) (fun c13 => ?_)
              · refine r_ldcw (q := 108) hK dX9_copy_105 rfl tw_1274 ?_
                exact e_iS hK dX9_copy_108
              · refine r_iload (q := 67) hK dX9_copy_65 rfl 5 rfl ?_
                refine r_if_lt (t := 105) (q := 70) hK dX9_copy_67 rfl rfl (fun c14 => ?_) (fun c14 => ?_)
                · refine r_ldcw (q := 108) hK dX9_copy_105 rfl tw_1274 ?_
                  exact e_iS hK dX9_copy_108
                · refine r_iload_n (q := 71) hK dX9_copy_70 rfl rfl 2 rfl ?_
                  refine r_i2l (q := 72) hK dX9_copy_71 rfl ?_
                  refine r_iload (q := 74) hK dX9_copy_72 rfl 5 rfl ?_
                  refine r_i2l (q := 75) hK dX9_copy_74 rfl ?_
                  refine r_ladd (q := 76) hK dX9_copy_75 rfl ?_
                  refine r_aload_n (q := 77) hK dX9_copy_76 rfl rfl 0 rfl ?_
                  refine gf_9_22 (q := 80) hK dX9_copy_77 rfl tw_826 ?_
                  refine r_iload_n (q := 81) hK dX9_copy_80 rfl rfl 1 rfl ?_
                  refine r_iald (q := 82) hK dX9_copy_81 rfl aM12 (fun h15 => ?_)
                  refine r_i2l (q := 83) hK dX9_copy_82 rfl ?_
                  refine r_lcmp (q := 84) hK dX9_copy_83 rfl ?_
                  refine r_if_gt (t := 105) (q := 87) hK dX9_copy_84 rfl rfl (fun c16 => ?_) (fun c16 => ?_)
                  · refine r_ldcw (q := 108) hK dX9_copy_105 rfl tw_1274 ?_
                    exact e_iS hK dX9_copy_108
                  · refine r_iload (q := 89) hK dX9_copy_87 rfl 4 rfl ?_
                    refine r_i2l (q := 90) hK dX9_copy_89 rfl ?_
                    refine r_iload (q := 92) hK dX9_copy_90 rfl 5 rfl ?_
                    refine r_i2l (q := 93) hK dX9_copy_92 rfl ?_
                    refine r_ladd (q := 94) hK dX9_copy_93 rfl ?_
                    refine r_aload_n (q := 95) hK dX9_copy_94 rfl rfl 0 rfl ?_
                    refine gf_9_22 (q := 98) hK dX9_copy_95 rfl tw_826 ?_
                    refine r_iload_n (q := 99) hK dX9_copy_98 rfl rfl 3 rfl ?_
                    refine r_iald (q := 100) hK dX9_copy_99 rfl aM12 (fun h17 => ?_)
                    refine r_i2l (q := 101) hK dX9_copy_100 rfl ?_
                    refine r_lcmp (q := 102) hK dX9_copy_101 rfl ?_
                    refine r_if_le (t := 109) (q := 105) hK dX9_copy_102 rfl rfl (fun c18 => ?_) (fun c18 => ?_)
                    · refine r_iconst (q := 110) (v := 0) hK dX9_copy_109 rfl rfl ?_
                      refine r_istore (q := 112) (loc' := [(6, .int (0 : Int32)), (0, .ref (gad G 0)), (1, .int a1), (2, .int a2), (3, .int a3), (4, .int a4), (5, .int a5)]) hK dX9_copy_110 rfl (by decide) rfl ?_
                      refine sV.sub [1, 2, 3, 4, 5, 6, 0] (by rfl) (vX9_copy_L112 σ a1 a2 a3 a4 a5 hK _ (fun x31 s32 => ?_) FU (0 : Int32) σ)
                      refine r_iconst (q := 147) (v := 0) hK dX9_copy_146 rfl rfl ?_
                      refine r_istore (q := 149) (loc' := [(6, .int (0 : Int32)), (0, .ref (gad G 0)), (1, .int a1), (2, .int a2), (3, .int a3), (4, .int a4), (5, .int a5)]) hK dX9_copy_147 rfl (by decide) rfl ?_
                      exact sV.sub [1, 2, 3, 4, 5, 6, 0] (by rfl) (vX9_copy_L149 s32 a1 a2 a3 a4 a5 hK FU (0 : Int32) s32)
                    · refine r_ldcw (q := 108) hK dX9_copy_105 rfl tw_1274 ?_
                      exact e_iS hK dX9_copy_108
          · refine r_ldc (q := 55) hK dX9_copy_53 rfl tw_961 ?_
            exact e_iS hK dX9_copy_55
        · refine r_ldc (q := 37) hK dX9_copy_35 rfl tw_1120 ?_
          exact e_iS hK dX9_copy_37
    · refine r_ldc (q := 16) hK dX9_copy_14 rfl tw_906 ?_
      exact e_iS hK dX9_copy_16
  · refine r_ldc (q := 16) hK dX9_copy_14 rfl tw_906 ?_
    exact e_iS hK dX9_copy_16
