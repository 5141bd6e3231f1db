def fX0_stampsOfAll_L4  (o0 : Nat) (σ : Store) : Nat → Int32 → Int32 → Option Int32
  | 0, _, _ => none
  | n + 1, i1, i2 => (if (σ o0 3) ≤ i2 then (some i1) else (six 10 i2 (slt (i1 + (σ (wrd o0 i2) 4)) fun x9 => (fX0_stampsOfAll_L4 o0 σ n x9 (i2 + (1 : Int32))))))
theorem vX0_stampsOfAll_L4 {G : Geo} {K : KT} {l0 : Launch} (σ : Store) {a : Int32} (o0 : Nat) (ho0 : kdC o0 = 0) (hK : sOk wCls G K l0 RX0 cX0_stampsOfAll (rmL 1 60) 3 (some .int) (some (.int a)) σ) : ∀ (n : Nat) (i1 : Int32) (i2 : Int32), sV wCls G K a σ 4 [(0, .ref (gad G o0)), (1, .int i1), (2, .int i2)] [] (fX0_stampsOfAll_L4 o0 σ n i1 i2) := by
  intro n
  induction n with
  | zero =>
    intro i1 i2
    exact sV.no
  | succ n ih =>
    intro i1 i2
    rw [fX0_stampsOfAll_L4]
    refine r_iload_n (q := 5) hK dX0_stampsOfAll_4 rfl rfl 2 rfl ?_
    refine r_aload_n (q := 6) hK dX0_stampsOfAll_5 rfl rfl 0 rfl ?_
    refine gf_0_3 (q := 9) ho0 hK dX0_stampsOfAll_6 rfl tw_122 ?_
    refine r_icmp_ge (t := 30) (q := 12) hK dX0_stampsOfAll_9 rfl rfl (fun c7 => ?_) (fun c7 => ?_)
    · refine r_iload_n (q := 31) hK dX0_stampsOfAll_30 rfl rfl 1 rfl ?_
      exact e_i hK dX0_stampsOfAll_31
    · refine r_iload_n (q := 13) hK dX0_stampsOfAll_12 rfl rfl 1 rfl ?_
      refine r_aload_n (q := 14) hK dX0_stampsOfAll_13 rfl rfl 0 rfl ?_
      refine gf_0_1 (q := 17) ho0 hK dX0_stampsOfAll_14 rfl tw_117 ?_
      refine r_iload_n (q := 18) hK dX0_stampsOfAll_17 rfl rfl 2 rfl ?_
      refine r_aald (q := 19) hK dX0_stampsOfAll_18 rfl (qC13 (kd_bw ho0)) (ty := .object RX7) rfl rfl (r := gad G (wrd o0 i2)) rfl (fun h8 => ?_)
      refine gf_7_4 (q := 22) (kd_wrd ho0 h8) hK dX0_stampsOfAll_19 rfl tw_82 ?_
      refine r_iadd (q := 23) hK dX0_stampsOfAll_22 rfl ?_
      refine sV.ltI (fun x9 => ?_)
      refine r_istore_n (q := 24) (loc' := [(1, .int x9), (0, .ref (gad G o0)), (2, .int i2)]) hK dX0_stampsOfAll_23 rfl rfl (by decide) rfl ?_
      refine r_iinc (q := 27) (v := (i2 + (1 : Int32))) (loc' := [(2, .int (i2 + (1 : Int32))), (1, .int x9), (0, .ref (gad G o0))]) hK dX0_stampsOfAll_24 rfl 2 rfl rfl (by decide) rfl ?_
      refine r_goto (q := 4) hK dX0_stampsOfAll_27 rfl ?_
      exact sV.sub [2, 1, 0] (by rfl) (ih x9 (i2 + (1 : Int32)))
def fX0_stampsOfAll  (a0 : Nat) (σ : Store) : Option Int32 := (fX0_stampsOfAll_L4 a0 σ FU (0 : Int32) (0 : Int32))
theorem c_X0_stampsOfAll {l0 : Launch} {G : Geo} (a0 : Nat) (h0 : kdC a0 = 0) (σ : Store) (a : Int32) (hf : fX0_stampsOfAll  a0 σ = some a) : sCon l0 wCls G yX0_stampsOfAll cX0_stampsOfAll 3 (some .int) (rmL 1 60) [.ref (gad G a0)] σ (some (.int a)) σ := by
  refine sCon.of (by decide) ⟨rfl, rfl⟩ (Nat.le_of_ble_eq_true rfl) RX0 rfl _ hf (fun K hK => ?_)
  show sV wCls G K a σ 0 [(0, .ref (gad G a0))] [] _
  unfold fX0_stampsOfAll
  refine r_iconst (q := 1) (v := 0) hK dX0_stampsOfAll_0 rfl rfl ?_
  refine r_istore_n (q := 2) (loc' := [(1, .int (0 : Int32)), (0, .ref (gad G a0))]) hK dX0_stampsOfAll_1 rfl rfl (by decide) rfl ?_
  refine r_iconst (q := 3) (v := 0) hK dX0_stampsOfAll_2 rfl rfl ?_
  refine r_istore_n (q := 4) (loc' := [(2, .int (0 : Int32)), (1, .int (0 : Int32)), (0, .ref (gad G a0))]) hK dX0_stampsOfAll_3 rfl rfl (by decide) rfl ?_
  exact sV.sub [2, 1, 0] (by rfl) (vX0_stampsOfAll_L4 σ a0 h0 hK FU (0 : Int32) (0 : Int32))
def fX8_days_L40  (v3 : Int32) (k : Int32 → Store → Option (Int32 × Store)) : Nat → Int32 → Store → Option (Int32 × Store)
  | 0, _, _ => none
  | n + 1, i4, τ => (if v3 ≤ i4 then (k i4 τ) else (sbd (fX0_dayPasses 57 τ) fun s10 => (fX8_days_L40 v3 k n (i4 + (1 : Int32)) s10)))
theorem vX8_days_L40 {G : Geo} {K : KT} {l0 : Launch} (σ : Store) {a : (Int32 × Store)} (v1 : Int32) (v2 : Int32) (v3 : Int32) (hK : sOk wCls G K l0 RX8 cX8_days (rmL 6 180) 5 (some .int) (some (.int a.1)) a.2) (k : Int32 → Store → Option (Int32 × Store)) (hk : ∀ (e4 : Int32) (ε : Store), sV wCls G K a ε 59 [(0, .ref (gad G 0)), (1, .int v1), (2, .int v2), (3, .int v3), (4, .int e4)] [] (k e4 ε)) : ∀ (n : Nat) (i4 : Int32) (τ : Store), sV wCls G K a τ 40 [(0, .ref (gad G 0)), (1, .int v1), (2, .int v2), (3, .int v3), (4, .int i4)] [] (fX8_days_L40 v3 k n i4 τ) := by
  intro n
  induction n with
  | zero =>
    intro i4 τ
    exact sV.no
  | succ n ih =>
    intro i4 τ
    rw [fX8_days_L40]
    refine r_iload (q := 42) hK dX8_days_40 rfl 4 rfl ?_
    refine r_iload_n (q := 43) hK dX8_days_42 rfl rfl 3 rfl ?_
    refine r_icmp_ge (t := 59) (q := 46) hK dX8_days_43 rfl rfl (fun c9 => ?_) (fun c9 => ?_)
    · exact sV.sub [0, 1, 2, 3, 4] (by rfl) (hk i4 τ)
    · refine r_aload_n (q := 47) hK dX8_days_46 rfl rfl 0 rfl ?_
      refine gf_8_1 (q := 50) (rfl : kdC 0 = 8) hK dX8_days_47 rfl tw_268 ?_
      refine callV_vS (q := 53) (j := 57) (As := []) (rest := []) (f := (fX0_dayPasses 57 τ)) hK dX8_days_50 rfl (fun b hb => c_X0_dayPasses 57 (rfl : kdC 57 = 0) τ b hb) ⟨0, _, _, _, kd_lt (rfl : kdC 57 = 0) (by decide), rfl, cC0 (rfl : kdC 57 = 0), rfl⟩ mv_X0_dayPasses rfl rfl (Nat.le_of_ble_eq_true rfl) tw_481 mw_X0_dayPasses (rmOk (Nat.le_of_ble_eq_true rfl) (Nat.le_of_ble_eq_true rfl)) (fun s10 => ?_)
      refine r_iinc (q := 56) (v := (i4 + (1 : Int32))) (loc' := [(4, .int (i4 + (1 : Int32))), (0, .ref (gad G 0)), (1, .int v1), (2, .int v2), (3, .int v3)]) hK dX8_days_53 rfl 4 rfl rfl (by decide) rfl ?_
      refine r_goto (q := 40) hK dX8_days_56 rfl ?_
      exact sV.sub [1, 2, 3, 4, 0] (by rfl) (ih (i4 + (1 : Int32)) s10)
def fX8_days  (a1 : Int32) (σ : Store) : Option (Int32 × Store) := (sbd (fX8_within a1 (1 : Int32) (60 : Int32) σ) fun r1 => (if r1 = true then (sbd (fX0_stampsOfAll 57 σ) fun r3 => (slt (smin a1 ((9999 : Int32) - (σ 57 9))) fun x4 => (fX8_days_L40 x4 (fun x11 s12 => (sbd (fX0_stampsOfAll 57 s12) fun r13 => (some ((r13 - r3), s12)))) FU (0 : Int32) σ))) else (some ((-1000000001 : Int32), σ))))
theorem c_X8_days {l0 : Launch} {G : Geo} (a1 : Int32) (σ : Store) (a : (Int32 × Store)) (hf : fX8_days  a1 σ = some a) : sCon l0 wCls G yX8_days cX8_days 5 (some .int) (rmL 6 180) [.ref (gad G 0), .int a1] σ (some (.int a.1)) a.2 := by
  refine sCon.of (by decide) ⟨rfl, rfl⟩ (Nat.le_of_ble_eq_true rfl) RX8 rfl _ hf (fun K hK => ?_)
  show sV wCls G K a σ 0 [(0, .ref (gad G 0)), (1, .int a1)] [] _
  unfold fX8_days
  refine r_iload_n (q := 1) hK dX8_days_0 rfl rfl 1 rfl ?_
  refine r_iconst (q := 2) (v := 1) hK dX8_days_1 rfl rfl ?_
  refine r_bipush (q := 4) (v := 60) hK dX8_days_2 rfl rfl ?_
  refine callS_b (q := 7) (As := [.int a1, .int (1 : Int32), .int (60 : Int32)]) (rest := []) (f := (fX8_within a1 (1 : Int32) (60 : Int32) σ)) hK dX8_days_4 rfl (fun b hb => c_X8_within a1 (1 : Int32) (60 : Int32) σ b hb) ms_X8_within rfl rfl (Nat.le_of_ble_eq_true rfl) tw_314 mw_X8_within (rmOk (Nat.le_of_ble_eq_true rfl) (Nat.le_of_ble_eq_true rfl)) (fun r1 => ?_)
  refine r_ifb_ne (t := 13) (q := 10) hK dX8_days_7 rfl rfl (fun c2 => ?_) (fun c2 => ?_)
  · refine r_aload_n (q := 14) hK dX8_days_13 rfl rfl 0 rfl ?_
    refine gf_8_1 (q := 17) (rfl : kdC 0 = 8) hK dX8_days_14 rfl tw_268 ?_
    refine callV_i (q := 20) (j := 57) (As := []) (rest := []) (f := (fX0_stampsOfAll 57 σ)) hK dX8_days_17 rfl (fun b hb => c_X0_stampsOfAll 57 (rfl : kdC 57 = 0) σ b hb) ⟨0, _, _, _, kd_lt (rfl : kdC 57 = 0) (by decide), rfl, cC0 (rfl : kdC 57 = 0), rfl⟩ mv_X0_stampsOfAll rfl rfl (Nat.le_of_ble_eq_true rfl) tw_477 mw_X0_stampsOfAll (rmOk (Nat.le_of_ble_eq_true rfl) (Nat.le_of_ble_eq_true rfl)) (fun r3 => ?_)
    refine r_istore_n (q := 21) (loc' := [(2, .int r3), (0, .ref (gad G 0)), (1, .int a1)]) hK dX8_days_20 rfl rfl (by decide) rfl ?_
    refine r_iload_n (q := 22) hK dX8_days_21 rfl rfl 2 rfl ?_
    refine r_sipush (q := 25) (v := 9999) hK dX8_days_22 rfl rfl ?_
    refine r_aload_n (q := 26) hK dX8_days_25 rfl rfl 1 rfl ?_
    refine gf_8_1 (q := 29) (rfl : kdC 0 = 8) hK dX8_days_26 rfl tw_268 ?_
    refine gf_0_9 (q := 32) (rfl : kdC 57 = 0) hK dX8_days_29 rfl tw_136 ?_
    refine r_isub (q := 33) hK dX8_days_32 rfl ?_
    refine r_min (q := 36) hK dX8_days_33 rfl tw_361 mt_min (rmM (Nat.le_of_ble_eq_true rfl) (Nat.le_of_ble_eq_true rfl)) ?_
    refine sV.ltI (fun x4 => ?_)
    refine r_istore_n (q := 37) (loc' := [(3, .int x4), (2, .int r3), (0, .ref (gad G 0)), (1, .int a1)]) hK dX8_days_36 rfl rfl (by decide) rfl ?_
    refine r_iconst (q := 38) (v := 0) hK dX8_days_37 rfl rfl ?_
    refine r_istore (q := 40) (loc' := [(4, .int (0 : Int32)), (3, .int x4), (2, .int r3), (0, .ref (gad G 0)), (1, .int a1)]) hK dX8_days_38 rfl (by decide) rfl ?_
    refine sV.sub [3, 4, 2, 1, 0] (by rfl) (vX8_days_L40 σ a1 r3 x4 hK _ (fun x11 s12 => ?_) FU (0 : Int32) σ)
    refine r_aload_n (q := 60) hK dX8_days_59 rfl rfl 0 rfl ?_
    refine gf_8_1 (q := 63) (rfl : kdC 0 = 8) hK dX8_days_60 rfl tw_268 ?_
    refine callV_i (q := 66) (j := 57) (As := []) (rest := []) (f := (fX0_stampsOfAll 57 s12)) hK dX8_days_63 rfl (fun b hb => c_X0_stampsOfAll 57 (rfl : kdC 57 = 0) s12 b hb) ⟨0, _, _, _, kd_lt (rfl : kdC 57 = 0) (by decide), rfl, cC0 (rfl : kdC 57 = 0), rfl⟩ mv_X0_stampsOfAll rfl rfl (Nat.le_of_ble_eq_true rfl) tw_477 mw_X0_stampsOfAll (rmOk (Nat.le_of_ble_eq_true rfl) (Nat.le_of_ble_eq_true rfl)) (fun r13 => ?_)
    refine r_iload_n (q := 67) hK dX8_days_66 rfl rfl 2 rfl ?_
    refine r_isub (q := 68) hK dX8_days_67 rfl ?_
    exact e_iS hK dX8_days_68
  · refine r_ldc (q := 12) hK dX8_days_10 rfl tw_317 ?_
    exact e_iS hK dX8_days_12
def fX0_sensesOf_L4  (o0 : Nat) (v1 : Int32) (σ : Store) : Nat → Int32 → Int32 → Option Int32
  | 0, _, _ => none
  | n + 1, i2, i3 => (if (σ o0 3) ≤ i3 then (some i2) else (if ¬ ((v1 >>> (i3 &&& 31)) &&& (1 : Int32)) = (1 : Int32) then (fX0_sensesOf_L4 o0 v1 σ n i2 (i3 + (1 : Int32))) else (six 10 i3 (slt (i2 ||| (σ (wrd o0 i3) 1)) fun x12 => (fX0_sensesOf_L4 o0 v1 σ n x12 (i3 + (1 : Int32)))))))
theorem vX0_sensesOf_L4 {G : Geo} {K : KT} {l0 : Launch} (σ : Store) {a : Int32} (o0 : Nat) (ho0 : kdC o0 = 0) (v1 : Int32) (hK : sOk wCls G K l0 RX0 cX0_sensesOf (rmL 1 60) 4 (some .int) (some (.int a)) σ) : ∀ (n : Nat) (i2 : Int32) (i3 : Int32), sV wCls G K a σ 4 [(0, .ref (gad G o0)), (1, .int v1), (2, .int i2), (3, .int i3)] [] (fX0_sensesOf_L4 o0 v1 σ n i2 i3) := by
  intro n
  induction n with
  | zero =>
    intro i2 i3
    exact sV.no
  | succ n ih =>
    intro i2 i3
    rw [fX0_sensesOf_L4]
    refine r_iload_n (q := 5) hK dX0_sensesOf_4 rfl rfl 3 rfl ?_
    refine r_aload_n (q := 6) hK dX0_sensesOf_5 rfl rfl 0 rfl ?_
    refine gf_0_3 (q := 9) ho0 hK dX0_sensesOf_6 rfl tw_122 ?_
    refine r_icmp_ge (t := 39) (q := 12) hK dX0_sensesOf_9 rfl rfl (fun c9 => ?_) (fun c9 => ?_)
    · refine r_iload_n (q := 40) hK dX0_sensesOf_39 rfl rfl 2 rfl ?_
      exact e_i hK dX0_sensesOf_40
    · refine r_iload_n (q := 13) hK dX0_sensesOf_12 rfl rfl 1 rfl ?_
      refine r_iload_n (q := 14) hK dX0_sensesOf_13 rfl rfl 3 rfl ?_
      refine r_ishr (q := 15) hK dX0_sensesOf_14 rfl ?_
      refine r_iconst (q := 16) (v := 1) hK dX0_sensesOf_15 rfl rfl ?_
      refine r_iand (q := 17) hK dX0_sensesOf_16 rfl ?_
      refine r_iconst (q := 18) (v := 1) hK dX0_sensesOf_17 rfl rfl ?_
      refine r_icmp_ne (t := 33) (q := 21) hK dX0_sensesOf_18 rfl rfl (fun c10 => ?_) (fun c10 => ?_)
      · refine r_iinc (q := 36) (v := (i3 + (1 : Int32))) (loc' := [(3, .int (i3 + (1 : Int32))), (0, .ref (gad G o0)), (1, .int v1), (2, .int i2)]) hK dX0_sensesOf_33 rfl 3 rfl rfl (by decide) rfl ?_
        refine r_goto (q := 4) hK dX0_sensesOf_36 rfl ?_
        exact sV.sub [1, 2, 3, 0] (by rfl) (ih i2 (i3 + (1 : Int32)))
      · refine r_iload_n (q := 22) hK dX0_sensesOf_21 rfl rfl 2 rfl ?_
        refine r_aload_n (q := 23) hK dX0_sensesOf_22 rfl rfl 0 rfl ?_
        refine gf_0_1 (q := 26) ho0 hK dX0_sensesOf_23 rfl tw_117 ?_
        refine r_iload_n (q := 27) hK dX0_sensesOf_26 rfl rfl 3 rfl ?_
        refine r_aald (q := 28) hK dX0_sensesOf_27 rfl (qC13 (kd_bw ho0)) (ty := .object RX7) rfl rfl (r := gad G (wrd o0 i3)) rfl (fun h11 => ?_)
        refine gf_7_1 (q := 31) (kd_wrd ho0 h11) hK dX0_sensesOf_28 rfl tw_73 ?_
        refine r_ior (q := 32) hK dX0_sensesOf_31 rfl ?_
        refine sV.ltI (fun x12 => ?_)
        refine r_istore_n (q := 33) (loc' := [(2, .int x12), (0, .ref (gad G o0)), (1, .int v1), (3, .int i3)]) hK dX0_sensesOf_32 rfl rfl (by decide) rfl ?_
        refine r_iinc (q := 36) (v := (i3 + (1 : Int32))) (loc' := [(3, .int (i3 + (1 : Int32))), (2, .int x12), (0, .ref (gad G o0)), (1, .int v1)]) hK dX0_sensesOf_33 rfl 3 rfl rfl (by decide) rfl ?_
        refine r_goto (q := 4) hK dX0_sensesOf_36 rfl ?_
        exact sV.sub [2, 3, 1, 0] (by rfl) (ih x12 (i3 + (1 : Int32)))
def fX0_sensesOf  (a0 : Nat) (a1 : Int32) (σ : Store) : Option Int32 := (fX0_sensesOf_L4 a0 a1 σ FU (0 : Int32) (0 : Int32))
theorem c_X0_sensesOf {l0 : Launch} {G : Geo} (a0 : Nat) (h0 : kdC a0 = 0) (a1 : Int32) (σ : Store) (a : Int32) (hf : fX0_sensesOf  a0 a1 σ = some a) : sCon l0 wCls G yX0_sensesOf cX0_sensesOf 4 (some .int) (rmL 1 60) [.ref (gad G a0), .int a1] σ (some (.int a)) σ := by
  refine sCon.of (by decide) ⟨rfl, rfl⟩ (Nat.le_of_ble_eq_true rfl) RX0 rfl _ hf (fun K hK => ?_)
  show sV wCls G K a σ 0 [(0, .ref (gad G a0)), (1, .int a1)] [] _
  unfold fX0_sensesOf
  refine r_iconst (q := 1) (v := 0) hK dX0_sensesOf_0 rfl rfl ?_
  refine r_istore_n (q := 2) (loc' := [(2, .int (0 : Int32)), (0, .ref (gad G a0)), (1, .int a1)]) hK dX0_sensesOf_1 rfl rfl (by decide) rfl ?_
  refine r_iconst (q := 3) (v := 0) hK dX0_sensesOf_2 rfl rfl ?_
  refine r_istore_n (q := 4) (loc' := [(3, .int (0 : Int32)), (2, .int (0 : Int32)), (0, .ref (gad G a0)), (1, .int a1)]) hK dX0_sensesOf_3 rfl rfl (by decide) rfl ?_
  exact sV.sub [2, 3, 1, 0] (by rfl) (vX0_sensesOf_L4 σ a0 h0 a1 hK FU (0 : Int32) (0 : Int32))
def fX0_haveAll  (a0 : Nat) (a1 : Int32) (a2 : Int32) (σ : Store) : Option Bool := (sbd (fX0_sensesOf a0 a1 σ) fun r1 => (if ¬ (a2 &&& (r1 ^^^ (-1 : Int32))) = 0 then (some false) else (some true)))
theorem c_X0_haveAll {l0 : Launch} {G : Geo} (a0 : Nat) (h0 : kdC a0 = 0) (a1 : Int32) (a2 : Int32) (σ : Store) (a : Bool) (hf : fX0_haveAll  a0 a1 a2 σ = some a) : sCon l0 wCls G yX0_haveAll cX0_haveAll 3 (some .boolean) (rmL 2 83) [.ref (gad G a0), .int a1, .int a2] σ (some (.int (b2i a))) σ := by
  refine sCon.of (by decide) ⟨rfl, rfl⟩ (Nat.le_of_ble_eq_true rfl) RX0 rfl _ hf (fun K hK => ?_)
  show sV wCls G K a σ 0 [(0, .ref (gad G a0)), (1, .int a1), (2, .int a2)] [] _
  unfold fX0_haveAll
  refine r_iload_n (q := 1) hK dX0_haveAll_0 rfl rfl 2 rfl ?_
  refine r_aload_n (q := 2) hK dX0_haveAll_1 rfl rfl 0 rfl ?_
  refine r_iload_n (q := 3) hK dX0_haveAll_2 rfl rfl 1 rfl ?_
  refine callV_i (q := 6) (j := a0) (As := [.int a1]) (rest := [.int a2]) (f := (fX0_sensesOf a0 a1 σ)) hK dX0_haveAll_3 rfl (fun b hb => c_X0_sensesOf a0 h0 a1 σ b hb) ⟨0, _, _, _, kd_lt h0 (by decide), rfl, cC0 h0, rfl⟩ mv_X0_sensesOf rfl rfl (Nat.le_of_ble_eq_true rfl) tw_497 mw_X0_sensesOf (rmOk (Nat.le_of_ble_eq_true rfl) (Nat.le_of_ble_eq_true rfl)) (fun r1 => ?_)
  refine r_iconst (q := 7) (v := -1) hK dX0_haveAll_6 rfl rfl ?_
  refine r_ixor (q := 8) hK dX0_haveAll_7 rfl ?_
  refine r_iand (q := 9) hK dX0_haveAll_8 rfl ?_
  refine r_if_ne (t := 16) (q := 12) hK dX0_haveAll_9 rfl rfl (fun c2 => ?_) (fun c2 => ?_)
  · refine r_iconst (q := 17) (v := 0) hK dX0_haveAll_16 rfl rfl ?_
    exact e_b (b := false) hK dX0_haveAll_17
  · refine r_iconst (q := 13) (v := 1) hK dX0_haveAll_12 rfl rfl ?_
    refine r_goto (q := 17) hK dX0_haveAll_13 rfl ?_
    exact e_b (b := true) hK dX0_haveAll_17
def fX8_isSenses  (a0 : Int32) (σ : Store) : Option Bool := (sbd (fX8_within a0 (0 : Int32) (255 : Int32) σ) fun r1 => (some r1))
theorem c_X8_isSenses {l0 : Launch} {G : Geo} (a0 : Int32) (σ : Store) (a : Bool) (hf : fX8_isSenses  a0 σ = some a) : sCon l0 wCls G yX8_isSenses cX8_isSenses 1 (some .boolean) (rmL 2 82) [.int a0] σ (some (.int (b2i a))) σ := by
  refine sCon.of (by decide) ⟨rfl, rfl⟩ (Nat.le_of_ble_eq_true rfl) RX8 rfl _ hf (fun K hK => ?_)
  show sV wCls G K a σ 0 [(0, .int a0)] [] _
  unfold fX8_isSenses
  refine r_iload_n (q := 1) hK dX8_isSenses_0 rfl rfl 0 rfl ?_
  refine r_iconst (q := 2) (v := 0) hK dX8_isSenses_1 rfl rfl ?_
  refine r_sipush (q := 5) (v := 255) hK dX8_isSenses_2 rfl rfl ?_
  refine callS_b (q := 8) (As := [.int a0, .int (0 : Int32), .int (255 : Int32)]) (rest := []) (f := (fX8_within a0 (0 : Int32) (255 : Int32) σ)) hK dX8_isSenses_5 rfl (fun b hb => c_X8_within a0 (0 : Int32) (255 : Int32) σ b hb) ms_X8_within rfl rfl (Nat.le_of_ble_eq_true rfl) tw_314 mw_X8_within (rmOk (Nat.le_of_ble_eq_true rfl) (Nat.le_of_ble_eq_true rfl)) (fun r1 => ?_)
  exact e_b (b := r1) hK dX8_isSenses_8
def fX8_says  (a1 : Int32) (a2 : Int32) (σ : Store) : Option Int32 := (sbd (fX0_hasTraveller 57 a1 σ) fun r1 => (if r1 = true then (sbd (fX8_isSenses a2 σ) fun r3 => (if r3 = true then (six 6 a1 (sbd (fX0_haveAll 57 (σ (trv 57 a1) 0) a2 σ) fun r6 => (if r6 = true then (some (1 : Int32)) else (some (0 : Int32))))) else (some (-1000000001 : Int32)))) else (some (-1000000001 : Int32))))
theorem c_X8_says {l0 : Launch} {G : Geo} (a1 : Int32) (a2 : Int32) (σ : Store) (a : Int32) (hf : fX8_says  a1 a2 σ = some a) : sCon l0 wCls G yX8_says cX8_says 3 (some .int) (rmL 3 105) [.ref (gad G 0), .int a1, .int a2] σ (some (.int a)) σ := by
  refine sCon.of (by decide) ⟨rfl, rfl⟩ (Nat.le_of_ble_eq_true rfl) RX8 rfl _ hf (fun K hK => ?_)
  show sV wCls G K a σ 0 [(0, .ref (gad G 0)), (1, .int a1), (2, .int a2)] [] _
  unfold fX8_says
  refine r_aload_n (q := 1) hK dX8_says_0 rfl rfl 0 rfl ?_
  refine gf_8_1 (q := 4) (rfl : kdC 0 = 8) hK dX8_says_1 rfl tw_268 ?_
  refine r_iload_n (q := 5) hK dX8_says_4 rfl rfl 1 rfl ?_
  refine callV_b (q := 8) (j := 57) (As := [.int a1]) (rest := []) (f := (fX0_hasTraveller 57 a1 σ)) hK dX8_says_5 rfl (fun b hb => c_X0_hasTraveller 57 (rfl : kdC 57 = 0) a1 σ b hb) ⟨0, _, _, _, kd_lt (rfl : kdC 57 = 0) (by decide), rfl, cC0 (rfl : kdC 57 = 0), rfl⟩ mv_X0_hasTraveller rfl rfl (Nat.le_of_ble_eq_true rfl) tw_406 mw_X0_hasTraveller (rmOk (Nat.le_of_ble_eq_true rfl) (Nat.le_of_ble_eq_true rfl)) (fun r1 => ?_)
  refine r_ifb_eq (t := 18) (q := 11) hK dX8_says_8 rfl rfl (fun c2 => ?_) (fun c2 => ?_)
  · refine r_iload_n (q := 12) hK dX8_says_11 rfl rfl 2 rfl ?_
    refine callS_b (q := 15) (As := [.int a2]) (rest := []) (f := (fX8_isSenses a2 σ)) hK dX8_says_12 rfl (fun b hb => c_X8_isSenses a2 σ b hb) ms_X8_isSenses rfl rfl (Nat.le_of_ble_eq_true rfl) tw_490 mw_X8_isSenses (rmOk (Nat.le_of_ble_eq_true rfl) (Nat.le_of_ble_eq_true rfl)) (fun r3 => ?_)
    refine r_ifb_ne (t := 21) (q := 18) hK dX8_says_15 rfl rfl (fun c4 => ?_) (fun c4 => ?_)
    · refine r_aload_n (q := 22) hK dX8_says_21 rfl rfl 0 rfl ?_
      refine gf_8_1 (q := 25) (rfl : kdC 0 = 8) hK dX8_says_22 rfl tw_268 ?_
      refine r_aload_n (q := 26) hK dX8_says_25 rfl rfl 0 rfl ?_
      refine gf_8_1 (q := 29) (rfl : kdC 0 = 8) hK dX8_says_26 rfl tw_268 ?_
      refine gf_0_2 (q := 32) (rfl : kdC 57 = 0) hK dX8_says_29 rfl tw_121 ?_
      refine r_iload_n (q := 33) hK dX8_says_32 rfl rfl 1 rfl ?_
      refine r_aald (q := 34) hK dX8_says_33 rfl (qC12 (kd_bt (rfl : kdC 57 = 0))) (ty := .object RX6) rfl rfl (r := gad G (trv 57 a1)) rfl (fun h5 => ?_)
      refine gf_6_0 (q := 37) (kd_trv (rfl : kdC 57 = 0) h5) hK dX8_says_34 rfl tw_107 ?_
      refine r_iload_n (q := 38) hK dX8_says_37 rfl rfl 2 rfl ?_
      refine callV_b (q := 41) (j := 57) (As := [.int (σ (trv 57 a1) 0), .int a2]) (rest := []) (f := (fX0_haveAll 57 (σ (trv 57 a1) 0) a2 σ)) hK dX8_says_38 rfl (fun b hb => c_X0_haveAll 57 (rfl : kdC 57 = 0) (σ (trv 57 a1) 0) a2 σ b hb) ⟨0, _, _, _, kd_lt (rfl : kdC 57 = 0) (by decide), rfl, cC0 (rfl : kdC 57 = 0), rfl⟩ mv_X0_haveAll rfl rfl (Nat.le_of_ble_eq_true rfl) tw_493 mw_X0_haveAll (rmOk (Nat.le_of_ble_eq_true rfl) (Nat.le_of_ble_eq_true rfl)) (fun r6 => ?_)
      refine r_ifb_eq (t := 48) (q := 44) hK dX8_says_41 rfl rfl (fun c7 => ?_) (fun c7 => ?_)
      · refine r_iconst (q := 45) (v := 1) hK dX8_says_44 rfl rfl ?_
        refine r_goto (q := 49) hK dX8_says_45 rfl ?_
        exact e_i hK dX8_says_49
      · refine r_iconst (q := 49) (v := 0) hK dX8_says_48 rfl rfl ?_
        exact e_i hK dX8_says_49
    · refine r_ldc (q := 20) hK dX8_says_18 rfl tw_317 ?_
      exact e_i hK dX8_says_20
  · refine r_ldc (q := 20) hK dX8_says_18 rfl tw_317 ?_
    exact e_i hK dX8_says_20
def fX4_priceOf_L4  (v1 : Int32) (σ : Store) : Nat → Int32 → Int32 → Option Int32
  | 0, _, _ => none
  | n + 1, i2, i3 => (if (σ 57 3) ≤ i3 then (some i2) else (if ¬ ((v1 >>> (i3 &&& 31)) &&& (1 : Int32)) = (1 : Int32) then (fX4_priceOf_L4 v1 σ n i2 (i3 + (1 : Int32))) else (six 10 i3 (slt (i2 + (σ 22 (snx i3))) fun x12 => (fX4_priceOf_L4 v1 σ n x12 (i3 + (1 : Int32)))))))
theorem vX4_priceOf_L4 {G : Geo} {K : KT} {l0 : Launch} (σ : Store) {a : Int32} (v1 : Int32) (hK : sOk wCls G K l0 RX4 cX4_priceOf (rmL 1 60) 4 (some .int) (some (.int a)) σ) : ∀ (n : Nat) (i2 : Int32) (i3 : Int32), sV wCls G K a σ 4 [(0, .ref (gad G 21)), (1, .int v1), (2, .int i2), (3, .int i3)] [] (fX4_priceOf_L4 v1 σ n i2 i3) := by
  intro n
  induction n with
  | zero =>
    intro i2 i3
    exact sV.no
  | succ n ih =>
    intro i2 i3
    rw [fX4_priceOf_L4]
    refine r_iload_n (q := 5) hK dX4_priceOf_4 rfl rfl 3 rfl ?_
    refine r_aload_n (q := 6) hK dX4_priceOf_5 rfl rfl 0 rfl ?_
    refine gf_4_0 (q := 9) (rfl : kdC 21 = 4) hK dX4_priceOf_6 rfl tw_168 ?_
    refine gf_0_3 (q := 12) (rfl : kdC 57 = 0) hK dX4_priceOf_9 rfl tw_124 ?_
    refine r_icmp_ge (t := 39) (q := 15) hK dX4_priceOf_12 rfl rfl (fun c9 => ?_) (fun c9 => ?_)
    · refine r_iload_n (q := 40) hK dX4_priceOf_39 rfl rfl 2 rfl ?_
      exact e_i hK dX4_priceOf_40
    · refine r_iload_n (q := 16) hK dX4_priceOf_15 rfl rfl 1 rfl ?_
      refine r_iload_n (q := 17) hK dX4_priceOf_16 rfl rfl 3 rfl ?_
      refine r_ishr (q := 18) hK dX4_priceOf_17 rfl ?_
      refine r_iconst (q := 19) (v := 1) hK dX4_priceOf_18 rfl rfl ?_
      refine r_iand (q := 20) hK dX4_priceOf_19 rfl ?_
      refine r_iconst (q := 21) (v := 1) hK dX4_priceOf_20 rfl rfl ?_
      refine r_icmp_ne (t := 33) (q := 24) hK dX4_priceOf_21 rfl rfl (fun c10 => ?_) (fun c10 => ?_)
      · refine r_iinc (q := 36) (v := (i3 + (1 : Int32))) (loc' := [(3, .int (i3 + (1 : Int32))), (0, .ref (gad G 21)), (1, .int v1), (2, .int i2)]) hK dX4_priceOf_33 rfl 3 rfl rfl (by decide) rfl ?_
        refine r_goto (q := 4) hK dX4_priceOf_36 rfl ?_
        exact sV.sub [1, 2, 3, 0] (by rfl) (ih i2 (i3 + (1 : Int32)))
      · refine r_iload_n (q := 25) hK dX4_priceOf_24 rfl rfl 2 rfl ?_
        refine r_aload_n (q := 26) hK dX4_priceOf_25 rfl rfl 0 rfl ?_
        refine gf_4_1 (q := 29) (rfl : kdC 21 = 4) hK dX4_priceOf_26 rfl tw_169 ?_
        refine r_iload_n (q := 30) hK dX4_priceOf_29 rfl rfl 3 rfl ?_
        refine r_iald (q := 31) hK dX4_priceOf_30 rfl (aC22 (j := 22) rfl) (fun h11 => ?_)
        refine r_iadd (q := 32) hK dX4_priceOf_31 rfl ?_
        refine sV.ltI (fun x12 => ?_)
        refine r_istore_n (q := 33) (loc' := [(2, .int x12), (0, .ref (gad G 21)), (1, .int v1), (3, .int i3)]) hK dX4_priceOf_32 rfl rfl (by decide) rfl ?_
        refine r_iinc (q := 36) (v := (i3 + (1 : Int32))) (loc' := [(3, .int (i3 + (1 : Int32))), (2, .int x12), (0, .ref (gad G 21)), (1, .int v1)]) hK dX4_priceOf_33 rfl 3 rfl rfl (by decide) rfl ?_
        refine r_goto (q := 4) hK dX4_priceOf_36 rfl ?_
        exact sV.sub [2, 3, 1, 0] (by rfl) (ih x12 (i3 + (1 : Int32)))
def fX4_priceOf  (a1 : Int32) (σ : Store) : Option Int32 := (fX4_priceOf_L4 a1 σ FU (0 : Int32) (0 : Int32))
theorem c_X4_priceOf {l0 : Launch} {G : Geo} (a1 : Int32) (σ : Store) (a : Int32) (hf : fX4_priceOf  a1 σ = some a) : sCon l0 wCls G yX4_priceOf cX4_priceOf 4 (some .int) (rmL 1 60) [.ref (gad G 21), .int a1] σ (some (.int a)) σ := by
  refine sCon.of (by decide) ⟨rfl, rfl⟩ (Nat.le_of_ble_eq_true rfl) RX4 rfl _ hf (fun K hK => ?_)
  show sV wCls G K a σ 0 [(0, .ref (gad G 21)), (1, .int a1)] [] _
  unfold fX4_priceOf
  refine r_iconst (q := 1) (v := 0) hK dX4_priceOf_0 rfl rfl ?_
  refine r_istore_n (q := 2) (loc' := [(2, .int (0 : Int32)), (0, .ref (gad G 21)), (1, .int a1)]) hK dX4_priceOf_1 rfl rfl (by decide) rfl ?_
  refine r_iconst (q := 3) (v := 0) hK dX4_priceOf_2 rfl rfl ?_
  refine r_istore_n (q := 4) (loc' := [(3, .int (0 : Int32)), (2, .int (0 : Int32)), (0, .ref (gad G 21)), (1, .int a1)]) hK dX4_priceOf_3 rfl rfl (by decide) rfl ?_
  exact sV.sub [2, 3, 1, 0] (by rfl) (vX4_priceOf_L4 σ a1 hK FU (0 : Int32) (0 : Int32))
def fX4_readPrices_L2   : Nat → Int32 → Store → Option Store
  | 0, _, _ => none
  | n + 1, i1, τ => (if (τ 57 3) ≤ i1 then (some τ) else (six 10 i1 (sbd2 (fX0_costsOf 57 (wrd 57 i1) τ) fun r15 s16 => (six 10 i1 (slt (sup s16 22 (snx i1) r15) fun s18 => (fX4_readPrices_L2 n (i1 + (1 : Int32)) s18))))))
theorem vX4_readPrices_L2 {G : Geo} {K : KT} {l0 : Launch} (σ : Store) {a : Store}  (hK : sOk wCls G K l0 RX4 cX4_readPrices (rmL 4 132) 2 (none) none a) : ∀ (n : Nat) (i1 : Int32) (τ : Store), sV wCls G K a τ 2 [(0, .ref (gad G 21)), (1, .int i1)] [] (fX4_readPrices_L2  n i1 τ) := by
  intro n
  induction n with
  | zero =>
    intro i1 τ
    exact sV.no
  | succ n ih =>
    intro i1 τ
    rw [fX4_readPrices_L2]
    refine r_iload_n (q := 3) hK dX4_readPrices_2 rfl rfl 1 rfl ?_
    refine r_aload_n (q := 4) hK dX4_readPrices_3 rfl rfl 0 rfl ?_
    refine gf_4_0 (q := 7) (rfl : kdC 21 = 4) hK dX4_readPrices_4 rfl tw_168 ?_
    refine gf_0_3 (q := 10) (rfl : kdC 57 = 0) hK dX4_readPrices_7 rfl tw_124 ?_
    refine r_icmp_ge (t := 41) (q := 13) hK dX4_readPrices_10 rfl rfl (fun c13 => ?_) (fun c13 => ?_)
    · exact e_vS hK dX4_readPrices_41
    · refine r_aload_n (q := 14) hK dX4_readPrices_13 rfl rfl 0 rfl ?_
      refine gf_4_1 (q := 17) (rfl : kdC 21 = 4) hK dX4_readPrices_14 rfl tw_169 ?_
      refine r_iload_n (q := 18) hK dX4_readPrices_17 rfl rfl 1 rfl ?_
      refine r_aload_n (q := 19) hK dX4_readPrices_18 rfl rfl 0 rfl ?_
      refine gf_4_0 (q := 22) (rfl : kdC 21 = 4) hK dX4_readPrices_19 rfl tw_168 ?_
      refine r_aload_n (q := 23) hK dX4_readPrices_22 rfl rfl 0 rfl ?_
      refine gf_4_0 (q := 26) (rfl : kdC 21 = 4) hK dX4_readPrices_23 rfl tw_168 ?_
      refine gf_0_1 (q := 29) (rfl : kdC 57 = 0) hK dX4_readPrices_26 rfl tw_119 ?_
      refine r_iload_n (q := 30) hK dX4_readPrices_29 rfl rfl 1 rfl ?_
      refine r_aald (q := 31) hK dX4_readPrices_30 rfl (qC13 (kd_bw (rfl : kdC 57 = 0))) (ty := .object RX7) rfl rfl (r := gad G (wrd 57 i1)) rfl (fun h14 => ?_)
      refine callV_iS (q := 34) (j := 57) (As := [.ref (gad G (wrd 57 i1))]) (rest := [.int i1, .ref (gad G 22)]) (f := (fX0_costsOf 57 (wrd 57 i1) τ)) hK dX4_readPrices_31 rfl (fun b hb => c_X0_costsOf 57 (rfl : kdC 57 = 0) (wrd 57 i1) (kd_wrd (rfl : kdC 57 = 0) h14) τ b hb) ⟨0, _, _, _, kd_lt (rfl : kdC 57 = 0) (by decide), rfl, cC0 (rfl : kdC 57 = 0), rfl⟩ mv_X0_costsOf rfl rfl (Nat.le_of_ble_eq_true rfl) tw_513 mw_X0_costsOf (rmOk (Nat.le_of_ble_eq_true rfl) (Nat.le_of_ble_eq_true rfl)) (fun r15 s16 => ?_)
      refine r_iast (q := 35) hK dX4_readPrices_34 rfl (aC22 (j := 22) rfl) (fun h17 => ?_)
      refine sV.ltS (fun s18 => ?_)
      refine r_iinc (q := 38) (v := (i1 + (1 : Int32))) (loc' := [(1, .int (i1 + (1 : Int32))), (0, .ref (gad G 21))]) hK dX4_readPrices_35 rfl 1 rfl rfl (by decide) rfl ?_
      refine r_goto (q := 2) hK dX4_readPrices_38 rfl ?_
      exact sV.sub [1, 0] (by rfl) (ih (i1 + (1 : Int32)) s18)
def fX4_readPrices   (σ : Store) : Option Store := (fX4_readPrices_L2  FU (0 : Int32) σ)
theorem c_X4_readPrices {l0 : Launch} {G : Geo}  (σ : Store) (a : Store) (hf : fX4_readPrices   σ = some a) : sCon l0 wCls G yX4_readPrices cX4_readPrices 2 (none) (rmL 4 132) [.ref (gad G 21)] σ none a := by
  refine sCon.of (by decide) ⟨rfl, rfl⟩ (Nat.le_of_ble_eq_true rfl) RX4 rfl _ hf (fun K hK => ?_)
  show sV wCls G K a σ 0 [(0, .ref (gad G 21))] [] _
  unfold fX4_readPrices
  refine r_iconst (q := 1) (v := 0) hK dX4_readPrices_0 rfl rfl ?_
  refine r_istore_n (q := 2) (loc' := [(1, .int (0 : Int32)), (0, .ref (gad G 21))]) hK dX4_readPrices_1 rfl rfl (by decide) rfl ?_
  exact sV.sub [1, 0] (by rfl) (vX4_readPrices_L2 σ  hK FU (0 : Int32) σ)
def fX4_cheapestBeside_L25  (v1 : Int32) (v2 : Int32) (v6 : Int32) (σ : Store) : Nat → Int32 → Int32 → Int32 → Int32 → Option (Int32 × Store)
  | 0, _, _, _, _ => none
  | n + 1, i3, i4, i5, i7 => (if v6 < i7 then (some (i3, σ)) else (sbd (fX0_haveAll 57 i7 v2 σ) fun r22 => (if r22 = true then (sbd (fX4_priceOf (i7 &&& (v1 ^^^ (-1 : Int32))) σ) fun r24 => (sbd (fJ6_bitCount_0f7a4 (i7 &&& (v1 ^^^ (-1 : Int32))) σ) fun r25 => (if i3 = (-1000000005 : Int32) then (fX4_cheapestBeside_L25 v1 v2 v6 σ n i7 r24 r25 (i7 + (1 : Int32))) else (if r24 < i4 then (fX4_cheapestBeside_L25 v1 v2 v6 σ n i7 r24 r25 (i7 + (1 : Int32))) else (if ¬ r24 = i4 then (fX4_cheapestBeside_L25 v1 v2 v6 σ n i3 i4 i5 (i7 + (1 : Int32))) else (if i5 ≤ r25 then (fX4_cheapestBeside_L25 v1 v2 v6 σ n i3 i4 i5 (i7 + (1 : Int32))) else (fX4_cheapestBeside_L25 v1 v2 v6 σ n i7 r24 r25 (i7 + (1 : Int32))))))))) else (fX4_cheapestBeside_L25 v1 v2 v6 σ n i3 i4 i5 (i7 + (1 : Int32))))))
theorem vX4_cheapestBeside_L25 {G : Geo} {K : KT} {l0 : Launch} (σ : Store) {a : (Int32 × Store)} (v1 : Int32) (v2 : Int32) (v6 : Int32) (hK : sOk wCls G K l0 RX4 cX4_cheapestBeside (rmL 5 153) 10 (some .int) (some (.int a.1)) a.2) : ∀ (n : Nat) (i3 : Int32) (i4 : Int32) (i5 : Int32) (i7 : Int32), sV wCls G K a σ 25 [(0, .ref (gad G 21)), (1, .int v1), (2, .int v2), (3, .int i3), (4, .int i4), (5, .int i5), (6, .int v6), (7, .int i7)] [] (fX4_cheapestBeside_L25 v1 v2 v6 σ n i3 i4 i5 i7) := by
  intro n
  induction n with
  | zero =>
    intro i3 i4 i5 i7
    exact sV.no
  | succ n ih =>
    intro i3 i4 i5 i7
    rw [fX4_cheapestBeside_L25]
    refine r_iload (q := 27) hK dX4_cheapestBeside_25 rfl 7 rfl ?_
    refine r_iload (q := 29) hK dX4_cheapestBeside_27 rfl 6 rfl ?_
    refine r_icmp_gt (t := 115) (q := 32) hK dX4_cheapestBeside_29 rfl rfl (fun c21 => ?_) (fun c21 => ?_)
    · refine r_iload_n (q := 116) hK dX4_cheapestBeside_115 rfl rfl 3 rfl ?_
      exact e_iS hK dX4_cheapestBeside_116
    · refine r_aload_n (q := 33) hK dX4_cheapestBeside_32 rfl rfl 0 rfl ?_
      refine gf_4_0 (q := 36) (rfl : kdC 21 = 4) hK dX4_cheapestBeside_33 rfl tw_168 ?_
      refine r_iload (q := 38) hK dX4_cheapestBeside_36 rfl 7 rfl ?_
      refine r_iload_n (q := 39) hK dX4_cheapestBeside_38 rfl rfl 2 rfl ?_
      refine callV_b (q := 42) (j := 57) (As := [.int i7, .int v2]) (rest := []) (f := (fX0_haveAll 57 i7 v2 σ)) hK dX4_cheapestBeside_39 rfl (fun b hb => c_X0_haveAll 57 (rfl : kdC 57 = 0) i7 v2 σ b hb) ⟨0, _, _, _, kd_lt (rfl : kdC 57 = 0) (by decide), rfl, cC0 (rfl : kdC 57 = 0), rfl⟩ mv_X0_haveAll rfl rfl (Nat.le_of_ble_eq_true rfl) tw_516 mw_X0_haveAll (rmOk (Nat.le_of_ble_eq_true rfl) (Nat.le_of_ble_eq_true rfl)) (fun r22 => ?_)
      refine r_ifb_ne (t := 48) (q := 45) hK dX4_cheapestBeside_42 rfl rfl (fun c23 => ?_) (fun c23 => ?_)
      · refine r_aload_n (q := 49) hK dX4_cheapestBeside_48 rfl rfl 0 rfl ?_
        refine r_iload (q := 51) hK dX4_cheapestBeside_49 rfl 7 rfl ?_
        refine r_iload_n (q := 52) hK dX4_cheapestBeside_51 rfl rfl 1 rfl ?_
        refine r_iconst (q := 53) (v := -1) hK dX4_cheapestBeside_52 rfl rfl ?_
        refine r_ixor (q := 54) hK dX4_cheapestBeside_53 rfl ?_
        refine r_iand (q := 55) hK dX4_cheapestBeside_54 rfl ?_
        refine callV_i (q := 58) (j := 21) (As := [.int (i7 &&& (v1 ^^^ (-1 : Int32)))]) (rest := []) (f := (fX4_priceOf (i7 &&& (v1 ^^^ (-1 : Int32))) σ)) hK dX4_cheapestBeside_55 rfl (fun b hb => c_X4_priceOf (i7 &&& (v1 ^^^ (-1 : Int32))) σ b hb) ⟨4, _, _, _, kd_lt (rfl : kdC 21 = 4) (by decide), rfl, cC4 (rfl : kdC 21 = 4), rfl⟩ mv_X4_priceOf rfl rfl (Nat.le_of_ble_eq_true rfl) tw_517 mw_X4_priceOf (rmOk (Nat.le_of_ble_eq_true rfl) (Nat.le_of_ble_eq_true rfl)) (fun r24 => ?_)
        refine r_istore (q := 60) (loc' := [(8, .int r24), (0, .ref (gad G 21)), (1, .int v1), (2, .int v2), (3, .int i3), (4, .int i4), (5, .int i5), (6, .int v6), (7, .int i7)]) hK dX4_cheapestBeside_58 rfl (by decide) rfl ?_
        refine r_iload (q := 62) hK dX4_cheapestBeside_60 rfl 8 rfl ?_
        refine r_iload_n (q := 63) hK dX4_cheapestBeside_62 rfl rfl 2 rfl ?_
        refine r_iconst (q := 64) (v := -1) hK dX4_cheapestBeside_63 rfl rfl ?_
        refine r_ixor (q := 65) hK dX4_cheapestBeside_64 rfl ?_
        refine r_iand (q := 66) hK dX4_cheapestBeside_65 rfl ?_
        refine callS_i (q := 69) (As := [.int (i7 &&& (v1 ^^^ (-1 : Int32)))]) (rest := []) (f := (fJ6_bitCount_0f7a4 (i7 &&& (v1 ^^^ (-1 : Int32))) σ)) hK dX4_cheapestBeside_66 rfl (fun b hb => c_J6_bitCount_0f7a4 (i7 &&& (v1 ^^^ (-1 : Int32))) σ b hb) ms_J6_bitCount_0f7a4 rfl rfl (Nat.le_of_ble_eq_true rfl) tw_521 mw_J6_bitCount_0f7a4 (rmOk (Nat.le_of_ble_eq_true rfl) (Nat.le_of_ble_eq_true rfl)) (fun r25 => ?_)
        refine r_istore (q := 71) (loc' := [(9, .int r25), (8, .int r24), (0, .ref (gad G 21)), (1, .int v1), (2, .int v2), (3, .int i3), (4, .int i4), (5, .int i5), (6, .int v6), (7, .int i7)]) hK dX4_cheapestBeside_69 rfl (by decide) rfl ?_
        refine r_iload_n (q := 72) hK dX4_cheapestBeside_71 rfl rfl 5 rfl ?_
        refine r_ldc (q := 74) hK dX4_cheapestBeside_72 rfl tw_514 ?_
        refine r_icmp_eq (t := 98) (q := 77) hK dX4_cheapestBeside_74 rfl rfl (fun c26 => ?_) (fun c26 => ?_)
        · refine r_iload (q := 100) hK dX4_cheapestBeside_98 rfl 9 rfl ?_
          refine r_istore_n (q := 101) (loc' := [(3, .int i7), (9, .int r25), (8, .int r24), (0, .ref (gad G 21)), (1, .int v1), (2, .int v2), (4, .int i4), (5, .int i5), (6, .int v6), (7, .int i7)]) hK dX4_cheapestBeside_100 rfl rfl (by decide) rfl ?_
          refine r_iload (q := 103) hK dX4_cheapestBeside_101 rfl 2 rfl ?_
          refine r_istore (q := 105) (loc' := [(4, .int r24), (3, .int i7), (9, .int r25), (8, .int r24), (0, .ref (gad G 21)), (1, .int v1), (2, .int v2), (5, .int i5), (6, .int v6), (7, .int i7)]) hK dX4_cheapestBeside_103 rfl (by decide) rfl ?_
          refine r_iload (q := 107) hK dX4_cheapestBeside_105 rfl 2 rfl ?_
          refine r_istore (q := 109) (loc' := [(5, .int r25), (4, .int r24), (3, .int i7), (9, .int r25), (8, .int r24), (0, .ref (gad G 21)), (1, .int v1), (2, .int v2), (6, .int v6), (7, .int i7)]) hK dX4_cheapestBeside_107 rfl (by decide) rfl ?_
          refine r_iinc (q := 112) (v := (i7 + (1 : Int32))) (loc' := [(7, .int (i7 + (1 : Int32))), (5, .int r25), (4, .int r24), (3, .int i7), (9, .int r25), (8, .int r24), (0, .ref (gad G 21)), (1, .int v1), (2, .int v2), (6, .int v6)]) hK dX4_cheapestBeside_109 rfl 9 rfl rfl (by decide) rfl ?_
          refine r_goto (q := 25) hK dX4_cheapestBeside_112 rfl ?_
          exact sV.sub [6, 7, 8, 3, 2, 1, 9, 0] (by rfl) (ih i7 r24 r25 (i7 + (1 : Int32)))
        · refine r_iload (q := 79) hK dX4_cheapestBeside_77 rfl 1 rfl ?_
          refine r_iload (q := 81) hK dX4_cheapestBeside_79 rfl 6 rfl ?_
          refine r_icmp_lt (t := 98) (q := 84) hK dX4_cheapestBeside_81 rfl rfl (fun c27 => ?_) (fun c27 => ?_)
          · refine r_iload (q := 100) hK dX4_cheapestBeside_98 rfl 9 rfl ?_
            refine r_istore_n (q := 101) (loc' := [(3, .int i7), (9, .int r25), (8, .int r24), (0, .ref (gad G 21)), (1, .int v1), (2, .int v2), (4, .int i4), (5, .int i5), (6, .int v6), (7, .int i7)]) hK dX4_cheapestBeside_100 rfl rfl (by decide) rfl ?_
            refine r_iload (q := 103) hK dX4_cheapestBeside_101 rfl 2 rfl ?_
            refine r_istore (q := 105) (loc' := [(4, .int r24), (3, .int i7), (9, .int r25), (8, .int r24), (0, .ref (gad G 21)), (1, .int v1), (2, .int v2), (5, .int i5), (6, .int v6), (7, .int i7)]) hK dX4_cheapestBeside_103 rfl (by decide) rfl ?_
            refine r_iload (q := 107) hK dX4_cheapestBeside_105 rfl 2 rfl ?_
            refine r_istore (q := 109) (loc' := [(5, .int r25), (4, .int r24), (3, .int i7), (9, .int r25), (8, .int r24), (0, .ref (gad G 21)), (1, .int v1), (2, .int v2), (6, .int v6), (7, .int i7)]) hK dX4_cheapestBeside_107 rfl (by decide) rfl ?_
            refine r_iinc (q := 112) (v := (i7 + (1 : Int32))) (loc' := [(7, .int (i7 + (1 : Int32))), (5, .int r25), (4, .int r24), (3, .int i7), (9, .int r25), (8, .int r24), (0, .ref (gad G 21)), (1, .int v1), (2, .int v2), (6, .int v6)]) hK dX4_cheapestBeside_109 rfl 9 rfl rfl (by decide) rfl ?_
            refine r_goto (q := 25) hK dX4_cheapestBeside_112 rfl ?_
            exact sV.sub [6, 7, 8, 3, 2, 1, 9, 0] (by rfl) (ih i7 r24 r25 (i7 + (1 : Int32)))
          · refine r_iload (q := 86) hK dX4_cheapestBeside_84 rfl 1 rfl ?_
            refine r_iload (q := 88) hK dX4_cheapestBeside_86 rfl 6 rfl ?_
            refine r_icmp_ne (t := 109) (q := 91) hK dX4_cheapestBeside_88 rfl rfl (fun c28 => ?_) (fun c28 => ?_)
            · refine r_iinc (q := 112) (v := (i7 + (1 : Int32))) (loc' := [(7, .int (i7 + (1 : Int32))), (9, .int r25), (8, .int r24), (0, .ref (gad G 21)), (1, .int v1), (2, .int v2), (3, .int i3), (4, .int i4), (5, .int i5), (6, .int v6)]) hK dX4_cheapestBeside_109 rfl 9 rfl rfl (by decide) rfl ?_
              refine r_goto (q := 25) hK dX4_cheapestBeside_112 rfl ?_
              exact sV.sub [3, 4, 5, 6, 7, 8, 9, 0] (by rfl) (ih i3 i4 i5 (i7 + (1 : Int32)))
            · refine r_iload (q := 93) hK dX4_cheapestBeside_91 rfl 0 rfl ?_
              refine r_iload (q := 95) hK dX4_cheapestBeside_93 rfl 7 rfl ?_
              refine r_icmp_ge (t := 109) (q := 98) hK dX4_cheapestBeside_95 rfl rfl (fun c29 => ?_) (fun c29 => ?_)
              · refine r_iinc (q := 112) (v := (i7 + (1 : Int32))) (loc' := [(7, .int (i7 + (1 : Int32))), (9, .int r25), (8, .int r24), (0, .ref (gad G 21)), (1, .int v1), (2, .int v2), (3, .int i3), (4, .int i4), (5, .int i5), (6, .int v6)]) hK dX4_cheapestBeside_109 rfl 9 rfl rfl (by decide) rfl ?_
                refine r_goto (q := 25) hK dX4_cheapestBeside_112 rfl ?_
                exact sV.sub [3, 4, 5, 6, 7, 8, 9, 0] (by rfl) (ih i3 i4 i5 (i7 + (1 : Int32)))
              · refine r_iload (q := 100) hK dX4_cheapestBeside_98 rfl 9 rfl ?_
                refine r_istore_n (q := 101) (loc' := [(3, .int i7), (9, .int r25), (8, .int r24), (0, .ref (gad G 21)), (1, .int v1), (2, .int v2), (4, .int i4), (5, .int i5), (6, .int v6), (7, .int i7)]) hK dX4_cheapestBeside_100 rfl rfl (by decide) rfl ?_
                refine r_iload (q := 103) hK dX4_cheapestBeside_101 rfl 2 rfl ?_
                refine r_istore (q := 105) (loc' := [(4, .int r24), (3, .int i7), (9, .int r25), (8, .int r24), (0, .ref (gad G 21)), (1, .int v1), (2, .int v2), (5, .int i5), (6, .int v6), (7, .int i7)]) hK dX4_cheapestBeside_103 rfl (by decide) rfl ?_
                refine r_iload (q := 107) hK dX4_cheapestBeside_105 rfl 2 rfl ?_
                refine r_istore (q := 109) (loc' := [(5, .int r25), (4, .int r24), (3, .int i7), (9, .int r25), (8, .int r24), (0, .ref (gad G 21)), (1, .int v1), (2, .int v2), (6, .int v6), (7, .int i7)]) hK dX4_cheapestBeside_107 rfl (by decide) rfl ?_
                refine r_iinc (q := 112) (v := (i7 + (1 : Int32))) (loc' := [(7, .int (i7 + (1 : Int32))), (5, .int r25), (4, .int r24), (3, .int i7), (9, .int r25), (8, .int r24), (0, .ref (gad G 21)), (1, .int v1), (2, .int v2), (6, .int v6)]) hK dX4_cheapestBeside_109 rfl 9 rfl rfl (by decide) rfl ?_
                refine r_goto (q := 25) hK dX4_cheapestBeside_112 rfl ?_
                exact sV.sub [6, 7, 8, 3, 2, 1, 9, 0] (by rfl) (ih i7 r24 r25 (i7 + (1 : Int32)))
      · refine r_goto (q := 109) hK dX4_cheapestBeside_45 rfl ?_
        refine r_iinc (q := 112) (v := (i7 + (1 : Int32))) (loc' := [(7, .int (i7 + (1 : Int32))), (0, .ref (gad G 21)), (1, .int v1), (2, .int v2), (3, .int i3), (4, .int i4), (5, .int i5), (6, .int v6)]) hK dX4_cheapestBeside_109 rfl 7 rfl rfl (by decide) rfl ?_
        refine r_goto (q := 25) hK dX4_cheapestBeside_112 rfl ?_
        exact sV.sub [1, 2, 3, 4, 5, 6, 7, 0] (by rfl) (ih i3 i4 i5 (i7 + (1 : Int32)))
def fX4_cheapestBeside  (a1 : Int32) (a2 : Int32) (σ : Store) : Option (Int32 × Store) := (sbd (fX4_readPrices σ) fun s1 => (sbd (fX0_allWords 57 s1) fun r2 => (fX4_cheapestBeside_L25 a1 a2 r2 s1 FU (-1000000005 : Int32) (0 : Int32) (0 : Int32) (0 : Int32))))
theorem c_X4_cheapestBeside {l0 : Launch} {G : Geo} (a1 : Int32) (a2 : Int32) (σ : Store) (a : (Int32 × Store)) (hf : fX4_cheapestBeside  a1 a2 σ = some a) : sCon l0 wCls G yX4_cheapestBeside cX4_cheapestBeside 10 (some .int) (rmL 5 153) [.ref (gad G 21), .int a1, .int a2] σ (some (.int a.1)) a.2 := by
  refine sCon.of (by decide) ⟨rfl, rfl⟩ (Nat.le_of_ble_eq_true rfl) RX4 rfl _ hf (fun K hK => ?_)
  show sV wCls G K a σ 0 [(0, .ref (gad G 21)), (1, .int a1), (2, .int a2)] [] _
  unfold fX4_cheapestBeside
  refine r_aload_n (q := 1) hK dX4_cheapestBeside_0 rfl rfl 0 rfl ?_
  refine callV_vS (q := 4) (j := 21) (As := []) (rest := []) (f := (fX4_readPrices σ)) hK dX4_cheapestBeside_1 rfl (fun b hb => c_X4_readPrices σ b hb) ⟨4, _, _, _, kd_lt (rfl : kdC 21 = 4) (by decide), rfl, cC4 (rfl : kdC 21 = 4), rfl⟩ mv_X4_readPrices rfl rfl (Nat.le_of_ble_eq_true rfl) tw_509 mw_X4_readPrices (rmOk (Nat.le_of_ble_eq_true rfl) (Nat.le_of_ble_eq_true rfl)) (fun s1 => ?_)
  refine r_ldc (q := 6) hK dX4_cheapestBeside_4 rfl tw_514 ?_
  refine r_istore_n (q := 7) (loc' := [(3, .int (-1000000005 : Int32)), (0, .ref (gad G 21)), (1, .int a1), (2, .int a2)]) hK dX4_cheapestBeside_6 rfl rfl (by decide) rfl ?_
  refine r_iconst (q := 8) (v := 0) hK dX4_cheapestBeside_7 rfl rfl ?_
  refine r_istore (q := 10) (loc' := [(4, .int (0 : Int32)), (3, .int (-1000000005 : Int32)), (0, .ref (gad G 21)), (1, .int a1), (2, .int a2)]) hK dX4_cheapestBeside_8 rfl (by decide) rfl ?_
  refine r_iconst (q := 11) (v := 0) hK dX4_cheapestBeside_10 rfl rfl ?_
  refine r_istore (q := 13) (loc' := [(5, .int (0 : Int32)), (4, .int (0 : Int32)), (3, .int (-1000000005 : Int32)), (0, .ref (gad G 21)), (1, .int a1), (2, .int a2)]) hK dX4_cheapestBeside_11 rfl (by decide) rfl ?_
  refine r_aload_n (q := 14) hK dX4_cheapestBeside_13 rfl rfl 3 rfl ?_
  refine gf_4_0 (q := 17) (rfl : kdC 21 = 4) hK dX4_cheapestBeside_14 rfl tw_168 ?_
  refine callV_i (q := 20) (j := 57) (As := []) (rest := []) (f := (fX0_allWords 57 s1)) hK dX4_cheapestBeside_17 rfl (fun b hb => c_X0_allWords 57 (rfl : kdC 57 = 0) s1 b hb) ⟨0, _, _, _, kd_lt (rfl : kdC 57 = 0) (by decide), rfl, cC0 (rfl : kdC 57 = 0), rfl⟩ mv_X0_allWords rfl rfl (Nat.le_of_ble_eq_true rfl) tw_515 mw_X0_allWords (rmOk (Nat.le_of_ble_eq_true rfl) (Nat.le_of_ble_eq_true rfl)) (fun r2 => ?_)
  refine r_istore (q := 22) (loc' := [(6, .int r2), (5, .int (0 : Int32)), (4, .int (0 : Int32)), (3, .int (-1000000005 : Int32)), (0, .ref (gad G 21)), (1, .int a1), (2, .int a2)]) hK dX4_cheapestBeside_20 rfl (by decide) rfl ?_
  refine r_iconst (q := 23) (v := 0) hK dX4_cheapestBeside_22 rfl rfl ?_
  refine r_istore (q := 25) (loc' := [(7, .int (0 : Int32)), (6, .int r2), (5, .int (0 : Int32)), (4, .int (0 : Int32)), (3, .int (-1000000005 : Int32)), (0, .ref (gad G 21)), (1, .int a1), (2, .int a2)]) hK dX4_cheapestBeside_23 rfl (by decide) rfl ?_
  exact sV.sub [5, 6, 7, 4, 3, 2, 1, 0] (by rfl) (vX4_cheapestBeside_L25 s1 a1 a2 r2 hK FU (-1000000005 : Int32) (0 : Int32) (0 : Int32) (0 : Int32))
def fX8_cheapest  (a1 : Int32) (a2 : Int32) (a3 : Int32) (σ : Store) : Option (Int32 × Store) := (sbd (fX0_hasTraveller 57 a1 σ) fun r1 => (if r1 = true then (sbd (fX8_isSenses a2 σ) fun r3 => (if r3 = true then (sbd (fX8_within a3 (0 : Int32) (1 : Int32) σ) fun r5 => (if r5 = true then (six 6 a1 (slt (σ (trv 57 a1) 0) fun x8 => (sbd2 (fX4_cheapestBeside x8 a2 σ) fun r9 s10 => (if ¬ r9 = (-1000000005 : Int32) then (if ¬ a3 = 0 then (some (r9, s10)) else (sbd (fX4_priceOf (r9 &&& (x8 ^^^ (-1 : Int32))) s10) fun r13 => (some (r13, s10)))) else (some ((-1000000005 : Int32), s10)))))) else (some ((-1000000001 : Int32), σ)))) else (some ((-1000000001 : Int32), σ)))) else (some ((-1000000001 : Int32), σ))))
theorem c_X8_cheapest {l0 : Launch} {G : Geo} (a1 : Int32) (a2 : Int32) (a3 : Int32) (σ : Store) (a : (Int32 × Store)) (hf : fX8_cheapest  a1 a2 a3 σ = some a) : sCon l0 wCls G yX8_cheapest cX8_cheapest 6 (some .int) (rmL 6 182) [.ref (gad G 0), .int a1, .int a2, .int a3] σ (some (.int a.1)) a.2 := by
  refine sCon.of (by decide) ⟨rfl, rfl⟩ (Nat.le_of_ble_eq_true rfl) RX8 rfl _ hf (fun K hK => ?_)
  show sV wCls G K a σ 0 [(0, .ref (gad G 0)), (1, .int a1), (2, .int a2), (3, .int a3)] [] _
  unfold fX8_cheapest
  refine r_aload_n (q := 1) hK dX8_cheapest_0 rfl rfl 0 rfl ?_
  refine gf_8_1 (q := 4) (rfl : kdC 0 = 8) hK dX8_cheapest_1 rfl tw_268 ?_
  refine r_iload_n (q := 5) hK dX8_cheapest_4 rfl rfl 1 rfl ?_
  refine callV_b (q := 8) (j := 57) (As := [.int a1]) (rest := []) (f := (fX0_hasTraveller 57 a1 σ)) hK dX8_cheapest_5 rfl (fun b hb => c_X0_hasTraveller 57 (rfl : kdC 57 = 0) a1 σ b hb) ⟨0, _, _, _, kd_lt (rfl : kdC 57 = 0) (by decide), rfl, cC0 (rfl : kdC 57 = 0), rfl⟩ mv_X0_hasTraveller rfl rfl (Nat.le_of_ble_eq_true rfl) tw_406 mw_X0_hasTraveller (rmOk (Nat.le_of_ble_eq_true rfl) (Nat.le_of_ble_eq_true rfl)) (fun r1 => ?_)
  refine r_ifb_eq (t := 27) (q := 11) hK dX8_cheapest_8 rfl rfl (fun c2 => ?_) (fun c2 => ?_)
  · refine r_iload_n (q := 12) hK dX8_cheapest_11 rfl rfl 2 rfl ?_
    refine callS_b (q := 15) (As := [.int a2]) (rest := []) (f := (fX8_isSenses a2 σ)) hK dX8_cheapest_12 rfl (fun b hb => c_X8_isSenses a2 σ b hb) ms_X8_isSenses rfl rfl (Nat.le_of_ble_eq_true rfl) tw_490 mw_X8_isSenses (rmOk (Nat.le_of_ble_eq_true rfl) (Nat.le_of_ble_eq_true rfl)) (fun r3 => ?_)
    refine r_ifb_eq (t := 27) (q := 18) hK dX8_cheapest_15 rfl rfl (fun c4 => ?_) (fun c4 => ?_)
    · refine r_iload_n (q := 19) hK dX8_cheapest_18 rfl rfl 3 rfl ?_
      refine r_iconst (q := 20) (v := 0) hK dX8_cheapest_19 rfl rfl ?_
      refine r_iconst (q := 21) (v := 1) hK dX8_cheapest_20 rfl rfl ?_
      refine callS_b (q := 24) (As := [.int a3, .int (0 : Int32), .int (1 : Int32)]) (rest := []) (f := (fX8_within a3 (0 : Int32) (1 : Int32) σ)) hK dX8_cheapest_21 rfl (fun b hb => c_X8_within a3 (0 : Int32) (1 : Int32) σ b hb) ms_X8_within rfl rfl (Nat.le_of_ble_eq_true rfl) tw_314 mw_X8_within (rmOk (Nat.le_of_ble_eq_true rfl) (Nat.le_of_ble_eq_true rfl)) (fun r5 => ?_)
      refine r_ifb_ne (t := 30) (q := 27) hK dX8_cheapest_24 rfl rfl (fun c6 => ?_) (fun c6 => ?_)
      · refine r_aload_n (q := 31) hK dX8_cheapest_30 rfl rfl 0 rfl ?_
        refine gf_8_1 (q := 34) (rfl : kdC 0 = 8) hK dX8_cheapest_31 rfl tw_268 ?_
        refine gf_0_2 (q := 37) (rfl : kdC 57 = 0) hK dX8_cheapest_34 rfl tw_121 ?_
        refine r_iload_n (q := 38) hK dX8_cheapest_37 rfl rfl 1 rfl ?_
        refine r_aald (q := 39) hK dX8_cheapest_38 rfl (qC12 (kd_bt (rfl : kdC 57 = 0))) (ty := .object RX6) rfl rfl (r := gad G (trv 57 a1)) rfl (fun h7 => ?_)
        refine gf_6_0 (q := 42) (kd_trv (rfl : kdC 57 = 0) h7) hK dX8_cheapest_39 rfl tw_107 ?_
        refine sV.ltI (fun x8 => ?_)
        refine r_istore (q := 44) (loc' := [(4, .int x8), (0, .ref (gad G 0)), (1, .int a1), (2, .int a2), (3, .int a3)]) hK dX8_cheapest_42 rfl (by decide) rfl ?_
        refine r_aload_n (q := 45) hK dX8_cheapest_44 rfl rfl 1 rfl ?_
        refine gf_8_4 (q := 48) (rfl : kdC 0 = 8) hK dX8_cheapest_45 rfl tw_271 ?_
        refine r_iload (q := 50) hK dX8_cheapest_48 rfl 0 rfl ?_
        refine r_iload_n (q := 51) hK dX8_cheapest_50 rfl rfl 3 rfl ?_
        refine callV_iS (q := 54) (j := 21) (As := [.int x8, .int a2]) (rest := []) (f := (fX4_cheapestBeside x8 a2 σ)) hK dX8_cheapest_51 rfl (fun b hb => c_X4_cheapestBeside x8 a2 σ b hb) ⟨4, _, _, _, kd_lt (rfl : kdC 21 = 4) (by decide), rfl, cC4 (rfl : kdC 21 = 4), rfl⟩ mv_X4_cheapestBeside rfl rfl (Nat.le_of_ble_eq_true rfl) tw_505 mw_X4_cheapestBeside (rmOk (Nat.le_of_ble_eq_true rfl) (Nat.le_of_ble_eq_true rfl)) (fun r9 s10 => ?_)
        refine r_istore (q := 56) (loc' := [(5, .int r9), (4, .int x8), (0, .ref (gad G 0)), (1, .int a1), (2, .int a2), (3, .int a3)]) hK dX8_cheapest_54 rfl (by decide) rfl ?_
        refine r_iload (q := 58) hK dX8_cheapest_56 rfl 0 rfl ?_
        refine r_ldc (q := 60) hK dX8_cheapest_58 rfl tw_522 ?_
        refine r_icmp_ne (t := 66) (q := 63) hK dX8_cheapest_60 rfl rfl (fun c11 => ?_) (fun c11 => ?_)
        · refine r_iload_n (q := 67) hK dX8_cheapest_66 rfl rfl 5 rfl ?_
          refine r_if_ne (t := 87) (q := 70) hK dX8_cheapest_67 rfl rfl (fun c12 => ?_) (fun c12 => ?_)
          · refine r_iload (q := 89) hK dX8_cheapest_87 rfl 0 rfl ?_
            exact e_iS hK dX8_cheapest_89
          · refine r_aload_n (q := 71) hK dX8_cheapest_70 rfl rfl 2 rfl ?_
            refine gf_8_4 (q := 74) (rfl : kdC 0 = 8) hK dX8_cheapest_71 rfl tw_271 ?_
            refine r_iload (q := 76) hK dX8_cheapest_74 rfl 0 rfl ?_
            refine r_iload (q := 78) hK dX8_cheapest_76 rfl 1 rfl ?_
            refine r_iconst (q := 79) (v := -1) hK dX8_cheapest_78 rfl rfl ?_
            refine r_ixor (q := 80) hK dX8_cheapest_79 rfl ?_
            refine r_iand (q := 81) hK dX8_cheapest_80 rfl ?_
            refine callV_i (q := 84) (j := 21) (As := [.int (r9 &&& (x8 ^^^ (-1 : Int32)))]) (rest := []) (f := (fX4_priceOf (r9 &&& (x8 ^^^ (-1 : Int32))) s10)) hK dX8_cheapest_81 rfl (fun b hb => c_X4_priceOf (r9 &&& (x8 ^^^ (-1 : Int32))) s10 b hb) ⟨4, _, _, _, kd_lt (rfl : kdC 21 = 4) (by decide), rfl, cC4 (rfl : kdC 21 = 4), rfl⟩ mv_X4_priceOf rfl rfl (Nat.le_of_ble_eq_true rfl) tw_523 mw_X4_priceOf (rmOk (Nat.le_of_ble_eq_true rfl) (Nat.le_of_ble_eq_true rfl)) (fun r13 => ?_)
            refine r_goto (q := 89) hK dX8_cheapest_84 rfl ?_
            exact e_iS hK dX8_cheapest_89
        · refine r_ldc (q := 65) hK dX8_cheapest_63 rfl tw_522 ?_
          exact e_iS hK dX8_cheapest_65
      · refine r_ldc (q := 29) hK dX8_cheapest_27 rfl tw_317 ?_
        exact e_iS hK dX8_cheapest_29
    · refine r_ldc (q := 29) hK dX8_cheapest_27 rfl tw_317 ?_
      exact e_iS hK dX8_cheapest_29
  · refine r_ldc (q := 29) hK dX8_cheapest_27 rfl tw_317 ?_
    exact e_iS hK dX8_cheapest_29
def fX4_fewestOf_L10  (v1 : Int32) (v2 : Int32) (v3 : Int32) (σ : Store) : Nat → Int32 → Int32 → Int32 → Option Int32
  | 0, _, _, _ => none
  | n + 1, i4, i5, i6 => (if v1 < i6 then (some i4) else (sbd (fJ6_bitCount_0f7a4 i6 σ) fun r22 => (sjn (fun k42 : Bool → Option Int32 => (if i4 = (-1000000005 : Int32) then (k42 true) else (if i5 ≤ r22 then (k42 false) else (k42 true)))) (fun (z0_42 : Bool) => (if ¬ (i6 &&& (v1 ^^^ (-1 : Int32))) = 0 then (fX4_fewestOf_L10 v1 v2 v3 σ n i4 i5 (i6 + (1 : Int32))) else (if z0_42 = true then (sbd (fX0_haveAll 57 (i6 ||| v2) v3 σ) fun r27 => (if r27 = true then (fX4_fewestOf_L10 v1 v2 v3 σ n i6 r22 (i6 + (1 : Int32))) else (fX4_fewestOf_L10 v1 v2 v3 σ n i4 i5 (i6 + (1 : Int32))))) else (fX4_fewestOf_L10 v1 v2 v3 σ n i4 i5 (i6 + (1 : Int32)))))))))
theorem vX4_fewestOf_L10 {G : Geo} {K : KT} {l0 : Launch} (σ : Store) {a : Int32} (v1 : Int32) (v2 : Int32) (v3 : Int32) (hK : sOk wCls G K l0 RX4 cX4_fewestOf (rmL 3 105) 9 (some .int) (some (.int a)) σ) : ∀ (n : Nat) (i4 : Int32) (i5 : Int32) (i6 : Int32), sV wCls G K a σ 10 [(0, .ref (gad G 21)), (1, .int v1), (2, .int v2), (3, .int v3), (4, .int i4), (5, .int i5), (6, .int i6)] [] (fX4_fewestOf_L10 v1 v2 v3 σ n i4 i5 i6) := by
  intro n
  induction n with
  | zero =>
    intro i4 i5 i6
    exact sV.no
  | succ n ih =>
    intro i4 i5 i6
    rw [fX4_fewestOf_L10]
    refine r_iload (q := 12) hK dX4_fewestOf_10 rfl 6 rfl ?_
    refine r_iload_n (q := 13) hK dX4_fewestOf_12 rfl rfl 1 rfl ?_
    refine r_icmp_gt (t := 87) (q := 16) hK dX4_fewestOf_13 rfl rfl (fun c21 => ?_) (fun c21 => ?_)
    · refine r_iload (q := 89) hK dX4_fewestOf_87 rfl 4 rfl ?_
      exact e_i hK dX4_fewestOf_89
    · refine r_iload (q := 18) hK dX4_fewestOf_16 rfl 6 rfl ?_
      refine callS_i (q := 21) (As := [.int i6]) (rest := []) (f := (fJ6_bitCount_0f7a4 i6 σ)) hK dX4_fewestOf_18 rfl (fun b hb => c_J6_bitCount_0f7a4 i6 σ b hb) ms_J6_bitCount_0f7a4 rfl rfl (Nat.le_of_ble_eq_true rfl) tw_521 mw_J6_bitCount_0f7a4 (rmOk (Nat.le_of_ble_eq_true rfl) (Nat.le_of_ble_eq_true rfl)) (fun r22 => ?_)
      refine r_istore (q := 23) (loc' := [(7, .int r22), (0, .ref (gad G 21)), (1, .int v1), (2, .int v2), (3, .int v3), (4, .int i4), (5, .int i5), (6, .int i6)]) hK dX4_fewestOf_21 rfl (by decide) rfl ?_
      refine r_iload (q := 25) hK dX4_fewestOf_23 rfl 5 rfl ?_
      refine r_ldc (q := 27) hK dX4_fewestOf_25 rfl tw_514 ?_
      refine sV.jn (fun k : Bool → Option Int32 => ∀ (z0_42 : Bool), sV wCls G K a σ 42 [(0, .ref (gad G 21)), (1, .int v1), (2, .int v2), (3, .int v3), (4, .int i4), (5, .int i5), (6, .int i6), (7, .int r22)] [.int (b2i z0_42)] (k z0_42)) (fun z0_42 => ?_) (fun k42 hk42 => ?_)
      · refine r_istore (q := 44) (loc' := [(8, .int (b2i z0_42)), (0, .ref (gad G 21)), (1, .int v1), (2, .int v2), (3, .int v3), (4, .int i4), (5, .int i5), (6, .int i6), (7, .int r22)]) hK dX4_fewestOf_42 rfl (by decide) rfl ?_
        refine r_iload (q := 46) hK dX4_fewestOf_44 rfl 7 rfl ?_
        refine r_iload_n (q := 47) hK dX4_fewestOf_46 rfl rfl 2 rfl ?_
        refine r_iconst (q := 48) (v := -1) hK dX4_fewestOf_47 rfl rfl ?_
        refine r_ixor (q := 49) hK dX4_fewestOf_48 rfl ?_
        refine r_iand (q := 50) hK dX4_fewestOf_49 rfl ?_
        refine r_if_ne (t := 81) (q := 53) hK dX4_fewestOf_50 rfl rfl (fun c25 => ?_) (fun c25 => ?_)
        · refine r_iinc (q := 84) (v := (i6 + (1 : Int32))) (loc' := [(6, .int (i6 + (1 : Int32))), (8, .int (b2i z0_42)), (0, .ref (gad G 21)), (1, .int v1), (2, .int v2), (3, .int v3), (4, .int i4), (5, .int i5), (7, .int r22)]) hK dX4_fewestOf_81 rfl 7 rfl rfl (by decide) rfl ?_
          refine r_goto (q := 10) hK dX4_fewestOf_84 rfl ?_
          exact sV.sub [2, 3, 4, 5, 6, 7, 0] (by rfl) (ih i4 i5 (i6 + (1 : Int32)))
        · refine r_iload (q := 55) hK dX4_fewestOf_53 rfl 0 rfl ?_
          refine r_ifb_eq (t := 81) (q := 58) hK dX4_fewestOf_55 rfl rfl (fun c26 => ?_) (fun c26 => ?_)
          · refine r_aload_n (q := 59) hK dX4_fewestOf_58 rfl rfl 1 rfl ?_
            refine gf_4_0 (q := 62) (rfl : kdC 21 = 4) hK dX4_fewestOf_59 rfl tw_168 ?_
            refine r_iload (q := 64) hK dX4_fewestOf_62 rfl 7 rfl ?_
            refine r_iload_n (q := 65) hK dX4_fewestOf_64 rfl rfl 3 rfl ?_
            refine r_ior (q := 66) hK dX4_fewestOf_65 rfl ?_
            refine r_iload_n (q := 67) hK dX4_fewestOf_66 rfl rfl 4 rfl ?_
            refine callV_b (q := 70) (j := 57) (As := [.int (i6 ||| v2), .int v3]) (rest := []) (f := (fX0_haveAll 57 (i6 ||| v2) v3 σ)) hK dX4_fewestOf_67 rfl (fun b hb => c_X0_haveAll 57 (rfl : kdC 57 = 0) (i6 ||| v2) v3 σ b hb) ⟨0, _, _, _, kd_lt (rfl : kdC 57 = 0) (by decide), rfl, cC0 (rfl : kdC 57 = 0), rfl⟩ mv_X0_haveAll rfl rfl (Nat.le_of_ble_eq_true rfl) tw_516 mw_X0_haveAll (rmOk (Nat.le_of_ble_eq_true rfl) (Nat.le_of_ble_eq_true rfl)) (fun r27 => ?_)
            refine r_ifb_eq (t := 81) (q := 73) hK dX4_fewestOf_70 rfl rfl (fun c28 => ?_) (fun c28 => ?_)
            · refine r_iload (q := 75) hK dX4_fewestOf_73 rfl 7 rfl ?_
              refine r_istore (q := 77) (loc' := [(4, .int i6), (8, .int (b2i z0_42)), (0, .ref (gad G 21)), (1, .int v1), (2, .int v2), (3, .int v3), (5, .int i5), (6, .int i6), (7, .int r22)]) hK dX4_fewestOf_75 rfl (by decide) rfl ?_
              refine r_iload (q := 79) hK dX4_fewestOf_77 rfl 8 rfl ?_
              refine r_istore (q := 81) (loc' := [(5, .int r22), (4, .int i6), (8, .int (b2i z0_42)), (0, .ref (gad G 21)), (1, .int v1), (2, .int v2), (3, .int v3), (6, .int i6), (7, .int r22)]) hK dX4_fewestOf_79 rfl (by decide) rfl ?_
              refine r_iinc (q := 84) (v := (i6 + (1 : Int32))) (loc' := [(6, .int (i6 + (1 : Int32))), (5, .int r22), (4, .int i6), (8, .int (b2i z0_42)), (0, .ref (gad G 21)), (1, .int v1), (2, .int v2), (3, .int v3), (7, .int r22)]) hK dX4_fewestOf_81 rfl 7 rfl rfl (by decide) rfl ?_
              refine r_goto (q := 10) hK dX4_fewestOf_84 rfl ?_
              exact sV.sub [4, 5, 6, 7, 2, 1, 0] (by rfl) (ih i6 r22 (i6 + (1 : Int32)))
            · refine r_iinc (q := 84) (v := (i6 + (1 : Int32))) (loc' := [(6, .int (i6 + (1 : Int32))), (8, .int (b2i z0_42)), (0, .ref (gad G 21)), (1, .int v1), (2, .int v2), (3, .int v3), (4, .int i4), (5, .int i5), (7, .int r22)]) hK dX4_fewestOf_81 rfl 7 rfl rfl (by decide) rfl ?_
              refine r_goto (q := 10) hK dX4_fewestOf_84 rfl ?_
              exact sV.sub [2, 3, 4, 5, 6, 7, 0] (by rfl) (ih i4 i5 (i6 + (1 : Int32)))
          · refine r_iinc (q := 84) (v := (i6 + (1 : Int32))) (loc' := [(6, .int (i6 + (1 : Int32))), (8, .int (b2i z0_42)), (0, .ref (gad G 21)), (1, .int v1), (2, .int v2), (3, .int v3), (4, .int i4), (5, .int i5), (7, .int r22)]) hK dX4_fewestOf_81 rfl 7 rfl rfl (by decide) rfl ?_
            refine r_goto (q := 10) hK dX4_fewestOf_84 rfl ?_
            exact sV.sub [2, 3, 4, 5, 6, 7, 0] (by rfl) (ih i4 i5 (i6 + (1 : Int32)))
      · refine r_icmp_eq (t := 37) (q := 30) hK dX4_fewestOf_27 rfl rfl (fun c29 => ?_) (fun c29 => ?_)
        · refine r_iconst (q := 38) (v := 1) hK dX4_fewestOf_37 rfl rfl ?_
          refine r_goto (q := 42) hK dX4_fewestOf_38 rfl ?_
          exact sV.sub [1, 2, 3, 4, 5, 6, 7, 0] (by rfl) (hk42 true)
        · refine r_iload (q := 32) hK dX4_fewestOf_30 rfl 0 rfl ?_
          refine r_iload (q := 34) hK dX4_fewestOf_32 rfl 6 rfl ?_
          refine r_icmp_ge (t := 41) (q := 37) hK dX4_fewestOf_34 rfl rfl (fun c30 => ?_) (fun c30 => ?_)
          · refine r_iconst (q := 42) (v := 0) hK dX4_fewestOf_41 rfl rfl ?_
            exact sV.sub [1, 2, 3, 4, 5, 6, 7, 0] (by rfl) (hk42 false)
          · refine r_iconst (q := 38) (v := 1) hK dX4_fewestOf_37 rfl rfl ?_
            refine r_goto (q := 42) hK dX4_fewestOf_38 rfl ?_
            exact sV.sub [1, 2, 3, 4, 5, 6, 7, 0] (by rfl) (hk42 true)
def fX4_fewestOf  (a1 : Int32) (a2 : Int32) (a3 : Int32) (σ : Store) : Option Int32 := (fX4_fewestOf_L10 a1 a2 a3 σ FU (-1000000005 : Int32) (0 : Int32) (0 : Int32))
theorem c_X4_fewestOf {l0 : Launch} {G : Geo} (a1 : Int32) (a2 : Int32) (a3 : Int32) (σ : Store) (a : Int32) (hf : fX4_fewestOf  a1 a2 a3 σ = some a) : sCon l0 wCls G yX4_fewestOf cX4_fewestOf 9 (some .int) (rmL 3 105) [.ref (gad G 21), .int a1, .int a2, .int a3] σ (some (.int a)) σ := by
  refine sCon.of (by decide) ⟨rfl, rfl⟩ (Nat.le_of_ble_eq_true rfl) RX4 rfl _ hf (fun K hK => ?_)
  show sV wCls G K a σ 0 [(0, .ref (gad G 21)), (1, .int a1), (2, .int a2), (3, .int a3)] [] _
  unfold fX4_fewestOf
  refine r_ldc (q := 2) hK dX4_fewestOf_0 rfl tw_514 ?_
  refine r_istore (q := 4) (loc' := [(4, .int (-1000000005 : Int32)), (0, .ref (gad G 21)), (1, .int a1), (2, .int a2), (3, .int a3)]) hK dX4_fewestOf_2 rfl (by decide) rfl ?_
  refine r_iconst (q := 5) (v := 0) hK dX4_fewestOf_4 rfl rfl ?_
  refine r_istore (q := 7) (loc' := [(5, .int (0 : Int32)), (4, .int (-1000000005 : Int32)), (0, .ref (gad G 21)), (1, .int a1), (2, .int a2), (3, .int a3)]) hK dX4_fewestOf_5 rfl (by decide) rfl ?_
  refine r_iconst (q := 8) (v := 0) hK dX4_fewestOf_7 rfl rfl ?_
  refine r_istore (q := 10) (loc' := [(6, .int (0 : Int32)), (5, .int (0 : Int32)), (4, .int (-1000000005 : Int32)), (0, .ref (gad G 21)), (1, .int a1), (2, .int a2), (3, .int a3)]) hK dX4_fewestOf_8 rfl (by decide) rfl ?_
  exact sV.sub [3, 4, 5, 6, 2, 1, 0] (by rfl) (vX4_fewestOf_L10 σ a1 a2 a3 hK FU (-1000000005 : Int32) (0 : Int32) (0 : Int32))
def fX8_shortest  (a1 : Int32) (a2 : Int32) (σ : Store) : Option Int32 := (sbd (fX0_hasTraveller 57 a1 σ) fun r1 => (if r1 = true then (sbd (fX8_isSenses a2 σ) fun r3 => (if r3 = true then (six 6 a1 (sbd (fX4_fewestOf (σ (trv 57 a1) 0) (0 : Int32) a2 σ) fun r6 => (some r6))) else (some (-1000000001 : Int32)))) else (some (-1000000001 : Int32))))
theorem c_X8_shortest {l0 : Launch} {G : Geo} (a1 : Int32) (a2 : Int32) (σ : Store) (a : Int32) (hf : fX8_shortest  a1 a2 σ = some a) : sCon l0 wCls G yX8_shortest cX8_shortest 3 (some .int) (rmL 4 133) [.ref (gad G 0), .int a1, .int a2] σ (some (.int a)) σ := by
  refine sCon.of (by decide) ⟨rfl, rfl⟩ (Nat.le_of_ble_eq_true rfl) RX8 rfl _ hf (fun K hK => ?_)
  show sV wCls G K a σ 0 [(0, .ref (gad G 0)), (1, .int a1), (2, .int a2)] [] _
  unfold fX8_shortest
  refine r_aload_n (q := 1) hK dX8_shortest_0 rfl rfl 0 rfl ?_
  refine gf_8_1 (q := 4) (rfl : kdC 0 = 8) hK dX8_shortest_1 rfl tw_268 ?_
  refine r_iload_n (q := 5) hK dX8_shortest_4 rfl rfl 1 rfl ?_
  refine callV_b (q := 8) (j := 57) (As := [.int a1]) (rest := []) (f := (fX0_hasTraveller 57 a1 σ)) hK dX8_shortest_5 rfl (fun b hb => c_X0_hasTraveller 57 (rfl : kdC 57 = 0) a1 σ b hb) ⟨0, _, _, _, kd_lt (rfl : kdC 57 = 0) (by decide), rfl, cC0 (rfl : kdC 57 = 0), rfl⟩ mv_X0_hasTraveller rfl rfl (Nat.le_of_ble_eq_true rfl) tw_406 mw_X0_hasTraveller (rmOk (Nat.le_of_ble_eq_true rfl) (Nat.le_of_ble_eq_true rfl)) (fun r1 => ?_)
  refine r_ifb_eq (t := 18) (q := 11) hK dX8_shortest_8 rfl rfl (fun c2 => ?_) (fun c2 => ?_)
  · refine r_iload_n (q := 12) hK dX8_shortest_11 rfl rfl 2 rfl ?_
    refine callS_b (q := 15) (As := [.int a2]) (rest := []) (f := (fX8_isSenses a2 σ)) hK dX8_shortest_12 rfl (fun b hb => c_X8_isSenses a2 σ b hb) ms_X8_isSenses rfl rfl (Nat.le_of_ble_eq_true rfl) tw_490 mw_X8_isSenses (rmOk (Nat.le_of_ble_eq_true rfl) (Nat.le_of_ble_eq_true rfl)) (fun r3 => ?_)
    refine r_ifb_ne (t := 21) (q := 18) hK dX8_shortest_15 rfl rfl (fun c4 => ?_) (fun c4 => ?_)
    · refine r_aload_n (q := 22) hK dX8_shortest_21 rfl rfl 0 rfl ?_
      refine gf_8_4 (q := 25) (rfl : kdC 0 = 8) hK dX8_shortest_22 rfl tw_271 ?_
      refine r_aload_n (q := 26) hK dX8_shortest_25 rfl rfl 0 rfl ?_
      refine gf_8_1 (q := 29) (rfl : kdC 0 = 8) hK dX8_shortest_26 rfl tw_268 ?_
      refine gf_0_2 (q := 32) (rfl : kdC 57 = 0) hK dX8_shortest_29 rfl tw_121 ?_
      refine r_iload_n (q := 33) hK dX8_shortest_32 rfl rfl 1 rfl ?_
      refine r_aald (q := 34) hK dX8_shortest_33 rfl (qC12 (kd_bt (rfl : kdC 57 = 0))) (ty := .object RX6) rfl rfl (r := gad G (trv 57 a1)) rfl (fun h5 => ?_)
      refine gf_6_0 (q := 37) (kd_trv (rfl : kdC 57 = 0) h5) hK dX8_shortest_34 rfl tw_107 ?_
      refine r_iconst (q := 38) (v := 0) hK dX8_shortest_37 rfl rfl ?_
      refine r_iload_n (q := 39) hK dX8_shortest_38 rfl rfl 2 rfl ?_
      refine callV_i (q := 42) (j := 21) (As := [.int (σ (trv 57 a1) 0), .int (0 : Int32), .int a2]) (rest := []) (f := (fX4_fewestOf (σ (trv 57 a1) 0) (0 : Int32) a2 σ)) hK dX8_shortest_39 rfl (fun b hb => c_X4_fewestOf (σ (trv 57 a1) 0) (0 : Int32) a2 σ b hb) ⟨4, _, _, _, kd_lt (rfl : kdC 21 = 4) (by decide), rfl, cC4 (rfl : kdC 21 = 4), rfl⟩ mv_X4_fewestOf rfl rfl (Nat.le_of_ble_eq_true rfl) tw_528 mw_X4_fewestOf (rmOk (Nat.le_of_ble_eq_true rfl) (Nat.le_of_ble_eq_true rfl)) (fun r6 => ?_)
      exact e_i hK dX8_shortest_42
    · refine r_ldc (q := 20) hK dX8_shortest_18 rfl tw_317 ?_
      exact e_i hK dX8_shortest_20
  · refine r_ldc (q := 20) hK dX8_shortest_18 rfl tw_317 ?_
    exact e_i hK dX8_shortest_20
def fX4_mostSenses_L6  (v1 : Int32) (v2 : Int32) (v3 : Int32) (σ : Store) : Nat → Int32 → Int32 → Option Int32
  | 0, _, _ => none
  | n + 1, i4, i5 => (if v1 < i5 then (some i4) else (if ¬ (i5 &&& (v1 ^^^ (-1 : Int32))) = 0 then (fX4_mostSenses_L6 v1 v2 v3 σ n i4 (i5 + (1 : Int32))) else (sbd (fJ6_bitCount_0f7a4 i5 σ) fun r17 => (if v3 < r17 then (fX4_mostSenses_L6 v1 v2 v3 σ n i4 (i5 + (1 : Int32))) else (sbd (fX0_sensesOf 57 i5 σ) fun r19 => (sbd (fJ6_bitCount_0f7a4 (v2 &&& r19) σ) fun r20 => (slt (smax i4 r20) fun x21 => (fX4_mostSenses_L6 v1 v2 v3 σ n x21 (i5 + (1 : Int32))))))))))
theorem vX4_mostSenses_L6 {G : Geo} {K : KT} {l0 : Launch} (σ : Store) {a : Int32} (v1 : Int32) (v2 : Int32) (v3 : Int32) (hK : sOk wCls G K l0 RX4 cX4_mostSenses (rmL 2 83) 6 (some .int) (some (.int a)) σ) : ∀ (n : Nat) (i4 : Int32) (i5 : Int32), sV wCls G K a σ 6 [(0, .ref (gad G 21)), (1, .int v1), (2, .int v2), (3, .int v3), (4, .int i4), (5, .int i5)] [] (fX4_mostSenses_L6 v1 v2 v3 σ n i4 i5) := by
  intro n
  induction n with
  | zero =>
    intro i4 i5
    exact sV.no
  | succ n ih =>
    intro i4 i5
    rw [fX4_mostSenses_L6]
    refine r_iload (q := 8) hK dX4_mostSenses_6 rfl 5 rfl ?_
    refine r_iload_n (q := 9) hK dX4_mostSenses_8 rfl rfl 1 rfl ?_
    refine r_icmp_gt (t := 57) (q := 12) hK dX4_mostSenses_9 rfl rfl (fun c15 => ?_) (fun c15 => ?_)
    · refine r_iload (q := 59) hK dX4_mostSenses_57 rfl 4 rfl ?_
      exact e_i hK dX4_mostSenses_59
    · refine r_iload (q := 14) hK dX4_mostSenses_12 rfl 5 rfl ?_
      refine r_iload_n (q := 15) hK dX4_mostSenses_14 rfl rfl 1 rfl ?_
      refine r_iconst (q := 16) (v := -1) hK dX4_mostSenses_15 rfl rfl ?_
      refine r_ixor (q := 17) hK dX4_mostSenses_16 rfl ?_
      refine r_iand (q := 18) hK dX4_mostSenses_17 rfl ?_
      refine r_if_ne (t := 51) (q := 21) hK dX4_mostSenses_18 rfl rfl (fun c16 => ?_) (fun c16 => ?_)
      · refine r_iinc (q := 54) (v := (i5 + (1 : Int32))) (loc' := [(5, .int (i5 + (1 : Int32))), (0, .ref (gad G 21)), (1, .int v1), (2, .int v2), (3, .int v3), (4, .int i4)]) hK dX4_mostSenses_51 rfl 5 rfl rfl (by decide) rfl ?_
        refine r_goto (q := 6) hK dX4_mostSenses_54 rfl ?_
        exact sV.sub [1, 2, 3, 4, 5, 0] (by rfl) (ih i4 (i5 + (1 : Int32)))
      · refine r_iload (q := 23) hK dX4_mostSenses_21 rfl 5 rfl ?_
        refine callS_i (q := 26) (As := [.int i5]) (rest := []) (f := (fJ6_bitCount_0f7a4 i5 σ)) hK dX4_mostSenses_23 rfl (fun b hb => c_J6_bitCount_0f7a4 i5 σ b hb) ms_J6_bitCount_0f7a4 rfl rfl (Nat.le_of_ble_eq_true rfl) tw_521 mw_J6_bitCount_0f7a4 (rmOk (Nat.le_of_ble_eq_true rfl) (Nat.le_of_ble_eq_true rfl)) (fun r17 => ?_)
        refine r_iload_n (q := 27) hK dX4_mostSenses_26 rfl rfl 3 rfl ?_
        refine r_icmp_gt (t := 51) (q := 30) hK dX4_mostSenses_27 rfl rfl (fun c18 => ?_) (fun c18 => ?_)
        · refine r_iinc (q := 54) (v := (i5 + (1 : Int32))) (loc' := [(5, .int (i5 + (1 : Int32))), (0, .ref (gad G 21)), (1, .int v1), (2, .int v2), (3, .int v3), (4, .int i4)]) hK dX4_mostSenses_51 rfl 5 rfl rfl (by decide) rfl ?_
          refine r_goto (q := 6) hK dX4_mostSenses_54 rfl ?_
          exact sV.sub [1, 2, 3, 4, 5, 0] (by rfl) (ih i4 (i5 + (1 : Int32)))
        · refine r_iload (q := 32) hK dX4_mostSenses_30 rfl 4 rfl ?_
          refine r_iload_n (q := 33) hK dX4_mostSenses_32 rfl rfl 2 rfl ?_
          refine r_aload_n (q := 34) hK dX4_mostSenses_33 rfl rfl 0 rfl ?_
          refine gf_4_0 (q := 37) (rfl : kdC 21 = 4) hK dX4_mostSenses_34 rfl tw_168 ?_
          refine r_iload (q := 39) hK dX4_mostSenses_37 rfl 5 rfl ?_
          refine callV_i (q := 42) (j := 57) (As := [.int i5]) (rest := [.int v2, .int i4]) (f := (fX0_sensesOf 57 i5 σ)) hK dX4_mostSenses_39 rfl (fun b hb => c_X0_sensesOf 57 (rfl : kdC 57 = 0) i5 σ b hb) ⟨0, _, _, _, kd_lt (rfl : kdC 57 = 0) (by decide), rfl, cC0 (rfl : kdC 57 = 0), rfl⟩ mv_X0_sensesOf rfl rfl (Nat.le_of_ble_eq_true rfl) tw_540 mw_X0_sensesOf (rmOk (Nat.le_of_ble_eq_true rfl) (Nat.le_of_ble_eq_true rfl)) (fun r19 => ?_)
          refine r_iand (q := 43) hK dX4_mostSenses_42 rfl ?_
          refine callS_i (q := 46) (As := [.int (v2 &&& r19)]) (rest := [.int i4]) (f := (fJ6_bitCount_0f7a4 (v2 &&& r19) σ)) hK dX4_mostSenses_43 rfl (fun b hb => c_J6_bitCount_0f7a4 (v2 &&& r19) σ b hb) ms_J6_bitCount_0f7a4 rfl rfl (Nat.le_of_ble_eq_true rfl) tw_521 mw_J6_bitCount_0f7a4 (rmOk (Nat.le_of_ble_eq_true rfl) (Nat.le_of_ble_eq_true rfl)) (fun r20 => ?_)
          refine r_max (q := 49) hK dX4_mostSenses_46 rfl tw_541 mt_max (rmM (Nat.le_of_ble_eq_true rfl) (Nat.le_of_ble_eq_true rfl)) ?_
          refine sV.ltI (fun x21 => ?_)
          refine r_istore (q := 51) (loc' := [(4, .int x21), (0, .ref (gad G 21)), (1, .int v1), (2, .int v2), (3, .int v3), (5, .int i5)]) hK dX4_mostSenses_49 rfl (by decide) rfl ?_
          refine r_iinc (q := 54) (v := (i5 + (1 : Int32))) (loc' := [(5, .int (i5 + (1 : Int32))), (4, .int x21), (0, .ref (gad G 21)), (1, .int v1), (2, .int v2), (3, .int v3)]) hK dX4_mostSenses_51 rfl 5 rfl rfl (by decide) rfl ?_
          refine r_goto (q := 6) hK dX4_mostSenses_54 rfl ?_
          exact sV.sub [2, 3, 4, 5, 1, 0] (by rfl) (ih x21 (i5 + (1 : Int32)))
def fX4_mostSenses  (a1 : Int32) (a2 : Int32) (a3 : Int32) (σ : Store) : Option Int32 := (fX4_mostSenses_L6 a1 a2 a3 σ FU (0 : Int32) (0 : Int32))
theorem c_X4_mostSenses {l0 : Launch} {G : Geo} (a1 : Int32) (a2 : Int32) (a3 : Int32) (σ : Store) (a : Int32) (hf : fX4_mostSenses  a1 a2 a3 σ = some a) : sCon l0 wCls G yX4_mostSenses cX4_mostSenses 6 (some .int) (rmL 2 83) [.ref (gad G 21), .int a1, .int a2, .int a3] σ (some (.int a)) σ := by
  refine sCon.of (by decide) ⟨rfl, rfl⟩ (Nat.le_of_ble_eq_true rfl) RX4 rfl _ hf (fun K hK => ?_)
  show sV wCls G K a σ 0 [(0, .ref (gad G 21)), (1, .int a1), (2, .int a2), (3, .int a3)] [] _
  unfold fX4_mostSenses
  refine r_iconst (q := 1) (v := 0) hK dX4_mostSenses_0 rfl rfl ?_
  refine r_istore (q := 3) (loc' := [(4, .int (0 : Int32)), (0, .ref (gad G 21)), (1, .int a1), (2, .int a2), (3, .int a3)]) hK dX4_mostSenses_1 rfl (by decide) rfl ?_
  refine r_iconst (q := 4) (v := 0) hK dX4_mostSenses_3 rfl rfl ?_
  refine r_istore (q := 6) (loc' := [(5, .int (0 : Int32)), (4, .int (0 : Int32)), (0, .ref (gad G 21)), (1, .int a1), (2, .int a2), (3, .int a3)]) hK dX4_mostSenses_4 rfl (by decide) rfl ?_
  exact sV.sub [2, 3, 4, 5, 1, 0] (by rfl) (vX4_mostSenses_L6 σ a1 a2 a3 hK FU (0 : Int32) (0 : Int32))
def fX8_nearest  (a1 : Int32) (a2 : Int32) (a3 : Int32) (σ : Store) : Option Int32 := (sbd (fX0_hasTraveller 57 a1 σ) fun r1 => (if r1 = true then (sbd (fX8_isSenses a2 σ) fun r3 => (if r3 = true then (sbd (fX8_within a3 (0 : Int32) (10 : Int32) σ) fun r5 => (if r5 = true then (six 6 a1 (sbd (fX4_mostSenses (σ (trv 57 a1) 0) a2 a3 σ) fun r8 => (some r8))) else (some (-1000000001 : Int32)))) else (some (-1000000001 : Int32)))) else (some (-1000000001 : Int32))))
theorem c_X8_nearest {l0 : Launch} {G : Geo} (a1 : Int32) (a2 : Int32) (a3 : Int32) (σ : Store) (a : Int32) (hf : fX8_nearest  a1 a2 a3 σ = some a) : sCon l0 wCls G yX8_nearest cX8_nearest 4 (some .int) (rmL 3 108) [.ref (gad G 0), .int a1, .int a2, .int a3] σ (some (.int a)) σ := by
  refine sCon.of (by decide) ⟨rfl, rfl⟩ (Nat.le_of_ble_eq_true rfl) RX8 rfl _ hf (fun K hK => ?_)
  show sV wCls G K a σ 0 [(0, .ref (gad G 0)), (1, .int a1), (2, .int a2), (3, .int a3)] [] _
  unfold fX8_nearest
  refine r_aload_n (q := 1) hK dX8_nearest_0 rfl rfl 0 rfl ?_
  refine gf_8_1 (q := 4) (rfl : kdC 0 = 8) hK dX8_nearest_1 rfl tw_268 ?_
  refine r_iload_n (q := 5) hK dX8_nearest_4 rfl rfl 1 rfl ?_
  refine callV_b (q := 8) (j := 57) (As := [.int a1]) (rest := []) (f := (fX0_hasTraveller 57 a1 σ)) hK dX8_nearest_5 rfl (fun b hb => c_X0_hasTraveller 57 (rfl : kdC 57 = 0) a1 σ b hb) ⟨0, _, _, _, kd_lt (rfl : kdC 57 = 0) (by decide), rfl, cC0 (rfl : kdC 57 = 0), rfl⟩ mv_X0_hasTraveller rfl rfl (Nat.le_of_ble_eq_true rfl) tw_406 mw_X0_hasTraveller (rmOk (Nat.le_of_ble_eq_true rfl) (Nat.le_of_ble_eq_true rfl)) (fun r1 => ?_)
  refine r_ifb_eq (t := 28) (q := 11) hK dX8_nearest_8 rfl rfl (fun c2 => ?_) (fun c2 => ?_)
  · refine r_iload_n (q := 12) hK dX8_nearest_11 rfl rfl 2 rfl ?_
    refine callS_b (q := 15) (As := [.int a2]) (rest := []) (f := (fX8_isSenses a2 σ)) hK dX8_nearest_12 rfl (fun b hb => c_X8_isSenses a2 σ b hb) ms_X8_isSenses rfl rfl (Nat.le_of_ble_eq_true rfl) tw_490 mw_X8_isSenses (rmOk (Nat.le_of_ble_eq_true rfl) (Nat.le_of_ble_eq_true rfl)) (fun r3 => ?_)
    refine r_ifb_eq (t := 28) (q := 18) hK dX8_nearest_15 rfl rfl (fun c4 => ?_) (fun c4 => ?_)
    · refine r_iload_n (q := 19) hK dX8_nearest_18 rfl rfl 3 rfl ?_
      refine r_iconst (q := 20) (v := 0) hK dX8_nearest_19 rfl rfl ?_
      refine r_bipush (q := 22) (v := 10) hK dX8_nearest_20 rfl rfl ?_
      refine callS_b (q := 25) (As := [.int a3, .int (0 : Int32), .int (10 : Int32)]) (rest := []) (f := (fX8_within a3 (0 : Int32) (10 : Int32) σ)) hK dX8_nearest_22 rfl (fun b hb => c_X8_within a3 (0 : Int32) (10 : Int32) σ b hb) ms_X8_within rfl rfl (Nat.le_of_ble_eq_true rfl) tw_314 mw_X8_within (rmOk (Nat.le_of_ble_eq_true rfl) (Nat.le_of_ble_eq_true rfl)) (fun r5 => ?_)
      refine r_ifb_ne (t := 31) (q := 28) hK dX8_nearest_25 rfl rfl (fun c6 => ?_) (fun c6 => ?_)
      · refine r_aload_n (q := 32) hK dX8_nearest_31 rfl rfl 0 rfl ?_
        refine gf_8_4 (q := 35) (rfl : kdC 0 = 8) hK dX8_nearest_32 rfl tw_271 ?_
        refine r_aload_n (q := 36) hK dX8_nearest_35 rfl rfl 0 rfl ?_
        refine gf_8_1 (q := 39) (rfl : kdC 0 = 8) hK dX8_nearest_36 rfl tw_268 ?_
        refine gf_0_2 (q := 42) (rfl : kdC 57 = 0) hK dX8_nearest_39 rfl tw_121 ?_
        refine r_iload_n (q := 43) hK dX8_nearest_42 rfl rfl 1 rfl ?_
        refine r_aald (q := 44) hK dX8_nearest_43 rfl (qC12 (kd_bt (rfl : kdC 57 = 0))) (ty := .object RX6) rfl rfl (r := gad G (trv 57 a1)) rfl (fun h7 => ?_)
        refine gf_6_0 (q := 47) (kd_trv (rfl : kdC 57 = 0) h7) hK dX8_nearest_44 rfl tw_107 ?_
        refine r_iload_n (q := 48) hK dX8_nearest_47 rfl rfl 2 rfl ?_
        refine r_iload_n (q := 49) hK dX8_nearest_48 rfl rfl 3 rfl ?_
        refine callV_i (q := 52) (j := 21) (As := [.int (σ (trv 57 a1) 0), .int a2, .int a3]) (rest := []) (f := (fX4_mostSenses (σ (trv 57 a1) 0) a2 a3 σ)) hK dX8_nearest_49 rfl (fun b hb => c_X4_mostSenses (σ (trv 57 a1) 0) a2 a3 σ b hb) ⟨4, _, _, _, kd_lt (rfl : kdC 21 = 4) (by decide), rfl, cC4 (rfl : kdC 21 = 4), rfl⟩ mv_X4_mostSenses rfl rfl (Nat.le_of_ble_eq_true rfl) tw_536 mw_X4_mostSenses (rmOk (Nat.le_of_ble_eq_true rfl) (Nat.le_of_ble_eq_true rfl)) (fun r8 => ?_)
        exact e_i hK dX8_nearest_52
      · refine r_ldc (q := 30) hK dX8_nearest_28 rfl tw_317 ?_
        exact e_i hK dX8_nearest_30
    · refine r_ldc (q := 30) hK dX8_nearest_28 rfl tw_317 ?_
      exact e_i hK dX8_nearest_30
  · refine r_ldc (q := 30) hK dX8_nearest_28 rfl tw_317 ?_
    exact e_i hK dX8_nearest_30
def fX0_heldByAll_L4  (o0 : Nat) (σ : Store) : Nat → Int32 → Int32 → Option Int32
  | 0, _, _ => none
  | n + 1, i1, i2 => (if (σ o0 4) ≤ i2 then (some i1) else (six 6 i2 (slt (i1 ||| (σ (trv o0 i2) 0)) fun x9 => (fX0_heldByAll_L4 o0 σ n x9 (i2 + (1 : Int32))))))
theorem vX0_heldByAll_L4 {G : Geo} {K : KT} {l0 : Launch} (σ : Store) {a : Int32} (o0 : Nat) (ho0 : kdC o0 = 0) (hK : sOk wCls G K l0 RX0 cX0_heldByAll (rmL 1 60) 3 (some .int) (some (.int a)) σ) : ∀ (n : Nat) (i1 : Int32) (i2 : Int32), sV wCls G K a σ 4 [(0, .ref (gad G o0)), (1, .int i1), (2, .int i2)] [] (fX0_heldByAll_L4 o0 σ n i1 i2) := by
  intro n
  induction n with
  | zero =>
    intro i1 i2
    exact sV.no
  | succ n ih =>
    intro i1 i2
    rw [fX0_heldByAll_L4]
    refine r_iload_n (q := 5) hK dX0_heldByAll_4 rfl rfl 2 rfl ?_
    refine r_aload_n (q := 6) hK dX0_heldByAll_5 rfl rfl 0 rfl ?_
    refine gf_0_4 (q := 9) ho0 hK dX0_heldByAll_6 rfl tw_125 ?_
    refine r_icmp_ge (t := 30) (q := 12) hK dX0_heldByAll_9 rfl rfl (fun c7 => ?_) (fun c7 => ?_)
    · refine r_iload_n (q := 31) hK dX0_heldByAll_30 rfl rfl 1 rfl ?_
      exact e_i hK dX0_heldByAll_31
    · refine r_iload_n (q := 13) hK dX0_heldByAll_12 rfl rfl 1 rfl ?_
      refine r_aload_n (q := 14) hK dX0_heldByAll_13 rfl rfl 0 rfl ?_
      refine gf_0_2 (q := 17) ho0 hK dX0_heldByAll_14 rfl tw_120 ?_
      refine r_iload_n (q := 18) hK dX0_heldByAll_17 rfl rfl 2 rfl ?_
      refine r_aald (q := 19) hK dX0_heldByAll_18 rfl (qC12 (kd_bt ho0)) (ty := .object RX6) rfl rfl (r := gad G (trv o0 i2)) rfl (fun h8 => ?_)
      refine gf_6_0 (q := 22) (kd_trv ho0 h8) hK dX0_heldByAll_19 rfl tw_106 ?_
      refine r_ior (q := 23) hK dX0_heldByAll_22 rfl ?_
      refine sV.ltI (fun x9 => ?_)
      refine r_istore_n (q := 24) (loc' := [(1, .int x9), (0, .ref (gad G o0)), (2, .int i2)]) hK dX0_heldByAll_23 rfl rfl (by decide) rfl ?_
      refine r_iinc (q := 27) (v := (i2 + (1 : Int32))) (loc' := [(2, .int (i2 + (1 : Int32))), (1, .int x9), (0, .ref (gad G o0))]) hK dX0_heldByAll_24 rfl 2 rfl rfl (by decide) rfl ?_
      refine r_goto (q := 4) hK dX0_heldByAll_27 rfl ?_
      exact sV.sub [2, 1, 0] (by rfl) (ih x9 (i2 + (1 : Int32)))
def fX0_heldByAll  (a0 : Nat) (σ : Store) : Option Int32 := (fX0_heldByAll_L4 a0 σ FU (0 : Int32) (0 : Int32))
theorem c_X0_heldByAll {l0 : Launch} {G : Geo} (a0 : Nat) (h0 : kdC a0 = 0) (σ : Store) (a : Int32) (hf : fX0_heldByAll  a0 σ = some a) : sCon l0 wCls G yX0_heldByAll cX0_heldByAll 3 (some .int) (rmL 1 60) [.ref (gad G a0)] σ (some (.int a)) σ := by
  refine sCon.of (by decide) ⟨rfl, rfl⟩ (Nat.le_of_ble_eq_true rfl) RX0 rfl _ hf (fun K hK => ?_)
  show sV wCls G K a σ 0 [(0, .ref (gad G a0))] [] _
  unfold fX0_heldByAll
  refine r_iconst (q := 1) (v := 0) hK dX0_heldByAll_0 rfl rfl ?_
  refine r_istore_n (q := 2) (loc' := [(1, .int (0 : Int32)), (0, .ref (gad G a0))]) hK dX0_heldByAll_1 rfl rfl (by decide) rfl ?_
  refine r_iconst (q := 3) (v := 0) hK dX0_heldByAll_2 rfl rfl ?_
  refine r_istore_n (q := 4) (loc' := [(2, .int (0 : Int32)), (1, .int (0 : Int32)), (0, .ref (gad G a0))]) hK dX0_heldByAll_3 rfl rfl (by decide) rfl ?_
  exact sV.sub [2, 1, 0] (by rfl) (vX0_heldByAll_L4 σ a0 h0 hK FU (0 : Int32) (0 : Int32))
def fX8_treaty  (a1 : Int32) (σ : Store) : Option Int32 := (sbd (fX8_isSenses a1 σ) fun r1 => (if r1 = true then (sbd (fX0_allWords 57 σ) fun r3 => (sbd (fX0_heldByAll 57 σ) fun r4 => (sbd (fX4_fewestOf r3 r4 a1 σ) fun r5 => (some r5)))) else (some (-1000000001 : Int32))))
theorem c_X8_treaty {l0 : Launch} {G : Geo} (a1 : Int32) (σ : Store) (a : Int32) (hf : fX8_treaty  a1 σ = some a) : sCon l0 wCls G yX8_treaty cX8_treaty 2 (some .int) (rmL 4 133) [.ref (gad G 0), .int a1] σ (some (.int a)) σ := by
  refine sCon.of (by decide) ⟨rfl, rfl⟩ (Nat.le_of_ble_eq_true rfl) RX8 rfl _ hf (fun K hK => ?_)
  show sV wCls G K a σ 0 [(0, .ref (gad G 0)), (1, .int a1)] [] _
  unfold fX8_treaty
  refine r_iload_n (q := 1) hK dX8_treaty_0 rfl rfl 1 rfl ?_
  refine callS_b (q := 4) (As := [.int a1]) (rest := []) (f := (fX8_isSenses a1 σ)) hK dX8_treaty_1 rfl (fun b hb => c_X8_isSenses a1 σ b hb) ms_X8_isSenses rfl rfl (Nat.le_of_ble_eq_true rfl) tw_490 mw_X8_isSenses (rmOk (Nat.le_of_ble_eq_true rfl) (Nat.le_of_ble_eq_true rfl)) (fun r1 => ?_)
  refine r_ifb_ne (t := 10) (q := 7) hK dX8_treaty_4 rfl rfl (fun c2 => ?_) (fun c2 => ?_)
  · refine r_aload_n (q := 11) hK dX8_treaty_10 rfl rfl 0 rfl ?_
    refine gf_8_4 (q := 14) (rfl : kdC 0 = 8) hK dX8_treaty_11 rfl tw_271 ?_
    refine r_aload_n (q := 15) hK dX8_treaty_14 rfl rfl 0 rfl ?_
    refine gf_8_1 (q := 18) (rfl : kdC 0 = 8) hK dX8_treaty_15 rfl tw_268 ?_
    refine callV_i (q := 21) (j := 57) (As := []) (rest := [.ref (gad G 21)]) (f := (fX0_allWords 57 σ)) hK dX8_treaty_18 rfl (fun b hb => c_X0_allWords 57 (rfl : kdC 57 = 0) σ b hb) ⟨0, _, _, _, kd_lt (rfl : kdC 57 = 0) (by decide), rfl, cC0 (rfl : kdC 57 = 0), rfl⟩ mv_X0_allWords rfl rfl (Nat.le_of_ble_eq_true rfl) tw_546 mw_X0_allWords (rmOk (Nat.le_of_ble_eq_true rfl) (Nat.le_of_ble_eq_true rfl)) (fun r3 => ?_)
    refine r_aload_n (q := 22) hK dX8_treaty_21 rfl rfl 0 rfl ?_
    refine gf_8_1 (q := 25) (rfl : kdC 0 = 8) hK dX8_treaty_22 rfl tw_268 ?_
    refine callV_i (q := 28) (j := 57) (As := []) (rest := [.int r3, .ref (gad G 21)]) (f := (fX0_heldByAll 57 σ)) hK dX8_treaty_25 rfl (fun b hb => c_X0_heldByAll 57 (rfl : kdC 57 = 0) σ b hb) ⟨0, _, _, _, kd_lt (rfl : kdC 57 = 0) (by decide), rfl, cC0 (rfl : kdC 57 = 0), rfl⟩ mv_X0_heldByAll rfl rfl (Nat.le_of_ble_eq_true rfl) tw_547 mw_X0_heldByAll (rmOk (Nat.le_of_ble_eq_true rfl) (Nat.le_of_ble_eq_true rfl)) (fun r4 => ?_)
    refine r_iload_n (q := 29) hK dX8_treaty_28 rfl rfl 1 rfl ?_
    refine callV_i (q := 32) (j := 21) (As := [.int r3, .int r4, .int a1]) (rest := []) (f := (fX4_fewestOf r3 r4 a1 σ)) hK dX8_treaty_29 rfl (fun b hb => c_X4_fewestOf r3 r4 a1 σ b hb) ⟨4, _, _, _, kd_lt (rfl : kdC 21 = 4) (by decide), rfl, cC4 (rfl : kdC 21 = 4), rfl⟩ mv_X4_fewestOf rfl rfl (Nat.le_of_ble_eq_true rfl) tw_528 mw_X4_fewestOf (rmOk (Nat.le_of_ble_eq_true rfl) (Nat.le_of_ble_eq_true rfl)) (fun r5 => ?_)
    exact e_i hK dX8_treaty_32
  · refine r_ldc (q := 9) hK dX8_treaty_7 rfl tw_317 ?_
    exact e_i hK dX8_treaty_9
def fX6_becomes  (a0 : Nat) (a1 : Nat) (σ : Store) : Option Store := (slt (sup σ a0 0 (σ a1 0)) fun s1 => (slt (sup s1 a0 1 (s1 a1 1)) fun s2 => (some s2)))
theorem c_X6_becomes {l0 : Launch} {G : Geo} (a0 : Nat) (h0 : kdC a0 = 6) (a1 : Nat) (h1 : kdC a1 = 6) (σ : Store) (a : Store) (hf : fX6_becomes  a0 a1 σ = some a) : sCon l0 wCls G yX6_becomes cX6_becomes 2 (none) (rmL 1 60) [.ref (gad G a0), .ref (gad G a1)] σ none a := by
  refine sCon.of (by decide) ⟨rfl, rfl⟩ (Nat.le_of_ble_eq_true rfl) RX6 rfl _ hf (fun K hK => ?_)
  show sV wCls G K a σ 0 [(0, .ref (gad G a0)), (1, .ref (gad G a1))] [] _
  unfold fX6_becomes
  refine r_aload_n (q := 1) hK dX6_becomes_0 rfl rfl 0 rfl ?_
  refine r_aload_n (q := 2) hK dX6_becomes_1 rfl rfl 1 rfl ?_
  refine gf_6_0 (q := 5) h1 hK dX6_becomes_2 rfl tw_105 ?_
  refine pf_6_0 (q := 8) h0 hK dX6_becomes_5 rfl tw_105 ?_
  refine sV.ltS (fun s1 => ?_)
  refine r_aload_n (q := 9) hK dX6_becomes_8 rfl rfl 0 rfl ?_
  refine r_aload_n (q := 10) hK dX6_becomes_9 rfl rfl 1 rfl ?_
  refine gf_6_1 (q := 13) h1 hK dX6_becomes_10 rfl tw_108 ?_
  refine pf_6_1 (q := 16) h0 hK dX6_becomes_13 rfl tw_108 ?_
  refine sV.ltS (fun s2 => ?_)
  exact e_vS hK dX6_becomes_16
def fX7_becomes  (a0 : Nat) (a1 : Nat) (σ : Store) : Option Store := (slt (sup σ a0 0 (σ a1 0)) fun s1 => (slt (sup s1 a0 1 (s1 a1 1)) fun s2 => (slt (sup s2 a0 2 (s2 a1 2)) fun s3 => (slt (sup s3 a0 3 (s3 a1 3)) fun s4 => (slt (sup s4 a0 4 (s4 a1 4)) fun s5 => (slt (sup s5 a0 5 (s5 a1 5)) fun s6 => (some s6)))))))
theorem c_X7_becomes {l0 : Launch} {G : Geo} (a0 : Nat) (h0 : kdC a0 = 7) (a1 : Nat) (h1 : kdC a1 = 7) (σ : Store) (a : Store) (hf : fX7_becomes  a0 a1 σ = some a) : sCon l0 wCls G yX7_becomes cX7_becomes 2 (none) (rmL 1 60) [.ref (gad G a0), .ref (gad G a1)] σ none a := by
  refine sCon.of (by decide) ⟨rfl, rfl⟩ (Nat.le_of_ble_eq_true rfl) RX7 rfl _ hf (fun K hK => ?_)
  show sV wCls G K a σ 0 [(0, .ref (gad G a0)), (1, .ref (gad G a1))] [] _
  unfold fX7_becomes
  refine r_aload_n (q := 1) hK dX7_becomes_0 rfl rfl 0 rfl ?_
  refine r_aload_n (q := 2) hK dX7_becomes_1 rfl rfl 1 rfl ?_
  refine gf_7_0 (q := 5) h1 hK dX7_becomes_2 rfl tw_69 ?_
  refine pf_7_0 (q := 8) h0 hK dX7_becomes_5 rfl tw_69 ?_
  refine sV.ltS (fun s1 => ?_)
  refine r_aload_n (q := 9) hK dX7_becomes_8 rfl rfl 0 rfl ?_
  refine r_aload_n (q := 10) hK dX7_becomes_9 rfl rfl 1 rfl ?_
  refine gf_7_1 (q := 13) h1 hK dX7_becomes_10 rfl tw_72 ?_
  refine pf_7_1 (q := 16) h0 hK dX7_becomes_13 rfl tw_72 ?_
  refine sV.ltS (fun s2 => ?_)
  refine r_aload_n (q := 17) hK dX7_becomes_16 rfl rfl 0 rfl ?_
  refine r_aload_n (q := 18) hK dX7_becomes_17 rfl rfl 1 rfl ?_
  refine gf_7_2 (q := 21) h1 hK dX7_becomes_18 rfl tw_75 ?_
  refine pf_7_2 (q := 24) h0 hK dX7_becomes_21 rfl tw_75 ?_
  refine sV.ltS (fun s3 => ?_)
  refine r_aload_n (q := 25) hK dX7_becomes_24 rfl rfl 0 rfl ?_
  refine r_aload_n (q := 26) hK dX7_becomes_25 rfl rfl 1 rfl ?_
  refine gf_7_3 (q := 29) h1 hK dX7_becomes_26 rfl tw_78 ?_
  refine pf_7_3 (q := 32) h0 hK dX7_becomes_29 rfl tw_78 ?_
  refine sV.ltS (fun s4 => ?_)
  refine r_aload_n (q := 33) hK dX7_becomes_32 rfl rfl 0 rfl ?_
  refine r_aload_n (q := 34) hK dX7_becomes_33 rfl rfl 1 rfl ?_
  refine gf_7_4 (q := 37) h1 hK dX7_becomes_34 rfl tw_81 ?_
  refine pf_7_4 (q := 40) h0 hK dX7_becomes_37 rfl tw_81 ?_
  refine sV.ltS (fun s5 => ?_)
  refine r_aload_n (q := 41) hK dX7_becomes_40 rfl rfl 0 rfl ?_
  refine r_aload_n (q := 42) hK dX7_becomes_41 rfl rfl 1 rfl ?_
  refine gf_7_5 (q := 45) h1 hK dX7_becomes_42 rfl tw_84 ?_
  refine pf_7_5 (q := 48) h0 hK dX7_becomes_45 rfl tw_84 ?_
  refine sV.ltS (fun s6 => ?_)
  exact e_vS hK dX7_becomes_48
def fX0_becomes_L66  (o0 : Nat) (o1 : Nat) (k : Int32 → Store → Option Store) : Nat → Int32 → Store → Option Store
  | 0, _, _ => none
  | n + 1, i2, τ => (if (τ o0 3) ≤ i2 then (k i2 τ) else (six 10 i2 (six 10 i2 (sbd (fX7_becomes (wrd o0 i2) (wrd o1 i2) τ) fun s20 => (fX0_becomes_L66 o0 o1 k n (i2 + (1 : Int32)) s20)))))
theorem vX0_becomes_L66 {G : Geo} {K : KT} {l0 : Launch} (σ : Store) {a : Store} (o0 : Nat) (ho0 : kdC o0 = 0) (o1 : Nat) (ho1 : kdC o1 = 0) (hK : sOk wCls G K l0 RX0 cX0_becomes (rmL 2 81) 3 (none) none a) (k : Int32 → Store → Option Store) (hk : ∀ (e2 : Int32) (ε : Store), sV wCls G K a ε 95 [(0, .ref (gad G o0)), (1, .ref (gad G o1)), (2, .int e2)] [] (k e2 ε)) : ∀ (n : Nat) (i2 : Int32) (τ : Store), sV wCls G K a τ 66 [(0, .ref (gad G o0)), (1, .ref (gad G o1)), (2, .int i2)] [] (fX0_becomes_L66 o0 o1 k n i2 τ) := by
  intro n
  induction n with
  | zero =>
    intro i2 τ
    exact sV.no
  | succ n ih =>
    intro i2 τ
    rw [fX0_becomes_L66]
    refine r_iload_n (q := 67) hK dX0_becomes_66 rfl rfl 2 rfl ?_
    refine r_aload_n (q := 68) hK dX0_becomes_67 rfl rfl 0 rfl ?_
    refine gf_0_3 (q := 71) ho0 hK dX0_becomes_68 rfl tw_122 ?_
    refine r_icmp_ge (t := 95) (q := 74) hK dX0_becomes_71 rfl rfl (fun c17 => ?_) (fun c17 => ?_)
    · exact sV.sub [0, 1, 2] (by rfl) (hk i2 τ)
    · refine r_aload_n (q := 75) hK dX0_becomes_74 rfl rfl 0 rfl ?_
      refine gf_0_1 (q := 78) ho0 hK dX0_becomes_75 rfl tw_117 ?_
      refine r_iload_n (q := 79) hK dX0_becomes_78 rfl rfl 2 rfl ?_
      refine r_aald (q := 80) hK dX0_becomes_79 rfl (qC13 (kd_bw ho0)) (ty := .object RX7) rfl rfl (r := gad G (wrd o0 i2)) rfl (fun h18 => ?_)
      refine r_aload_n (q := 81) hK dX0_becomes_80 rfl rfl 1 rfl ?_
      refine gf_0_1 (q := 84) ho1 hK dX0_becomes_81 rfl tw_117 ?_
      refine r_iload_n (q := 85) hK dX0_becomes_84 rfl rfl 2 rfl ?_
      refine r_aald (q := 86) hK dX0_becomes_85 rfl (qC13 (kd_bw ho1)) (ty := .object RX7) rfl rfl (r := gad G (wrd o1 i2)) rfl (fun h19 => ?_)
      refine callV_vS (q := 89) (j := (wrd o0 i2)) (As := [.ref (gad G (wrd o1 i2))]) (rest := []) (f := (fX7_becomes (wrd o0 i2) (wrd o1 i2) τ)) hK dX0_becomes_86 rfl (fun b hb => c_X7_becomes (wrd o0 i2) (kd_wrd ho0 h18) (wrd o1 i2) (kd_wrd ho1 h19) τ b hb) ⟨7, _, _, _, kd_lt (kd_wrd ho0 h18) (by decide), rfl, cC7 (kd_wrd ho0 h18), rfl⟩ mv_X7_becomes rfl rfl (Nat.le_of_ble_eq_true rfl) tw_559 mw_X7_becomes (rmOk (Nat.le_of_ble_eq_true rfl) (Nat.le_of_ble_eq_true rfl)) (fun s20 => ?_)
      refine r_iinc (q := 92) (v := (i2 + (1 : Int32))) (loc' := [(2, .int (i2 + (1 : Int32))), (0, .ref (gad G o0)), (1, .ref (gad G o1))]) hK dX0_becomes_89 rfl 2 rfl rfl (by decide) rfl ?_
      refine r_goto (q := 66) hK dX0_becomes_92 rfl ?_
      exact sV.sub [1, 2, 0] (by rfl) (ih (i2 + (1 : Int32)) s20)
def fX0_becomes_L97  (o0 : Nat) (o1 : Nat) : Nat → Int32 → Store → Option Store
  | 0, _, _ => none
  | n + 1, i2, τ => (if (τ o0 4) ≤ i2 then (some τ) else (six 6 i2 (six 6 i2 (sbd (fX6_becomes (trv o0 i2) (trv o1 i2) τ) fun s34 => (fX0_becomes_L97 o0 o1 n (i2 + (1 : Int32)) s34)))))
theorem vX0_becomes_L97 {G : Geo} {K : KT} {l0 : Launch} (σ : Store) {a : Store} (o0 : Nat) (ho0 : kdC o0 = 0) (o1 : Nat) (ho1 : kdC o1 = 0) (hK : sOk wCls G K l0 RX0 cX0_becomes (rmL 2 81) 3 (none) none a) : ∀ (n : Nat) (i2 : Int32) (τ : Store), sV wCls G K a τ 97 [(0, .ref (gad G o0)), (1, .ref (gad G o1)), (2, .int i2)] [] (fX0_becomes_L97 o0 o1 n i2 τ) := by
  intro n
  induction n with
  | zero =>
    intro i2 τ
    exact sV.no
  | succ n ih =>
    intro i2 τ
    rw [fX0_becomes_L97]
    refine r_iload_n (q := 98) hK dX0_becomes_97 rfl rfl 2 rfl ?_
    refine r_aload_n (q := 99) hK dX0_becomes_98 rfl rfl 0 rfl ?_
    refine gf_0_4 (q := 102) ho0 hK dX0_becomes_99 rfl tw_125 ?_
    refine r_icmp_ge (t := 126) (q := 105) hK dX0_becomes_102 rfl rfl (fun c31 => ?_) (fun c31 => ?_)
    · exact e_vS hK dX0_becomes_126
    · refine r_aload_n (q := 106) hK dX0_becomes_105 rfl rfl 0 rfl ?_
      refine gf_0_2 (q := 109) ho0 hK dX0_becomes_106 rfl tw_120 ?_
      refine r_iload_n (q := 110) hK dX0_becomes_109 rfl rfl 2 rfl ?_
      refine r_aald (q := 111) hK dX0_becomes_110 rfl (qC12 (kd_bt ho0)) (ty := .object RX6) rfl rfl (r := gad G (trv o0 i2)) rfl (fun h32 => ?_)
      refine r_aload_n (q := 112) hK dX0_becomes_111 rfl rfl 1 rfl ?_
      refine gf_0_2 (q := 115) ho1 hK dX0_becomes_112 rfl tw_120 ?_
      refine r_iload_n (q := 116) hK dX0_becomes_115 rfl rfl 2 rfl ?_
      refine r_aald (q := 117) hK dX0_becomes_116 rfl (qC12 (kd_bt ho1)) (ty := .object RX6) rfl rfl (r := gad G (trv o1 i2)) rfl (fun h33 => ?_)
      refine callV_vS (q := 120) (j := (trv o0 i2)) (As := [.ref (gad G (trv o1 i2))]) (rest := []) (f := (fX6_becomes (trv o0 i2) (trv o1 i2) τ)) hK dX0_becomes_117 rfl (fun b hb => c_X6_becomes (trv o0 i2) (kd_trv ho0 h32) (trv o1 i2) (kd_trv ho1 h33) τ b hb) ⟨6, _, _, _, kd_lt (kd_trv ho0 h32) (by decide), rfl, cC6 (kd_trv ho0 h32), rfl⟩ mv_X6_becomes rfl rfl (Nat.le_of_ble_eq_true rfl) tw_563 mw_X6_becomes (rmOk (Nat.le_of_ble_eq_true rfl) (Nat.le_of_ble_eq_true rfl)) (fun s34 => ?_)
      refine r_iinc (q := 123) (v := (i2 + (1 : Int32))) (loc' := [(2, .int (i2 + (1 : Int32))), (0, .ref (gad G o0)), (1, .ref (gad G o1))]) hK dX0_becomes_120 rfl 2 rfl rfl (by decide) rfl ?_
      refine r_goto (q := 97) hK dX0_becomes_123 rfl ?_
      exact sV.sub [1, 2, 0] (by rfl) (ih (i2 + (1 : Int32)) s34)
def fX0_becomes  (a0 : Nat) (a1 : Nat) (σ : Store) : Option Store := (slt (sup σ a0 3 (σ a1 3)) fun s1 => (slt (sup s1 a0 4 (s1 a1 4)) fun s2 => (slt (sup s2 a0 5 (s2 a1 5)) fun s3 => (slt (sup s3 a0 6 (s3 a1 6)) fun s4 => (slt (sup s4 a0 7 (s4 a1 7)) fun s5 => (slt (sup s5 a0 8 (s5 a1 8)) fun s6 => (slt (sup s6 a0 9 (s6 a1 9)) fun s7 => (slt (sup s7 a0 10 (s7 a1 10)) fun s8 => (fX0_becomes_L66 a0 a1 (fun x21 s22 => (fX0_becomes_L97 a0 a1 FU (0 : Int32) s22)) FU (0 : Int32) s8)))))))))
theorem c_X0_becomes {l0 : Launch} {G : Geo} (a0 : Nat) (h0 : kdC a0 = 0) (a1 : Nat) (h1 : kdC a1 = 0) (σ : Store) (a : Store) (hf : fX0_becomes  a0 a1 σ = some a) : sCon l0 wCls G yX0_becomes cX0_becomes 3 (none) (rmL 2 81) [.ref (gad G a0), .ref (gad G a1)] σ none a := by
  refine sCon.of (by decide) ⟨rfl, rfl⟩ (Nat.le_of_ble_eq_true rfl) RX0 rfl _ hf (fun K hK => ?_)
  show sV wCls G K a σ 0 [(0, .ref (gad G a0)), (1, .ref (gad G a1))] [] _
  unfold fX0_becomes
  refine r_aload_n (q := 1) hK dX0_becomes_0 rfl rfl 0 rfl ?_
  refine r_aload_n (q := 2) hK dX0_becomes_1 rfl rfl 1 rfl ?_
  refine gf_0_3 (q := 5) h1 hK dX0_becomes_2 rfl tw_122 ?_
  refine pf_0_3 (q := 8) h0 hK dX0_becomes_5 rfl tw_122 ?_
  refine sV.ltS (fun s1 => ?_)
  refine r_aload_n (q := 9) hK dX0_becomes_8 rfl rfl 0 rfl ?_
  refine r_aload_n (q := 10) hK dX0_becomes_9 rfl rfl 1 rfl ?_
  refine gf_0_4 (q := 13) h1 hK dX0_becomes_10 rfl tw_125 ?_
  refine pf_0_4 (q := 16) h0 hK dX0_becomes_13 rfl tw_125 ?_
  refine sV.ltS (fun s2 => ?_)
  refine r_aload_n (q := 17) hK dX0_becomes_16 rfl rfl 0 rfl ?_
  refine r_aload_n (q := 18) hK dX0_becomes_17 rfl rfl 1 rfl ?_
  refine gf_0_5 (q := 21) h1 hK dX0_becomes_18 rfl tw_127 ?_
  refine pf_0_5 (q := 24) h0 hK dX0_becomes_21 rfl tw_127 ?_
  refine sV.ltS (fun s3 => ?_)
  refine r_aload_n (q := 25) hK dX0_becomes_24 rfl rfl 0 rfl ?_
  refine r_aload_n (q := 26) hK dX0_becomes_25 rfl rfl 1 rfl ?_
  refine gf_0_6 (q := 29) h1 hK dX0_becomes_26 rfl tw_129 ?_
  refine pf_0_6 (q := 32) h0 hK dX0_becomes_29 rfl tw_129 ?_
  refine sV.ltS (fun s4 => ?_)
  refine r_aload_n (q := 33) hK dX0_becomes_32 rfl rfl 0 rfl ?_
  refine r_aload_n (q := 34) hK dX0_becomes_33 rfl rfl 1 rfl ?_
  refine gf_0_7 (q := 37) h1 hK dX0_becomes_34 rfl tw_131 ?_
  refine pf_0_7 (q := 40) h0 hK dX0_becomes_37 rfl tw_131 ?_
  refine sV.ltS (fun s5 => ?_)
  refine r_aload_n (q := 41) hK dX0_becomes_40 rfl rfl 0 rfl ?_
  refine r_aload_n (q := 42) hK dX0_becomes_41 rfl rfl 1 rfl ?_
  refine gf_0_8 (q := 45) h1 hK dX0_becomes_42 rfl tw_133 ?_
  refine pf_0_8 (q := 48) h0 hK dX0_becomes_45 rfl tw_133 ?_
  refine sV.ltS (fun s6 => ?_)
  refine r_aload_n (q := 49) hK dX0_becomes_48 rfl rfl 0 rfl ?_
  refine r_aload_n (q := 50) hK dX0_becomes_49 rfl rfl 1 rfl ?_
  refine gf_0_9 (q := 53) h1 hK dX0_becomes_50 rfl tw_135 ?_
  refine pf_0_9 (q := 56) h0 hK dX0_becomes_53 rfl tw_135 ?_
  refine sV.ltS (fun s7 => ?_)
  refine r_aload_n (q := 57) hK dX0_becomes_56 rfl rfl 0 rfl ?_
  refine r_aload_n (q := 58) hK dX0_becomes_57 rfl rfl 1 rfl ?_
  refine gf_0_10 (q := 61) h1 hK dX0_becomes_58 rfl tw_137 ?_
  refine pf_0_10 (q := 64) h0 hK dX0_becomes_61 rfl tw_137 ?_
  refine sV.ltS (fun s8 => ?_)
  refine r_iconst (q := 65) (v := 0) hK dX0_becomes_64 rfl rfl ?_
  refine r_istore_n (q := 66) (loc' := [(2, .int (0 : Int32)), (0, .ref (gad G a0)), (1, .ref (gad G a1))]) hK dX0_becomes_65 rfl rfl (by decide) rfl ?_
  refine sV.sub [1, 2, 0] (by rfl) (vX0_becomes_L66 s8 a0 h0 a1 h1 hK _ (fun x21 s22 => ?_) FU (0 : Int32) s8)
  refine r_iconst (q := 96) (v := 0) hK dX0_becomes_95 rfl rfl ?_
  refine r_istore_n (q := 97) (loc' := [(2, .int (0 : Int32)), (0, .ref (gad G a0)), (1, .ref (gad G a1))]) hK dX0_becomes_96 rfl rfl (by decide) rfl ?_
  exact sV.sub [1, 2, 0] (by rfl) (vX0_becomes_L97 s22 a0 h0 a1 h1 hK FU (0 : Int32) s22)
def fX0_paidByAll_L4  (o0 : Nat) (σ : Store) : Nat → Int32 → Int32 → Option Int32
  | 0, _, _ => none
  | n + 1, i1, i2 => (if (σ o0 4) ≤ i2 then (some i1) else (six 6 i2 (slt (i1 + (σ (trv o0 i2) 1)) fun x9 => (fX0_paidByAll_L4 o0 σ n x9 (i2 + (1 : Int32))))))
theorem vX0_paidByAll_L4 {G : Geo} {K : KT} {l0 : Launch} (σ : Store) {a : Int32} (o0 : Nat) (ho0 : kdC o0 = 0) (hK : sOk wCls G K l0 RX0 cX0_paidByAll (rmL 1 60) 3 (some .int) (some (.int a)) σ) : ∀ (n : Nat) (i1 : Int32) (i2 : Int32), sV wCls G K a σ 4 [(0, .ref (gad G o0)), (1, .int i1), (2, .int i2)] [] (fX0_paidByAll_L4 o0 σ n i1 i2) := by
  intro n
  induction n with
  | zero =>
    intro i1 i2
    exact sV.no
  | succ n ih =>
    intro i1 i2
    rw [fX0_paidByAll_L4]
    refine r_iload_n (q := 5) hK dX0_paidByAll_4 rfl rfl 2 rfl ?_
    refine r_aload_n (q := 6) hK dX0_paidByAll_5 rfl rfl 0 rfl ?_
    refine gf_0_4 (q := 9) ho0 hK dX0_paidByAll_6 rfl tw_125 ?_
    refine r_icmp_ge (t := 30) (q := 12) hK dX0_paidByAll_9 rfl rfl (fun c7 => ?_) (fun c7 => ?_)
    · refine r_iload_n (q := 31) hK dX0_paidByAll_30 rfl rfl 1 rfl ?_
      exact e_i hK dX0_paidByAll_31
    · refine r_iload_n (q := 13) hK dX0_paidByAll_12 rfl rfl 1 rfl ?_
      refine r_aload_n (q := 14) hK dX0_paidByAll_13 rfl rfl 0 rfl ?_
      refine gf_0_2 (q := 17) ho0 hK dX0_paidByAll_14 rfl tw_120 ?_
      refine r_iload_n (q := 18) hK dX0_paidByAll_17 rfl rfl 2 rfl ?_
      refine r_aald (q := 19) hK dX0_paidByAll_18 rfl (qC12 (kd_bt ho0)) (ty := .object RX6) rfl rfl (r := gad G (trv o0 i2)) rfl (fun h8 => ?_)
      refine gf_6_1 (q := 22) (kd_trv ho0 h8) hK dX0_paidByAll_19 rfl tw_109 ?_
      refine r_iadd (q := 23) hK dX0_paidByAll_22 rfl ?_
      refine sV.ltI (fun x9 => ?_)
      refine r_istore_n (q := 24) (loc' := [(1, .int x9), (0, .ref (gad G o0)), (2, .int i2)]) hK dX0_paidByAll_23 rfl rfl (by decide) rfl ?_
      refine r_iinc (q := 27) (v := (i2 + (1 : Int32))) (loc' := [(2, .int (i2 + (1 : Int32))), (1, .int x9), (0, .ref (gad G o0))]) hK dX0_paidByAll_24 rfl 2 rfl rfl (by decide) rfl ?_
      refine r_goto (q := 4) hK dX0_paidByAll_27 rfl ?_
      exact sV.sub [2, 1, 0] (by rfl) (ih x9 (i2 + (1 : Int32)))
def fX0_paidByAll  (a0 : Nat) (σ : Store) : Option Int32 := (fX0_paidByAll_L4 a0 σ FU (0 : Int32) (0 : Int32))
theorem c_X0_paidByAll {l0 : Launch} {G : Geo} (a0 : Nat) (h0 : kdC a0 = 0) (σ : Store) (a : Int32) (hf : fX0_paidByAll  a0 σ = some a) : sCon l0 wCls G yX0_paidByAll cX0_paidByAll 3 (some .int) (rmL 1 60) [.ref (gad G a0)] σ (some (.int a)) σ := by
  refine sCon.of (by decide) ⟨rfl, rfl⟩ (Nat.le_of_ble_eq_true rfl) RX0 rfl _ hf (fun K hK => ?_)
  show sV wCls G K a σ 0 [(0, .ref (gad G a0))] [] _
  unfold fX0_paidByAll
  refine r_iconst (q := 1) (v := 0) hK dX0_paidByAll_0 rfl rfl ?_
  refine r_istore_n (q := 2) (loc' := [(1, .int (0 : Int32)), (0, .ref (gad G a0))]) hK dX0_paidByAll_1 rfl rfl (by decide) rfl ?_
  refine r_iconst (q := 3) (v := 0) hK dX0_paidByAll_2 rfl rfl ?_
  refine r_istore_n (q := 4) (loc' := [(2, .int (0 : Int32)), (1, .int (0 : Int32)), (0, .ref (gad G a0))]) hK dX0_paidByAll_3 rfl rfl (by decide) rfl ?_
  exact sV.sub [2, 1, 0] (by rfl) (vX0_paidByAll_L4 σ a0 h0 hK FU (0 : Int32) (0 : Int32))
def fX8_behind_L47  (v2 : Int32) (k : Int32 → Store → Option (Int32 × Store)) : Nat → Int32 → Store → Option (Int32 × Store)
  | 0, _, _ => none
  | n + 1, i4, τ => (if v2 ≤ i4 then (k i4 τ) else (sbd (fX0_dayPasses 95 τ) fun s13 => (fX8_behind_L47 v2 k n (i4 + (1 : Int32)) s13)))
theorem vX8_behind_L47 {G : Geo} {K : KT} {l0 : Launch} (σ : Store) {a : (Int32 × Store)} (v1 : Int32) (v2 : Int32) (v3 : Int32) (hK : sOk wCls G K l0 RX8 cX8_behind (rmL 6 180) 5 (some .int) (some (.int a.1)) a.2) (k : Int32 → Store → Option (Int32 × Store)) (hk : ∀ (e4 : Int32) (ε : Store), sV wCls G K a ε 66 [(0, .ref (gad G 0)), (1, .int v1), (2, .int v2), (3, .int v3), (4, .int e4)] [] (k e4 ε)) : ∀ (n : Nat) (i4 : Int32) (τ : Store), sV wCls G K a τ 47 [(0, .ref (gad G 0)), (1, .int v1), (2, .int v2), (3, .int v3), (4, .int i4)] [] (fX8_behind_L47 v2 k n i4 τ) := by
  intro n
  induction n with
  | zero =>
    intro i4 τ
    exact sV.no
  | succ n ih =>
    intro i4 τ
    rw [fX8_behind_L47]
    refine r_iload (q := 49) hK dX8_behind_47 rfl 4 rfl ?_
    refine r_iload_n (q := 50) hK dX8_behind_49 rfl rfl 2 rfl ?_
    refine r_icmp_ge (t := 66) (q := 53) hK dX8_behind_50 rfl rfl (fun c12 => ?_) (fun c12 => ?_)
    · exact sV.sub [0, 1, 2, 3, 4] (by rfl) (hk i4 τ)
    · refine r_aload_n (q := 54) hK dX8_behind_53 rfl rfl 0 rfl ?_
      refine gf_8_3 (q := 57) (rfl : kdC 0 = 8) hK dX8_behind_54 rfl tw_270 ?_
      refine callV_vS (q := 60) (j := 95) (As := []) (rest := []) (f := (fX0_dayPasses 95 τ)) hK dX8_behind_57 rfl (fun b hb => c_X0_dayPasses 95 (rfl : kdC 95 = 0) τ b hb) ⟨0, _, _, _, kd_lt (rfl : kdC 95 = 0) (by decide), rfl, cC0 (rfl : kdC 95 = 0), rfl⟩ mv_X0_dayPasses rfl rfl (Nat.le_of_ble_eq_true rfl) tw_481 mw_X0_dayPasses (rmOk (Nat.le_of_ble_eq_true rfl) (Nat.le_of_ble_eq_true rfl)) (fun s13 => ?_)
      refine r_iinc (q := 63) (v := (i4 + (1 : Int32))) (loc' := [(4, .int (i4 + (1 : Int32))), (0, .ref (gad G 0)), (1, .int v1), (2, .int v2), (3, .int v3)]) hK dX8_behind_60 rfl 4 rfl rfl (by decide) rfl ?_
      refine r_goto (q := 47) hK dX8_behind_63 rfl ?_
      exact sV.sub [1, 2, 3, 4, 0] (by rfl) (ih (i4 + (1 : Int32)) s13)
def fX8_behind  (a1 : Int32) (a2 : Int32) (a3 : Int32) (σ : Store) : Option (Int32 × Store) := (sbd (fX0_hasTraveller 57 a1 σ) fun r1 => (if r1 = true then (sbd (fX8_within a2 (0 : Int32) (60 : Int32) σ) fun r3 => (if r3 = true then (sbd (fX8_within a3 (0 : Int32) (2 : Int32) σ) fun r5 => (if r5 = true then (sbd (fX0_becomes 95 57 σ) fun s7 => (fX8_behind_L47 a2 (fun x14 s15 => (if a3 = (0 : Int32) then (sbd (fX0_paidByAll 95 s15) fun r17 => (some (r17, s15))) else (if a3 = (1 : Int32) then (six 6 a1 (some ((s15 (trv 95 a1) 0), s15))) else (some ((s15 95 6), s15))))) FU (0 : Int32) s7)) else (some ((-1000000001 : Int32), σ)))) else (some ((-1000000001 : Int32), σ)))) else (some ((-1000000001 : Int32), σ))))
theorem c_X8_behind {l0 : Launch} {G : Geo} (a1 : Int32) (a2 : Int32) (a3 : Int32) (σ : Store) (a : (Int32 × Store)) (hf : fX8_behind  a1 a2 a3 σ = some a) : sCon l0 wCls G yX8_behind cX8_behind 5 (some .int) (rmL 6 180) [.ref (gad G 0), .int a1, .int a2, .int a3] σ (some (.int a.1)) a.2 := by
  refine sCon.of (by decide) ⟨rfl, rfl⟩ (Nat.le_of_ble_eq_true rfl) RX8 rfl _ hf (fun K hK => ?_)
  show sV wCls G K a σ 0 [(0, .ref (gad G 0)), (1, .int a1), (2, .int a2), (3, .int a3)] [] _
  unfold fX8_behind
  refine r_aload_n (q := 1) hK dX8_behind_0 rfl rfl 0 rfl ?_
  refine gf_8_1 (q := 4) (rfl : kdC 0 = 8) hK dX8_behind_1 rfl tw_268 ?_
  refine r_iload_n (q := 5) hK dX8_behind_4 rfl rfl 1 rfl ?_
  refine callV_b (q := 8) (j := 57) (As := [.int a1]) (rest := []) (f := (fX0_hasTraveller 57 a1 σ)) hK dX8_behind_5 rfl (fun b hb => c_X0_hasTraveller 57 (rfl : kdC 57 = 0) a1 σ b hb) ⟨0, _, _, _, kd_lt (rfl : kdC 57 = 0) (by decide), rfl, cC0 (rfl : kdC 57 = 0), rfl⟩ mv_X0_hasTraveller rfl rfl (Nat.le_of_ble_eq_true rfl) tw_406 mw_X0_hasTraveller (rmOk (Nat.le_of_ble_eq_true rfl) (Nat.le_of_ble_eq_true rfl)) (fun r1 => ?_)
  refine r_ifb_eq (t := 30) (q := 11) hK dX8_behind_8 rfl rfl (fun c2 => ?_) (fun c2 => ?_)
  · refine r_iload_n (q := 12) hK dX8_behind_11 rfl rfl 2 rfl ?_
    refine r_iconst (q := 13) (v := 0) hK dX8_behind_12 rfl rfl ?_
    refine r_bipush (q := 15) (v := 60) hK dX8_behind_13 rfl rfl ?_
    refine callS_b (q := 18) (As := [.int a2, .int (0 : Int32), .int (60 : Int32)]) (rest := []) (f := (fX8_within a2 (0 : Int32) (60 : Int32) σ)) hK dX8_behind_15 rfl (fun b hb => c_X8_within a2 (0 : Int32) (60 : Int32) σ b hb) ms_X8_within rfl rfl (Nat.le_of_ble_eq_true rfl) tw_314 mw_X8_within (rmOk (Nat.le_of_ble_eq_true rfl) (Nat.le_of_ble_eq_true rfl)) (fun r3 => ?_)
    refine r_ifb_eq (t := 30) (q := 21) hK dX8_behind_18 rfl rfl (fun c4 => ?_) (fun c4 => ?_)
    · refine r_iload_n (q := 22) hK dX8_behind_21 rfl rfl 3 rfl ?_
      refine r_iconst (q := 23) (v := 0) hK dX8_behind_22 rfl rfl ?_
      refine r_iconst (q := 24) (v := 2) hK dX8_behind_23 rfl rfl ?_
      refine callS_b (q := 27) (As := [.int a3, .int (0 : Int32), .int (2 : Int32)]) (rest := []) (f := (fX8_within a3 (0 : Int32) (2 : Int32) σ)) hK dX8_behind_24 rfl (fun b hb => c_X8_within a3 (0 : Int32) (2 : Int32) σ b hb) ms_X8_within rfl rfl (Nat.le_of_ble_eq_true rfl) tw_314 mw_X8_within (rmOk (Nat.le_of_ble_eq_true rfl) (Nat.le_of_ble_eq_true rfl)) (fun r5 => ?_)
      refine r_ifb_ne (t := 33) (q := 30) hK dX8_behind_27 rfl rfl (fun c6 => ?_) (fun c6 => ?_)
      · refine r_aload_n (q := 34) hK dX8_behind_33 rfl rfl 0 rfl ?_
        refine gf_8_3 (q := 37) (rfl : kdC 0 = 8) hK dX8_behind_34 rfl tw_270 ?_
        refine r_aload_n (q := 38) hK dX8_behind_37 rfl rfl 0 rfl ?_
        refine gf_8_1 (q := 41) (rfl : kdC 0 = 8) hK dX8_behind_38 rfl tw_268 ?_
        refine callV_vS (q := 44) (j := 95) (As := [.ref (gad G 57)]) (rest := []) (f := (fX0_becomes 95 57 σ)) hK dX8_behind_41 rfl (fun b hb => c_X0_becomes 95 (rfl : kdC 95 = 0) 57 (rfl : kdC 57 = 0) σ b hb) ⟨0, _, _, _, kd_lt (rfl : kdC 95 = 0) (by decide), rfl, cC0 (rfl : kdC 95 = 0), rfl⟩ mv_X0_becomes rfl rfl (Nat.le_of_ble_eq_true rfl) tw_555 mw_X0_becomes (rmOk (Nat.le_of_ble_eq_true rfl) (Nat.le_of_ble_eq_true rfl)) (fun s7 => ?_)
        refine r_iconst (q := 45) (v := 0) hK dX8_behind_44 rfl rfl ?_
        refine r_istore (q := 47) (loc' := [(4, .int (0 : Int32)), (0, .ref (gad G 0)), (1, .int a1), (2, .int a2), (3, .int a3)]) hK dX8_behind_45 rfl (by decide) rfl ?_
        refine sV.sub [1, 2, 3, 4, 0] (by rfl) (vX8_behind_L47 s7 a1 a2 a3 hK _ (fun x14 s15 => ?_) FU (0 : Int32) s7)
        refine r_iload_n (q := 67) hK dX8_behind_66 rfl rfl 3 rfl ?_
        refine sV.ite (fun c16 => ?_) (fun c16 => ?_)
        · refine r_lsI (t := 92) (0 : Int32) hK dX8_behind_67 c16 rfl rfl rfl ?_
          refine r_aload_n (q := 93) hK dX8_behind_92 rfl rfl 0 rfl ?_
          refine gf_8_3 (q := 96) (rfl : kdC 0 = 8) hK dX8_behind_93 rfl tw_270 ?_
          refine callV_i (q := 99) (j := 95) (As := []) (rest := []) (f := (fX0_paidByAll 95 s15)) hK dX8_behind_96 rfl (fun b hb => c_X0_paidByAll 95 (rfl : kdC 95 = 0) s15 b hb) ⟨0, _, _, _, kd_lt (rfl : kdC 95 = 0) (by decide), rfl, cC0 (rfl : kdC 95 = 0), rfl⟩ mv_X0_paidByAll rfl rfl (Nat.le_of_ble_eq_true rfl) tw_567 mw_X0_paidByAll (rmOk (Nat.le_of_ble_eq_true rfl) (Nat.le_of_ble_eq_true rfl)) (fun r17 => ?_)
          exact e_iS hK dX8_behind_99
        · refine sV.ite (fun c18 => ?_) (fun c18 => ?_)
          · refine r_lsI (t := 100) (1 : Int32) hK dX8_behind_67 c18 rfl rfl rfl ?_
            refine r_aload_n (q := 101) hK dX8_behind_100 rfl rfl 0 rfl ?_
            refine gf_8_3 (q := 104) (rfl : kdC 0 = 8) hK dX8_behind_101 rfl tw_270 ?_
            refine gf_0_2 (q := 107) (rfl : kdC 95 = 0) hK dX8_behind_104 rfl tw_121 ?_
            refine r_iload_n (q := 108) hK dX8_behind_107 rfl rfl 1 rfl ?_
            refine r_aald (q := 109) hK dX8_behind_108 rfl (qC12 (kd_bt (rfl : kdC 95 = 0))) (ty := .object RX6) rfl rfl (r := gad G (trv 95 a1)) rfl (fun h19 => ?_)
            refine gf_6_0 (q := 112) (kd_trv (rfl : kdC 95 = 0) h19) hK dX8_behind_109 rfl tw_107 ?_
            exact e_iS hK dX8_behind_112
          · have ec16 : ¬ (a3).toInt = 0 := ne_ti c16
            have ec18 : ¬ (a3).toInt = 1 := ne_ti c18
            refine r_lsO (t := 113) hK dX8_behind_67 rfl [0, 1] rfl (List.forall_mem_cons.mpr ⟨ec16, (List.forall_mem_cons.mpr ⟨ec18, (List.forall_mem_nil _)⟩)⟩) rfl ?_
            refine r_aload_n (q := 114) hK dX8_behind_113 rfl rfl 0 rfl ?_
            refine gf_8_3 (q := 117) (rfl : kdC 0 = 8) hK dX8_behind_114 rfl tw_270 ?_
            refine gf_0_6 (q := 120) (rfl : kdC 95 = 0) hK dX8_behind_117 rfl tw_130 ?_
            exact e_iS hK dX8_behind_120
      · refine r_ldc (q := 32) hK dX8_behind_30 rfl tw_317 ?_
        exact e_iS hK dX8_behind_32
    · refine r_ldc (q := 32) hK dX8_behind_30 rfl tw_317 ?_
      exact e_iS hK dX8_behind_32
  · refine r_ldc (q := 32) hK dX8_behind_30 rfl tw_317 ?_
    exact e_iS hK dX8_behind_32
def fX8_turnsBy_L13   (k : Int32 → Store → Option (Int32 × Store)) : Nat → Int32 → Store → Option (Int32 × Store)
  | 0, _, _ => none
  | n + 1, i1, τ => (if (200 : Int32) ≤ i1 then (k i1 τ) else (sbd (fX0_isTurned 95 τ) fun r11 => (if r11 = true then (some (i1, τ)) else (sbd (fX0_dayPasses 95 τ) fun s13 => (fX8_turnsBy_L13 k n (i1 + (1 : Int32)) s13)))))
theorem vX8_turnsBy_L13 {G : Geo} {K : KT} {l0 : Launch} (σ : Store) {a : (Int32 × Store)}  (hK : sOk wCls G K l0 RX8 cX8_turnsBy (rmL 6 180) 2 (some .int) (some (.int a.1)) a.2) (k : Int32 → Store → Option (Int32 × Store)) (hk : ∀ (e1 : Int32) (ε : Store), sV wCls G K a ε 45 [(0, .ref (gad G 0)), (1, .int e1)] [] (k e1 ε)) : ∀ (n : Nat) (i1 : Int32) (τ : Store), sV wCls G K a τ 13 [(0, .ref (gad G 0)), (1, .int i1)] [] (fX8_turnsBy_L13  k n i1 τ) := by
  intro n
  induction n with
  | zero =>
    intro i1 τ
    exact sV.no
  | succ n ih =>
    intro i1 τ
    rw [fX8_turnsBy_L13]
    refine r_iload_n (q := 14) hK dX8_turnsBy_13 rfl rfl 1 rfl ?_
    refine r_sipush (q := 17) (v := 200) hK dX8_turnsBy_14 rfl rfl ?_
    refine r_icmp_ge (t := 45) (q := 20) hK dX8_turnsBy_17 rfl rfl (fun c10 => ?_) (fun c10 => ?_)
    · exact sV.sub [0, 1] (by rfl) (hk i1 τ)
    · refine r_aload_n (q := 21) hK dX8_turnsBy_20 rfl rfl 0 rfl ?_
      refine gf_8_3 (q := 24) (rfl : kdC 0 = 8) hK dX8_turnsBy_21 rfl tw_270 ?_
      refine callV_b (q := 27) (j := 95) (As := []) (rest := []) (f := (fX0_isTurned 95 τ)) hK dX8_turnsBy_24 rfl (fun b hb => c_X0_isTurned 95 (rfl : kdC 95 = 0) τ b hb) ⟨0, _, _, _, kd_lt (rfl : kdC 95 = 0) (by decide), rfl, cC0 (rfl : kdC 95 = 0), rfl⟩ mv_X0_isTurned rfl rfl (Nat.le_of_ble_eq_true rfl) tw_467 mw_X0_isTurned (rmOk (Nat.le_of_ble_eq_true rfl) (Nat.le_of_ble_eq_true rfl)) (fun r11 => ?_)
      refine r_ifb_eq (t := 32) (q := 30) hK dX8_turnsBy_27 rfl rfl (fun c12 => ?_) (fun c12 => ?_)
      · refine r_iload_n (q := 31) hK dX8_turnsBy_30 rfl rfl 1 rfl ?_
        exact e_iS hK dX8_turnsBy_31
      · refine r_aload_n (q := 33) hK dX8_turnsBy_32 rfl rfl 0 rfl ?_
        refine gf_8_3 (q := 36) (rfl : kdC 0 = 8) hK dX8_turnsBy_33 rfl tw_270 ?_
        refine callV_vS (q := 39) (j := 95) (As := []) (rest := []) (f := (fX0_dayPasses 95 τ)) hK dX8_turnsBy_36 rfl (fun b hb => c_X0_dayPasses 95 (rfl : kdC 95 = 0) τ b hb) ⟨0, _, _, _, kd_lt (rfl : kdC 95 = 0) (by decide), rfl, cC0 (rfl : kdC 95 = 0), rfl⟩ mv_X0_dayPasses rfl rfl (Nat.le_of_ble_eq_true rfl) tw_481 mw_X0_dayPasses (rmOk (Nat.le_of_ble_eq_true rfl) (Nat.le_of_ble_eq_true rfl)) (fun s13 => ?_)
        refine r_iinc (q := 42) (v := (i1 + (1 : Int32))) (loc' := [(1, .int (i1 + (1 : Int32))), (0, .ref (gad G 0))]) hK dX8_turnsBy_39 rfl 1 rfl rfl (by decide) rfl ?_
        refine r_goto (q := 13) hK dX8_turnsBy_42 rfl ?_
        exact sV.sub [1, 0] (by rfl) (ih (i1 + (1 : Int32)) s13)
def fX8_turnsBy   (σ : Store) : Option (Int32 × Store) := (sbd (fX0_becomes 95 57 σ) fun s1 => (fX8_turnsBy_L13  (fun x14 s15 => (sbd (fX0_isTurned 95 s15) fun r16 => (if r16 = true then (some ((200 : Int32), s15)) else (some ((-1000000005 : Int32), s15))))) FU (0 : Int32) s1))
theorem c_X8_turnsBy {l0 : Launch} {G : Geo}  (σ : Store) (a : (Int32 × Store)) (hf : fX8_turnsBy   σ = some a) : sCon l0 wCls G yX8_turnsBy cX8_turnsBy 2 (some .int) (rmL 6 180) [.ref (gad G 0)] σ (some (.int a.1)) a.2 := by
  refine sCon.of (by decide) ⟨rfl, rfl⟩ (Nat.le_of_ble_eq_true rfl) RX8 rfl _ hf (fun K hK => ?_)
  show sV wCls G K a σ 0 [(0, .ref (gad G 0))] [] _
  unfold fX8_turnsBy
  refine r_aload_n (q := 1) hK dX8_turnsBy_0 rfl rfl 0 rfl ?_
  refine gf_8_3 (q := 4) (rfl : kdC 0 = 8) hK dX8_turnsBy_1 rfl tw_270 ?_
  refine r_aload_n (q := 5) hK dX8_turnsBy_4 rfl rfl 0 rfl ?_
  refine gf_8_1 (q := 8) (rfl : kdC 0 = 8) hK dX8_turnsBy_5 rfl tw_268 ?_
  refine callV_vS (q := 11) (j := 95) (As := [.ref (gad G 57)]) (rest := []) (f := (fX0_becomes 95 57 σ)) hK dX8_turnsBy_8 rfl (fun b hb => c_X0_becomes 95 (rfl : kdC 95 = 0) 57 (rfl : kdC 57 = 0) σ b hb) ⟨0, _, _, _, kd_lt (rfl : kdC 95 = 0) (by decide), rfl, cC0 (rfl : kdC 95 = 0), rfl⟩ mv_X0_becomes rfl rfl (Nat.le_of_ble_eq_true rfl) tw_555 mw_X0_becomes (rmOk (Nat.le_of_ble_eq_true rfl) (Nat.le_of_ble_eq_true rfl)) (fun s1 => ?_)
  refine r_iconst (q := 12) (v := 0) hK dX8_turnsBy_11 rfl rfl ?_
  refine r_istore_n (q := 13) (loc' := [(1, .int (0 : Int32)), (0, .ref (gad G 0))]) hK dX8_turnsBy_12 rfl rfl (by decide) rfl ?_
  refine sV.sub [1, 0] (by rfl) (vX8_turnsBy_L13 s1  hK _ (fun x14 s15 => ?_) FU (0 : Int32) s1)
  refine r_aload_n (q := 46) hK dX8_turnsBy_45 rfl rfl 0 rfl ?_
  refine gf_8_3 (q := 49) (rfl : kdC 0 = 8) hK dX8_turnsBy_46 rfl tw_270 ?_
  refine callV_b (q := 52) (j := 95) (As := []) (rest := []) (f := (fX0_isTurned 95 s15)) hK dX8_turnsBy_49 rfl (fun b hb => c_X0_isTurned 95 (rfl : kdC 95 = 0) s15 b hb) ⟨0, _, _, _, kd_lt (rfl : kdC 95 = 0) (by decide), rfl, cC0 (rfl : kdC 95 = 0), rfl⟩ mv_X0_isTurned rfl rfl (Nat.le_of_ble_eq_true rfl) tw_467 mw_X0_isTurned (rmOk (Nat.le_of_ble_eq_true rfl) (Nat.le_of_ble_eq_true rfl)) (fun r16 => ?_)
  refine r_ifb_eq (t := 61) (q := 55) hK dX8_turnsBy_52 rfl rfl (fun c17 => ?_) (fun c17 => ?_)
  · refine r_sipush (q := 58) (v := 200) hK dX8_turnsBy_55 rfl rfl ?_
    refine r_goto (q := 63) hK dX8_turnsBy_58 rfl ?_
    exact e_iS hK dX8_turnsBy_63
  · refine r_ldc (q := 63) hK dX8_turnsBy_61 rfl tw_522 ?_
    exact e_iS hK dX8_turnsBy_63
def fX3_isMissing  (a0 : Nat) (σ : Store) : Option Bool := (if ¬ (σ a0 0) = (-1 : Int32) then (some false) else (some true))
theorem c_X3_isMissing {l0 : Launch} {G : Geo} (a0 : Nat) (h0 : kdC a0 = 3) (σ : Store) (a : Bool) (hf : fX3_isMissing  a0 σ = some a) : sCon l0 wCls G yX3_isMissing cX3_isMissing 1 (some .boolean) (rmL 1 60) [.ref (gad G a0)] σ (some (.int (b2i a))) σ := by
  refine sCon.of (by decide) ⟨rfl, rfl⟩ (Nat.le_of_ble_eq_true rfl) RX3 rfl _ hf (fun K hK => ?_)
  show sV wCls G K a σ 0 [(0, .ref (gad G a0))] [] _
  unfold fX3_isMissing
  refine r_aload_n (q := 1) hK dX3_isMissing_0 rfl rfl 0 rfl ?_
  refine gf_3_0 (q := 4) h0 hK dX3_isMissing_1 rfl tw_229 ?_
  refine r_iconst (q := 5) (v := -1) hK dX3_isMissing_4 rfl rfl ?_
  refine r_icmp_ne (t := 12) (q := 8) hK dX3_isMissing_5 rfl rfl (fun c1 => ?_) (fun c1 => ?_)
  · refine r_iconst (q := 13) (v := 0) hK dX3_isMissing_12 rfl rfl ?_
    exact e_b (b := false) hK dX3_isMissing_13
  · refine r_iconst (q := 9) (v := 1) hK dX3_isMissing_8 rfl rfl ?_
    refine r_goto (q := 13) hK dX3_isMissing_9 rfl ?_
    exact e_b (b := true) hK dX3_isMissing_13
def fX3_hasPlace  (a0 : Nat) (a1 : Int32) (σ : Store) : Option Bool := (sbd (fX8_within a1 (0 : Int32) ((σ a0 1) - (1 : Int32)) σ) fun r1 => (some r1))
theorem c_X3_hasPlace {l0 : Launch} {G : Geo} (a0 : Nat) (h0 : kdC a0 = 3) (a1 : Int32) (σ : Store) (a : Bool) (hf : fX3_hasPlace  a0 a1 σ = some a) : sCon l0 wCls G yX3_hasPlace cX3_hasPlace 2 (some .boolean) (rmL 2 82) [.ref (gad G a0), .int a1] σ (some (.int (b2i a))) σ := by
  refine sCon.of (by decide) ⟨rfl, rfl⟩ (Nat.le_of_ble_eq_true rfl) RX3 rfl _ hf (fun K hK => ?_)
  show sV wCls G K a σ 0 [(0, .ref (gad G a0)), (1, .int a1)] [] _
  unfold fX3_hasPlace
  refine r_iload_n (q := 1) hK dX3_hasPlace_0 rfl rfl 1 rfl ?_
  refine r_iconst (q := 2) (v := 0) hK dX3_hasPlace_1 rfl rfl ?_
  refine r_aload_n (q := 3) hK dX3_hasPlace_2 rfl rfl 0 rfl ?_
  refine gf_3_1 (q := 6) h0 hK dX3_hasPlace_3 rfl tw_231 ?_
  refine r_iconst (q := 7) (v := 1) hK dX3_hasPlace_6 rfl rfl ?_
  refine r_isub (q := 8) hK dX3_hasPlace_7 rfl ?_
  refine callN_b (q := 11) (host := RX8) (As := [.int a1, .int (0 : Int32), .int ((σ a0 1) - (1 : Int32))]) (rest := []) (f := (fX8_within a1 (0 : Int32) ((σ a0 1) - (1 : Int32)) σ)) hK dX3_hasPlace_8 rfl (fun b hb => c_X8_within a1 (0 : Int32) ((σ a0 1) - (1 : Int32)) σ b hb) (fun s h => h.2.2) ms_X8_within rfl rfl (Nat.le_of_ble_eq_true rfl) mw_X8_within (rmOk (Nat.le_of_ble_eq_true rfl) (Nat.le_of_ble_eq_true rfl)) (fun r1 => ?_)
  exact e_b (b := r1) hK dX3_hasPlace_11
def fX3_isNumber  (a0 : Nat) (a1 : Int32) (σ : Store) : Option Bool := (sbd (fX3_hasPlace a0 a1 σ) fun r1 => (if r1 = true then (six 24 a1 (if (σ (fpl a0) (snx a1)) = (-1000000005 : Int32) then (some false) else (some true))) else (some false)))
theorem c_X3_isNumber {l0 : Launch} {G : Geo} (a0 : Nat) (h0 : kdC a0 = 3) (a1 : Int32) (σ : Store) (a : Bool) (hf : fX3_isNumber  a0 a1 σ = some a) : sCon l0 wCls G yX3_isNumber cX3_isNumber 2 (some .boolean) (rmL 3 103) [.ref (gad G a0), .int a1] σ (some (.int (b2i a))) σ := by
  refine sCon.of (by decide) ⟨rfl, rfl⟩ (Nat.le_of_ble_eq_true rfl) RX3 rfl _ hf (fun K hK => ?_)
  show sV wCls G K a σ 0 [(0, .ref (gad G a0)), (1, .int a1)] [] _
  unfold fX3_isNumber
  refine r_aload_n (q := 1) hK dX3_isNumber_0 rfl rfl 0 rfl ?_
  refine r_iload_n (q := 2) hK dX3_isNumber_1 rfl rfl 1 rfl ?_
  refine callV_b (q := 5) (j := a0) (As := [.int a1]) (rest := []) (f := (fX3_hasPlace a0 a1 σ)) hK dX3_isNumber_2 rfl (fun b hb => c_X3_hasPlace a0 h0 a1 σ b hb) ⟨3, _, _, _, kd_lt h0 (by decide), rfl, cC3 h0, rfl⟩ mv_X3_hasPlace rfl rfl (Nat.le_of_ble_eq_true rfl) tw_595 mw_X3_hasPlace (rmOk (Nat.le_of_ble_eq_true rfl) (Nat.le_of_ble_eq_true rfl)) (fun r1 => ?_)
  refine r_ifb_eq (t := 23) (q := 8) hK dX3_isNumber_5 rfl rfl (fun c2 => ?_) (fun c2 => ?_)
  · refine r_aload_n (q := 9) hK dX3_isNumber_8 rfl rfl 0 rfl ?_
    refine gf_3_2 (q := 12) h0 hK dX3_isNumber_9 rfl tw_233 ?_
    refine r_iload_n (q := 13) hK dX3_isNumber_12 rfl rfl 1 rfl ?_
    refine r_iald (q := 14) hK dX3_isNumber_13 rfl (aC23 (kd_rp h0)) (fun h3 => ?_)
    refine r_ldc (q := 16) hK dX3_isNumber_14 rfl tw_600 ?_
    refine r_icmp_eq (t := 23) (q := 19) hK dX3_isNumber_16 rfl rfl (fun c4 => ?_) (fun c4 => ?_)
    · refine r_iconst (q := 24) (v := 0) hK dX3_isNumber_23 rfl rfl ?_
      exact e_b (b := false) hK dX3_isNumber_24
    · refine r_iconst (q := 20) (v := 1) hK dX3_isNumber_19 rfl rfl ?_
      refine r_goto (q := 24) hK dX3_isNumber_20 rfl ?_
      exact e_b (b := true) hK dX3_isNumber_24
  · refine r_iconst (q := 24) (v := 0) hK dX3_isNumber_23 rfl rfl ?_
    exact e_b (b := false) hK dX3_isNumber_24
def fX8_differences_L34  (o1 : Nat) (o4 : Nat) : Nat → Int32 → Int32 → Store → Option (Int32 × Store)
  | 0, _, _, _ => none
  | n + 1, i5, i6, τ => (if (τ o1 1) ≤ i6 then (some (i5, τ)) else (sjn (fun k55 : Store → Option (Int32 × Store) => (if i6 ≤ 0 then (k55 τ) else (sbd (fX0_dayPasses 95 τ) fun s30 => (k55 s30)))) (fun (s_55 : Store) => (sbd (fX3_isNumber o1 i6 s_55) fun r25 => (if r25 = true then (six 24 i6 (slt (i5 + (sabs ((s_55 o4 4) - (s_55 (fpl o1) (snx i6))))) fun x28 => (fX8_differences_L34 o1 o4 n x28 (i6 + (1 : Int32)) s_55))) else (fX8_differences_L34 o1 o4 n i5 (i6 + (1 : Int32)) s_55))))))
theorem vX8_differences_L34 {G : Geo} {K : KT} {l0 : Launch} (σ : Store) {a : (Int32 × Store)} (o1 : Nat) (ho1 : kdC o1 = 3) (v2 : Int32) (v3 : Int32) (o4 : Nat) (ho4 : kdC o4 = 7) (hK : sOk wCls G K l0 RX8 cX8_differences (rmL 6 180) 7 (some .int) (some (.int a.1)) a.2) : ∀ (n : Nat) (i5 : Int32) (i6 : Int32) (τ : Store), sV wCls G K a τ 34 [(0, .ref (gad G 0)), (1, .ref (gad G o1)), (2, .int v2), (3, .int v3), (4, .ref (gad G o4)), (5, .int i5), (6, .int i6)] [] (fX8_differences_L34 o1 o4 n i5 i6 τ) := by
  intro n
  induction n with
  | zero =>
    intro i5 i6 τ
    exact sV.no
  | succ n ih =>
    intro i5 i6 τ
    rw [fX8_differences_L34]
    refine r_iload (q := 36) hK dX8_differences_34 rfl 6 rfl ?_
    refine r_aload_n (q := 37) hK dX8_differences_36 rfl rfl 1 rfl ?_
    refine gf_3_1 (q := 40) ho1 hK dX8_differences_37 rfl tw_232 ?_
    refine r_icmp_ge (t := 91) (q := 43) hK dX8_differences_40 rfl rfl (fun c22 => ?_) (fun c22 => ?_)
    · refine r_iload (q := 93) hK dX8_differences_91 rfl 5 rfl ?_
      exact e_iS hK dX8_differences_93
    · refine r_iload (q := 45) hK dX8_differences_43 rfl 6 rfl ?_
      refine sV.jn (fun k : Store → Option (Int32 × Store) => ∀ (s_55 : Store), sV wCls G K a s_55 55 [(0, .ref (gad G 0)), (1, .ref (gad G o1)), (2, .int v2), (3, .int v3), (4, .ref (gad G o4)), (5, .int i5), (6, .int i6)] [] (k s_55)) (fun s_55 => ?_) (fun k55 hk55 => ?_)
      · refine r_aload_n (q := 56) hK dX8_differences_55 rfl rfl 1 rfl ?_
        refine r_iload (q := 58) hK dX8_differences_56 rfl 6 rfl ?_
        refine callV_b (q := 61) (j := o1) (As := [.int i6]) (rest := []) (f := (fX3_isNumber o1 i6 s_55)) hK dX8_differences_58 rfl (fun b hb => c_X3_isNumber o1 ho1 i6 s_55 b hb) ⟨3, _, _, _, kd_lt ho1 (by decide), rfl, cC3 ho1, rfl⟩ mv_X3_isNumber rfl rfl (Nat.le_of_ble_eq_true rfl) tw_591 mw_X3_isNumber (rmOk (Nat.le_of_ble_eq_true rfl) (Nat.le_of_ble_eq_true rfl)) (fun r25 => ?_)
        refine r_ifb_eq (t := 85) (q := 64) hK dX8_differences_61 rfl rfl (fun c26 => ?_) (fun c26 => ?_)
        · refine r_iload (q := 66) hK dX8_differences_64 rfl 5 rfl ?_
          refine r_aload (q := 68) hK dX8_differences_66 rfl 4 rfl ?_
          refine gf_7_4 (q := 71) ho4 hK dX8_differences_68 rfl tw_83 ?_
          refine r_aload_n (q := 72) hK dX8_differences_71 rfl rfl 1 rfl ?_
          refine gf_3_2 (q := 75) ho1 hK dX8_differences_72 rfl tw_234 ?_
          refine r_iload (q := 77) hK dX8_differences_75 rfl 6 rfl ?_
          refine r_iald (q := 78) hK dX8_differences_77 rfl (aC23 (kd_rp ho1)) (fun h27 => ?_)
          refine r_isub (q := 79) hK dX8_differences_78 rfl ?_
          refine r_abs (q := 82) hK dX8_differences_79 rfl tw_601 mt_abs (rmM (Nat.le_of_ble_eq_true rfl) (Nat.le_of_ble_eq_true rfl)) ?_
          refine r_iadd (q := 83) hK dX8_differences_82 rfl ?_
          refine sV.ltI (fun x28 => ?_)
          refine r_istore (q := 85) (loc' := [(5, .int x28), (0, .ref (gad G 0)), (1, .ref (gad G o1)), (2, .int v2), (3, .int v3), (4, .ref (gad G o4)), (6, .int i6)]) hK dX8_differences_83 rfl (by decide) rfl ?_
          refine r_iinc (q := 88) (v := (i6 + (1 : Int32))) (loc' := [(6, .int (i6 + (1 : Int32))), (5, .int x28), (0, .ref (gad G 0)), (1, .ref (gad G o1)), (2, .int v2), (3, .int v3), (4, .ref (gad G o4))]) hK dX8_differences_85 rfl 6 rfl rfl (by decide) rfl ?_
          refine r_goto (q := 34) hK dX8_differences_88 rfl ?_
          exact sV.sub [2, 3, 4, 5, 6, 1, 0] (by rfl) (ih x28 (i6 + (1 : Int32)) s_55)
        · refine r_iinc (q := 88) (v := (i6 + (1 : Int32))) (loc' := [(6, .int (i6 + (1 : Int32))), (0, .ref (gad G 0)), (1, .ref (gad G o1)), (2, .int v2), (3, .int v3), (4, .ref (gad G o4)), (5, .int i5)]) hK dX8_differences_85 rfl 6 rfl rfl (by decide) rfl ?_
          refine r_goto (q := 34) hK dX8_differences_88 rfl ?_
          exact sV.sub [1, 2, 3, 4, 5, 6, 0] (by rfl) (ih i5 (i6 + (1 : Int32)) s_55)
      · refine r_if_le (t := 55) (q := 48) hK dX8_differences_45 rfl rfl (fun c29 => ?_) (fun c29 => ?_)
        · exact sV.sub [0, 1, 2, 3, 4, 5, 6] (by rfl) (hk55 τ)
        · refine r_aload_n (q := 49) hK dX8_differences_48 rfl rfl 0 rfl ?_
          refine gf_8_3 (q := 52) (rfl : kdC 0 = 8) hK dX8_differences_49 rfl tw_270 ?_
          refine callV_vS (q := 55) (j := 95) (As := []) (rest := []) (f := (fX0_dayPasses 95 τ)) hK dX8_differences_52 rfl (fun b hb => c_X0_dayPasses 95 (rfl : kdC 95 = 0) τ b hb) ⟨0, _, _, _, kd_lt (rfl : kdC 95 = 0) (by decide), rfl, cC0 (rfl : kdC 95 = 0), rfl⟩ mv_X0_dayPasses rfl rfl (Nat.le_of_ble_eq_true rfl) tw_481 mw_X0_dayPasses (rmOk (Nat.le_of_ble_eq_true rfl) (Nat.le_of_ble_eq_true rfl)) (fun s30 => ?_)
          exact sV.sub [0, 1, 2, 3, 4, 5, 6] (by rfl) (hk55 s30)
def fX8_differences  (a1 : Nat) (a2 : Int32) (a3 : Int32) (σ : Store) : Option (Int32 × Store) := (sbd (fX0_becomes 95 57 σ) fun s1 => (six 10 a2 (slt (sup s1 (wrd 95 a2) 3 a3) fun s3 => (fX8_differences_L34 a1 (wrd 95 a2) FU (0 : Int32) (0 : Int32) s3))))
theorem c_X8_differences {l0 : Launch} {G : Geo} (a1 : Nat) (h1 : kdC a1 = 3) (a2 : Int32) (a3 : Int32) (σ : Store) (a : (Int32 × Store)) (hf : fX8_differences  a1 a2 a3 σ = some a) : sCon l0 wCls G yX8_differences cX8_differences 7 (some .int) (rmL 6 180) [.ref (gad G 0), .ref (gad G a1), .int a2, .int a3] σ (some (.int a.1)) a.2 := by
  refine sCon.of (by decide) ⟨rfl, rfl⟩ (Nat.le_of_ble_eq_true rfl) RX8 rfl _ hf (fun K hK => ?_)
  show sV wCls G K a σ 0 [(0, .ref (gad G 0)), (1, .ref (gad G a1)), (2, .int a2), (3, .int a3)] [] _
  unfold fX8_differences
  refine r_aload_n (q := 1) hK dX8_differences_0 rfl rfl 0 rfl ?_
  refine gf_8_3 (q := 4) (rfl : kdC 0 = 8) hK dX8_differences_1 rfl tw_270 ?_
  refine r_aload_n (q := 5) hK dX8_differences_4 rfl rfl 0 rfl ?_
  refine gf_8_1 (q := 8) (rfl : kdC 0 = 8) hK dX8_differences_5 rfl tw_268 ?_
  refine callV_vS (q := 11) (j := 95) (As := [.ref (gad G 57)]) (rest := []) (f := (fX0_becomes 95 57 σ)) hK dX8_differences_8 rfl (fun b hb => c_X0_becomes 95 (rfl : kdC 95 = 0) 57 (rfl : kdC 57 = 0) σ b hb) ⟨0, _, _, _, kd_lt (rfl : kdC 95 = 0) (by decide), rfl, cC0 (rfl : kdC 95 = 0), rfl⟩ mv_X0_becomes rfl rfl (Nat.le_of_ble_eq_true rfl) tw_555 mw_X0_becomes (rmOk (Nat.le_of_ble_eq_true rfl) (Nat.le_of_ble_eq_true rfl)) (fun s1 => ?_)
  refine r_aload_n (q := 12) hK dX8_differences_11 rfl rfl 0 rfl ?_
  refine gf_8_3 (q := 15) (rfl : kdC 0 = 8) hK dX8_differences_12 rfl tw_270 ?_
  refine gf_0_1 (q := 18) (rfl : kdC 95 = 0) hK dX8_differences_15 rfl tw_118 ?_
  refine r_iload_n (q := 19) hK dX8_differences_18 rfl rfl 2 rfl ?_
  refine r_aald (q := 20) hK dX8_differences_19 rfl (qC13 (kd_bw (rfl : kdC 95 = 0))) (ty := .object RX7) rfl rfl (r := gad G (wrd 95 a2)) rfl (fun h2 => ?_)
  refine r_astore (q := 22) (loc' := [(4, .ref (gad G (wrd 95 a2))), (0, .ref (gad G 0)), (1, .ref (gad G a1)), (2, .int a2), (3, .int a3)]) hK dX8_differences_20 rfl (by decide) rfl ?_
  refine r_aload (q := 24) hK dX8_differences_22 rfl 0 rfl ?_
  refine r_iload_n (q := 25) hK dX8_differences_24 rfl rfl 4 rfl ?_
  refine pf_7_3 (q := 28) (kd_wrd (rfl : kdC 95 = 0) h2) hK dX8_differences_25 rfl tw_80 ?_
  refine sV.ltS (fun s3 => ?_)
  refine r_iconst (q := 29) (v := 0) hK dX8_differences_28 rfl rfl ?_
  refine r_istore (q := 31) (loc' := [(5, .int (0 : Int32)), (4, .ref (gad G (wrd 95 a2))), (0, .ref (gad G 0)), (1, .ref (gad G a1)), (2, .int a2), (3, .int a3)]) hK dX8_differences_29 rfl (by decide) rfl ?_
  refine r_iconst (q := 32) (v := 0) hK dX8_differences_31 rfl rfl ?_
  refine r_istore (q := 34) (loc' := [(6, .int (0 : Int32)), (5, .int (0 : Int32)), (4, .ref (gad G (wrd 95 a2))), (0, .ref (gad G 0)), (1, .ref (gad G a1)), (2, .int a2), (3, .int a3)]) hK dX8_differences_32 rfl (by decide) rfl ?_
  exact sV.sub [3, 4, 5, 6, 2, 1, 0] (by rfl) (vX8_differences_L34 s3 a1 h1 a2 a3 (wrd 95 a2) (kd_wrd (rfl : kdC 95 = 0) h2) hK FU (0 : Int32) (0 : Int32) s3)
def fX8_isSheet  (a0 : Int32) (σ : Store) : Option Bool := (sbd (fX8_within a0 (0 : Int32) (3 : Int32) σ) fun r1 => (some r1))
theorem c_X8_isSheet {l0 : Launch} {G : Geo} (a0 : Int32) (σ : Store) (a : Bool) (hf : fX8_isSheet  a0 σ = some a) : sCon l0 wCls G yX8_isSheet cX8_isSheet 1 (some .boolean) (rmL 2 82) [.int a0] σ (some (.int (b2i a))) σ := by
  refine sCon.of (by decide) ⟨rfl, rfl⟩ (Nat.le_of_ble_eq_true rfl) RX8 rfl _ hf (fun K hK => ?_)
  show sV wCls G K a σ 0 [(0, .int a0)] [] _
  unfold fX8_isSheet
  refine r_iload_n (q := 1) hK dX8_isSheet_0 rfl rfl 0 rfl ?_
  refine r_iconst (q := 2) (v := 0) hK dX8_isSheet_1 rfl rfl ?_
  refine r_iconst (q := 3) (v := 3) hK dX8_isSheet_2 rfl rfl ?_
  refine callS_b (q := 6) (As := [.int a0, .int (0 : Int32), .int (3 : Int32)]) (rest := []) (f := (fX8_within a0 (0 : Int32) (3 : Int32) σ)) hK dX8_isSheet_3 rfl (fun b hb => c_X8_within a0 (0 : Int32) (3 : Int32) σ b hb) ms_X8_within rfl rfl (Nat.le_of_ble_eq_true rfl) tw_314 mw_X8_within (rmOk (Nat.le_of_ble_eq_true rfl) (Nat.le_of_ble_eq_true rfl)) (fun r1 => ?_)
  exact e_b (b := r1) hK dX8_isSheet_6
def fX8_quota_L65  (v1 : Int32) (v2 : Int32) (k : Int32 → Int32 → Int32 → Store → Option (Int32 × Store)) : Nat → Int32 → Int32 → Int32 → Store → Option (Int32 × Store)
  | 0, _, _, _, _ => none
  | n + 1, i4, i5, i6, τ => (if (20 : Int32) < i6 then (k i4 i5 i6 τ) else (six 4 v1 (sbd2 (fX8_differences (shr v1) v2 i6 τ) fun r25 s26 => (if i5 ≤ r25 then (fX8_quota_L65 v1 v2 k n i4 i5 (i6 + (1 : Int32)) s26) else (fX8_quota_L65 v1 v2 k n i6 r25 (i6 + (1 : Int32)) s26)))))
theorem vX8_quota_L65 {G : Geo} {K : KT} {l0 : Launch} (σ : Store) {a : (Int32 × Store)} (v1 : Int32) (v2 : Int32) (v3 : Int32) (hK : sOk wCls G K l0 RX8 cX8_quota (rmL 7 206) 8 (some .int) (some (.int a.1)) a.2) (k : Int32 → Int32 → Int32 → Store → Option (Int32 × Store)) (hk : ∀ (e4 : Int32) (e5 : Int32) (e6 : Int32) (ε : Store), sV wCls G K a ε 108 [(0, .ref (gad G 0)), (1, .int v1), (2, .int v2), (3, .int v3), (4, .int e4), (5, .int e5), (6, .int e6)] [] (k e4 e5 e6 ε)) : ∀ (n : Nat) (i4 : Int32) (i5 : Int32) (i6 : Int32) (τ : Store), sV wCls G K a τ 65 [(0, .ref (gad G 0)), (1, .int v1), (2, .int v2), (3, .int v3), (4, .int i4), (5, .int i5), (6, .int i6)] [] (fX8_quota_L65 v1 v2 k n i4 i5 i6 τ) := by
  intro n
  induction n with
  | zero =>
    intro i4 i5 i6 τ
    exact sV.no
  | succ n ih =>
    intro i4 i5 i6 τ
    rw [fX8_quota_L65]
    refine r_iload (q := 67) hK dX8_quota_65 rfl 6 rfl ?_
    refine r_bipush (q := 69) (v := 20) hK dX8_quota_67 rfl rfl ?_
    refine r_icmp_gt (t := 108) (q := 72) hK dX8_quota_69 rfl rfl (fun c23 => ?_) (fun c23 => ?_)
    · exact sV.sub [0, 1, 2, 3, 4, 5, 6] (by rfl) (hk i4 i5 i6 τ)
    · refine r_aload_n (q := 73) hK dX8_quota_72 rfl rfl 0 rfl ?_
      refine r_aload_n (q := 74) hK dX8_quota_73 rfl rfl 0 rfl ?_
      refine gf_8_7 (q := 77) (rfl : kdC 0 = 8) hK dX8_quota_74 rfl tw_274 ?_
      refine r_iload_n (q := 78) hK dX8_quota_77 rfl rfl 1 rfl ?_
      refine r_aald (q := 79) hK dX8_quota_78 rfl (qC10 (rfl : kdC 26 = 10)) (ty := .object RX3) rfl rfl (r := gad G (shr v1)) rfl (fun h24 => ?_)
      refine r_iload_n (q := 80) hK dX8_quota_79 rfl rfl 2 rfl ?_
      refine r_iload (q := 82) hK dX8_quota_80 rfl 6 rfl ?_
      refine callV_iS (q := 85) (j := 0) (As := [.ref (gad G (shr v1)), .int v2, .int i6]) (rest := []) (f := (fX8_differences (shr v1) v2 i6 τ)) hK dX8_quota_82 rfl (fun b hb => c_X8_differences (shr v1) (kd_shr h24) v2 i6 τ b hb) ⟨8, _, _, _, kd_lt (rfl : kdC 0 = 8) (by decide), rfl, cC8 (rfl : kdC 0 = 8), rfl⟩ mv_X8_differences rfl rfl (Nat.le_of_ble_eq_true rfl) tw_587 mw_X8_differences (rmOk (Nat.le_of_ble_eq_true rfl) (Nat.le_of_ble_eq_true rfl)) (fun r25 s26 => ?_)
      refine r_istore (q := 87) (loc' := [(7, .int r25), (0, .ref (gad G 0)), (1, .int v1), (2, .int v2), (3, .int v3), (4, .int i4), (5, .int i5), (6, .int i6)]) hK dX8_quota_85 rfl (by decide) rfl ?_
      refine r_iload (q := 89) hK dX8_quota_87 rfl 0 rfl ?_
      refine r_iload (q := 91) hK dX8_quota_89 rfl 6 rfl ?_
      refine r_icmp_ge (t := 102) (q := 94) hK dX8_quota_91 rfl rfl (fun c27 => ?_) (fun c27 => ?_)
      · refine r_iinc (q := 105) (v := (i6 + (1 : Int32))) (loc' := [(6, .int (i6 + (1 : Int32))), (7, .int r25), (0, .ref (gad G 0)), (1, .int v1), (2, .int v2), (3, .int v3), (4, .int i4), (5, .int i5)]) hK dX8_quota_102 rfl 7 rfl rfl (by decide) rfl ?_
        refine r_goto (q := 65) hK dX8_quota_105 rfl ?_
        exact sV.sub [2, 3, 4, 5, 6, 7, 0] (by rfl) (ih i4 i5 (i6 + (1 : Int32)) s26)
      · refine r_iload (q := 96) hK dX8_quota_94 rfl 0 rfl ?_
        refine r_istore (q := 98) (loc' := [(5, .int r25), (7, .int r25), (0, .ref (gad G 0)), (1, .int v1), (2, .int v2), (3, .int v3), (4, .int i4), (6, .int i6)]) hK dX8_quota_96 rfl (by decide) rfl ?_
        refine r_iload (q := 100) hK dX8_quota_98 rfl 7 rfl ?_
        refine r_istore (q := 102) (loc' := [(4, .int i6), (5, .int r25), (7, .int r25), (0, .ref (gad G 0)), (1, .int v1), (2, .int v2), (3, .int v3), (6, .int i6)]) hK dX8_quota_100 rfl (by decide) rfl ?_
        refine r_iinc (q := 105) (v := (i6 + (1 : Int32))) (loc' := [(6, .int (i6 + (1 : Int32))), (4, .int i6), (5, .int r25), (7, .int r25), (0, .ref (gad G 0)), (1, .int v1), (2, .int v2), (3, .int v3)]) hK dX8_quota_102 rfl 7 rfl rfl (by decide) rfl ?_
        refine r_goto (q := 65) hK dX8_quota_105 rfl ?_
        exact sV.sub [4, 5, 6, 7, 1, 2, 0] (by rfl) (ih i6 r25 (i6 + (1 : Int32)) s26)
def fX8_quota  (a1 : Int32) (a2 : Int32) (a3 : Int32) (σ : Store) : Option (Int32 × Store) := (sbd (fX8_isSheet a1 σ) fun r1 => (if r1 = true then (sbd (fX0_hasWord 57 a2 σ) fun r3 => (if r3 = true then (sbd (fX8_within a3 (0 : Int32) (1 : Int32) σ) fun r5 => (if r5 = true then (six 4 a1 (sbd (fX3_isMissing (shr a1) σ) fun r8 => (if r8 = true then (some ((-1000000011 : Int32), σ)) else (six 4 a1 (sbd2 (fX8_differences (shr a1) a2 (0 : Int32) σ) fun r11 s12 => (fX8_quota_L65 a1 a2 (fun x28 x29 x30 s31 => (if ¬ a3 = 0 then (some (x29, s31)) else (some (x28, s31)))) FU (0 : Int32) r11 (1 : Int32) s12)))))) else (some ((-1000000001 : Int32), σ)))) else (some ((-1000000001 : Int32), σ)))) else (some ((-1000000001 : Int32), σ))))
theorem c_X8_quota {l0 : Launch} {G : Geo} (a1 : Int32) (a2 : Int32) (a3 : Int32) (σ : Store) (a : (Int32 × Store)) (hf : fX8_quota  a1 a2 a3 σ = some a) : sCon l0 wCls G yX8_quota cX8_quota 8 (some .int) (rmL 7 206) [.ref (gad G 0), .int a1, .int a2, .int a3] σ (some (.int a.1)) a.2 := by
  refine sCon.of (by decide) ⟨rfl, rfl⟩ (Nat.le_of_ble_eq_true rfl) RX8 rfl _ hf (fun K hK => ?_)
  show sV wCls G K a σ 0 [(0, .ref (gad G 0)), (1, .int a1), (2, .int a2), (3, .int a3)] [] _
  unfold fX8_quota
  refine r_iload_n (q := 1) hK dX8_quota_0 rfl rfl 1 rfl ?_
  refine callS_b (q := 4) (As := [.int a1]) (rest := []) (f := (fX8_isSheet a1 σ)) hK dX8_quota_1 rfl (fun b hb => c_X8_isSheet a1 σ b hb) ms_X8_isSheet rfl rfl (Nat.le_of_ble_eq_true rfl) tw_579 mw_X8_isSheet (rmOk (Nat.le_of_ble_eq_true rfl) (Nat.le_of_ble_eq_true rfl)) (fun r1 => ?_)
  refine r_ifb_eq (t := 27) (q := 7) hK dX8_quota_4 rfl rfl (fun c2 => ?_) (fun c2 => ?_)
  · refine r_aload_n (q := 8) hK dX8_quota_7 rfl rfl 0 rfl ?_
    refine gf_8_1 (q := 11) (rfl : kdC 0 = 8) hK dX8_quota_8 rfl tw_268 ?_
    refine r_iload_n (q := 12) hK dX8_quota_11 rfl rfl 2 rfl ?_
    refine callV_b (q := 15) (j := 57) (As := [.int a2]) (rest := []) (f := (fX0_hasWord 57 a2 σ)) hK dX8_quota_12 rfl (fun b hb => c_X0_hasWord 57 (rfl : kdC 57 = 0) a2 σ b hb) ⟨0, _, _, _, kd_lt (rfl : kdC 57 = 0) (by decide), rfl, cC0 (rfl : kdC 57 = 0), rfl⟩ mv_X0_hasWord rfl rfl (Nat.le_of_ble_eq_true rfl) tw_327 mw_X0_hasWord (rmOk (Nat.le_of_ble_eq_true rfl) (Nat.le_of_ble_eq_true rfl)) (fun r3 => ?_)
    refine r_ifb_eq (t := 27) (q := 18) hK dX8_quota_15 rfl rfl (fun c4 => ?_) (fun c4 => ?_)
    · refine r_iload_n (q := 19) hK dX8_quota_18 rfl rfl 3 rfl ?_
      refine r_iconst (q := 20) (v := 0) hK dX8_quota_19 rfl rfl ?_
      refine r_iconst (q := 21) (v := 1) hK dX8_quota_20 rfl rfl ?_
      refine callS_b (q := 24) (As := [.int a3, .int (0 : Int32), .int (1 : Int32)]) (rest := []) (f := (fX8_within a3 (0 : Int32) (1 : Int32) σ)) hK dX8_quota_21 rfl (fun b hb => c_X8_within a3 (0 : Int32) (1 : Int32) σ b hb) ms_X8_within rfl rfl (Nat.le_of_ble_eq_true rfl) tw_314 mw_X8_within (rmOk (Nat.le_of_ble_eq_true rfl) (Nat.le_of_ble_eq_true rfl)) (fun r5 => ?_)
      refine r_ifb_ne (t := 30) (q := 27) hK dX8_quota_24 rfl rfl (fun c6 => ?_) (fun c6 => ?_)
      · refine r_aload_n (q := 31) hK dX8_quota_30 rfl rfl 0 rfl ?_
        refine gf_8_7 (q := 34) (rfl : kdC 0 = 8) hK dX8_quota_31 rfl tw_274 ?_
        refine r_iload_n (q := 35) hK dX8_quota_34 rfl rfl 1 rfl ?_
        refine r_aald (q := 36) hK dX8_quota_35 rfl (qC10 (rfl : kdC 26 = 10)) (ty := .object RX3) rfl rfl (r := gad G (shr a1)) rfl (fun h7 => ?_)
        refine callV_b (q := 39) (j := (shr a1)) (As := []) (rest := []) (f := (fX3_isMissing (shr a1) σ)) hK dX8_quota_36 rfl (fun b hb => c_X3_isMissing (shr a1) (kd_shr h7) σ b hb) ⟨3, _, _, _, kd_lt (kd_shr h7) (by decide), rfl, cC3 (kd_shr h7), rfl⟩ mv_X3_isMissing rfl rfl (Nat.le_of_ble_eq_true rfl) tw_582 mw_X3_isMissing (rmOk (Nat.le_of_ble_eq_true rfl) (Nat.le_of_ble_eq_true rfl)) (fun r8 => ?_)
        refine r_ifb_eq (t := 45) (q := 42) hK dX8_quota_39 rfl rfl (fun c9 => ?_) (fun c9 => ?_)
        · refine r_ldc (q := 44) hK dX8_quota_42 rfl tw_586 ?_
          exact e_iS hK dX8_quota_44
        · refine r_iconst (q := 46) (v := 0) hK dX8_quota_45 rfl rfl ?_
          refine r_istore (q := 48) (loc' := [(4, .int (0 : Int32)), (0, .ref (gad G 0)), (1, .int a1), (2, .int a2), (3, .int a3)]) hK dX8_quota_46 rfl (by decide) rfl ?_
          refine r_aload_n (q := 49) hK dX8_quota_48 rfl rfl 1 rfl ?_
          refine r_aload_n (q := 50) hK dX8_quota_49 rfl rfl 1 rfl ?_
          refine gf_8_7 (q := 53) (rfl : kdC 0 = 8) hK dX8_quota_50 rfl tw_274 ?_
          refine r_iload_n (q := 54) hK dX8_quota_53 rfl rfl 2 rfl ?_
          refine r_aald (q := 55) hK dX8_quota_54 rfl (qC10 (rfl : kdC 26 = 10)) (ty := .object RX3) rfl rfl (r := gad G (shr a1)) rfl (fun h10 => ?_)
          refine r_iload_n (q := 56) hK dX8_quota_55 rfl rfl 3 rfl ?_
          refine r_iconst (q := 57) (v := 0) hK dX8_quota_56 rfl rfl ?_
          refine callV_iS (q := 60) (j := 0) (As := [.ref (gad G (shr a1)), .int a2, .int (0 : Int32)]) (rest := []) (f := (fX8_differences (shr a1) a2 (0 : Int32) σ)) hK dX8_quota_57 rfl (fun b hb => c_X8_differences (shr a1) (kd_shr h10) a2 (0 : Int32) σ b hb) ⟨8, _, _, _, kd_lt (rfl : kdC 0 = 8) (by decide), rfl, cC8 (rfl : kdC 0 = 8), rfl⟩ mv_X8_differences rfl rfl (Nat.le_of_ble_eq_true rfl) tw_587 mw_X8_differences (rmOk (Nat.le_of_ble_eq_true rfl) (Nat.le_of_ble_eq_true rfl)) (fun r11 s12 => ?_)
          refine r_istore (q := 62) (loc' := [(5, .int r11), (4, .int (0 : Int32)), (0, .ref (gad G 0)), (1, .int a1), (2, .int a2), (3, .int a3)]) hK dX8_quota_60 rfl (by decide) rfl ?_
          refine r_iconst (q := 63) (v := 1) hK dX8_quota_62 rfl rfl ?_
          refine r_istore (q := 65) (loc' := [(6, .int (1 : Int32)), (5, .int r11), (4, .int (0 : Int32)), (0, .ref (gad G 0)), (1, .int a1), (2, .int a2), (3, .int a3)]) hK dX8_quota_63 rfl (by decide) rfl ?_
          refine sV.sub [3, 4, 5, 6, 2, 1, 0] (by rfl) (vX8_quota_L65 s12 a1 a2 a3 hK _ (fun x28 x29 x30 s31 => ?_) FU (0 : Int32) r11 (1 : Int32) s12)
          refine r_iload_n (q := 109) hK dX8_quota_108 rfl rfl 3 rfl ?_
          refine r_if_ne (t := 117) (q := 112) hK dX8_quota_109 rfl rfl (fun c32 => ?_) (fun c32 => ?_)
          · refine r_iload (q := 119) hK dX8_quota_117 rfl 5 rfl ?_
            exact e_iS hK dX8_quota_119
          · refine r_iload (q := 114) hK dX8_quota_112 rfl 4 rfl ?_
            refine r_goto (q := 119) hK dX8_quota_114 rfl ?_
            exact e_iS hK dX8_quota_119
      · refine r_ldc (q := 29) hK dX8_quota_27 rfl tw_317 ?_
        exact e_iS hK dX8_quota_29
    · refine r_ldc (q := 29) hK dX8_quota_27 rfl tw_317 ?_
      exact e_iS hK dX8_quota_29
  · refine r_ldc (q := 29) hK dX8_quota_27 rfl tw_317 ?_
    exact e_iS hK dX8_quota_29
def fX8_bill  (a1 : Int32) (σ : Store) : Option (Int32 × Store) := (sbd (fX0_hasTraveller 57 a1 σ) fun r1 => (if r1 = true then (six 6 a1 (sbd (fX0_countingText 57 (1 : Int32) σ) fun r4 => (if ¬ r4 = (-1000000005 : Int32) then (sbd (fJ6_bitCount_0f7a4 (σ (trv 57 a1) 0) σ) fun r6 => (sbd2 (fX1_value r4 (σ (trv 57 a1) 1) r6 (0 : Int32) σ) fun r7 s8 => (some (r7, s8)))) else (some ((σ (trv 57 a1) 1), σ))))) else (some ((-1000000001 : Int32), σ))))
theorem c_X8_bill {l0 : Launch} {G : Geo} (a1 : Int32) (σ : Store) (a : (Int32 × Store)) (hf : fX8_bill  a1 σ = some a) : sCon l0 wCls G yX8_bill cX8_bill 4 (some .int) (rmL 3 110) [.ref (gad G 0), .int a1] σ (some (.int a.1)) a.2 := by
  refine sCon.of (by decide) ⟨rfl, rfl⟩ (Nat.le_of_ble_eq_true rfl) RX8 rfl _ hf (fun K hK => ?_)
  show sV wCls G K a σ 0 [(0, .ref (gad G 0)), (1, .int a1)] [] _
  unfold fX8_bill
  refine r_aload_n (q := 1) hK dX8_bill_0 rfl rfl 0 rfl ?_
  refine gf_8_1 (q := 4) (rfl : kdC 0 = 8) hK dX8_bill_1 rfl tw_268 ?_
  refine r_iload_n (q := 5) hK dX8_bill_4 rfl rfl 1 rfl ?_
  refine callV_b (q := 8) (j := 57) (As := [.int a1]) (rest := []) (f := (fX0_hasTraveller 57 a1 σ)) hK dX8_bill_5 rfl (fun b hb => c_X0_hasTraveller 57 (rfl : kdC 57 = 0) a1 σ b hb) ⟨0, _, _, _, kd_lt (rfl : kdC 57 = 0) (by decide), rfl, cC0 (rfl : kdC 57 = 0), rfl⟩ mv_X0_hasTraveller rfl rfl (Nat.le_of_ble_eq_true rfl) tw_406 mw_X0_hasTraveller (rmOk (Nat.le_of_ble_eq_true rfl) (Nat.le_of_ble_eq_true rfl)) (fun r1 => ?_)
  refine r_ifb_ne (t := 14) (q := 11) hK dX8_bill_8 rfl rfl (fun c2 => ?_) (fun c2 => ?_)
  · refine r_aload_n (q := 15) hK dX8_bill_14 rfl rfl 0 rfl ?_
    refine gf_8_1 (q := 18) (rfl : kdC 0 = 8) hK dX8_bill_15 rfl tw_268 ?_
    refine gf_0_2 (q := 21) (rfl : kdC 57 = 0) hK dX8_bill_18 rfl tw_121 ?_
    refine r_iload_n (q := 22) hK dX8_bill_21 rfl rfl 1 rfl ?_
    refine r_aald (q := 23) hK dX8_bill_22 rfl (qC12 (kd_bt (rfl : kdC 57 = 0))) (ty := .object RX6) rfl rfl (r := gad G (trv 57 a1)) rfl (fun h3 => ?_)
    refine r_astore_n (q := 24) (loc' := [(2, .ref (gad G (trv 57 a1))), (0, .ref (gad G 0)), (1, .int a1)]) hK dX8_bill_23 rfl rfl (by decide) rfl ?_
    refine r_aload_n (q := 25) hK dX8_bill_24 rfl rfl 1 rfl ?_
    refine gf_8_1 (q := 28) (rfl : kdC 0 = 8) hK dX8_bill_25 rfl tw_268 ?_
    refine r_iconst (q := 29) (v := 1) hK dX8_bill_28 rfl rfl ?_
    refine callV_i (q := 32) (j := 57) (As := [.int (1 : Int32)]) (rest := []) (f := (fX0_countingText 57 (1 : Int32) σ)) hK dX8_bill_29 rfl (fun b hb => c_X0_countingText 57 (rfl : kdC 57 = 0) (1 : Int32) σ b hb) ⟨0, _, _, _, kd_lt (rfl : kdC 57 = 0) (by decide), rfl, cC0 (rfl : kdC 57 = 0), rfl⟩ mv_X0_countingText rfl rfl (Nat.le_of_ble_eq_true rfl) tw_608 mw_X0_countingText (rmOk (Nat.le_of_ble_eq_true rfl) (Nat.le_of_ble_eq_true rfl)) (fun r4 => ?_)
    refine r_istore_n (q := 33) (loc' := [(3, .int r4), (2, .ref (gad G (trv 57 a1))), (0, .ref (gad G 0)), (1, .int a1)]) hK dX8_bill_32 rfl rfl (by decide) rfl ?_
    refine r_iload_n (q := 34) hK dX8_bill_33 rfl rfl 0 rfl ?_
    refine r_ldc (q := 36) hK dX8_bill_34 rfl tw_522 ?_
    refine r_icmp_ne (t := 46) (q := 39) hK dX8_bill_36 rfl rfl (fun c5 => ?_) (fun c5 => ?_)
    · refine r_aload_n (q := 47) hK dX8_bill_46 rfl rfl 2 rfl ?_
      refine gf_8_0 (q := 50) (rfl : kdC 0 = 8) hK dX8_bill_47 rfl tw_267 ?_
      refine r_iload_n (q := 51) hK dX8_bill_50 rfl rfl 0 rfl ?_
      refine r_aload_n (q := 52) hK dX8_bill_51 rfl rfl 1 rfl ?_
      refine gf_6_1 (q := 55) (kd_trv (rfl : kdC 57 = 0) h3) hK dX8_bill_52 rfl tw_110 ?_
      refine r_aload_n (q := 56) hK dX8_bill_55 rfl rfl 1 rfl ?_
      refine gf_6_0 (q := 59) (kd_trv (rfl : kdC 57 = 0) h3) hK dX8_bill_56 rfl tw_107 ?_
      refine callS_i (q := 62) (As := [.int (σ (trv 57 a1) 0)]) (rest := [.int (σ (trv 57 a1) 1), .int r4, .ref (gad G 1)]) (f := (fJ6_bitCount_0f7a4 (σ (trv 57 a1) 0) σ)) hK dX8_bill_59 rfl (fun b hb => c_J6_bitCount_0f7a4 (σ (trv 57 a1) 0) σ b hb) ms_J6_bitCount_0f7a4 rfl rfl (Nat.le_of_ble_eq_true rfl) tw_472 mw_J6_bitCount_0f7a4 (rmOk (Nat.le_of_ble_eq_true rfl) (Nat.le_of_ble_eq_true rfl)) (fun r6 => ?_)
      refine r_iconst (q := 63) (v := 0) hK dX8_bill_62 rfl rfl ?_
      refine callV_iS (q := 66) (j := 1) (As := [.int r4, .int (σ (trv 57 a1) 1), .int r6, .int (0 : Int32)]) (rest := []) (f := (fX1_value r4 (σ (trv 57 a1) 1) r6 (0 : Int32) σ)) hK dX8_bill_63 rfl (fun b hb => c_X1_value r4 (σ (trv 57 a1) 1) r6 (0 : Int32) σ b hb) ⟨1, _, _, _, kd_lt (rfl : kdC 1 = 1) (by decide), rfl, cC1 (rfl : kdC 1 = 1), rfl⟩ mv_X1_value rfl rfl (Nat.le_of_ble_eq_true rfl) tw_609 mw_X1_value (rmOk (Nat.le_of_ble_eq_true rfl) (Nat.le_of_ble_eq_true rfl)) (fun r7 s8 => ?_)
      exact e_iS hK dX8_bill_66
    · refine r_aload_n (q := 40) hK dX8_bill_39 rfl rfl 1 rfl ?_
      refine gf_6_1 (q := 43) (kd_trv (rfl : kdC 57 = 0) h3) hK dX8_bill_40 rfl tw_110 ?_
      refine r_goto (q := 66) hK dX8_bill_43 rfl ?_
      exact e_iS hK dX8_bill_66
  · refine r_ldc (q := 13) hK dX8_bill_11 rfl tw_317 ?_
    exact e_iS hK dX8_bill_13
def fX8_fine   (σ : Store) : Option (Int32 × Store) := (sbd (fX0_stampsOfAll 57 σ) fun r1 => (sbd (fX0_countingText 57 (2 : Int32) σ) fun r2 => (if ¬ r2 = (-1000000005 : Int32) then (sbd (fJ6_bitCount_0f7a4 (σ 57 6) σ) fun r4 => (sbd2 (fX1_value r2 r1 r4 (0 : Int32) σ) fun r5 s6 => (some (r5, s6)))) else (some (r1, σ)))))
theorem c_X8_fine {l0 : Launch} {G : Geo}  (σ : Store) (a : (Int32 × Store)) (hf : fX8_fine   σ = some a) : sCon l0 wCls G yX8_fine cX8_fine 3 (some .int) (rmL 3 110) [.ref (gad G 0)] σ (some (.int a.1)) a.2 := by
  refine sCon.of (by decide) ⟨rfl, rfl⟩ (Nat.le_of_ble_eq_true rfl) RX8 rfl _ hf (fun K hK => ?_)
  show sV wCls G K a σ 0 [(0, .ref (gad G 0))] [] _
  unfold fX8_fine
  refine r_aload_n (q := 1) hK dX8_fine_0 rfl rfl 0 rfl ?_
  refine gf_8_1 (q := 4) (rfl : kdC 0 = 8) hK dX8_fine_1 rfl tw_268 ?_
  refine callV_i (q := 7) (j := 57) (As := []) (rest := []) (f := (fX0_stampsOfAll 57 σ)) hK dX8_fine_4 rfl (fun b hb => c_X0_stampsOfAll 57 (rfl : kdC 57 = 0) σ b hb) ⟨0, _, _, _, kd_lt (rfl : kdC 57 = 0) (by decide), rfl, cC0 (rfl : kdC 57 = 0), rfl⟩ mv_X0_stampsOfAll rfl rfl (Nat.le_of_ble_eq_true rfl) tw_477 mw_X0_stampsOfAll (rmOk (Nat.le_of_ble_eq_true rfl) (Nat.le_of_ble_eq_true rfl)) (fun r1 => ?_)
  refine r_istore_n (q := 8) (loc' := [(1, .int r1), (0, .ref (gad G 0))]) hK dX8_fine_7 rfl rfl (by decide) rfl ?_
  refine r_aload_n (q := 9) hK dX8_fine_8 rfl rfl 1 rfl ?_
  refine gf_8_1 (q := 12) (rfl : kdC 0 = 8) hK dX8_fine_9 rfl tw_268 ?_
  refine r_iconst (q := 13) (v := 2) hK dX8_fine_12 rfl rfl ?_
  refine callV_i (q := 16) (j := 57) (As := [.int (2 : Int32)]) (rest := []) (f := (fX0_countingText 57 (2 : Int32) σ)) hK dX8_fine_13 rfl (fun b hb => c_X0_countingText 57 (rfl : kdC 57 = 0) (2 : Int32) σ b hb) ⟨0, _, _, _, kd_lt (rfl : kdC 57 = 0) (by decide), rfl, cC0 (rfl : kdC 57 = 0), rfl⟩ mv_X0_countingText rfl rfl (Nat.le_of_ble_eq_true rfl) tw_608 mw_X0_countingText (rmOk (Nat.le_of_ble_eq_true rfl) (Nat.le_of_ble_eq_true rfl)) (fun r2 => ?_)
  refine r_istore_n (q := 17) (loc' := [(2, .int r2), (1, .int r1), (0, .ref (gad G 0))]) hK dX8_fine_16 rfl rfl (by decide) rfl ?_
  refine r_iload_n (q := 18) hK dX8_fine_17 rfl rfl 0 rfl ?_
  refine r_ldc (q := 20) hK dX8_fine_18 rfl tw_522 ?_
  refine r_icmp_ne (t := 27) (q := 23) hK dX8_fine_20 rfl rfl (fun c3 => ?_) (fun c3 => ?_)
  · refine r_aload_n (q := 28) hK dX8_fine_27 rfl rfl 2 rfl ?_
    refine gf_8_0 (q := 31) (rfl : kdC 0 = 8) hK dX8_fine_28 rfl tw_267 ?_
    refine r_iload_n (q := 32) hK dX8_fine_31 rfl rfl 0 rfl ?_
    refine r_iload_n (q := 33) hK dX8_fine_32 rfl rfl 1 rfl ?_
    refine r_aload_n (q := 34) hK dX8_fine_33 rfl rfl 2 rfl ?_
    refine gf_8_1 (q := 37) (rfl : kdC 0 = 8) hK dX8_fine_34 rfl tw_268 ?_
    refine gf_0_6 (q := 40) (rfl : kdC 57 = 0) hK dX8_fine_37 rfl tw_130 ?_
    refine callS_i (q := 43) (As := [.int (σ 57 6)]) (rest := [.int r1, .int r2, .ref (gad G 1)]) (f := (fJ6_bitCount_0f7a4 (σ 57 6) σ)) hK dX8_fine_40 rfl (fun b hb => c_J6_bitCount_0f7a4 (σ 57 6) σ b hb) ms_J6_bitCount_0f7a4 rfl rfl (Nat.le_of_ble_eq_true rfl) tw_472 mw_J6_bitCount_0f7a4 (rmOk (Nat.le_of_ble_eq_true rfl) (Nat.le_of_ble_eq_true rfl)) (fun r4 => ?_)
    refine r_iconst (q := 44) (v := 0) hK dX8_fine_43 rfl rfl ?_
    refine callV_iS (q := 47) (j := 1) (As := [.int r2, .int r1, .int r4, .int (0 : Int32)]) (rest := []) (f := (fX1_value r2 r1 r4 (0 : Int32) σ)) hK dX8_fine_44 rfl (fun b hb => c_X1_value r2 r1 r4 (0 : Int32) σ b hb) ⟨1, _, _, _, kd_lt (rfl : kdC 1 = 1) (by decide), rfl, cC1 (rfl : kdC 1 = 1), rfl⟩ mv_X1_value rfl rfl (Nat.le_of_ble_eq_true rfl) tw_609 mw_X1_value (rmOk (Nat.le_of_ble_eq_true rfl) (Nat.le_of_ble_eq_true rfl)) (fun r5 s6 => ?_)
    exact e_iS hK dX8_fine_47
  · refine r_iload_n (q := 24) hK dX8_fine_23 rfl rfl 1 rfl ?_
    refine r_goto (q := 47) hK dX8_fine_24 rfl ?_
    exact e_iS hK dX8_fine_47
def fX8_addBytes_L3  (v1 : Int32) : Nat → Int32 → Store → Option Store
  | 0, _, _ => none
  | n + 1, i2, τ => (if i2 < 0 then (some τ) else (six 96 (τ 0 10) (slt (sup τ 23 (snx (τ 0 10)) ((v1 >>> (i2 &&& 31)) &&& (255 : Int32))) fun s11 => (slt (sup s11 0 10 ((s11 0 10) + (1 : Int32))) fun s12 => (fX8_addBytes_L3 v1 n (i2 + (-8 : Int32)) s12)))))
theorem vX8_addBytes_L3 {G : Geo} {K : KT} {l0 : Launch} (σ : Store) {a : Store} (v1 : Int32) (hK : sOk wCls G K l0 RX8 cX8_addBytes (rmL 1 60) 3 (none) none a) : ∀ (n : Nat) (i2 : Int32) (τ : Store), sV wCls G K a τ 3 [(0, .ref (gad G 0)), (1, .int v1), (2, .int i2)] [] (fX8_addBytes_L3 v1 n i2 τ) := by
  intro n
  induction n with
  | zero =>
    intro i2 τ
    exact sV.no
  | succ n ih =>
    intro i2 τ
    rw [fX8_addBytes_L3]
    refine r_iload_n (q := 4) hK dX8_addBytes_3 rfl rfl 2 rfl ?_
    refine r_if_lt (t := 39) (q := 7) hK dX8_addBytes_4 rfl rfl (fun c9 => ?_) (fun c9 => ?_)
    · exact e_vS hK dX8_addBytes_39
    · refine r_aload_n (q := 8) hK dX8_addBytes_7 rfl rfl 0 rfl ?_
      refine gf_8_5 (q := 11) (rfl : kdC 0 = 8) hK dX8_addBytes_8 rfl tw_272 ?_
      refine r_aload_n (q := 12) hK dX8_addBytes_11 rfl rfl 0 rfl ?_
      refine gf_8_10 (q := 15) (rfl : kdC 0 = 8) hK dX8_addBytes_12 rfl tw_277 ?_
      refine r_iload_n (q := 16) hK dX8_addBytes_15 rfl rfl 1 rfl ?_
      refine r_iload_n (q := 17) hK dX8_addBytes_16 rfl rfl 2 rfl ?_
      refine r_ishr (q := 18) hK dX8_addBytes_17 rfl ?_
      refine r_sipush (q := 21) (v := 255) hK dX8_addBytes_18 rfl rfl ?_
      refine r_iand (q := 22) hK dX8_addBytes_21 rfl ?_
      refine r_iast (q := 23) hK dX8_addBytes_22 rfl (aC20 (j := 23) rfl) (fun h10 => ?_)
      refine sV.ltS (fun s11 => ?_)
      refine r_aload_n (q := 24) hK dX8_addBytes_23 rfl rfl 0 rfl ?_
      refine r_dup (q := 25) hK dX8_addBytes_24 rfl rfl ?_
      refine gf_8_10 (q := 28) (rfl : kdC 0 = 8) hK dX8_addBytes_25 rfl tw_277 ?_
      refine r_iconst (q := 29) (v := 1) hK dX8_addBytes_28 rfl rfl ?_
      refine r_iadd (q := 30) hK dX8_addBytes_29 rfl ?_
      refine pf_8_10 (q := 33) (rfl : kdC 0 = 8) hK dX8_addBytes_30 rfl tw_277 ?_
      refine sV.ltS (fun s12 => ?_)
      refine r_iinc (q := 36) (v := (i2 + (-8 : Int32))) (loc' := [(2, .int (i2 + (-8 : Int32))), (0, .ref (gad G 0)), (1, .int v1)]) hK dX8_addBytes_33 rfl 2 rfl rfl (by decide) rfl ?_
      refine r_goto (q := 3) hK dX8_addBytes_36 rfl ?_
      exact sV.sub [1, 2, 0] (by rfl) (ih (i2 + (-8 : Int32)) s12)
def fX8_addBytes  (a1 : Int32) (σ : Store) : Option Store := (fX8_addBytes_L3 a1 FU (24 : Int32) σ)
theorem c_X8_addBytes {l0 : Launch} {G : Geo} (a1 : Int32) (σ : Store) (a : Store) (hf : fX8_addBytes  a1 σ = some a) : sCon l0 wCls G yX8_addBytes cX8_addBytes 3 (none) (rmL 1 60) [.ref (gad G 0), .int a1] σ none a := by
  refine sCon.of (by decide) ⟨rfl, rfl⟩ (Nat.le_of_ble_eq_true rfl) RX8 rfl _ hf (fun K hK => ?_)
  show sV wCls G K a σ 0 [(0, .ref (gad G 0)), (1, .int a1)] [] _
  unfold fX8_addBytes
  refine r_bipush (q := 2) (v := 24) hK dX8_addBytes_0 rfl rfl ?_
  refine r_istore_n (q := 3) (loc' := [(2, .int (24 : Int32)), (0, .ref (gad G 0)), (1, .int a1)]) hK dX8_addBytes_2 rfl rfl (by decide) rfl ?_
  exact sV.sub [1, 2, 0] (by rfl) (vX8_addBytes_L3 σ a1 hK FU (24 : Int32) σ)
def fX8_feed  (a1 : Int32) (a2 : Int32) (a3 : Int32) (σ : Store) : Option (Int32 × Store) := (if ((σ 0 10) + (12 : Int32)) ≤ (96 : Int32) then (sbd (fX8_addBytes a1 σ) fun s2 => (sbd (fX8_addBytes a2 s2) fun s3 => (sbd (fX8_addBytes a3 s3) fun s4 => (some ((s4 0 10), s4))))) else (some ((-1000000003 : Int32), σ)))
theorem c_X8_feed {l0 : Launch} {G : Geo} (a1 : Int32) (a2 : Int32) (a3 : Int32) (σ : Store) (a : (Int32 × Store)) (hf : fX8_feed  a1 a2 a3 σ = some a) : sCon l0 wCls G yX8_feed cX8_feed 4 (some .int) (rmL 2 82) [.ref (gad G 0), .int a1, .int a2, .int a3] σ (some (.int a.1)) a.2 := by
  refine sCon.of (by decide) ⟨rfl, rfl⟩ (Nat.le_of_ble_eq_true rfl) RX8 rfl _ hf (fun K hK => ?_)
  show sV wCls G K a σ 0 [(0, .ref (gad G 0)), (1, .int a1), (2, .int a2), (3, .int a3)] [] _
  unfold fX8_feed
  refine r_aload_n (q := 1) hK dX8_feed_0 rfl rfl 0 rfl ?_
  refine gf_8_10 (q := 4) (rfl : kdC 0 = 8) hK dX8_feed_1 rfl tw_277 ?_
  refine r_bipush (q := 6) (v := 12) hK dX8_feed_4 rfl rfl ?_
  refine r_iadd (q := 7) hK dX8_feed_6 rfl ?_
  refine r_bipush (q := 9) (v := 96) hK dX8_feed_7 rfl rfl ?_
  refine r_icmp_le (t := 15) (q := 12) hK dX8_feed_9 rfl rfl (fun c1 => ?_) (fun c1 => ?_)
  · refine r_aload_n (q := 16) hK dX8_feed_15 rfl rfl 0 rfl ?_
    refine r_iload_n (q := 17) hK dX8_feed_16 rfl rfl 1 rfl ?_
    refine callV_vS (q := 20) (j := 0) (As := [.int a1]) (rest := []) (f := (fX8_addBytes a1 σ)) hK dX8_feed_17 rfl (fun b hb => c_X8_addBytes a1 σ b hb) ⟨8, _, _, _, kd_lt (rfl : kdC 0 = 8) (by decide), rfl, cC8 (rfl : kdC 0 = 8), rfl⟩ mv_X8_addBytes rfl rfl (Nat.le_of_ble_eq_true rfl) tw_618 mw_X8_addBytes (rmOk (Nat.le_of_ble_eq_true rfl) (Nat.le_of_ble_eq_true rfl)) (fun s2 => ?_)
    refine r_aload_n (q := 21) hK dX8_feed_20 rfl rfl 0 rfl ?_
    refine r_iload_n (q := 22) hK dX8_feed_21 rfl rfl 2 rfl ?_
    refine callV_vS (q := 25) (j := 0) (As := [.int a2]) (rest := []) (f := (fX8_addBytes a2 s2)) hK dX8_feed_22 rfl (fun b hb => c_X8_addBytes a2 s2 b hb) ⟨8, _, _, _, kd_lt (rfl : kdC 0 = 8) (by decide), rfl, cC8 (rfl : kdC 0 = 8), rfl⟩ mv_X8_addBytes rfl rfl (Nat.le_of_ble_eq_true rfl) tw_618 mw_X8_addBytes (rmOk (Nat.le_of_ble_eq_true rfl) (Nat.le_of_ble_eq_true rfl)) (fun s3 => ?_)
    refine r_aload_n (q := 26) hK dX8_feed_25 rfl rfl 0 rfl ?_
    refine r_iload_n (q := 27) hK dX8_feed_26 rfl rfl 3 rfl ?_
    refine callV_vS (q := 30) (j := 0) (As := [.int a3]) (rest := []) (f := (fX8_addBytes a3 s3)) hK dX8_feed_27 rfl (fun b hb => c_X8_addBytes a3 s3 b hb) ⟨8, _, _, _, kd_lt (rfl : kdC 0 = 8) (by decide), rfl, cC8 (rfl : kdC 0 = 8), rfl⟩ mv_X8_addBytes rfl rfl (Nat.le_of_ble_eq_true rfl) tw_618 mw_X8_addBytes (rmOk (Nat.le_of_ble_eq_true rfl) (Nat.le_of_ble_eq_true rfl)) (fun s4 => ?_)
    refine r_aload_n (q := 31) hK dX8_feed_30 rfl rfl 0 rfl ?_
    refine gf_8_10 (q := 34) (rfl : kdC 0 = 8) hK dX8_feed_31 rfl tw_277 ?_
    exact e_iS hK dX8_feed_34
  · refine r_ldc (q := 14) hK dX8_feed_12 rfl tw_318 ?_
    exact e_iS hK dX8_feed_14
