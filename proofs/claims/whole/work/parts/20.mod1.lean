def fX9_forget   (σ : Store) : Option (Int32 × Store) := (sbd2 (fX9_become (4 : Int32) (0 : Int32) σ) fun r1 s2 => (sbd (fX9_bits r1 s2) fun r3 => (some (r3, s2))))
theorem c_X9_forget {l0 : Launch} {G : Geo}  (σ : Store) (a : (Int32 × Store)) (hf : fX9_forget   σ = some a) : sCon l0 wMod G yX9_forget cX9_forget 1 (some .int) (rmL 2 83) [.ref (gad G 0)] σ (some (.int a.1)) a.2 := by
  refine sCon.of (by decide) ⟨rfl, rfl⟩ (Nat.le_of_ble_eq_true rfl) RX9 rfl _ hf (fun K hK => ?_)
  show sV wMod G K a σ 0 [(0, .ref (gad G 0))] [] _
  unfold fX9_forget
  refine r_aload_n (q := 1) hK dX9_forget_0 rfl rfl 0 rfl ?_
  refine r_iconst (q := 2) (v := 4) hK dX9_forget_1 rfl rfl ?_
  refine r_iconst (q := 3) (v := 0) hK dX9_forget_2 rfl rfl ?_
  refine callV_iS (q := 6) (j := 0) (As := [.int (4 : Int32), .int (0 : Int32)]) (rest := []) (f := (fX9_become (4 : Int32) (0 : Int32) σ)) hK dX9_forget_3 rfl (fun b hb => c_X9_become (4 : Int32) (0 : Int32) σ b hb) ⟨9, _, _, _, by decide, rfl, cM, rfl⟩ mv_X9_become rfl rfl (Nat.le_of_ble_eq_true rfl) tw_966 mw_X9_become (rmOk (Nat.le_of_ble_eq_true rfl) (Nat.le_of_ble_eq_true rfl)) (fun r1 s2 => ?_)
  refine callS_i (q := 9) (As := [.int r1]) (rest := []) (f := (fX9_bits r1 s2)) hK dX9_forget_6 rfl (fun b hb => c_X9_bits r1 s2 b hb) ms_X9_bits rfl rfl (Nat.le_of_ble_eq_true rfl) tw_948 mw_X9_bits (rmOk (Nat.le_of_ble_eq_true rfl) (Nat.le_of_ble_eq_true rfl)) (fun r3 => ?_)
  exact e_iS hK dX9_forget_9
def fX9_daysGo_L9   (k : Int32 → Store → Option Store) : Nat → Int32 → Store → Option Store
  | 0, _, _ => none
  | n + 1, i3, τ => (six 1480 (5 : Int32) (if (τ 1 (snx (5 : Int32))) ≤ i3 then (k i3 τ) else (six 1480 (((8 : Int32) + ((6 : Int32) * i3)) + (5 : Int32)) (slt (sup τ 1 (snx (((8 : Int32) + ((6 : Int32) * i3)) + (5 : Int32))) (0 : Int32)) fun s89 => (fX9_daysGo_L9 k n (i3 + (1 : Int32)) s89)))))
theorem vX9_daysGo_L9 {G : Geo} {K : KT} {l0 : Launch} (σ : Store) {a : Store} (v1 : Int32) (v2 : Int32) (hK : sOk wMod G K l0 RX9 cX9_daysGo (rmL 7 198) 4 (none) none a) (k : Int32 → Store → Option Store) (hk : ∀ (e3 : Int32) (ε : Store), sV wMod G K a ε 40 [(0, .ref (gad G 0)), (1, .int v1), (2, .int v2), (3, .int e3)] [] (k e3 ε)) : ∀ (n : Nat) (i3 : Int32) (τ : Store), sV wMod G K a τ 9 [(0, .ref (gad G 0)), (1, .int v1), (2, .int v2), (3, .int i3)] [] (fX9_daysGo_L9  k n i3 τ) := by
  intro n
  induction n with
  | zero =>
    intro i3 τ
    exact sV.no
  | succ n ih =>
    intro i3 τ
    rw [fX9_daysGo_L9]
    refine r_iload_n (q := 10) hK dX9_daysGo_9 rfl rfl 3 rfl ?_
    refine r_aload_n (q := 11) hK dX9_daysGo_10 rfl rfl 0 rfl ?_
    refine gf_9_0 (q := 14) hK dX9_daysGo_11 rfl tw_804 ?_
    refine r_iconst (q := 15) (v := 5) hK dX9_daysGo_14 rfl rfl ?_
    refine r_iald (q := 16) hK dX9_daysGo_15 rfl aM1 (fun h86 => ?_)
    refine r_icmp_ge (t := 40) (q := 19) hK dX9_daysGo_16 rfl rfl (fun c87 => ?_) (fun c87 => ?_)
    · exact sV.sub [0, 1, 2, 3] (by rfl) (hk i3 τ)
    · refine r_aload_n (q := 20) hK dX9_daysGo_19 rfl rfl 0 rfl ?_
      refine gf_9_0 (q := 23) hK dX9_daysGo_20 rfl tw_804 ?_
      refine r_bipush (q := 25) (v := 8) hK dX9_daysGo_23 rfl rfl ?_
      refine r_bipush (q := 27) (v := 6) hK dX9_daysGo_25 rfl rfl ?_
      refine r_iload_n (q := 28) hK dX9_daysGo_27 rfl rfl 3 rfl ?_
      refine r_imul (q := 29) hK dX9_daysGo_28 rfl ?_
      refine r_iadd (q := 30) hK dX9_daysGo_29 rfl ?_
      refine r_iconst (q := 31) (v := 5) hK dX9_daysGo_30 rfl rfl ?_
      refine r_iadd (q := 32) hK dX9_daysGo_31 rfl ?_
      refine r_iconst (q := 33) (v := 0) hK dX9_daysGo_32 rfl rfl ?_
      refine r_iast (q := 34) hK dX9_daysGo_33 rfl aM1 (fun h88 => ?_)
      refine sV.ltS (fun s89 => ?_)
      refine r_iinc (q := 37) (v := (i3 + (1 : Int32))) (loc' := [(3, .int (i3 + (1 : Int32))), (0, .ref (gad G 0)), (1, .int v1), (2, .int v2)]) hK dX9_daysGo_34 rfl 3 rfl rfl (by decide) rfl ?_
      refine r_goto (q := 9) hK dX9_daysGo_37 rfl ?_
      exact sV.sub [1, 2, 3, 0] (by rfl) (ih (i3 + (1 : Int32)) s89)
def fX9_daysGo_L42   (k : Int32 → Store → Option Store) : Nat → Int32 → Store → Option Store
  | 0, _, _ => none
  | n + 1, i3, τ => (six 1480 (6 : Int32) (if (τ 1 (snx (6 : Int32))) ≤ i3 then (k i3 τ) else (sbd2 (fX9_drawn (1024 : Int32) τ) fun r106 s107 => (sbd2 (fX9_crosses i3 r106 s107) fun r108 s109 => (fX9_daysGo_L42 k n (i3 + (1 : Int32)) s109)))))
theorem vX9_daysGo_L42 {G : Geo} {K : KT} {l0 : Launch} (σ : Store) {a : Store} (v1 : Int32) (v2 : Int32) (hK : sOk wMod G K l0 RX9 cX9_daysGo (rmL 7 198) 4 (none) none a) (k : Int32 → Store → Option Store) (hk : ∀ (e3 : Int32) (ε : Store), sV wMod G K a ε 72 [(0, .ref (gad G 0)), (1, .int v1), (2, .int v2), (3, .int e3)] [] (k e3 ε)) : ∀ (n : Nat) (i3 : Int32) (τ : Store), sV wMod G K a τ 42 [(0, .ref (gad G 0)), (1, .int v1), (2, .int v2), (3, .int i3)] [] (fX9_daysGo_L42  k n i3 τ) := by
  intro n
  induction n with
  | zero =>
    intro i3 τ
    exact sV.no
  | succ n ih =>
    intro i3 τ
    rw [fX9_daysGo_L42]
    refine r_iload_n (q := 43) hK dX9_daysGo_42 rfl rfl 3 rfl ?_
    refine r_aload_n (q := 44) hK dX9_daysGo_43 rfl rfl 0 rfl ?_
    refine gf_9_0 (q := 47) hK dX9_daysGo_44 rfl tw_804 ?_
    refine r_bipush (q := 49) (v := 6) hK dX9_daysGo_47 rfl rfl ?_
    refine r_iald (q := 50) hK dX9_daysGo_49 rfl aM1 (fun h104 => ?_)
    refine r_icmp_ge (t := 72) (q := 53) hK dX9_daysGo_50 rfl rfl (fun c105 => ?_) (fun c105 => ?_)
    · exact sV.sub [0, 1, 2, 3] (by rfl) (hk i3 τ)
    · refine r_aload_n (q := 54) hK dX9_daysGo_53 rfl rfl 0 rfl ?_
      refine r_iload_n (q := 55) hK dX9_daysGo_54 rfl rfl 3 rfl ?_
      refine r_aload_n (q := 56) hK dX9_daysGo_55 rfl rfl 0 rfl ?_
      refine r_sipush (q := 59) (v := 1024) hK dX9_daysGo_56 rfl rfl ?_
      refine callV_iS (q := 62) (j := 0) (As := [.int (1024 : Int32)]) (rest := [.int i3, .ref (gad G 0)]) (f := (fX9_drawn (1024 : Int32) τ)) hK dX9_daysGo_59 rfl (fun b hb => c_X9_drawn (1024 : Int32) τ b hb) ⟨9, _, _, _, by decide, rfl, cM, rfl⟩ mv_X9_drawn rfl rfl (Nat.le_of_ble_eq_true rfl) tw_1006 mw_X9_drawn (rmOk (Nat.le_of_ble_eq_true rfl) (Nat.le_of_ble_eq_true rfl)) (fun r106 s107 => ?_)
      refine callV_iS (q := 65) (j := 0) (As := [.int i3, .int r106]) (rest := []) (f := (fX9_crosses i3 r106 s107)) hK dX9_daysGo_62 rfl (fun b hb => c_X9_crosses i3 r106 s107 b hb) ⟨9, _, _, _, by decide, rfl, cM, rfl⟩ mv_X9_crosses rfl rfl (Nat.le_of_ble_eq_true rfl) tw_1019 mw_X9_crosses (rmOk (Nat.le_of_ble_eq_true rfl) (Nat.le_of_ble_eq_true rfl)) (fun r108 s109 => ?_)
      refine r_pop (q := 66) hK dX9_daysGo_65 rfl rfl ?_
      refine r_iinc (q := 69) (v := (i3 + (1 : Int32))) (loc' := [(3, .int (i3 + (1 : Int32))), (0, .ref (gad G 0)), (1, .int v1), (2, .int v2)]) hK dX9_daysGo_66 rfl 3 rfl rfl (by decide) rfl ?_
      refine r_goto (q := 42) hK dX9_daysGo_69 rfl ?_
      exact sV.sub [1, 2, 3, 0] (by rfl) (ih (i3 + (1 : Int32)) s109)
def fX9_daysGo_L2  (v1 : Int32) : Nat → Int32 → Store → Option Store
  | 0, _, _ => none
  | n + 1, i2, τ => (if v1 ≤ i2 then (some τ) else (fX9_daysGo_L9 (fun x90 s91 => (fX9_daysGo_L42 (fun x110 s111 => (six 1480 (1 : Int32) (six 1480 (1 : Int32) (slt (sup s111 1 (snx (1 : Int32)) ((s111 1 (snx (1 : Int32))) + (1 : Int32))) fun s114 => (fX9_daysGo_L2 v1 n (i2 + (1 : Int32)) s114))))) FU (0 : Int32) s91)) FU (0 : Int32) τ))
theorem vX9_daysGo_L2 {G : Geo} {K : KT} {l0 : Launch} (σ : Store) {a : Store} (v1 : Int32) (hK : sOk wMod G K l0 RX9 cX9_daysGo (rmL 7 198) 4 (none) none a) : ∀ (n : Nat) (i2 : Int32) (τ : Store), sV wMod G K a τ 2 [(0, .ref (gad G 0)), (1, .int v1), (2, .int i2)] [] (fX9_daysGo_L2 v1 n i2 τ) := by
  intro n
  induction n with
  | zero =>
    intro i2 τ
    exact sV.no
  | succ n ih =>
    intro i2 τ
    rw [fX9_daysGo_L2]
    refine r_iload_n (q := 3) hK dX9_daysGo_2 rfl rfl 2 rfl ?_
    refine r_iload_n (q := 4) hK dX9_daysGo_3 rfl rfl 1 rfl ?_
    refine r_icmp_ge (t := 88) (q := 7) hK dX9_daysGo_4 rfl rfl (fun c77 => ?_) (fun c77 => ?_)
    · exact e_vS hK dX9_daysGo_88
    · refine r_iconst (q := 8) (v := 0) hK dX9_daysGo_7 rfl rfl ?_
      refine r_istore_n (q := 9) (loc' := [(3, .int (0 : Int32)), (0, .ref (gad G 0)), (1, .int v1), (2, .int i2)]) hK dX9_daysGo_8 rfl rfl (by decide) rfl ?_
      refine sV.sub [1, 2, 3, 0] (by rfl) (vX9_daysGo_L9 τ v1 i2 hK _ (fun x90 s91 => ?_) FU (0 : Int32) τ)
      refine r_iconst (q := 41) (v := 0) hK dX9_daysGo_40 rfl rfl ?_
      refine r_istore_n (q := 42) (loc' := [(3, .int (0 : Int32)), (0, .ref (gad G 0)), (1, .int v1), (2, .int i2)]) hK dX9_daysGo_41 rfl rfl (by decide) rfl ?_
      refine sV.sub [1, 2, 3, 0] (by rfl) (vX9_daysGo_L42 s91 v1 i2 hK _ (fun x110 s111 => ?_) FU (0 : Int32) s91)
      refine r_aload_n (q := 73) hK dX9_daysGo_72 rfl rfl 0 rfl ?_
      refine gf_9_0 (q := 76) hK dX9_daysGo_73 rfl tw_804 ?_
      refine r_iconst (q := 77) (v := 1) hK dX9_daysGo_76 rfl rfl ?_
      refine r_dup2 (q := 78) hK dX9_daysGo_77 rfl rfl rfl ?_
      refine r_iald (q := 79) hK dX9_daysGo_78 rfl aM1 (fun h112 => ?_)
      refine r_iconst (q := 80) (v := 1) hK dX9_daysGo_79 rfl rfl ?_
      refine r_iadd (q := 81) hK dX9_daysGo_80 rfl ?_
      refine r_iast (q := 82) hK dX9_daysGo_81 rfl aM1 (fun h113 => ?_)
      refine sV.ltS (fun s114 => ?_)
      refine r_iinc (q := 85) (v := (i2 + (1 : Int32))) (loc' := [(2, .int (i2 + (1 : Int32))), (0, .ref (gad G 0)), (1, .int v1), (3, .int x110)]) hK dX9_daysGo_82 rfl 2 rfl rfl (by decide) rfl ?_
      refine r_goto (q := 2) hK dX9_daysGo_85 rfl ?_
      exact sV.sub [1, 2, 0] (by rfl) (ih (i2 + (1 : Int32)) s114)
def fX9_daysGo  (a1 : Int32) (σ : Store) : Option Store := (fX9_daysGo_L2 a1 FU (0 : Int32) σ)
theorem c_X9_daysGo {l0 : Launch} {G : Geo} (a1 : Int32) (σ : Store) (a : Store) (hf : fX9_daysGo  a1 σ = some a) : sCon l0 wMod G yX9_daysGo cX9_daysGo 4 (none) (rmL 7 198) [.ref (gad G 0), .int a1] σ none a := by
  refine sCon.of (by decide) ⟨rfl, rfl⟩ (Nat.le_of_ble_eq_true rfl) RX9 rfl _ hf (fun K hK => ?_)
  show sV wMod G K a σ 0 [(0, .ref (gad G 0)), (1, .int a1)] [] _
  unfold fX9_daysGo
  refine r_iconst (q := 1) (v := 0) hK dX9_daysGo_0 rfl rfl ?_
  refine r_istore_n (q := 2) (loc' := [(2, .int (0 : Int32)), (0, .ref (gad G 0)), (1, .int a1)]) hK dX9_daysGo_1 rfl rfl (by decide) rfl ?_
  exact sV.sub [1, 2, 0] (by rfl) (vX9_daysGo_L2 σ a1 hK FU (0 : Int32) σ)
def fX9_stamps_L4   (σ : Store) : Nat → Int32 → Int32 → Option Int32
  | 0, _, _ => none
  | n + 1, i1, i2 => (six 1480 (5 : Int32) (if (σ 1 (snx (5 : Int32))) ≤ i2 then (some i1) else (sbd (fX9_wordIs i2 (4 : Int32) σ) fun r11 => (slt (i1 + r11) fun x12 => (fX9_stamps_L4 σ n x12 (i2 + (1 : Int32)))))))
theorem vX9_stamps_L4 {G : Geo} {K : KT} {l0 : Launch} (σ : Store) {a : Int32}  (hK : sOk wMod G K l0 RX9 cX9_stamps (rmL 2 82) 3 (some .int) (some (.int a)) σ) : ∀ (n : Nat) (i1 : Int32) (i2 : Int32), sV wMod G K a σ 4 [(0, .ref (gad G 0)), (1, .int i1), (2, .int i2)] [] (fX9_stamps_L4 σ n i1 i2) := by
  intro n
  induction n with
  | zero =>
    intro i1 i2
    exact sV.no
  | succ n ih =>
    intro i1 i2
    rw [fX9_stamps_L4]
    refine r_iload_n (q := 5) hK dX9_stamps_4 rfl rfl 2 rfl ?_
    refine r_aload_n (q := 6) hK dX9_stamps_5 rfl rfl 0 rfl ?_
    refine gf_9_0 (q := 9) hK dX9_stamps_6 rfl tw_804 ?_
    refine r_iconst (q := 10) (v := 5) hK dX9_stamps_9 rfl rfl ?_
    refine r_iald (q := 11) hK dX9_stamps_10 rfl aM1 (fun h9 => ?_)
    refine r_icmp_ge (t := 29) (q := 14) hK dX9_stamps_11 rfl rfl (fun c10 => ?_) (fun c10 => ?_)
    · refine r_iload_n (q := 30) hK dX9_stamps_29 rfl rfl 1 rfl ?_
      exact e_i hK dX9_stamps_30
    · refine r_iload_n (q := 15) hK dX9_stamps_14 rfl rfl 1 rfl ?_
      refine r_aload_n (q := 16) hK dX9_stamps_15 rfl rfl 0 rfl ?_
      refine r_iload_n (q := 17) hK dX9_stamps_16 rfl rfl 2 rfl ?_
      refine r_iconst (q := 18) (v := 4) hK dX9_stamps_17 rfl rfl ?_
      refine callV_i (q := 21) (j := 0) (As := [.int i2, .int (4 : Int32)]) (rest := [.int i1]) (f := (fX9_wordIs i2 (4 : Int32) σ)) hK dX9_stamps_18 rfl (fun b hb => c_X9_wordIs i2 (4 : Int32) σ b hb) ⟨9, _, _, _, by decide, rfl, cM, rfl⟩ mv_X9_wordIs rfl rfl (Nat.le_of_ble_eq_true rfl) tw_932 mw_X9_wordIs (rmOk (Nat.le_of_ble_eq_true rfl) (Nat.le_of_ble_eq_true rfl)) (fun r11 => ?_)
      refine r_iadd (q := 22) hK dX9_stamps_21 rfl ?_
      refine sV.ltI (fun x12 => ?_)
      refine r_istore_n (q := 23) (loc' := [(1, .int x12), (0, .ref (gad G 0)), (2, .int i2)]) hK dX9_stamps_22 rfl rfl (by decide) rfl ?_
      refine r_iinc (q := 26) (v := (i2 + (1 : Int32))) (loc' := [(2, .int (i2 + (1 : Int32))), (1, .int x12), (0, .ref (gad G 0))]) hK dX9_stamps_23 rfl 2 rfl rfl (by decide) rfl ?_
      refine r_goto (q := 4) hK dX9_stamps_26 rfl ?_
      exact sV.sub [2, 1, 0] (by rfl) (ih x12 (i2 + (1 : Int32)))
def fX9_stamps   (σ : Store) : Option Int32 := (fX9_stamps_L4 σ FU (0 : Int32) (0 : Int32))
theorem c_X9_stamps {l0 : Launch} {G : Geo}  (σ : Store) (a : Int32) (hf : fX9_stamps   σ = some a) : sCon l0 wMod G yX9_stamps cX9_stamps 3 (some .int) (rmL 2 82) [.ref (gad G 0)] σ (some (.int a)) σ := by
  refine sCon.of (by decide) ⟨rfl, rfl⟩ (Nat.le_of_ble_eq_true rfl) RX9 rfl _ hf (fun K hK => ?_)
  show sV wMod G K a σ 0 [(0, .ref (gad G 0))] [] _
  unfold fX9_stamps
  refine r_iconst (q := 1) (v := 0) hK dX9_stamps_0 rfl rfl ?_
  refine r_istore_n (q := 2) (loc' := [(1, .int (0 : Int32)), (0, .ref (gad G 0))]) hK dX9_stamps_1 rfl rfl (by decide) rfl ?_
  refine r_iconst (q := 3) (v := 0) hK dX9_stamps_2 rfl rfl ?_
  refine r_istore_n (q := 4) (loc' := [(2, .int (0 : Int32)), (1, .int (0 : Int32)), (0, .ref (gad G 0))]) hK dX9_stamps_3 rfl rfl (by decide) rfl ?_
  exact sV.sub [2, 1, 0] (by rfl) (vX9_stamps_L4 σ  hK FU (0 : Int32) (0 : Int32))
def fX9_paid_L4   (σ : Store) : Nat → Int32 → Int32 → Option Int32
  | 0, _, _ => none
  | n + 1, i1, i2 => (six 1480 (6 : Int32) (if (σ 1 (snx (6 : Int32))) ≤ i2 then (some i1) else (sbd (fX9_travellerIs i2 (1 : Int32) σ) fun r11 => (slt (i1 + r11) fun x12 => (fX9_paid_L4 σ n x12 (i2 + (1 : Int32)))))))
theorem vX9_paid_L4 {G : Geo} {K : KT} {l0 : Launch} (σ : Store) {a : Int32}  (hK : sOk wMod G K l0 RX9 cX9_paid (rmL 2 82) 3 (some .int) (some (.int a)) σ) : ∀ (n : Nat) (i1 : Int32) (i2 : Int32), sV wMod G K a σ 4 [(0, .ref (gad G 0)), (1, .int i1), (2, .int i2)] [] (fX9_paid_L4 σ n i1 i2) := by
  intro n
  induction n with
  | zero =>
    intro i1 i2
    exact sV.no
  | succ n ih =>
    intro i1 i2
    rw [fX9_paid_L4]
    refine r_iload_n (q := 5) hK dX9_paid_4 rfl rfl 2 rfl ?_
    refine r_aload_n (q := 6) hK dX9_paid_5 rfl rfl 0 rfl ?_
    refine gf_9_0 (q := 9) hK dX9_paid_6 rfl tw_804 ?_
    refine r_bipush (q := 11) (v := 6) hK dX9_paid_9 rfl rfl ?_
    refine r_iald (q := 12) hK dX9_paid_11 rfl aM1 (fun h9 => ?_)
    refine r_icmp_ge (t := 30) (q := 15) hK dX9_paid_12 rfl rfl (fun c10 => ?_) (fun c10 => ?_)
    · refine r_iload_n (q := 31) hK dX9_paid_30 rfl rfl 1 rfl ?_
      exact e_i hK dX9_paid_31
    · refine r_iload_n (q := 16) hK dX9_paid_15 rfl rfl 1 rfl ?_
      refine r_aload_n (q := 17) hK dX9_paid_16 rfl rfl 0 rfl ?_
      refine r_iload_n (q := 18) hK dX9_paid_17 rfl rfl 2 rfl ?_
      refine r_iconst (q := 19) (v := 1) hK dX9_paid_18 rfl rfl ?_
      refine callV_i (q := 22) (j := 0) (As := [.int i2, .int (1 : Int32)]) (rest := [.int i1]) (f := (fX9_travellerIs i2 (1 : Int32) σ)) hK dX9_paid_19 rfl (fun b hb => c_X9_travellerIs i2 (1 : Int32) σ b hb) ⟨9, _, _, _, by decide, rfl, cM, rfl⟩ mv_X9_travellerIs rfl rfl (Nat.le_of_ble_eq_true rfl) tw_986 mw_X9_travellerIs (rmOk (Nat.le_of_ble_eq_true rfl) (Nat.le_of_ble_eq_true rfl)) (fun r11 => ?_)
      refine r_iadd (q := 23) hK dX9_paid_22 rfl ?_
      refine sV.ltI (fun x12 => ?_)
      refine r_istore_n (q := 24) (loc' := [(1, .int x12), (0, .ref (gad G 0)), (2, .int i2)]) hK dX9_paid_23 rfl rfl (by decide) rfl ?_
      refine r_iinc (q := 27) (v := (i2 + (1 : Int32))) (loc' := [(2, .int (i2 + (1 : Int32))), (1, .int x12), (0, .ref (gad G 0))]) hK dX9_paid_24 rfl 2 rfl rfl (by decide) rfl ?_
      refine r_goto (q := 4) hK dX9_paid_27 rfl ?_
      exact sV.sub [2, 1, 0] (by rfl) (ih x12 (i2 + (1 : Int32)))
def fX9_paid   (σ : Store) : Option Int32 := (fX9_paid_L4 σ FU (0 : Int32) (0 : Int32))
theorem c_X9_paid {l0 : Launch} {G : Geo}  (σ : Store) (a : Int32) (hf : fX9_paid   σ = some a) : sCon l0 wMod G yX9_paid cX9_paid 3 (some .int) (rmL 2 82) [.ref (gad G 0)] σ (some (.int a)) σ := by
  refine sCon.of (by decide) ⟨rfl, rfl⟩ (Nat.le_of_ble_eq_true rfl) RX9 rfl _ hf (fun K hK => ?_)
  show sV wMod G K a σ 0 [(0, .ref (gad G 0))] [] _
  unfold fX9_paid
  refine r_iconst (q := 1) (v := 0) hK dX9_paid_0 rfl rfl ?_
  refine r_istore_n (q := 2) (loc' := [(1, .int (0 : Int32)), (0, .ref (gad G 0))]) hK dX9_paid_1 rfl rfl (by decide) rfl ?_
  refine r_iconst (q := 3) (v := 0) hK dX9_paid_2 rfl rfl ?_
  refine r_istore_n (q := 4) (loc' := [(2, .int (0 : Int32)), (1, .int (0 : Int32)), (0, .ref (gad G 0))]) hK dX9_paid_3 rfl rfl (by decide) rfl ?_
  exact sV.sub [2, 1, 0] (by rfl) (vX9_paid_L4 σ  hK FU (0 : Int32) (0 : Int32))
def fX9_days  (a1 : Int32) (σ : Store) : Option (Int32 × Store) := (sbd (fX9_within a1 (1 : Int32) (60 : Int32) σ) fun r1 => (if r1 = true then (sbd (fX9_stamps σ) fun r3 => (six 1480 (1 : Int32) (sbd (fX9_daysGo (smin a1 ((9999 : Int32) - (σ 1 (snx (1 : Int32))))) σ) fun s5 => (sbd (fX9_stamps s5) fun r6 => (some ((r6 - r3), s5)))))) else (some ((-1000000001 : Int32), σ))))
theorem c_X9_days {l0 : Launch} {G : Geo} (a1 : Int32) (σ : Store) (a : (Int32 × Store)) (hf : fX9_days  a1 σ = some a) : sCon l0 wMod G yX9_days cX9_days 3 (some .int) (rmL 8 221) [.ref (gad G 0), .int a1] σ (some (.int a.1)) a.2 := by
  refine sCon.of (by decide) ⟨rfl, rfl⟩ (Nat.le_of_ble_eq_true rfl) RX9 rfl _ hf (fun K hK => ?_)
  show sV wMod G K a σ 0 [(0, .ref (gad G 0)), (1, .int a1)] [] _
  unfold fX9_days
  refine r_iload_n (q := 1) hK dX9_days_0 rfl rfl 1 rfl ?_
  refine r_iconst (q := 2) (v := 1) hK dX9_days_1 rfl rfl ?_
  refine r_bipush (q := 4) (v := 60) hK dX9_days_2 rfl rfl ?_
  refine callS_b (q := 7) (As := [.int a1, .int (1 : Int32), .int (60 : Int32)]) (rest := []) (f := (fX9_within a1 (1 : Int32) (60 : Int32) σ)) hK dX9_days_4 rfl (fun b hb => c_X9_within a1 (1 : Int32) (60 : Int32) σ b hb) ms_X9_within rfl rfl (Nat.le_of_ble_eq_true rfl) tw_900 mw_X9_within (rmOk (Nat.le_of_ble_eq_true rfl) (Nat.le_of_ble_eq_true rfl)) (fun r1 => ?_)
  refine r_ifb_ne (t := 13) (q := 10) hK dX9_days_7 rfl rfl (fun c2 => ?_) (fun c2 => ?_)
  · refine r_aload_n (q := 14) hK dX9_days_13 rfl rfl 0 rfl ?_
    refine callV_i (q := 17) (j := 0) (As := []) (rest := []) (f := (fX9_stamps σ)) hK dX9_days_14 rfl (fun b hb => c_X9_stamps σ b hb) ⟨9, _, _, _, by decide, rfl, cM, rfl⟩ mv_X9_stamps rfl rfl (Nat.le_of_ble_eq_true rfl) tw_1046 mw_X9_stamps (rmOk (Nat.le_of_ble_eq_true rfl) (Nat.le_of_ble_eq_true rfl)) (fun r3 => ?_)
    refine r_istore_n (q := 18) (loc' := [(2, .int r3), (0, .ref (gad G 0)), (1, .int a1)]) hK dX9_days_17 rfl rfl (by decide) rfl ?_
    refine r_aload_n (q := 19) hK dX9_days_18 rfl rfl 1 rfl ?_
    refine r_iload_n (q := 20) hK dX9_days_19 rfl rfl 2 rfl ?_
    refine r_sipush (q := 23) (v := 9999) hK dX9_days_20 rfl rfl ?_
    refine r_aload_n (q := 24) hK dX9_days_23 rfl rfl 1 rfl ?_
    refine gf_9_0 (q := 27) hK dX9_days_24 rfl tw_804 ?_
    refine r_iconst (q := 28) (v := 1) hK dX9_days_27 rfl rfl ?_
    refine r_iald (q := 29) hK dX9_days_28 rfl aM1 (fun h4 => ?_)
    refine r_isub (q := 30) hK dX9_days_29 rfl ?_
    refine r_min (q := 33) hK dX9_days_30 rfl tw_943 mt_min (rmM (Nat.le_of_ble_eq_true rfl) (Nat.le_of_ble_eq_true rfl)) ?_
    refine callV_vS (q := 36) (j := 0) (As := [.int (smin a1 ((9999 : Int32) - (σ 1 (snx (1 : Int32)))))]) (rest := []) (f := (fX9_daysGo (smin a1 ((9999 : Int32) - (σ 1 (snx (1 : Int32))))) σ)) hK dX9_days_33 rfl (fun b hb => c_X9_daysGo (smin a1 ((9999 : Int32) - (σ 1 (snx (1 : Int32))))) σ b hb) ⟨9, _, _, _, by decide, rfl, cM, rfl⟩ mv_X9_daysGo rfl rfl (Nat.le_of_ble_eq_true rfl) tw_1050 mw_X9_daysGo (rmOk (Nat.le_of_ble_eq_true rfl) (Nat.le_of_ble_eq_true rfl)) (fun s5 => ?_)
    refine r_aload_n (q := 37) hK dX9_days_36 rfl rfl 1 rfl ?_
    refine callV_i (q := 40) (j := 0) (As := []) (rest := []) (f := (fX9_stamps s5)) hK dX9_days_37 rfl (fun b hb => c_X9_stamps s5 b hb) ⟨9, _, _, _, by decide, rfl, cM, rfl⟩ mv_X9_stamps rfl rfl (Nat.le_of_ble_eq_true rfl) tw_1046 mw_X9_stamps (rmOk (Nat.le_of_ble_eq_true rfl) (Nat.le_of_ble_eq_true rfl)) (fun r6 => ?_)
    refine r_iload_n (q := 41) hK dX9_days_40 rfl rfl 0 rfl ?_
    refine r_isub (q := 42) hK dX9_days_41 rfl ?_
    exact e_iS hK dX9_days_42
  · refine r_ldc (q := 12) hK dX9_days_10 rfl tw_906 ?_
    exact e_iS hK dX9_days_12
def fX9_sensesOf_L4  (v1 : Int32) (σ : Store) : Nat → Int32 → Int32 → Option Int32
  | 0, _, _ => none
  | n + 1, i2, i3 => (six 1480 (5 : Int32) (if (σ 1 (snx (5 : Int32))) ≤ i3 then (some i2) else (sbd (fX9_has v1 i3 σ) fun r17 => (if r17 = true then (sbd (fX9_wordIs i3 (1 : Int32) σ) fun r19 => (slt (i2 ||| r19) fun x20 => (fX9_sensesOf_L4 v1 σ n x20 (i3 + (1 : Int32))))) else (slt (i2 ||| (0 : Int32)) fun x21 => (fX9_sensesOf_L4 v1 σ n x21 (i3 + (1 : Int32))))))))
theorem vX9_sensesOf_L4 {G : Geo} {K : KT} {l0 : Launch} (σ : Store) {a : Int32} (v1 : Int32) (hK : sOk wMod G K l0 RX9 cX9_sensesOf (rmL 2 82) 4 (some .int) (some (.int a)) σ) : ∀ (n : Nat) (i2 : Int32) (i3 : Int32), sV wMod G K a σ 4 [(0, .ref (gad G 0)), (1, .int v1), (2, .int i2), (3, .int i3)] [] (fX9_sensesOf_L4 v1 σ n i2 i3) := by
  intro n
  induction n with
  | zero =>
    intro i2 i3
    exact sV.no
  | succ n ih =>
    intro i2 i3
    rw [fX9_sensesOf_L4]
    refine r_iload_n (q := 5) hK dX9_sensesOf_4 rfl rfl 3 rfl ?_
    refine r_aload_n (q := 6) hK dX9_sensesOf_5 rfl rfl 0 rfl ?_
    refine gf_9_0 (q := 9) hK dX9_sensesOf_6 rfl tw_804 ?_
    refine r_iconst (q := 10) (v := 5) hK dX9_sensesOf_9 rfl rfl ?_
    refine r_iald (q := 11) hK dX9_sensesOf_10 rfl aM1 (fun h15 => ?_)
    refine r_icmp_ge (t := 41) (q := 14) hK dX9_sensesOf_11 rfl rfl (fun c16 => ?_) (fun c16 => ?_)
    · refine r_iload_n (q := 42) hK dX9_sensesOf_41 rfl rfl 2 rfl ?_
      exact e_i hK dX9_sensesOf_42
    · refine r_iload_n (q := 15) hK dX9_sensesOf_14 rfl rfl 2 rfl ?_
      refine r_iload_n (q := 16) hK dX9_sensesOf_15 rfl rfl 1 rfl ?_
      refine r_iload_n (q := 17) hK dX9_sensesOf_16 rfl rfl 3 rfl ?_
      refine callS_b (q := 20) (As := [.int v1, .int i3]) (rest := [.int i2]) (f := (fX9_has v1 i3 σ)) hK dX9_sensesOf_17 rfl (fun b hb => c_X9_has v1 i3 σ b hb) ms_X9_has rfl rfl (Nat.le_of_ble_eq_true rfl) tw_1023 mw_X9_has (rmOk (Nat.le_of_ble_eq_true rfl) (Nat.le_of_ble_eq_true rfl)) (fun r17 => ?_)
      refine r_ifb_eq (t := 32) (q := 23) hK dX9_sensesOf_20 rfl rfl (fun c18 => ?_) (fun c18 => ?_)
      · refine r_aload_n (q := 24) hK dX9_sensesOf_23 rfl rfl 0 rfl ?_
        refine r_iload_n (q := 25) hK dX9_sensesOf_24 rfl rfl 3 rfl ?_
        refine r_iconst (q := 26) (v := 1) hK dX9_sensesOf_25 rfl rfl ?_
        refine callV_i (q := 29) (j := 0) (As := [.int i3, .int (1 : Int32)]) (rest := [.int i2]) (f := (fX9_wordIs i3 (1 : Int32) σ)) hK dX9_sensesOf_26 rfl (fun b hb => c_X9_wordIs i3 (1 : Int32) σ b hb) ⟨9, _, _, _, by decide, rfl, cM, rfl⟩ mv_X9_wordIs rfl rfl (Nat.le_of_ble_eq_true rfl) tw_932 mw_X9_wordIs (rmOk (Nat.le_of_ble_eq_true rfl) (Nat.le_of_ble_eq_true rfl)) (fun r19 => ?_)
        refine r_goto (q := 33) hK dX9_sensesOf_29 rfl ?_
        refine r_ior (q := 34) hK dX9_sensesOf_33 rfl ?_
        refine sV.ltI (fun x20 => ?_)
        refine r_istore_n (q := 35) (loc' := [(2, .int x20), (0, .ref (gad G 0)), (1, .int v1), (3, .int i3)]) hK dX9_sensesOf_34 rfl rfl (by decide) rfl ?_
        refine r_iinc (q := 38) (v := (i3 + (1 : Int32))) (loc' := [(3, .int (i3 + (1 : Int32))), (2, .int x20), (0, .ref (gad G 0)), (1, .int v1)]) hK dX9_sensesOf_35 rfl 3 rfl rfl (by decide) rfl ?_
        refine r_goto (q := 4) hK dX9_sensesOf_38 rfl ?_
        exact sV.sub [2, 3, 1, 0] (by rfl) (ih x20 (i3 + (1 : Int32)))
      · refine r_iconst (q := 33) (v := 0) hK dX9_sensesOf_32 rfl rfl ?_
        refine r_ior (q := 34) hK dX9_sensesOf_33 rfl ?_
        refine sV.ltI (fun x21 => ?_)
        refine r_istore_n (q := 35) (loc' := [(2, .int x21), (0, .ref (gad G 0)), (1, .int v1), (3, .int i3)]) hK dX9_sensesOf_34 rfl rfl (by decide) rfl ?_
        refine r_iinc (q := 38) (v := (i3 + (1 : Int32))) (loc' := [(3, .int (i3 + (1 : Int32))), (2, .int x21), (0, .ref (gad G 0)), (1, .int v1)]) hK dX9_sensesOf_35 rfl 3 rfl rfl (by decide) rfl ?_
        refine r_goto (q := 4) hK dX9_sensesOf_38 rfl ?_
        exact sV.sub [2, 3, 1, 0] (by rfl) (ih x21 (i3 + (1 : Int32)))
def fX9_sensesOf  (a1 : Int32) (σ : Store) : Option Int32 := (fX9_sensesOf_L4 a1 σ FU (0 : Int32) (0 : Int32))
theorem c_X9_sensesOf {l0 : Launch} {G : Geo} (a1 : Int32) (σ : Store) (a : Int32) (hf : fX9_sensesOf  a1 σ = some a) : sCon l0 wMod G yX9_sensesOf cX9_sensesOf 4 (some .int) (rmL 2 82) [.ref (gad G 0), .int a1] σ (some (.int a)) σ := by
  refine sCon.of (by decide) ⟨rfl, rfl⟩ (Nat.le_of_ble_eq_true rfl) RX9 rfl _ hf (fun K hK => ?_)
  show sV wMod G K a σ 0 [(0, .ref (gad G 0)), (1, .int a1)] [] _
  unfold fX9_sensesOf
  refine r_iconst (q := 1) (v := 0) hK dX9_sensesOf_0 rfl rfl ?_
  refine r_istore_n (q := 2) (loc' := [(2, .int (0 : Int32)), (0, .ref (gad G 0)), (1, .int a1)]) hK dX9_sensesOf_1 rfl rfl (by decide) rfl ?_
  refine r_iconst (q := 3) (v := 0) hK dX9_sensesOf_2 rfl rfl ?_
  refine r_istore_n (q := 4) (loc' := [(3, .int (0 : Int32)), (2, .int (0 : Int32)), (0, .ref (gad G 0)), (1, .int a1)]) hK dX9_sensesOf_3 rfl rfl (by decide) rfl ?_
  exact sV.sub [2, 3, 1, 0] (by rfl) (vX9_sensesOf_L4 σ a1 hK FU (0 : Int32) (0 : Int32))
def fX9_haveAll  (a1 : Int32) (a2 : Int32) (σ : Store) : Option Bool := (sbd (fX9_sensesOf a1 σ) fun r1 => (if ¬ (a2 &&& (r1 ^^^ (-1 : Int32))) = 0 then (some false) else (some true)))
theorem c_X9_haveAll {l0 : Launch} {G : Geo} (a1 : Int32) (a2 : Int32) (σ : Store) (a : Bool) (hf : fX9_haveAll  a1 a2 σ = some a) : sCon l0 wMod G yX9_haveAll cX9_haveAll 3 (some .boolean) (rmL 3 105) [.ref (gad G 0), .int a1, .int a2] σ (some (.int (b2i a))) σ := by
  refine sCon.of (by decide) ⟨rfl, rfl⟩ (Nat.le_of_ble_eq_true rfl) RX9 rfl _ hf (fun K hK => ?_)
  show sV wMod G K a σ 0 [(0, .ref (gad G 0)), (1, .int a1), (2, .int a2)] [] _
  unfold fX9_haveAll
  refine r_iload_n (q := 1) hK dX9_haveAll_0 rfl rfl 2 rfl ?_
  refine r_aload_n (q := 2) hK dX9_haveAll_1 rfl rfl 0 rfl ?_
  refine r_iload_n (q := 3) hK dX9_haveAll_2 rfl rfl 1 rfl ?_
  refine callV_i (q := 6) (j := 0) (As := [.int a1]) (rest := [.int a2]) (f := (fX9_sensesOf a1 σ)) hK dX9_haveAll_3 rfl (fun b hb => c_X9_sensesOf a1 σ b hb) ⟨9, _, _, _, by decide, rfl, cM, rfl⟩ mv_X9_sensesOf rfl rfl (Nat.le_of_ble_eq_true rfl) tw_1065 mw_X9_sensesOf (rmOk (Nat.le_of_ble_eq_true rfl) (Nat.le_of_ble_eq_true rfl)) (fun r1 => ?_)
  refine r_iconst (q := 7) (v := -1) hK dX9_haveAll_6 rfl rfl ?_
  refine r_ixor (q := 8) hK dX9_haveAll_7 rfl ?_
  refine r_iand (q := 9) hK dX9_haveAll_8 rfl ?_
  refine r_if_ne (t := 16) (q := 12) hK dX9_haveAll_9 rfl rfl (fun c2 => ?_) (fun c2 => ?_)
  · refine r_iconst (q := 17) (v := 0) hK dX9_haveAll_16 rfl rfl ?_
    exact e_b (b := false) hK dX9_haveAll_17
  · refine r_iconst (q := 13) (v := 1) hK dX9_haveAll_12 rfl rfl ?_
    refine r_goto (q := 17) hK dX9_haveAll_13 rfl ?_
    exact e_b (b := true) hK dX9_haveAll_17
def fX9_areSenses  (a0 : Int32) (σ : Store) : Option Bool := (sbd (fX9_within a0 (0 : Int32) (255 : Int32) σ) fun r1 => (some r1))
theorem c_X9_areSenses {l0 : Launch} {G : Geo} (a0 : Int32) (σ : Store) (a : Bool) (hf : fX9_areSenses  a0 σ = some a) : sCon l0 wMod G yX9_areSenses cX9_areSenses 1 (some .boolean) (rmL 2 82) [.int a0] σ (some (.int (b2i a))) σ := by
  refine sCon.of (by decide) ⟨rfl, rfl⟩ (Nat.le_of_ble_eq_true rfl) RX9 rfl _ hf (fun K hK => ?_)
  show sV wMod G K a σ 0 [(0, .int a0)] [] _
  unfold fX9_areSenses
  refine r_iload_n (q := 1) hK dX9_areSenses_0 rfl rfl 0 rfl ?_
  refine r_iconst (q := 2) (v := 0) hK dX9_areSenses_1 rfl rfl ?_
  refine r_sipush (q := 5) (v := 255) hK dX9_areSenses_2 rfl rfl ?_
  refine callS_b (q := 8) (As := [.int a0, .int (0 : Int32), .int (255 : Int32)]) (rest := []) (f := (fX9_within a0 (0 : Int32) (255 : Int32) σ)) hK dX9_areSenses_5 rfl (fun b hb => c_X9_within a0 (0 : Int32) (255 : Int32) σ b hb) ms_X9_within rfl rfl (Nat.le_of_ble_eq_true rfl) tw_900 mw_X9_within (rmOk (Nat.le_of_ble_eq_true rfl) (Nat.le_of_ble_eq_true rfl)) (fun r1 => ?_)
  exact e_b (b := r1) hK dX9_areSenses_8
def fX9_says  (a1 : Int32) (a2 : Int32) (σ : Store) : Option Int32 := (sbd (fX9_isTraveller a1 σ) fun r1 => (if r1 = true then (sbd (fX9_areSenses a2 σ) fun r3 => (if r3 = true then (sbd (fX9_travellerIs a1 (0 : Int32) σ) fun r5 => (sbd (fX9_haveAll r5 a2 σ) fun r6 => (if r6 = true then (some (1 : Int32)) else (some (0 : Int32))))) else (some (-1000000001 : Int32)))) else (some (-1000000001 : Int32))))
theorem c_X9_says {l0 : Launch} {G : Geo} (a1 : Int32) (a2 : Int32) (σ : Store) (a : Int32) (hf : fX9_says  a1 a2 σ = some a) : sCon l0 wMod G yX9_says cX9_says 3 (some .int) (rmL 4 127) [.ref (gad G 0), .int a1, .int a2] σ (some (.int a)) σ := by
  refine sCon.of (by decide) ⟨rfl, rfl⟩ (Nat.le_of_ble_eq_true rfl) RX9 rfl _ hf (fun K hK => ?_)
  show sV wMod G K a σ 0 [(0, .ref (gad G 0)), (1, .int a1), (2, .int a2)] [] _
  unfold fX9_says
  refine r_aload_n (q := 1) hK dX9_says_0 rfl rfl 0 rfl ?_
  refine r_iload_n (q := 2) hK dX9_says_1 rfl rfl 1 rfl ?_
  refine callV_b (q := 5) (j := 0) (As := [.int a1]) (rest := []) (f := (fX9_isTraveller a1 σ)) hK dX9_says_2 rfl (fun b hb => c_X9_isTraveller a1 σ b hb) ⟨9, _, _, _, by decide, rfl, cM, rfl⟩ mv_X9_isTraveller rfl rfl (Nat.le_of_ble_eq_true rfl) tw_982 mw_X9_isTraveller (rmOk (Nat.le_of_ble_eq_true rfl) (Nat.le_of_ble_eq_true rfl)) (fun r1 => ?_)
  refine r_ifb_eq (t := 15) (q := 8) hK dX9_says_5 rfl rfl (fun c2 => ?_) (fun c2 => ?_)
  · refine r_iload_n (q := 9) hK dX9_says_8 rfl rfl 2 rfl ?_
    refine callS_b (q := 12) (As := [.int a2]) (rest := []) (f := (fX9_areSenses a2 σ)) hK dX9_says_9 rfl (fun b hb => c_X9_areSenses a2 σ b hb) ms_X9_areSenses rfl rfl (Nat.le_of_ble_eq_true rfl) tw_1058 mw_X9_areSenses (rmOk (Nat.le_of_ble_eq_true rfl) (Nat.le_of_ble_eq_true rfl)) (fun r3 => ?_)
    refine r_ifb_ne (t := 18) (q := 15) hK dX9_says_12 rfl rfl (fun c4 => ?_) (fun c4 => ?_)
    · refine r_aload_n (q := 19) hK dX9_says_18 rfl rfl 0 rfl ?_
      refine r_aload_n (q := 20) hK dX9_says_19 rfl rfl 0 rfl ?_
      refine r_iload_n (q := 21) hK dX9_says_20 rfl rfl 1 rfl ?_
      refine r_iconst (q := 22) (v := 0) hK dX9_says_21 rfl rfl ?_
      refine callV_i (q := 25) (j := 0) (As := [.int a1, .int (0 : Int32)]) (rest := [.ref (gad G 0)]) (f := (fX9_travellerIs a1 (0 : Int32) σ)) hK dX9_says_22 rfl (fun b hb => c_X9_travellerIs a1 (0 : Int32) σ b hb) ⟨9, _, _, _, by decide, rfl, cM, rfl⟩ mv_X9_travellerIs rfl rfl (Nat.le_of_ble_eq_true rfl) tw_986 mw_X9_travellerIs (rmOk (Nat.le_of_ble_eq_true rfl) (Nat.le_of_ble_eq_true rfl)) (fun r5 => ?_)
      refine r_iload_n (q := 26) hK dX9_says_25 rfl rfl 2 rfl ?_
      refine callV_b (q := 29) (j := 0) (As := [.int r5, .int a2]) (rest := []) (f := (fX9_haveAll r5 a2 σ)) hK dX9_says_26 rfl (fun b hb => c_X9_haveAll r5 a2 σ b hb) ⟨9, _, _, _, by decide, rfl, cM, rfl⟩ mv_X9_haveAll rfl rfl (Nat.le_of_ble_eq_true rfl) tw_1061 mw_X9_haveAll (rmOk (Nat.le_of_ble_eq_true rfl) (Nat.le_of_ble_eq_true rfl)) (fun r6 => ?_)
      refine r_ifb_eq (t := 36) (q := 32) hK dX9_says_29 rfl rfl (fun c7 => ?_) (fun c7 => ?_)
      · refine r_iconst (q := 33) (v := 1) hK dX9_says_32 rfl rfl ?_
        refine r_goto (q := 37) hK dX9_says_33 rfl ?_
        exact e_i hK dX9_says_37
      · refine r_iconst (q := 37) (v := 0) hK dX9_says_36 rfl rfl ?_
        exact e_i hK dX9_says_37
    · refine r_ldc (q := 17) hK dX9_says_15 rfl tw_906 ?_
      exact e_i hK dX9_says_17
  · refine r_ldc (q := 17) hK dX9_says_15 rfl tw_906 ?_
    exact e_i hK dX9_says_17
def fX9_costTogether_L4  (v1 : Int32) (σ : Store) : Nat → Int32 → Int32 → Option Int32
  | 0, _, _ => none
  | n + 1, i2, i3 => (six 1480 (5 : Int32) (if (σ 1 (snx (5 : Int32))) ≤ i3 then (some i2) else (sbd (fX9_has v1 i3 σ) fun r17 => (if r17 = true then (six 10 i3 (slt (i2 + (σ 4 (snx i3))) fun x20 => (fX9_costTogether_L4 v1 σ n x20 (i3 + (1 : Int32))))) else (slt (i2 + (0 : Int32)) fun x21 => (fX9_costTogether_L4 v1 σ n x21 (i3 + (1 : Int32))))))))
theorem vX9_costTogether_L4 {G : Geo} {K : KT} {l0 : Launch} (σ : Store) {a : Int32} (v1 : Int32) (hK : sOk wMod G K l0 RX9 cX9_costTogether (rmL 2 81) 4 (some .int) (some (.int a)) σ) : ∀ (n : Nat) (i2 : Int32) (i3 : Int32), sV wMod G K a σ 4 [(0, .ref (gad G 0)), (1, .int v1), (2, .int i2), (3, .int i3)] [] (fX9_costTogether_L4 v1 σ n i2 i3) := by
  intro n
  induction n with
  | zero =>
    intro i2 i3
    exact sV.no
  | succ n ih =>
    intro i2 i3
    rw [fX9_costTogether_L4]
    refine r_iload_n (q := 5) hK dX9_costTogether_4 rfl rfl 3 rfl ?_
    refine r_aload_n (q := 6) hK dX9_costTogether_5 rfl rfl 0 rfl ?_
    refine gf_9_0 (q := 9) hK dX9_costTogether_6 rfl tw_804 ?_
    refine r_iconst (q := 10) (v := 5) hK dX9_costTogether_9 rfl rfl ?_
    refine r_iald (q := 11) hK dX9_costTogether_10 rfl aM1 (fun h15 => ?_)
    refine r_icmp_ge (t := 41) (q := 14) hK dX9_costTogether_11 rfl rfl (fun c16 => ?_) (fun c16 => ?_)
    · refine r_iload_n (q := 42) hK dX9_costTogether_41 rfl rfl 2 rfl ?_
      exact e_i hK dX9_costTogether_42
    · refine r_iload_n (q := 15) hK dX9_costTogether_14 rfl rfl 2 rfl ?_
      refine r_iload_n (q := 16) hK dX9_costTogether_15 rfl rfl 1 rfl ?_
      refine r_iload_n (q := 17) hK dX9_costTogether_16 rfl rfl 3 rfl ?_
      refine callS_b (q := 20) (As := [.int v1, .int i3]) (rest := [.int i2]) (f := (fX9_has v1 i3 σ)) hK dX9_costTogether_17 rfl (fun b hb => c_X9_has v1 i3 σ b hb) ms_X9_has rfl rfl (Nat.le_of_ble_eq_true rfl) tw_1023 mw_X9_has (rmOk (Nat.le_of_ble_eq_true rfl) (Nat.le_of_ble_eq_true rfl)) (fun r17 => ?_)
      refine r_ifb_eq (t := 32) (q := 23) hK dX9_costTogether_20 rfl rfl (fun c18 => ?_) (fun c18 => ?_)
      · refine r_aload_n (q := 24) hK dX9_costTogether_23 rfl rfl 0 rfl ?_
        refine gf_9_4 (q := 27) hK dX9_costTogether_24 rfl tw_808 ?_
        refine r_iload_n (q := 28) hK dX9_costTogether_27 rfl rfl 3 rfl ?_
        refine r_iald (q := 29) hK dX9_costTogether_28 rfl aM4 (fun h19 => ?_)
        refine r_goto (q := 33) hK dX9_costTogether_29 rfl ?_
        refine r_iadd (q := 34) hK dX9_costTogether_33 rfl ?_
        refine sV.ltI (fun x20 => ?_)
        refine r_istore_n (q := 35) (loc' := [(2, .int x20), (0, .ref (gad G 0)), (1, .int v1), (3, .int i3)]) hK dX9_costTogether_34 rfl rfl (by decide) rfl ?_
        refine r_iinc (q := 38) (v := (i3 + (1 : Int32))) (loc' := [(3, .int (i3 + (1 : Int32))), (2, .int x20), (0, .ref (gad G 0)), (1, .int v1)]) hK dX9_costTogether_35 rfl 3 rfl rfl (by decide) rfl ?_
        refine r_goto (q := 4) hK dX9_costTogether_38 rfl ?_
        exact sV.sub [2, 3, 1, 0] (by rfl) (ih x20 (i3 + (1 : Int32)))
      · refine r_iconst (q := 33) (v := 0) hK dX9_costTogether_32 rfl rfl ?_
        refine r_iadd (q := 34) hK dX9_costTogether_33 rfl ?_
        refine sV.ltI (fun x21 => ?_)
        refine r_istore_n (q := 35) (loc' := [(2, .int x21), (0, .ref (gad G 0)), (1, .int v1), (3, .int i3)]) hK dX9_costTogether_34 rfl rfl (by decide) rfl ?_
        refine r_iinc (q := 38) (v := (i3 + (1 : Int32))) (loc' := [(3, .int (i3 + (1 : Int32))), (2, .int x21), (0, .ref (gad G 0)), (1, .int v1)]) hK dX9_costTogether_35 rfl 3 rfl rfl (by decide) rfl ?_
        refine r_goto (q := 4) hK dX9_costTogether_38 rfl ?_
        exact sV.sub [2, 3, 1, 0] (by rfl) (ih x21 (i3 + (1 : Int32)))
def fX9_costTogether  (a1 : Int32) (σ : Store) : Option Int32 := (fX9_costTogether_L4 a1 σ FU (0 : Int32) (0 : Int32))
theorem c_X9_costTogether {l0 : Launch} {G : Geo} (a1 : Int32) (σ : Store) (a : Int32) (hf : fX9_costTogether  a1 σ = some a) : sCon l0 wMod G yX9_costTogether cX9_costTogether 4 (some .int) (rmL 2 81) [.ref (gad G 0), .int a1] σ (some (.int a)) σ := by
  refine sCon.of (by decide) ⟨rfl, rfl⟩ (Nat.le_of_ble_eq_true rfl) RX9 rfl _ hf (fun K hK => ?_)
  show sV wMod G K a σ 0 [(0, .ref (gad G 0)), (1, .int a1)] [] _
  unfold fX9_costTogether
  refine r_iconst (q := 1) (v := 0) hK dX9_costTogether_0 rfl rfl ?_
  refine r_istore_n (q := 2) (loc' := [(2, .int (0 : Int32)), (0, .ref (gad G 0)), (1, .int a1)]) hK dX9_costTogether_1 rfl rfl (by decide) rfl ?_
  refine r_iconst (q := 3) (v := 0) hK dX9_costTogether_2 rfl rfl ?_
  refine r_istore_n (q := 4) (loc' := [(3, .int (0 : Int32)), (2, .int (0 : Int32)), (0, .ref (gad G 0)), (1, .int a1)]) hK dX9_costTogether_3 rfl rfl (by decide) rfl ?_
  exact sV.sub [2, 3, 1, 0] (by rfl) (vX9_costTogether_L4 σ a1 hK FU (0 : Int32) (0 : Int32))
def fX9_cheapest_L38   (k : Int32 → Store → Option (Int32 × Store)) : Nat → Int32 → Store → Option (Int32 × Store)
  | 0, _, _ => none
  | n + 1, i5, τ => (six 1480 (5 : Int32) (if (τ 1 (snx (5 : Int32))) ≤ i5 then (k i5 τ) else (sbd2 (fX9_costs i5 τ) fun r22 s23 => (six 10 i5 (slt (sup s23 4 (snx i5) r22) fun s25 => (fX9_cheapest_L38 k n (i5 + (1 : Int32)) s25))))))
theorem vX9_cheapest_L38 {G : Geo} {K : KT} {l0 : Launch} (σ : Store) {a : (Int32 × Store)} (v1 : Int32) (v2 : Int32) (v3 : Int32) (v4 : Int32) (hK : sOk wMod G K l0 RX9 cX9_cheapest (rmL 5 152) 10 (some .int) (some (.int a.1)) a.2) (k : Int32 → Store → Option (Int32 × Store)) (hk : ∀ (e5 : Int32) (ε : Store), sV wMod G K a ε 68 [(0, .ref (gad G 0)), (1, .int v1), (2, .int v2), (3, .int v3), (4, .int v4), (5, .int e5)] [] (k e5 ε)) : ∀ (n : Nat) (i5 : Int32) (τ : Store), sV wMod G K a τ 38 [(0, .ref (gad G 0)), (1, .int v1), (2, .int v2), (3, .int v3), (4, .int v4), (5, .int i5)] [] (fX9_cheapest_L38  k n i5 τ) := by
  intro n
  induction n with
  | zero =>
    intro i5 τ
    exact sV.no
  | succ n ih =>
    intro i5 τ
    rw [fX9_cheapest_L38]
    refine r_iload (q := 40) hK dX9_cheapest_38 rfl 5 rfl ?_
    refine r_aload_n (q := 41) hK dX9_cheapest_40 rfl rfl 0 rfl ?_
    refine gf_9_0 (q := 44) hK dX9_cheapest_41 rfl tw_804 ?_
    refine r_iconst (q := 45) (v := 5) hK dX9_cheapest_44 rfl rfl ?_
    refine r_iald (q := 46) hK dX9_cheapest_45 rfl aM1 (fun h20 => ?_)
    refine r_icmp_ge (t := 68) (q := 49) hK dX9_cheapest_46 rfl rfl (fun c21 => ?_) (fun c21 => ?_)
    · exact sV.sub [0, 1, 2, 3, 4, 5] (by rfl) (hk i5 τ)
    · refine r_aload_n (q := 50) hK dX9_cheapest_49 rfl rfl 0 rfl ?_
      refine gf_9_4 (q := 53) hK dX9_cheapest_50 rfl tw_808 ?_
      refine r_iload (q := 55) hK dX9_cheapest_53 rfl 5 rfl ?_
      refine r_aload_n (q := 56) hK dX9_cheapest_55 rfl rfl 0 rfl ?_
      refine r_iload (q := 58) hK dX9_cheapest_56 rfl 5 rfl ?_
      refine callV_iS (q := 61) (j := 0) (As := [.int i5]) (rest := [.int i5, .ref (gad G 4)]) (f := (fX9_costs i5 τ)) hK dX9_cheapest_58 rfl (fun b hb => c_X9_costs i5 τ b hb) ⟨9, _, _, _, by decide, rfl, cM, rfl⟩ mv_X9_costs rfl rfl (Nat.le_of_ble_eq_true rfl) tw_920 mw_X9_costs (rmOk (Nat.le_of_ble_eq_true rfl) (Nat.le_of_ble_eq_true rfl)) (fun r22 s23 => ?_)
      refine r_iast (q := 62) hK dX9_cheapest_61 rfl aM4 (fun h24 => ?_)
      refine sV.ltS (fun s25 => ?_)
      refine r_iinc (q := 65) (v := (i5 + (1 : Int32))) (loc' := [(5, .int (i5 + (1 : Int32))), (0, .ref (gad G 0)), (1, .int v1), (2, .int v2), (3, .int v3), (4, .int v4)]) hK dX9_cheapest_62 rfl 5 rfl rfl (by decide) rfl ?_
      refine r_goto (q := 38) hK dX9_cheapest_65 rfl ?_
      exact sV.sub [1, 2, 3, 4, 5, 0] (by rfl) (ih (i5 + (1 : Int32)) s25)
def fX9_cheapest_L77  (v2 : Int32) (v4 : Int32) (σ : Store) (k : Int32 → Int32 → Int32 → Option (Int32 × Store)) : Nat → Int32 → Int32 → Int32 → Option (Int32 × Store)
  | 0, _, _, _ => none
  | n + 1, i5, i6, i7 => (six 1480 (5 : Int32) (if ((1 : Int32) <<< ((σ 1 (snx (5 : Int32))) &&& 31)) ≤ i7 then (k i5 i6 i7) else (sbd (fX9_haveAll i7 v2 σ) fun r70 => (if r70 = true then (sbd (fX9_costTogether (i7 &&& (v4 ^^^ (-1 : Int32))) σ) fun r72 => (sjn (fun k160 : Bool → Option (Int32 × Store) => (if i5 < 0 then (k160 true) else (if r72 < i6 then (k160 true) else (if ¬ r72 = i6 then (k160 false) else (sbd (fX9_bits (i7 &&& (v4 ^^^ (-1 : Int32))) σ) fun r85 => (sbd (fX9_bits (i5 &&& (v4 ^^^ (-1 : Int32))) σ) fun r86 => (if r86 ≤ r85 then (k160 false) else (k160 true)))))))) (fun (z0_160 : Bool) => (sjn (fun k174 : Int32 → Option (Int32 × Store) => (if z0_160 = true then (k174 r72) else (k174 i6))) (fun (z0_174 : Int32) => (if z0_160 = true then (fX9_cheapest_L77 v2 v4 σ k n i7 z0_174 (i7 + (1 : Int32))) else (fX9_cheapest_L77 v2 v4 σ k n i5 z0_174 (i7 + (1 : Int32))))))))) else (fX9_cheapest_L77 v2 v4 σ k n i5 i6 (i7 + (1 : Int32)))))))
theorem vX9_cheapest_L77 {G : Geo} {K : KT} {l0 : Launch} (σ : Store) {a : (Int32 × Store)} (v1 : Int32) (v2 : Int32) (v3 : Int32) (v4 : Int32) (hK : sOk wMod G K l0 RX9 cX9_cheapest (rmL 5 152) 10 (some .int) (some (.int a.1)) a.2) (k : Int32 → Int32 → Int32 → Option (Int32 × Store)) (hk : ∀ (e5 : Int32) (e6 : Int32) (e7 : Int32), sV wMod G K a σ 196 [(0, .ref (gad G 0)), (1, .int v1), (2, .int v2), (3, .int v3), (4, .int v4), (5, .int e5), (6, .int e6), (7, .int e7)] [] (k e5 e6 e7)) : ∀ (n : Nat) (i5 : Int32) (i6 : Int32) (i7 : Int32), sV wMod G K a σ 77 [(0, .ref (gad G 0)), (1, .int v1), (2, .int v2), (3, .int v3), (4, .int v4), (5, .int i5), (6, .int i6), (7, .int i7)] [] (fX9_cheapest_L77 v2 v4 σ k n i5 i6 i7) := by
  intro n
  induction n with
  | zero =>
    intro i5 i6 i7
    exact sV.no
  | succ n ih =>
    intro i5 i6 i7
    rw [fX9_cheapest_L77]
    refine r_iload (q := 79) hK dX9_cheapest_77 rfl 7 rfl ?_
    refine r_iconst (q := 80) (v := 1) hK dX9_cheapest_79 rfl rfl ?_
    refine r_aload_n (q := 81) hK dX9_cheapest_80 rfl rfl 0 rfl ?_
    refine gf_9_0 (q := 84) hK dX9_cheapest_81 rfl tw_804 ?_
    refine r_iconst (q := 85) (v := 5) hK dX9_cheapest_84 rfl rfl ?_
    refine r_iald (q := 86) hK dX9_cheapest_85 rfl aM1 (fun h68 => ?_)
    refine r_ishl (q := 87) hK dX9_cheapest_86 rfl ?_
    refine r_icmp_ge (t := 196) (q := 90) hK dX9_cheapest_87 rfl rfl (fun c69 => ?_) (fun c69 => ?_)
    · exact sV.sub [0, 1, 2, 3, 4, 5, 6, 7] (by rfl) (hk i5 i6 i7)
    · refine r_aload_n (q := 91) hK dX9_cheapest_90 rfl rfl 0 rfl ?_
      refine r_iload (q := 93) hK dX9_cheapest_91 rfl 7 rfl ?_
      refine r_iload_n (q := 94) hK dX9_cheapest_93 rfl rfl 2 rfl ?_
      refine callV_b (q := 97) (j := 0) (As := [.int i7, .int v2]) (rest := []) (f := (fX9_haveAll i7 v2 σ)) hK dX9_cheapest_94 rfl (fun b hb => c_X9_haveAll i7 v2 σ b hb) ⟨9, _, _, _, by decide, rfl, cM, rfl⟩ mv_X9_haveAll rfl rfl (Nat.le_of_ble_eq_true rfl) tw_1061 mw_X9_haveAll (rmOk (Nat.le_of_ble_eq_true rfl) (Nat.le_of_ble_eq_true rfl)) (fun r70 => ?_)
      refine r_ifb_eq (t := 190) (q := 100) hK dX9_cheapest_97 rfl rfl (fun c71 => ?_) (fun c71 => ?_)
      · refine r_aload_n (q := 101) hK dX9_cheapest_100 rfl rfl 0 rfl ?_
        refine r_iload (q := 103) hK dX9_cheapest_101 rfl 7 rfl ?_
        refine r_iload (q := 105) hK dX9_cheapest_103 rfl 4 rfl ?_
        refine r_iconst (q := 106) (v := -1) hK dX9_cheapest_105 rfl rfl ?_
        refine r_ixor (q := 107) hK dX9_cheapest_106 rfl ?_
        refine r_iand (q := 108) hK dX9_cheapest_107 rfl ?_
        refine callV_i (q := 111) (j := 0) (As := [.int (i7 &&& (v4 ^^^ (-1 : Int32)))]) (rest := []) (f := (fX9_costTogether (i7 &&& (v4 ^^^ (-1 : Int32))) σ)) hK dX9_cheapest_108 rfl (fun b hb => c_X9_costTogether (i7 &&& (v4 ^^^ (-1 : Int32))) σ b hb) ⟨9, _, _, _, by decide, rfl, cM, rfl⟩ mv_X9_costTogether rfl rfl (Nat.le_of_ble_eq_true rfl) tw_1073 mw_X9_costTogether (rmOk (Nat.le_of_ble_eq_true rfl) (Nat.le_of_ble_eq_true rfl)) (fun r72 => ?_)
        refine r_istore (q := 113) (loc' := [(8, .int r72), (0, .ref (gad G 0)), (1, .int v1), (2, .int v2), (3, .int v3), (4, .int v4), (5, .int i5), (6, .int i6), (7, .int i7)]) hK dX9_cheapest_111 rfl (by decide) rfl ?_
        refine r_iload (q := 115) hK dX9_cheapest_113 rfl 6 rfl ?_
        refine sV.jn (fun k : Bool → Option (Int32 × Store) => ∀ (z0_160 : Bool), sV wMod G K a σ 160 [(0, .ref (gad G 0)), (1, .int v1), (2, .int v2), (3, .int v3), (4, .int v4), (5, .int i5), (6, .int i6), (7, .int i7), (8, .int r72)] [.int (b2i z0_160)] (k z0_160)) (fun z0_160 => ?_) (fun k160 hk160 => ?_)
        · refine r_istore (q := 162) (loc' := [(9, .int (b2i z0_160)), (0, .ref (gad G 0)), (1, .int v1), (2, .int v2), (3, .int v3), (4, .int v4), (5, .int i5), (6, .int i6), (7, .int i7), (8, .int r72)]) hK dX9_cheapest_160 rfl (by decide) rfl ?_
          refine r_iload (q := 164) hK dX9_cheapest_162 rfl 0 rfl ?_
          refine sV.jn (fun k : Int32 → Option (Int32 × Store) => ∀ (z0_174 : Int32), sV wMod G K a σ 174 [(0, .ref (gad G 0)), (1, .int v1), (2, .int v2), (3, .int v3), (4, .int v4), (5, .int i5), (6, .int i6), (7, .int i7), (8, .int r72), (9, .int (b2i z0_160))] [.int z0_174] (k z0_174)) (fun z0_174 => ?_) (fun k174 hk174 => ?_)
          · refine r_istore (q := 176) (loc' := [(6, .int z0_174), (0, .ref (gad G 0)), (1, .int v1), (2, .int v2), (3, .int v3), (4, .int v4), (5, .int i5), (7, .int i7), (8, .int r72), (9, .int (b2i z0_160))]) hK dX9_cheapest_174 rfl (by decide) rfl ?_
            refine r_iload (q := 178) hK dX9_cheapest_176 rfl 9 rfl ?_
            refine r_ifb_eq (t := 186) (q := 181) hK dX9_cheapest_178 rfl rfl (fun c80 => ?_) (fun c80 => ?_)
            · refine r_iload (q := 183) hK dX9_cheapest_181 rfl 7 rfl ?_
              refine r_goto (q := 188) hK dX9_cheapest_183 rfl ?_
              refine r_istore (q := 190) (loc' := [(5, .int i7), (6, .int z0_174), (0, .ref (gad G 0)), (1, .int v1), (2, .int v2), (3, .int v3), (4, .int v4), (7, .int i7), (8, .int r72), (9, .int (b2i z0_160))]) hK dX9_cheapest_188 rfl (by decide) rfl ?_
              refine r_iinc (q := 193) (v := (i7 + (1 : Int32))) (loc' := [(7, .int (i7 + (1 : Int32))), (5, .int i7), (6, .int z0_174), (0, .ref (gad G 0)), (1, .int v1), (2, .int v2), (3, .int v3), (4, .int v4), (8, .int r72), (9, .int (b2i z0_160))]) hK dX9_cheapest_190 rfl 7 rfl rfl (by decide) rfl ?_
              refine r_goto (q := 77) hK dX9_cheapest_193 rfl ?_
              exact sV.sub [3, 4, 5, 6, 7, 1, 2, 0] (by rfl) (ih i7 z0_174 (i7 + (1 : Int32)))
            · refine r_iload (q := 188) hK dX9_cheapest_186 rfl 6 rfl ?_
              refine r_istore (q := 190) (loc' := [(5, .int i5), (6, .int z0_174), (0, .ref (gad G 0)), (1, .int v1), (2, .int v2), (3, .int v3), (4, .int v4), (7, .int i7), (8, .int r72), (9, .int (b2i z0_160))]) hK dX9_cheapest_188 rfl (by decide) rfl ?_
              refine r_iinc (q := 193) (v := (i7 + (1 : Int32))) (loc' := [(7, .int (i7 + (1 : Int32))), (5, .int i5), (6, .int z0_174), (0, .ref (gad G 0)), (1, .int v1), (2, .int v2), (3, .int v3), (4, .int v4), (8, .int r72), (9, .int (b2i z0_160))]) hK dX9_cheapest_190 rfl 7 rfl rfl (by decide) rfl ?_
              refine r_goto (q := 77) hK dX9_cheapest_193 rfl ?_
              exact sV.sub [3, 4, 5, 6, 7, 1, 2, 0] (by rfl) (ih i5 z0_174 (i7 + (1 : Int32)))
          · refine r_ifb_eq (t := 172) (q := 167) hK dX9_cheapest_164 rfl rfl (fun c81 => ?_) (fun c81 => ?_)
            · refine r_iload (q := 169) hK dX9_cheapest_167 rfl 9 rfl ?_
              refine r_goto (q := 174) hK dX9_cheapest_169 rfl ?_
              exact sV.sub [1, 2, 3, 4, 5, 6, 7, 8, 9, 0] (by rfl) (hk174 r72)
            · refine r_iload (q := 174) hK dX9_cheapest_172 rfl 7 rfl ?_
              exact sV.sub [1, 2, 3, 4, 5, 6, 7, 8, 9, 0] (by rfl) (hk174 i6)
        · refine r_if_lt (t := 155) (q := 118) hK dX9_cheapest_115 rfl rfl (fun c82 => ?_) (fun c82 => ?_)
          · refine r_iconst (q := 156) (v := 1) hK dX9_cheapest_155 rfl rfl ?_
            refine r_goto (q := 160) hK dX9_cheapest_156 rfl ?_
            exact sV.sub [1, 2, 3, 4, 5, 6, 7, 8, 0] (by rfl) (hk160 true)
          · refine r_iload (q := 120) hK dX9_cheapest_118 rfl 0 rfl ?_
            refine r_iload (q := 122) hK dX9_cheapest_120 rfl 7 rfl ?_
            refine r_icmp_lt (t := 155) (q := 125) hK dX9_cheapest_122 rfl rfl (fun c83 => ?_) (fun c83 => ?_)
            · refine r_iconst (q := 156) (v := 1) hK dX9_cheapest_155 rfl rfl ?_
              refine r_goto (q := 160) hK dX9_cheapest_156 rfl ?_
              exact sV.sub [1, 2, 3, 4, 5, 6, 7, 8, 0] (by rfl) (hk160 true)
            · refine r_iload (q := 127) hK dX9_cheapest_125 rfl 0 rfl ?_
              refine r_iload (q := 129) hK dX9_cheapest_127 rfl 7 rfl ?_
              refine r_icmp_ne (t := 159) (q := 132) hK dX9_cheapest_129 rfl rfl (fun c84 => ?_) (fun c84 => ?_)
              · refine r_iconst (q := 160) (v := 0) hK dX9_cheapest_159 rfl rfl ?_
                exact sV.sub [1, 2, 3, 4, 5, 6, 7, 8, 0] (by rfl) (hk160 false)
              · refine r_iload (q := 134) hK dX9_cheapest_132 rfl 8 rfl ?_
                refine r_iload (q := 136) hK dX9_cheapest_134 rfl 5 rfl ?_
                refine r_iconst (q := 137) (v := -1) hK dX9_cheapest_136 rfl rfl ?_
                refine r_ixor (q := 138) hK dX9_cheapest_137 rfl ?_
                refine r_iand (q := 139) hK dX9_cheapest_138 rfl ?_
                refine callS_i (q := 142) (As := [.int (i7 &&& (v4 ^^^ (-1 : Int32)))]) (rest := []) (f := (fX9_bits (i7 &&& (v4 ^^^ (-1 : Int32))) σ)) hK dX9_cheapest_139 rfl (fun b hb => c_X9_bits (i7 &&& (v4 ^^^ (-1 : Int32))) σ b hb) ms_X9_bits rfl rfl (Nat.le_of_ble_eq_true rfl) tw_948 mw_X9_bits (rmOk (Nat.le_of_ble_eq_true rfl) (Nat.le_of_ble_eq_true rfl)) (fun r85 => ?_)
                refine r_iload (q := 144) hK dX9_cheapest_142 rfl 6 rfl ?_
                refine r_iload (q := 146) hK dX9_cheapest_144 rfl 5 rfl ?_
                refine r_iconst (q := 147) (v := -1) hK dX9_cheapest_146 rfl rfl ?_
                refine r_ixor (q := 148) hK dX9_cheapest_147 rfl ?_
                refine r_iand (q := 149) hK dX9_cheapest_148 rfl ?_
                refine callS_i (q := 152) (As := [.int (i5 &&& (v4 ^^^ (-1 : Int32)))]) (rest := [.int r85]) (f := (fX9_bits (i5 &&& (v4 ^^^ (-1 : Int32))) σ)) hK dX9_cheapest_149 rfl (fun b hb => c_X9_bits (i5 &&& (v4 ^^^ (-1 : Int32))) σ b hb) ms_X9_bits rfl rfl (Nat.le_of_ble_eq_true rfl) tw_948 mw_X9_bits (rmOk (Nat.le_of_ble_eq_true rfl) (Nat.le_of_ble_eq_true rfl)) (fun r86 => ?_)
                refine r_icmp_ge (t := 159) (q := 155) hK dX9_cheapest_152 rfl rfl (fun c87 => ?_) (fun c87 => ?_)
                · refine r_iconst (q := 160) (v := 0) hK dX9_cheapest_159 rfl rfl ?_
                  exact sV.sub [1, 2, 3, 4, 5, 6, 7, 8, 0] (by rfl) (hk160 false)
                · refine r_iconst (q := 156) (v := 1) hK dX9_cheapest_155 rfl rfl ?_
                  refine r_goto (q := 160) hK dX9_cheapest_156 rfl ?_
                  exact sV.sub [1, 2, 3, 4, 5, 6, 7, 8, 0] (by rfl) (hk160 true)
      · refine r_iinc (q := 193) (v := (i7 + (1 : Int32))) (loc' := [(7, .int (i7 + (1 : Int32))), (0, .ref (gad G 0)), (1, .int v1), (2, .int v2), (3, .int v3), (4, .int v4), (5, .int i5), (6, .int i6)]) hK dX9_cheapest_190 rfl 7 rfl rfl (by decide) rfl ?_
        refine r_goto (q := 77) hK dX9_cheapest_193 rfl ?_
        exact sV.sub [1, 2, 3, 4, 5, 6, 7, 0] (by rfl) (ih i5 i6 (i7 + (1 : Int32)))
def fX9_cheapest  (a1 : Int32) (a2 : Int32) (a3 : Int32) (σ : Store) : Option (Int32 × Store) := (sbd (fX9_isTraveller a1 σ) fun r1 => (if r1 = true then (sbd (fX9_areSenses a2 σ) fun r3 => (if r3 = true then (sbd (fX9_within a3 (0 : Int32) (1 : Int32) σ) fun r5 => (if r5 = true then (sbd (fX9_travellerIs a1 (0 : Int32) σ) fun r7 => (fX9_cheapest_L38  (fun x26 s27 => (fX9_cheapest_L77 a2 r7 s27 (fun x88 x89 x90 => (if 0 ≤ x88 then (if ¬ a3 = 0 then (some (x88, s27)) else (some (x89, s27))) else (some ((-1000000005 : Int32), s27)))) FU (-1 : Int32) (0 : Int32) (0 : Int32))) FU (0 : Int32) σ)) else (some ((-1000000001 : Int32), σ)))) else (some ((-1000000001 : Int32), σ)))) else (some ((-1000000001 : Int32), σ))))
theorem c_X9_cheapest {l0 : Launch} {G : Geo} (a1 : Int32) (a2 : Int32) (a3 : Int32) (σ : Store) (a : (Int32 × Store)) (hf : fX9_cheapest  a1 a2 a3 σ = some a) : sCon l0 wMod G yX9_cheapest cX9_cheapest 10 (some .int) (rmL 5 152) [.ref (gad G 0), .int a1, .int a2, .int a3] σ (some (.int a.1)) a.2 := by
  refine sCon.of (by decide) ⟨rfl, rfl⟩ (Nat.le_of_ble_eq_true rfl) RX9 rfl _ hf (fun K hK => ?_)
  show sV wMod G K a σ 0 [(0, .ref (gad G 0)), (1, .int a1), (2, .int a2), (3, .int a3)] [] _
  unfold fX9_cheapest
  refine r_aload_n (q := 1) hK dX9_cheapest_0 rfl rfl 0 rfl ?_
  refine r_iload_n (q := 2) hK dX9_cheapest_1 rfl rfl 1 rfl ?_
  refine callV_b (q := 5) (j := 0) (As := [.int a1]) (rest := []) (f := (fX9_isTraveller a1 σ)) hK dX9_cheapest_2 rfl (fun b hb => c_X9_isTraveller a1 σ b hb) ⟨9, _, _, _, by decide, rfl, cM, rfl⟩ mv_X9_isTraveller rfl rfl (Nat.le_of_ble_eq_true rfl) tw_982 mw_X9_isTraveller (rmOk (Nat.le_of_ble_eq_true rfl) (Nat.le_of_ble_eq_true rfl)) (fun r1 => ?_)
  refine r_ifb_eq (t := 24) (q := 8) hK dX9_cheapest_5 rfl rfl (fun c2 => ?_) (fun c2 => ?_)
  · refine r_iload_n (q := 9) hK dX9_cheapest_8 rfl rfl 2 rfl ?_
    refine callS_b (q := 12) (As := [.int a2]) (rest := []) (f := (fX9_areSenses a2 σ)) hK dX9_cheapest_9 rfl (fun b hb => c_X9_areSenses a2 σ b hb) ms_X9_areSenses rfl rfl (Nat.le_of_ble_eq_true rfl) tw_1058 mw_X9_areSenses (rmOk (Nat.le_of_ble_eq_true rfl) (Nat.le_of_ble_eq_true rfl)) (fun r3 => ?_)
    refine r_ifb_eq (t := 24) (q := 15) hK dX9_cheapest_12 rfl rfl (fun c4 => ?_) (fun c4 => ?_)
    · refine r_iload_n (q := 16) hK dX9_cheapest_15 rfl rfl 3 rfl ?_
      refine r_iconst (q := 17) (v := 0) hK dX9_cheapest_16 rfl rfl ?_
      refine r_iconst (q := 18) (v := 1) hK dX9_cheapest_17 rfl rfl ?_
      refine callS_b (q := 21) (As := [.int a3, .int (0 : Int32), .int (1 : Int32)]) (rest := []) (f := (fX9_within a3 (0 : Int32) (1 : Int32) σ)) hK dX9_cheapest_18 rfl (fun b hb => c_X9_within a3 (0 : Int32) (1 : Int32) σ b hb) ms_X9_within rfl rfl (Nat.le_of_ble_eq_true rfl) tw_900 mw_X9_within (rmOk (Nat.le_of_ble_eq_true rfl) (Nat.le_of_ble_eq_true rfl)) (fun r5 => ?_)
      refine r_ifb_ne (t := 27) (q := 24) hK dX9_cheapest_21 rfl rfl (fun c6 => ?_) (fun c6 => ?_)
      · refine r_aload_n (q := 28) hK dX9_cheapest_27 rfl rfl 0 rfl ?_
        refine r_iload_n (q := 29) hK dX9_cheapest_28 rfl rfl 1 rfl ?_
        refine r_iconst (q := 30) (v := 0) hK dX9_cheapest_29 rfl rfl ?_
        refine callV_i (q := 33) (j := 0) (As := [.int a1, .int (0 : Int32)]) (rest := []) (f := (fX9_travellerIs a1 (0 : Int32) σ)) hK dX9_cheapest_30 rfl (fun b hb => c_X9_travellerIs a1 (0 : Int32) σ b hb) ⟨9, _, _, _, by decide, rfl, cM, rfl⟩ mv_X9_travellerIs rfl rfl (Nat.le_of_ble_eq_true rfl) tw_986 mw_X9_travellerIs (rmOk (Nat.le_of_ble_eq_true rfl) (Nat.le_of_ble_eq_true rfl)) (fun r7 => ?_)
        refine r_istore (q := 35) (loc' := [(4, .int r7), (0, .ref (gad G 0)), (1, .int a1), (2, .int a2), (3, .int a3)]) hK dX9_cheapest_33 rfl (by decide) rfl ?_
        refine r_iconst (q := 36) (v := 0) hK dX9_cheapest_35 rfl rfl ?_
        refine r_istore (q := 38) (loc' := [(5, .int (0 : Int32)), (4, .int r7), (0, .ref (gad G 0)), (1, .int a1), (2, .int a2), (3, .int a3)]) hK dX9_cheapest_36 rfl (by decide) rfl ?_
        refine sV.sub [2, 3, 4, 5, 1, 0] (by rfl) (vX9_cheapest_L38 σ a1 a2 a3 r7 hK _ (fun x26 s27 => ?_) FU (0 : Int32) σ)
        refine r_iconst (q := 69) (v := -1) hK dX9_cheapest_68 rfl rfl ?_
        refine r_istore (q := 71) (loc' := [(5, .int (-1 : Int32)), (0, .ref (gad G 0)), (1, .int a1), (2, .int a2), (3, .int a3), (4, .int r7)]) hK dX9_cheapest_69 rfl (by decide) rfl ?_
        refine r_iconst (q := 72) (v := 0) hK dX9_cheapest_71 rfl rfl ?_
        refine r_istore (q := 74) (loc' := [(6, .int (0 : Int32)), (5, .int (-1 : Int32)), (0, .ref (gad G 0)), (1, .int a1), (2, .int a2), (3, .int a3), (4, .int r7)]) hK dX9_cheapest_72 rfl (by decide) rfl ?_
        refine r_iconst (q := 75) (v := 0) hK dX9_cheapest_74 rfl rfl ?_
        refine r_istore (q := 77) (loc' := [(7, .int (0 : Int32)), (6, .int (0 : Int32)), (5, .int (-1 : Int32)), (0, .ref (gad G 0)), (1, .int a1), (2, .int a2), (3, .int a3), (4, .int r7)]) hK dX9_cheapest_75 rfl (by decide) rfl ?_
        refine sV.sub [3, 4, 5, 6, 7, 2, 1, 0] (by rfl) (vX9_cheapest_L77 s27 a1 a2 a3 r7 hK _ (fun x88 x89 x90 => ?_) FU (-1 : Int32) (0 : Int32) (0 : Int32))
        refine r_iload (q := 198) hK dX9_cheapest_196 rfl 5 rfl ?_
        refine r_if_ge (t := 206) (q := 201) hK dX9_cheapest_198 rfl rfl (fun c91 => ?_) (fun c91 => ?_)
        · refine r_iload_n (q := 207) hK dX9_cheapest_206 rfl rfl 3 rfl ?_
          refine r_if_ne (t := 215) (q := 210) hK dX9_cheapest_207 rfl rfl (fun c92 => ?_) (fun c92 => ?_)
          · refine r_iload (q := 217) hK dX9_cheapest_215 rfl 5 rfl ?_
            exact e_iS hK dX9_cheapest_217
          · refine r_iload (q := 212) hK dX9_cheapest_210 rfl 6 rfl ?_
            refine r_goto (q := 217) hK dX9_cheapest_212 rfl ?_
            exact e_iS hK dX9_cheapest_217
        · refine r_ldc (q := 203) hK dX9_cheapest_201 rfl tw_1077 ?_
          refine r_goto (q := 217) hK dX9_cheapest_203 rfl ?_
          exact e_iS hK dX9_cheapest_217
      · refine r_ldc (q := 26) hK dX9_cheapest_24 rfl tw_906 ?_
        exact e_iS hK dX9_cheapest_26
    · refine r_ldc (q := 26) hK dX9_cheapest_24 rfl tw_906 ?_
      exact e_iS hK dX9_cheapest_26
  · refine r_ldc (q := 26) hK dX9_cheapest_24 rfl tw_906 ?_
    exact e_iS hK dX9_cheapest_26
def fX9_fewest_L6  (v1 : Int32) (v2 : Int32) (v3 : Int32) (σ : Store) : Nat → Int32 → Int32 → Option Int32
  | 0, _, _ => none
  | n + 1, i4, i5 => (six 1480 (5 : Int32) (if ((1 : Int32) <<< ((σ 1 (snx (5 : Int32))) &&& 31)) ≤ i5 then (some i4) else (if ¬ (i5 &&& (v1 ^^^ (-1 : Int32))) = 0 then (fX9_fewest_L6 v1 v2 v3 σ n i4 (i5 + (1 : Int32))) else (sbd (fX9_haveAll (i5 ||| v2) v3 σ) fun r22 => (if r22 = true then (if i4 < 0 then (fX9_fewest_L6 v1 v2 v3 σ n i5 (i5 + (1 : Int32))) else (sbd (fX9_bits i5 σ) fun r25 => (sbd (fX9_bits i4 σ) fun r26 => (if r26 ≤ r25 then (fX9_fewest_L6 v1 v2 v3 σ n i4 (i5 + (1 : Int32))) else (fX9_fewest_L6 v1 v2 v3 σ n i5 (i5 + (1 : Int32))))))) else (fX9_fewest_L6 v1 v2 v3 σ n i4 (i5 + (1 : Int32))))))))
theorem vX9_fewest_L6 {G : Geo} {K : KT} {l0 : Launch} (σ : Store) {a : Int32} (v1 : Int32) (v2 : Int32) (v3 : Int32) (hK : sOk wMod G K l0 RX9 cX9_fewest (rmL 4 127) 6 (some .int) (some (.int a)) σ) : ∀ (n : Nat) (i4 : Int32) (i5 : Int32), sV wMod G K a σ 6 [(0, .ref (gad G 0)), (1, .int v1), (2, .int v2), (3, .int v3), (4, .int i4), (5, .int i5)] [] (fX9_fewest_L6 v1 v2 v3 σ n i4 i5) := by
  intro n
  induction n with
  | zero =>
    intro i4 i5
    exact sV.no
  | succ n ih =>
    intro i4 i5
    rw [fX9_fewest_L6]
    refine r_iload (q := 8) hK dX9_fewest_6 rfl 5 rfl ?_
    refine r_iconst (q := 9) (v := 1) hK dX9_fewest_8 rfl rfl ?_
    refine r_aload_n (q := 10) hK dX9_fewest_9 rfl rfl 0 rfl ?_
    refine gf_9_0 (q := 13) hK dX9_fewest_10 rfl tw_804 ?_
    refine r_iconst (q := 14) (v := 5) hK dX9_fewest_13 rfl rfl ?_
    refine r_iald (q := 15) hK dX9_fewest_14 rfl aM1 (fun h19 => ?_)
    refine r_ishl (q := 16) hK dX9_fewest_15 rfl ?_
    refine r_icmp_ge (t := 68) (q := 19) hK dX9_fewest_16 rfl rfl (fun c20 => ?_) (fun c20 => ?_)
    · refine r_iload (q := 70) hK dX9_fewest_68 rfl 4 rfl ?_
      exact e_i hK dX9_fewest_70
    · refine r_iload (q := 21) hK dX9_fewest_19 rfl 5 rfl ?_
      refine r_iload_n (q := 22) hK dX9_fewest_21 rfl rfl 1 rfl ?_
      refine r_iconst (q := 23) (v := -1) hK dX9_fewest_22 rfl rfl ?_
      refine r_ixor (q := 24) hK dX9_fewest_23 rfl ?_
      refine r_iand (q := 25) hK dX9_fewest_24 rfl ?_
      refine r_if_ne (t := 62) (q := 28) hK dX9_fewest_25 rfl rfl (fun c21 => ?_) (fun c21 => ?_)
      · refine r_iinc (q := 65) (v := (i5 + (1 : Int32))) (loc' := [(5, .int (i5 + (1 : Int32))), (0, .ref (gad G 0)), (1, .int v1), (2, .int v2), (3, .int v3), (4, .int i4)]) hK dX9_fewest_62 rfl 5 rfl rfl (by decide) rfl ?_
        refine r_goto (q := 6) hK dX9_fewest_65 rfl ?_
        exact sV.sub [1, 2, 3, 4, 5, 0] (by rfl) (ih i4 (i5 + (1 : Int32)))
      · refine r_aload_n (q := 29) hK dX9_fewest_28 rfl rfl 0 rfl ?_
        refine r_iload (q := 31) hK dX9_fewest_29 rfl 5 rfl ?_
        refine r_iload_n (q := 32) hK dX9_fewest_31 rfl rfl 2 rfl ?_
        refine r_ior (q := 33) hK dX9_fewest_32 rfl ?_
        refine r_iload_n (q := 34) hK dX9_fewest_33 rfl rfl 3 rfl ?_
        refine callV_b (q := 37) (j := 0) (As := [.int (i5 ||| v2), .int v3]) (rest := []) (f := (fX9_haveAll (i5 ||| v2) v3 σ)) hK dX9_fewest_34 rfl (fun b hb => c_X9_haveAll (i5 ||| v2) v3 σ b hb) ⟨9, _, _, _, by decide, rfl, cM, rfl⟩ mv_X9_haveAll rfl rfl (Nat.le_of_ble_eq_true rfl) tw_1061 mw_X9_haveAll (rmOk (Nat.le_of_ble_eq_true rfl) (Nat.le_of_ble_eq_true rfl)) (fun r22 => ?_)
        refine r_ifb_eq (t := 62) (q := 40) hK dX9_fewest_37 rfl rfl (fun c23 => ?_) (fun c23 => ?_)
        · refine r_iload (q := 42) hK dX9_fewest_40 rfl 4 rfl ?_
          refine r_if_lt (t := 58) (q := 45) hK dX9_fewest_42 rfl rfl (fun c24 => ?_) (fun c24 => ?_)
          · refine r_iload (q := 60) hK dX9_fewest_58 rfl 5 rfl ?_
            refine r_istore (q := 62) (loc' := [(4, .int i5), (0, .ref (gad G 0)), (1, .int v1), (2, .int v2), (3, .int v3), (5, .int i5)]) hK dX9_fewest_60 rfl (by decide) rfl ?_
            refine r_iinc (q := 65) (v := (i5 + (1 : Int32))) (loc' := [(5, .int (i5 + (1 : Int32))), (4, .int i5), (0, .ref (gad G 0)), (1, .int v1), (2, .int v2), (3, .int v3)]) hK dX9_fewest_62 rfl 5 rfl rfl (by decide) rfl ?_
            refine r_goto (q := 6) hK dX9_fewest_65 rfl ?_
            exact sV.sub [2, 3, 4, 5, 1, 0] (by rfl) (ih i5 (i5 + (1 : Int32)))
          · refine r_iload (q := 47) hK dX9_fewest_45 rfl 5 rfl ?_
            refine callS_i (q := 50) (As := [.int i5]) (rest := []) (f := (fX9_bits i5 σ)) hK dX9_fewest_47 rfl (fun b hb => c_X9_bits i5 σ b hb) ms_X9_bits rfl rfl (Nat.le_of_ble_eq_true rfl) tw_948 mw_X9_bits (rmOk (Nat.le_of_ble_eq_true rfl) (Nat.le_of_ble_eq_true rfl)) (fun r25 => ?_)
            refine r_iload (q := 52) hK dX9_fewest_50 rfl 4 rfl ?_
            refine callS_i (q := 55) (As := [.int i4]) (rest := [.int r25]) (f := (fX9_bits i4 σ)) hK dX9_fewest_52 rfl (fun b hb => c_X9_bits i4 σ b hb) ms_X9_bits rfl rfl (Nat.le_of_ble_eq_true rfl) tw_948 mw_X9_bits (rmOk (Nat.le_of_ble_eq_true rfl) (Nat.le_of_ble_eq_true rfl)) (fun r26 => ?_)
            refine r_icmp_ge (t := 62) (q := 58) hK dX9_fewest_55 rfl rfl (fun c27 => ?_) (fun c27 => ?_)
            · refine r_iinc (q := 65) (v := (i5 + (1 : Int32))) (loc' := [(5, .int (i5 + (1 : Int32))), (0, .ref (gad G 0)), (1, .int v1), (2, .int v2), (3, .int v3), (4, .int i4)]) hK dX9_fewest_62 rfl 5 rfl rfl (by decide) rfl ?_
              refine r_goto (q := 6) hK dX9_fewest_65 rfl ?_
              exact sV.sub [1, 2, 3, 4, 5, 0] (by rfl) (ih i4 (i5 + (1 : Int32)))
            · refine r_iload (q := 60) hK dX9_fewest_58 rfl 5 rfl ?_
              refine r_istore (q := 62) (loc' := [(4, .int i5), (0, .ref (gad G 0)), (1, .int v1), (2, .int v2), (3, .int v3), (5, .int i5)]) hK dX9_fewest_60 rfl (by decide) rfl ?_
              refine r_iinc (q := 65) (v := (i5 + (1 : Int32))) (loc' := [(5, .int (i5 + (1 : Int32))), (4, .int i5), (0, .ref (gad G 0)), (1, .int v1), (2, .int v2), (3, .int v3)]) hK dX9_fewest_62 rfl 5 rfl rfl (by decide) rfl ?_
              refine r_goto (q := 6) hK dX9_fewest_65 rfl ?_
              exact sV.sub [2, 3, 4, 5, 1, 0] (by rfl) (ih i5 (i5 + (1 : Int32)))
        · refine r_iinc (q := 65) (v := (i5 + (1 : Int32))) (loc' := [(5, .int (i5 + (1 : Int32))), (0, .ref (gad G 0)), (1, .int v1), (2, .int v2), (3, .int v3), (4, .int i4)]) hK dX9_fewest_62 rfl 5 rfl rfl (by decide) rfl ?_
          refine r_goto (q := 6) hK dX9_fewest_65 rfl ?_
          exact sV.sub [1, 2, 3, 4, 5, 0] (by rfl) (ih i4 (i5 + (1 : Int32)))
def fX9_fewest  (a1 : Int32) (a2 : Int32) (a3 : Int32) (σ : Store) : Option Int32 := (fX9_fewest_L6 a1 a2 a3 σ FU (-1 : Int32) (0 : Int32))
theorem c_X9_fewest {l0 : Launch} {G : Geo} (a1 : Int32) (a2 : Int32) (a3 : Int32) (σ : Store) (a : Int32) (hf : fX9_fewest  a1 a2 a3 σ = some a) : sCon l0 wMod G yX9_fewest cX9_fewest 6 (some .int) (rmL 4 127) [.ref (gad G 0), .int a1, .int a2, .int a3] σ (some (.int a)) σ := by
  refine sCon.of (by decide) ⟨rfl, rfl⟩ (Nat.le_of_ble_eq_true rfl) RX9 rfl _ hf (fun K hK => ?_)
  show sV wMod G K a σ 0 [(0, .ref (gad G 0)), (1, .int a1), (2, .int a2), (3, .int a3)] [] _
  unfold fX9_fewest
  refine r_iconst (q := 1) (v := -1) hK dX9_fewest_0 rfl rfl ?_
  refine r_istore (q := 3) (loc' := [(4, .int (-1 : Int32)), (0, .ref (gad G 0)), (1, .int a1), (2, .int a2), (3, .int a3)]) hK dX9_fewest_1 rfl (by decide) rfl ?_
  refine r_iconst (q := 4) (v := 0) hK dX9_fewest_3 rfl rfl ?_
  refine r_istore (q := 6) (loc' := [(5, .int (0 : Int32)), (4, .int (-1 : Int32)), (0, .ref (gad G 0)), (1, .int a1), (2, .int a2), (3, .int a3)]) hK dX9_fewest_4 rfl (by decide) rfl ?_
  exact sV.sub [2, 3, 4, 5, 1, 0] (by rfl) (vX9_fewest_L6 σ a1 a2 a3 hK FU (-1 : Int32) (0 : Int32))
def fX9_shortest  (a1 : Int32) (a2 : Int32) (σ : Store) : Option Int32 := (sbd (fX9_isTraveller a1 σ) fun r1 => (if r1 = true then (sbd (fX9_areSenses a2 σ) fun r3 => (if r3 = true then (sbd (fX9_travellerIs a1 (0 : Int32) σ) fun r5 => (sbd (fX9_fewest r5 (0 : Int32) a2 σ) fun r6 => (if 0 ≤ r6 then (some r6) else (some (-1000000005 : Int32))))) else (some (-1000000001 : Int32)))) else (some (-1000000001 : Int32))))
theorem c_X9_shortest {l0 : Launch} {G : Geo} (a1 : Int32) (a2 : Int32) (σ : Store) (a : Int32) (hf : fX9_shortest  a1 a2 σ = some a) : sCon l0 wMod G yX9_shortest cX9_shortest 4 (some .int) (rmL 5 152) [.ref (gad G 0), .int a1, .int a2] σ (some (.int a)) σ := by
  refine sCon.of (by decide) ⟨rfl, rfl⟩ (Nat.le_of_ble_eq_true rfl) RX9 rfl _ hf (fun K hK => ?_)
  show sV wMod G K a σ 0 [(0, .ref (gad G 0)), (1, .int a1), (2, .int a2)] [] _
  unfold fX9_shortest
  refine r_aload_n (q := 1) hK dX9_shortest_0 rfl rfl 0 rfl ?_
  refine r_iload_n (q := 2) hK dX9_shortest_1 rfl rfl 1 rfl ?_
  refine callV_b (q := 5) (j := 0) (As := [.int a1]) (rest := []) (f := (fX9_isTraveller a1 σ)) hK dX9_shortest_2 rfl (fun b hb => c_X9_isTraveller a1 σ b hb) ⟨9, _, _, _, by decide, rfl, cM, rfl⟩ mv_X9_isTraveller rfl rfl (Nat.le_of_ble_eq_true rfl) tw_982 mw_X9_isTraveller (rmOk (Nat.le_of_ble_eq_true rfl) (Nat.le_of_ble_eq_true rfl)) (fun r1 => ?_)
  refine r_ifb_eq (t := 15) (q := 8) hK dX9_shortest_5 rfl rfl (fun c2 => ?_) (fun c2 => ?_)
  · refine r_iload_n (q := 9) hK dX9_shortest_8 rfl rfl 2 rfl ?_
    refine callS_b (q := 12) (As := [.int a2]) (rest := []) (f := (fX9_areSenses a2 σ)) hK dX9_shortest_9 rfl (fun b hb => c_X9_areSenses a2 σ b hb) ms_X9_areSenses rfl rfl (Nat.le_of_ble_eq_true rfl) tw_1058 mw_X9_areSenses (rmOk (Nat.le_of_ble_eq_true rfl) (Nat.le_of_ble_eq_true rfl)) (fun r3 => ?_)
    refine r_ifb_ne (t := 18) (q := 15) hK dX9_shortest_12 rfl rfl (fun c4 => ?_) (fun c4 => ?_)
    · refine r_aload_n (q := 19) hK dX9_shortest_18 rfl rfl 0 rfl ?_
      refine r_aload_n (q := 20) hK dX9_shortest_19 rfl rfl 0 rfl ?_
      refine r_iload_n (q := 21) hK dX9_shortest_20 rfl rfl 1 rfl ?_
      refine r_iconst (q := 22) (v := 0) hK dX9_shortest_21 rfl rfl ?_
      refine callV_i (q := 25) (j := 0) (As := [.int a1, .int (0 : Int32)]) (rest := [.ref (gad G 0)]) (f := (fX9_travellerIs a1 (0 : Int32) σ)) hK dX9_shortest_22 rfl (fun b hb => c_X9_travellerIs a1 (0 : Int32) σ b hb) ⟨9, _, _, _, by decide, rfl, cM, rfl⟩ mv_X9_travellerIs rfl rfl (Nat.le_of_ble_eq_true rfl) tw_986 mw_X9_travellerIs (rmOk (Nat.le_of_ble_eq_true rfl) (Nat.le_of_ble_eq_true rfl)) (fun r5 => ?_)
      refine r_iconst (q := 26) (v := 0) hK dX9_shortest_25 rfl rfl ?_
      refine r_iload_n (q := 27) hK dX9_shortest_26 rfl rfl 2 rfl ?_
      refine callV_i (q := 30) (j := 0) (As := [.int r5, .int (0 : Int32), .int a2]) (rest := []) (f := (fX9_fewest r5 (0 : Int32) a2 σ)) hK dX9_shortest_27 rfl (fun b hb => c_X9_fewest r5 (0 : Int32) a2 σ b hb) ⟨9, _, _, _, by decide, rfl, cM, rfl⟩ mv_X9_fewest rfl rfl (Nat.le_of_ble_eq_true rfl) tw_1082 mw_X9_fewest (rmOk (Nat.le_of_ble_eq_true rfl) (Nat.le_of_ble_eq_true rfl)) (fun r6 => ?_)
      refine r_istore_n (q := 31) (loc' := [(3, .int r6), (0, .ref (gad G 0)), (1, .int a1), (2, .int a2)]) hK dX9_shortest_30 rfl rfl (by decide) rfl ?_
      refine r_iload_n (q := 32) hK dX9_shortest_31 rfl rfl 0 rfl ?_
      refine r_if_ge (t := 40) (q := 35) hK dX9_shortest_32 rfl rfl (fun c7 => ?_) (fun c7 => ?_)
      · refine r_iload_n (q := 41) hK dX9_shortest_40 rfl rfl 0 rfl ?_
        exact e_i hK dX9_shortest_41
      · refine r_ldc (q := 37) hK dX9_shortest_35 rfl tw_1077 ?_
        refine r_goto (q := 41) hK dX9_shortest_37 rfl ?_
        exact e_i hK dX9_shortest_41
    · refine r_ldc (q := 17) hK dX9_shortest_15 rfl tw_906 ?_
      exact e_i hK dX9_shortest_17
  · refine r_ldc (q := 17) hK dX9_shortest_15 rfl tw_906 ?_
    exact e_i hK dX9_shortest_17
def fX9_nearest_L34  (v1 : Int32) (v2 : Int32) (v3 : Int32) (σ : Store) : Nat → Int32 → Int32 → Option Int32
  | 0, _, _ => none
  | n + 1, i4, i5 => (six 1480 (5 : Int32) (if ((1 : Int32) <<< ((σ 1 (snx (5 : Int32))) &&& 31)) ≤ i5 then (some i4) else (sbd (fX9_travellerIs v1 (0 : Int32) σ) fun r27 => (if ¬ (i5 &&& (r27 ^^^ (-1 : Int32))) = 0 then (fX9_nearest_L34 v1 v2 v3 σ n i4 (i5 + (1 : Int32))) else (sbd (fX9_bits i5 σ) fun r29 => (if v3 < r29 then (fX9_nearest_L34 v1 v2 v3 σ n i4 (i5 + (1 : Int32))) else (sbd (fX9_sensesOf i5 σ) fun r31 => (sbd (fX9_bits (r31 &&& v2) σ) fun r32 => (slt (smax i4 r32) fun x33 => (fX9_nearest_L34 v1 v2 v3 σ n x33 (i5 + (1 : Int32))))))))))))
theorem vX9_nearest_L34 {G : Geo} {K : KT} {l0 : Launch} (σ : Store) {a : Int32} (v1 : Int32) (v2 : Int32) (v3 : Int32) (hK : sOk wMod G K l0 RX9 cX9_nearest (rmL 3 105) 6 (some .int) (some (.int a)) σ) : ∀ (n : Nat) (i4 : Int32) (i5 : Int32), sV wMod G K a σ 34 [(0, .ref (gad G 0)), (1, .int v1), (2, .int v2), (3, .int v3), (4, .int i4), (5, .int i5)] [] (fX9_nearest_L34 v1 v2 v3 σ n i4 i5) := by
  intro n
  induction n with
  | zero =>
    intro i4 i5
    exact sV.no
  | succ n ih =>
    intro i4 i5
    rw [fX9_nearest_L34]
    refine r_iload (q := 36) hK dX9_nearest_34 rfl 5 rfl ?_
    refine r_iconst (q := 37) (v := 1) hK dX9_nearest_36 rfl rfl ?_
    refine r_aload_n (q := 38) hK dX9_nearest_37 rfl rfl 0 rfl ?_
    refine gf_9_0 (q := 41) hK dX9_nearest_38 rfl tw_804 ?_
    refine r_iconst (q := 42) (v := 5) hK dX9_nearest_41 rfl rfl ?_
    refine r_iald (q := 43) hK dX9_nearest_42 rfl aM1 (fun h25 => ?_)
    refine r_ishl (q := 44) hK dX9_nearest_43 rfl ?_
    refine r_icmp_ge (t := 94) (q := 47) hK dX9_nearest_44 rfl rfl (fun c26 => ?_) (fun c26 => ?_)
    · refine r_iload (q := 96) hK dX9_nearest_94 rfl 4 rfl ?_
      exact e_i hK dX9_nearest_96
    · refine r_iload (q := 49) hK dX9_nearest_47 rfl 5 rfl ?_
      refine r_aload_n (q := 50) hK dX9_nearest_49 rfl rfl 0 rfl ?_
      refine r_iload_n (q := 51) hK dX9_nearest_50 rfl rfl 1 rfl ?_
      refine r_iconst (q := 52) (v := 0) hK dX9_nearest_51 rfl rfl ?_
      refine callV_i (q := 55) (j := 0) (As := [.int v1, .int (0 : Int32)]) (rest := [.int i5]) (f := (fX9_travellerIs v1 (0 : Int32) σ)) hK dX9_nearest_52 rfl (fun b hb => c_X9_travellerIs v1 (0 : Int32) σ b hb) ⟨9, _, _, _, by decide, rfl, cM, rfl⟩ mv_X9_travellerIs rfl rfl (Nat.le_of_ble_eq_true rfl) tw_986 mw_X9_travellerIs (rmOk (Nat.le_of_ble_eq_true rfl) (Nat.le_of_ble_eq_true rfl)) (fun r27 => ?_)
      refine r_iconst (q := 56) (v := -1) hK dX9_nearest_55 rfl rfl ?_
      refine r_ixor (q := 57) hK dX9_nearest_56 rfl ?_
      refine r_iand (q := 58) hK dX9_nearest_57 rfl ?_
      refine r_if_ne (t := 88) (q := 61) hK dX9_nearest_58 rfl rfl (fun c28 => ?_) (fun c28 => ?_)
      · refine r_iinc (q := 91) (v := (i5 + (1 : Int32))) (loc' := [(5, .int (i5 + (1 : Int32))), (0, .ref (gad G 0)), (1, .int v1), (2, .int v2), (3, .int v3), (4, .int i4)]) hK dX9_nearest_88 rfl 5 rfl rfl (by decide) rfl ?_
        refine r_goto (q := 34) hK dX9_nearest_91 rfl ?_
        exact sV.sub [1, 2, 3, 4, 5, 0] (by rfl) (ih i4 (i5 + (1 : Int32)))
      · refine r_iload (q := 63) hK dX9_nearest_61 rfl 5 rfl ?_
        refine callS_i (q := 66) (As := [.int i5]) (rest := []) (f := (fX9_bits i5 σ)) hK dX9_nearest_63 rfl (fun b hb => c_X9_bits i5 σ b hb) ms_X9_bits rfl rfl (Nat.le_of_ble_eq_true rfl) tw_948 mw_X9_bits (rmOk (Nat.le_of_ble_eq_true rfl) (Nat.le_of_ble_eq_true rfl)) (fun r29 => ?_)
        refine r_iload_n (q := 67) hK dX9_nearest_66 rfl rfl 3 rfl ?_
        refine r_icmp_gt (t := 88) (q := 70) hK dX9_nearest_67 rfl rfl (fun c30 => ?_) (fun c30 => ?_)
        · refine r_iinc (q := 91) (v := (i5 + (1 : Int32))) (loc' := [(5, .int (i5 + (1 : Int32))), (0, .ref (gad G 0)), (1, .int v1), (2, .int v2), (3, .int v3), (4, .int i4)]) hK dX9_nearest_88 rfl 5 rfl rfl (by decide) rfl ?_
          refine r_goto (q := 34) hK dX9_nearest_91 rfl ?_
          exact sV.sub [1, 2, 3, 4, 5, 0] (by rfl) (ih i4 (i5 + (1 : Int32)))
        · refine r_iload (q := 72) hK dX9_nearest_70 rfl 4 rfl ?_
          refine r_aload_n (q := 73) hK dX9_nearest_72 rfl rfl 0 rfl ?_
          refine r_iload (q := 75) hK dX9_nearest_73 rfl 5 rfl ?_
          refine callV_i (q := 78) (j := 0) (As := [.int i5]) (rest := [.int i4]) (f := (fX9_sensesOf i5 σ)) hK dX9_nearest_75 rfl (fun b hb => c_X9_sensesOf i5 σ b hb) ⟨9, _, _, _, by decide, rfl, cM, rfl⟩ mv_X9_sensesOf rfl rfl (Nat.le_of_ble_eq_true rfl) tw_1065 mw_X9_sensesOf (rmOk (Nat.le_of_ble_eq_true rfl) (Nat.le_of_ble_eq_true rfl)) (fun r31 => ?_)
          refine r_iload_n (q := 79) hK dX9_nearest_78 rfl rfl 2 rfl ?_
          refine r_iand (q := 80) hK dX9_nearest_79 rfl ?_
          refine callS_i (q := 83) (As := [.int (r31 &&& v2)]) (rest := [.int i4]) (f := (fX9_bits (r31 &&& v2) σ)) hK dX9_nearest_80 rfl (fun b hb => c_X9_bits (r31 &&& v2) σ b hb) ms_X9_bits rfl rfl (Nat.le_of_ble_eq_true rfl) tw_948 mw_X9_bits (rmOk (Nat.le_of_ble_eq_true rfl) (Nat.le_of_ble_eq_true rfl)) (fun r32 => ?_)
          refine r_max (q := 86) hK dX9_nearest_83 rfl tw_944 mt_max (rmM (Nat.le_of_ble_eq_true rfl) (Nat.le_of_ble_eq_true rfl)) ?_
          refine sV.ltI (fun x33 => ?_)
          refine r_istore (q := 88) (loc' := [(4, .int x33), (0, .ref (gad G 0)), (1, .int v1), (2, .int v2), (3, .int v3), (5, .int i5)]) hK dX9_nearest_86 rfl (by decide) rfl ?_
          refine r_iinc (q := 91) (v := (i5 + (1 : Int32))) (loc' := [(5, .int (i5 + (1 : Int32))), (4, .int x33), (0, .ref (gad G 0)), (1, .int v1), (2, .int v2), (3, .int v3)]) hK dX9_nearest_88 rfl 5 rfl rfl (by decide) rfl ?_
          refine r_goto (q := 34) hK dX9_nearest_91 rfl ?_
          exact sV.sub [2, 3, 4, 5, 1, 0] (by rfl) (ih x33 (i5 + (1 : Int32)))
def fX9_nearest  (a1 : Int32) (a2 : Int32) (a3 : Int32) (σ : Store) : Option Int32 := (sbd (fX9_isTraveller a1 σ) fun r1 => (if r1 = true then (sbd (fX9_areSenses a2 σ) fun r3 => (if r3 = true then (sbd (fX9_within a3 (0 : Int32) (10 : Int32) σ) fun r5 => (if r5 = true then (fX9_nearest_L34 a1 a2 a3 σ FU (0 : Int32) (0 : Int32)) else (some (-1000000001 : Int32)))) else (some (-1000000001 : Int32)))) else (some (-1000000001 : Int32))))
theorem c_X9_nearest {l0 : Launch} {G : Geo} (a1 : Int32) (a2 : Int32) (a3 : Int32) (σ : Store) (a : Int32) (hf : fX9_nearest  a1 a2 a3 σ = some a) : sCon l0 wMod G yX9_nearest cX9_nearest 6 (some .int) (rmL 3 105) [.ref (gad G 0), .int a1, .int a2, .int a3] σ (some (.int a)) σ := by
  refine sCon.of (by decide) ⟨rfl, rfl⟩ (Nat.le_of_ble_eq_true rfl) RX9 rfl _ hf (fun K hK => ?_)
  show sV wMod G K a σ 0 [(0, .ref (gad G 0)), (1, .int a1), (2, .int a2), (3, .int a3)] [] _
  unfold fX9_nearest
  refine r_aload_n (q := 1) hK dX9_nearest_0 rfl rfl 0 rfl ?_
  refine r_iload_n (q := 2) hK dX9_nearest_1 rfl rfl 1 rfl ?_
  refine callV_b (q := 5) (j := 0) (As := [.int a1]) (rest := []) (f := (fX9_isTraveller a1 σ)) hK dX9_nearest_2 rfl (fun b hb => c_X9_isTraveller a1 σ b hb) ⟨9, _, _, _, by decide, rfl, cM, rfl⟩ mv_X9_isTraveller rfl rfl (Nat.le_of_ble_eq_true rfl) tw_982 mw_X9_isTraveller (rmOk (Nat.le_of_ble_eq_true rfl) (Nat.le_of_ble_eq_true rfl)) (fun r1 => ?_)
  refine r_ifb_eq (t := 25) (q := 8) hK dX9_nearest_5 rfl rfl (fun c2 => ?_) (fun c2 => ?_)
  · refine r_iload_n (q := 9) hK dX9_nearest_8 rfl rfl 2 rfl ?_
    refine callS_b (q := 12) (As := [.int a2]) (rest := []) (f := (fX9_areSenses a2 σ)) hK dX9_nearest_9 rfl (fun b hb => c_X9_areSenses a2 σ b hb) ms_X9_areSenses rfl rfl (Nat.le_of_ble_eq_true rfl) tw_1058 mw_X9_areSenses (rmOk (Nat.le_of_ble_eq_true rfl) (Nat.le_of_ble_eq_true rfl)) (fun r3 => ?_)
    refine r_ifb_eq (t := 25) (q := 15) hK dX9_nearest_12 rfl rfl (fun c4 => ?_) (fun c4 => ?_)
    · refine r_iload_n (q := 16) hK dX9_nearest_15 rfl rfl 3 rfl ?_
      refine r_iconst (q := 17) (v := 0) hK dX9_nearest_16 rfl rfl ?_
      refine r_bipush (q := 19) (v := 10) hK dX9_nearest_17 rfl rfl ?_
      refine callS_b (q := 22) (As := [.int a3, .int (0 : Int32), .int (10 : Int32)]) (rest := []) (f := (fX9_within a3 (0 : Int32) (10 : Int32) σ)) hK dX9_nearest_19 rfl (fun b hb => c_X9_within a3 (0 : Int32) (10 : Int32) σ b hb) ms_X9_within rfl rfl (Nat.le_of_ble_eq_true rfl) tw_900 mw_X9_within (rmOk (Nat.le_of_ble_eq_true rfl) (Nat.le_of_ble_eq_true rfl)) (fun r5 => ?_)
      refine r_ifb_ne (t := 28) (q := 25) hK dX9_nearest_22 rfl rfl (fun c6 => ?_) (fun c6 => ?_)
      · refine r_iconst (q := 29) (v := 0) hK dX9_nearest_28 rfl rfl ?_
        refine r_istore (q := 31) (loc' := [(4, .int (0 : Int32)), (0, .ref (gad G 0)), (1, .int a1), (2, .int a2), (3, .int a3)]) hK dX9_nearest_29 rfl (by decide) rfl ?_
        refine r_iconst (q := 32) (v := 0) hK dX9_nearest_31 rfl rfl ?_
        refine r_istore (q := 34) (loc' := [(5, .int (0 : Int32)), (4, .int (0 : Int32)), (0, .ref (gad G 0)), (1, .int a1), (2, .int a2), (3, .int a3)]) hK dX9_nearest_32 rfl (by decide) rfl ?_
        exact sV.sub [2, 3, 4, 5, 1, 0] (by rfl) (vX9_nearest_L34 σ a1 a2 a3 hK FU (0 : Int32) (0 : Int32))
      · refine r_ldc (q := 27) hK dX9_nearest_25 rfl tw_906 ?_
        exact e_i hK dX9_nearest_27
    · refine r_ldc (q := 27) hK dX9_nearest_25 rfl tw_906 ?_
      exact e_i hK dX9_nearest_27
  · refine r_ldc (q := 27) hK dX9_nearest_25 rfl tw_906 ?_
    exact e_i hK dX9_nearest_27
def fX9_treaty_L14   (σ : Store) (k : Int32 → Int32 → Option Int32) : Nat → Int32 → Int32 → Option Int32
  | 0, _, _ => none
  | n + 1, i2, i3 => (six 1480 (6 : Int32) (if (σ 1 (snx (6 : Int32))) ≤ i3 then (k i2 i3) else (sbd (fX9_travellerIs i3 (0 : Int32) σ) fun r13 => (slt (i2 ||| r13) fun x14 => (fX9_treaty_L14 σ k n x14 (i3 + (1 : Int32)))))))
theorem vX9_treaty_L14 {G : Geo} {K : KT} {l0 : Launch} (σ : Store) {a : Int32} (v1 : Int32) (hK : sOk wMod G K l0 RX9 cX9_treaty (rmL 5 152) 4 (some .int) (some (.int a)) σ) (k : Int32 → Int32 → Option Int32) (hk : ∀ (e2 : Int32) (e3 : Int32), sV wMod G K a σ 40 [(0, .ref (gad G 0)), (1, .int v1), (2, .int e2), (3, .int e3)] [] (k e2 e3)) : ∀ (n : Nat) (i2 : Int32) (i3 : Int32), sV wMod G K a σ 14 [(0, .ref (gad G 0)), (1, .int v1), (2, .int i2), (3, .int i3)] [] (fX9_treaty_L14 σ k n i2 i3) := by
  intro n
  induction n with
  | zero =>
    intro i2 i3
    exact sV.no
  | succ n ih =>
    intro i2 i3
    rw [fX9_treaty_L14]
    refine r_iload_n (q := 15) hK dX9_treaty_14 rfl rfl 3 rfl ?_
    refine r_aload_n (q := 16) hK dX9_treaty_15 rfl rfl 0 rfl ?_
    refine gf_9_0 (q := 19) hK dX9_treaty_16 rfl tw_804 ?_
    refine r_bipush (q := 21) (v := 6) hK dX9_treaty_19 rfl rfl ?_
    refine r_iald (q := 22) hK dX9_treaty_21 rfl aM1 (fun h11 => ?_)
    refine r_icmp_ge (t := 40) (q := 25) hK dX9_treaty_22 rfl rfl (fun c12 => ?_) (fun c12 => ?_)
    · exact sV.sub [0, 1, 2, 3] (by rfl) (hk i2 i3)
    · refine r_iload_n (q := 26) hK dX9_treaty_25 rfl rfl 2 rfl ?_
      refine r_aload_n (q := 27) hK dX9_treaty_26 rfl rfl 0 rfl ?_
      refine r_iload_n (q := 28) hK dX9_treaty_27 rfl rfl 3 rfl ?_
      refine r_iconst (q := 29) (v := 0) hK dX9_treaty_28 rfl rfl ?_
      refine callV_i (q := 32) (j := 0) (As := [.int i3, .int (0 : Int32)]) (rest := [.int i2]) (f := (fX9_travellerIs i3 (0 : Int32) σ)) hK dX9_treaty_29 rfl (fun b hb => c_X9_travellerIs i3 (0 : Int32) σ b hb) ⟨9, _, _, _, by decide, rfl, cM, rfl⟩ mv_X9_travellerIs rfl rfl (Nat.le_of_ble_eq_true rfl) tw_986 mw_X9_travellerIs (rmOk (Nat.le_of_ble_eq_true rfl) (Nat.le_of_ble_eq_true rfl)) (fun r13 => ?_)
      refine r_ior (q := 33) hK dX9_treaty_32 rfl ?_
      refine sV.ltI (fun x14 => ?_)
      refine r_istore_n (q := 34) (loc' := [(2, .int x14), (0, .ref (gad G 0)), (1, .int v1), (3, .int i3)]) hK dX9_treaty_33 rfl rfl (by decide) rfl ?_
      refine r_iinc (q := 37) (v := (i3 + (1 : Int32))) (loc' := [(3, .int (i3 + (1 : Int32))), (2, .int x14), (0, .ref (gad G 0)), (1, .int v1)]) hK dX9_treaty_34 rfl 3 rfl rfl (by decide) rfl ?_
      refine r_goto (q := 14) hK dX9_treaty_37 rfl ?_
      exact sV.sub [2, 3, 1, 0] (by rfl) (ih x14 (i3 + (1 : Int32)))
def fX9_treaty  (a1 : Int32) (σ : Store) : Option Int32 := (sbd (fX9_areSenses a1 σ) fun r1 => (if r1 = true then (fX9_treaty_L14 σ (fun x15 x16 => (six 1480 (5 : Int32) (sbd (fX9_fewest ((((1 : Int32) <<< ((σ 1 (snx (5 : Int32))) &&& 31)) - (1 : Int32)) &&& (x15 ^^^ (-1 : Int32))) x15 a1 σ) fun r18 => (if 0 ≤ r18 then (some r18) else (some (-1000000005 : Int32)))))) FU (0 : Int32) (0 : Int32)) else (some (-1000000001 : Int32))))
theorem c_X9_treaty {l0 : Launch} {G : Geo} (a1 : Int32) (σ : Store) (a : Int32) (hf : fX9_treaty  a1 σ = some a) : sCon l0 wMod G yX9_treaty cX9_treaty 4 (some .int) (rmL 5 152) [.ref (gad G 0), .int a1] σ (some (.int a)) σ := by
  refine sCon.of (by decide) ⟨rfl, rfl⟩ (Nat.le_of_ble_eq_true rfl) RX9 rfl _ hf (fun K hK => ?_)
  show sV wMod G K a σ 0 [(0, .ref (gad G 0)), (1, .int a1)] [] _
  unfold fX9_treaty
  refine r_iload_n (q := 1) hK dX9_treaty_0 rfl rfl 1 rfl ?_
  refine callS_b (q := 4) (As := [.int a1]) (rest := []) (f := (fX9_areSenses a1 σ)) hK dX9_treaty_1 rfl (fun b hb => c_X9_areSenses a1 σ b hb) ms_X9_areSenses rfl rfl (Nat.le_of_ble_eq_true rfl) tw_1058 mw_X9_areSenses (rmOk (Nat.le_of_ble_eq_true rfl) (Nat.le_of_ble_eq_true rfl)) (fun r1 => ?_)
  refine r_ifb_ne (t := 10) (q := 7) hK dX9_treaty_4 rfl rfl (fun c2 => ?_) (fun c2 => ?_)
  · refine r_iconst (q := 11) (v := 0) hK dX9_treaty_10 rfl rfl ?_
    refine r_istore_n (q := 12) (loc' := [(2, .int (0 : Int32)), (0, .ref (gad G 0)), (1, .int a1)]) hK dX9_treaty_11 rfl rfl (by decide) rfl ?_
    refine r_iconst (q := 13) (v := 0) hK dX9_treaty_12 rfl rfl ?_
    refine r_istore_n (q := 14) (loc' := [(3, .int (0 : Int32)), (2, .int (0 : Int32)), (0, .ref (gad G 0)), (1, .int a1)]) hK dX9_treaty_13 rfl rfl (by decide) rfl ?_
    refine sV.sub [2, 3, 1, 0] (by rfl) (vX9_treaty_L14 σ a1 hK _ (fun x15 x16 => ?_) FU (0 : Int32) (0 : Int32))
    refine r_aload_n (q := 41) hK dX9_treaty_40 rfl rfl 0 rfl ?_
    refine r_iconst (q := 42) (v := 1) hK dX9_treaty_41 rfl rfl ?_
    refine r_aload_n (q := 43) hK dX9_treaty_42 rfl rfl 0 rfl ?_
    refine gf_9_0 (q := 46) hK dX9_treaty_43 rfl tw_804 ?_
    refine r_iconst (q := 47) (v := 5) hK dX9_treaty_46 rfl rfl ?_
    refine r_iald (q := 48) hK dX9_treaty_47 rfl aM1 (fun h17 => ?_)
    refine r_ishl (q := 49) hK dX9_treaty_48 rfl ?_
    refine r_iconst (q := 50) (v := 1) hK dX9_treaty_49 rfl rfl ?_
    refine r_isub (q := 51) hK dX9_treaty_50 rfl ?_
    refine r_iload_n (q := 52) hK dX9_treaty_51 rfl rfl 2 rfl ?_
    refine r_iconst (q := 53) (v := -1) hK dX9_treaty_52 rfl rfl ?_
    refine r_ixor (q := 54) hK dX9_treaty_53 rfl ?_
    refine r_iand (q := 55) hK dX9_treaty_54 rfl ?_
    refine r_iload_n (q := 56) hK dX9_treaty_55 rfl rfl 2 rfl ?_
    refine r_iload_n (q := 57) hK dX9_treaty_56 rfl rfl 1 rfl ?_
    refine callV_i (q := 60) (j := 0) (As := [.int ((((1 : Int32) <<< ((σ 1 (snx (5 : Int32))) &&& 31)) - (1 : Int32)) &&& (x15 ^^^ (-1 : Int32))), .int x15, .int a1]) (rest := []) (f := (fX9_fewest ((((1 : Int32) <<< ((σ 1 (snx (5 : Int32))) &&& 31)) - (1 : Int32)) &&& (x15 ^^^ (-1 : Int32))) x15 a1 σ)) hK dX9_treaty_57 rfl (fun b hb => c_X9_fewest ((((1 : Int32) <<< ((σ 1 (snx (5 : Int32))) &&& 31)) - (1 : Int32)) &&& (x15 ^^^ (-1 : Int32))) x15 a1 σ b hb) ⟨9, _, _, _, by decide, rfl, cM, rfl⟩ mv_X9_fewest rfl rfl (Nat.le_of_ble_eq_true rfl) tw_1082 mw_X9_fewest (rmOk (Nat.le_of_ble_eq_true rfl) (Nat.le_of_ble_eq_true rfl)) (fun r18 => ?_)
    refine r_istore_n (q := 61) (loc' := [(3, .int r18), (0, .ref (gad G 0)), (1, .int a1), (2, .int x15)]) hK dX9_treaty_60 rfl rfl (by decide) rfl ?_
    refine r_iload_n (q := 62) hK dX9_treaty_61 rfl rfl 0 rfl ?_
    refine r_if_ge (t := 70) (q := 65) hK dX9_treaty_62 rfl rfl (fun c19 => ?_) (fun c19 => ?_)
    · refine r_iload_n (q := 71) hK dX9_treaty_70 rfl rfl 0 rfl ?_
      exact e_i hK dX9_treaty_71
    · refine r_ldc (q := 67) hK dX9_treaty_65 rfl tw_1077 ?_
      refine r_goto (q := 71) hK dX9_treaty_67 rfl ?_
      exact e_i hK dX9_treaty_71
  · refine r_ldc (q := 9) hK dX9_treaty_7 rfl tw_906 ?_
    exact e_i hK dX9_treaty_9
def fX9_behind  (a1 : Int32) (a2 : Int32) (a3 : Int32) (σ : Store) : Option (Int32 × Store) := (sbd (fX9_isTraveller a1 σ) fun r1 => (if r1 = true then (sbd (fX9_within a2 (0 : Int32) (60 : Int32) σ) fun r3 => (if r3 = true then (sbd (fX9_within a3 (0 : Int32) (2 : Int32) σ) fun r5 => (if r5 = true then (sbd (fX9_copyRow 1 1480 3 80 (80 : Int32) σ) fun s7 => (sbd (fX9_daysGo a2 s7) fun s8 => (sjn (fun k80 : Int32 → Option (Int32 × Store) => (if ¬ a3 = 0 then (if ¬ a3 = (1 : Int32) then (six 1480 (4 : Int32) (k80 (s8 1 (snx (4 : Int32))))) else (sbd (fX9_travellerIs a1 (0 : Int32) s8) fun r19 => (k80 r19))) else (sbd (fX9_paid s8) fun r20 => (k80 r20)))) (fun (z0_80 : Int32) => (sbd2 (fX9_putBack z0_80 s8) fun r14 s15 => (some (r14, s15))))))) else (some ((-1000000001 : Int32), σ)))) else (some ((-1000000001 : Int32), σ)))) else (some ((-1000000001 : Int32), σ))))
theorem c_X9_behind {l0 : Launch} {G : Geo} (a1 : Int32) (a2 : Int32) (a3 : Int32) (σ : Store) (a : (Int32 × Store)) (hf : fX9_behind  a1 a2 a3 σ = some a) : sCon l0 wMod G yX9_behind cX9_behind 4 (some .int) (rmL 8 221) [.ref (gad G 0), .int a1, .int a2, .int a3] σ (some (.int a.1)) a.2 := by
  refine sCon.of (by decide) ⟨rfl, rfl⟩ (Nat.le_of_ble_eq_true rfl) RX9 rfl _ hf (fun K hK => ?_)
  show sV wMod G K a σ 0 [(0, .ref (gad G 0)), (1, .int a1), (2, .int a2), (3, .int a3)] [] _
  unfold fX9_behind
  refine r_aload_n (q := 1) hK dX9_behind_0 rfl rfl 0 rfl ?_
  refine r_iload_n (q := 2) hK dX9_behind_1 rfl rfl 1 rfl ?_
  refine callV_b (q := 5) (j := 0) (As := [.int a1]) (rest := []) (f := (fX9_isTraveller a1 σ)) hK dX9_behind_2 rfl (fun b hb => c_X9_isTraveller a1 σ b hb) ⟨9, _, _, _, by decide, rfl, cM, rfl⟩ mv_X9_isTraveller rfl rfl (Nat.le_of_ble_eq_true rfl) tw_982 mw_X9_isTraveller (rmOk (Nat.le_of_ble_eq_true rfl) (Nat.le_of_ble_eq_true rfl)) (fun r1 => ?_)
  refine r_ifb_eq (t := 27) (q := 8) hK dX9_behind_5 rfl rfl (fun c2 => ?_) (fun c2 => ?_)
  · refine r_iload_n (q := 9) hK dX9_behind_8 rfl rfl 2 rfl ?_
    refine r_iconst (q := 10) (v := 0) hK dX9_behind_9 rfl rfl ?_
    refine r_bipush (q := 12) (v := 60) hK dX9_behind_10 rfl rfl ?_
    refine callS_b (q := 15) (As := [.int a2, .int (0 : Int32), .int (60 : Int32)]) (rest := []) (f := (fX9_within a2 (0 : Int32) (60 : Int32) σ)) hK dX9_behind_12 rfl (fun b hb => c_X9_within a2 (0 : Int32) (60 : Int32) σ b hb) ms_X9_within rfl rfl (Nat.le_of_ble_eq_true rfl) tw_900 mw_X9_within (rmOk (Nat.le_of_ble_eq_true rfl) (Nat.le_of_ble_eq_true rfl)) (fun r3 => ?_)
    refine r_ifb_eq (t := 27) (q := 18) hK dX9_behind_15 rfl rfl (fun c4 => ?_) (fun c4 => ?_)
    · refine r_iload_n (q := 19) hK dX9_behind_18 rfl rfl 3 rfl ?_
      refine r_iconst (q := 20) (v := 0) hK dX9_behind_19 rfl rfl ?_
      refine r_iconst (q := 21) (v := 2) hK dX9_behind_20 rfl rfl ?_
      refine callS_b (q := 24) (As := [.int a3, .int (0 : Int32), .int (2 : Int32)]) (rest := []) (f := (fX9_within a3 (0 : Int32) (2 : Int32) σ)) hK dX9_behind_21 rfl (fun b hb => c_X9_within a3 (0 : Int32) (2 : Int32) σ b hb) ms_X9_within rfl rfl (Nat.le_of_ble_eq_true rfl) tw_900 mw_X9_within (rmOk (Nat.le_of_ble_eq_true rfl) (Nat.le_of_ble_eq_true rfl)) (fun r5 => ?_)
      refine r_ifb_ne (t := 30) (q := 27) hK dX9_behind_24 rfl rfl (fun c6 => ?_) (fun c6 => ?_)
      · refine r_aload_n (q := 31) hK dX9_behind_30 rfl rfl 0 rfl ?_
        refine gf_9_0 (q := 34) hK dX9_behind_31 rfl tw_804 ?_
        refine r_aload_n (q := 35) hK dX9_behind_34 rfl rfl 0 rfl ?_
        refine gf_9_3 (q := 38) hK dX9_behind_35 rfl tw_807 ?_
        refine r_bipush (q := 40) (v := 80) hK dX9_behind_38 rfl rfl ?_
        refine callS_vS (q := 43) (As := [.ref (gad G 1), .ref (gad G 3), .int (80 : Int32)]) (rest := []) (f := (fX9_copyRow 1 1480 3 80 (80 : Int32) σ)) hK dX9_behind_40 rfl (fun b hb => c_X9_copyRow 1 1480 aM1 3 80 aM3 (80 : Int32) σ b hb) ms_X9_copyRow rfl rfl (Nat.le_of_ble_eq_true rfl) tw_1098 mw_X9_copyRow (rmOk (Nat.le_of_ble_eq_true rfl) (Nat.le_of_ble_eq_true rfl)) (fun s7 => ?_)
        refine r_aload_n (q := 44) hK dX9_behind_43 rfl rfl 0 rfl ?_
        refine r_iload_n (q := 45) hK dX9_behind_44 rfl rfl 2 rfl ?_
        refine callV_vS (q := 48) (j := 0) (As := [.int a2]) (rest := []) (f := (fX9_daysGo a2 s7)) hK dX9_behind_45 rfl (fun b hb => c_X9_daysGo a2 s7 b hb) ⟨9, _, _, _, by decide, rfl, cM, rfl⟩ mv_X9_daysGo rfl rfl (Nat.le_of_ble_eq_true rfl) tw_1050 mw_X9_daysGo (rmOk (Nat.le_of_ble_eq_true rfl) (Nat.le_of_ble_eq_true rfl)) (fun s8 => ?_)
        refine r_aload_n (q := 49) hK dX9_behind_48 rfl rfl 0 rfl ?_
        refine r_iload_n (q := 50) hK dX9_behind_49 rfl rfl 3 rfl ?_
        refine sV.jn (fun k : Int32 → Option (Int32 × Store) => ∀ (z0_80 : Int32), sV wMod G K a s8 80 [(0, .ref (gad G 0)), (1, .int a1), (2, .int a2), (3, .int a3)] [.int z0_80, .ref (gad G 0)] (k z0_80)) (fun z0_80 => ?_) (fun k80 hk80 => ?_)
        · refine callV_iS (q := 83) (j := 0) (As := [.int z0_80]) (rest := []) (f := (fX9_putBack z0_80 s8)) hK dX9_behind_80 rfl (fun b hb => c_X9_putBack z0_80 s8 b hb) ⟨9, _, _, _, by decide, rfl, cM, rfl⟩ mv_X9_putBack rfl rfl (Nat.le_of_ble_eq_true rfl) tw_1105 mw_X9_putBack (rmOk (Nat.le_of_ble_eq_true rfl) (Nat.le_of_ble_eq_true rfl)) (fun r14 s15 => ?_)
          exact e_iS hK dX9_behind_83
        · refine r_if_ne (t := 60) (q := 53) hK dX9_behind_50 rfl rfl (fun c16 => ?_) (fun c16 => ?_)
          · refine r_iload_n (q := 61) hK dX9_behind_60 rfl rfl 3 rfl ?_
            refine r_iconst (q := 62) (v := 1) hK dX9_behind_61 rfl rfl ?_
            refine r_icmp_ne (t := 74) (q := 65) hK dX9_behind_62 rfl rfl (fun c17 => ?_) (fun c17 => ?_)
            · refine r_aload_n (q := 75) hK dX9_behind_74 rfl rfl 0 rfl ?_
              refine gf_9_0 (q := 78) hK dX9_behind_75 rfl tw_804 ?_
              refine r_iconst (q := 79) (v := 4) hK dX9_behind_78 rfl rfl ?_
              refine r_iald (q := 80) hK dX9_behind_79 rfl aM1 (fun h18 => ?_)
              exact sV.sub [0, 1, 2, 3] (by rfl) (hk80 (s8 1 (snx (4 : Int32))))
            · refine r_aload_n (q := 66) hK dX9_behind_65 rfl rfl 0 rfl ?_
              refine r_iload_n (q := 67) hK dX9_behind_66 rfl rfl 1 rfl ?_
              refine r_iconst (q := 68) (v := 0) hK dX9_behind_67 rfl rfl ?_
              refine callV_i (q := 71) (j := 0) (As := [.int a1, .int (0 : Int32)]) (rest := [.ref (gad G 0)]) (f := (fX9_travellerIs a1 (0 : Int32) s8)) hK dX9_behind_68 rfl (fun b hb => c_X9_travellerIs a1 (0 : Int32) s8 b hb) ⟨9, _, _, _, by decide, rfl, cM, rfl⟩ mv_X9_travellerIs rfl rfl (Nat.le_of_ble_eq_true rfl) tw_986 mw_X9_travellerIs (rmOk (Nat.le_of_ble_eq_true rfl) (Nat.le_of_ble_eq_true rfl)) (fun r19 => ?_)
              refine r_goto (q := 80) hK dX9_behind_71 rfl ?_
              exact sV.sub [0, 1, 2, 3] (by rfl) (hk80 r19)
          · refine r_aload_n (q := 54) hK dX9_behind_53 rfl rfl 0 rfl ?_
            refine callV_i (q := 57) (j := 0) (As := []) (rest := [.ref (gad G 0)]) (f := (fX9_paid s8)) hK dX9_behind_54 rfl (fun b hb => c_X9_paid s8 b hb) ⟨9, _, _, _, by decide, rfl, cM, rfl⟩ mv_X9_paid rfl rfl (Nat.le_of_ble_eq_true rfl) tw_1101 mw_X9_paid (rmOk (Nat.le_of_ble_eq_true rfl) (Nat.le_of_ble_eq_true rfl)) (fun r20 => ?_)
            refine r_goto (q := 80) hK dX9_behind_57 rfl ?_
            exact sV.sub [0, 1, 2, 3] (by rfl) (hk80 r20)
      · refine r_ldc (q := 29) hK dX9_behind_27 rfl tw_906 ?_
        exact e_iS hK dX9_behind_29
    · refine r_ldc (q := 29) hK dX9_behind_27 rfl tw_906 ?_
      exact e_iS hK dX9_behind_29
  · refine r_ldc (q := 29) hK dX9_behind_27 rfl tw_906 ?_
    exact e_iS hK dX9_behind_29
def fX9_turnsBy_L15   (k : Int32 → Store → Option (Int32 × Store)) : Nat → Int32 → Store → Option (Int32 × Store)
  | 0, _, _ => none
  | n + 1, i1, τ => (if (200 : Int32) < i1 then (k i1 τ) else (sbd (fX9_isTurned τ) fun r11 => (if r11 = true then (k i1 τ) else (sbd (fX9_daysGo (1 : Int32) τ) fun s13 => (fX9_turnsBy_L15 k n (i1 + (1 : Int32)) s13)))))
theorem vX9_turnsBy_L15 {G : Geo} {K : KT} {l0 : Launch} (σ : Store) {a : (Int32 × Store)}  (hK : sOk wMod G K l0 RX9 cX9_turnsBy (rmL 8 221) 2 (some .int) (some (.int a.1)) a.2) (k : Int32 → Store → Option (Int32 × Store)) (hk : ∀ (e1 : Int32) (ε : Store), sV wMod G K a ε 40 [(0, .ref (gad G 0)), (1, .int e1)] [] (k e1 ε)) : ∀ (n : Nat) (i1 : Int32) (τ : Store), sV wMod G K a τ 15 [(0, .ref (gad G 0)), (1, .int i1)] [] (fX9_turnsBy_L15  k n i1 τ) := by
  intro n
  induction n with
  | zero =>
    intro i1 τ
    exact sV.no
  | succ n ih =>
    intro i1 τ
    rw [fX9_turnsBy_L15]
    refine r_iload_n (q := 16) hK dX9_turnsBy_15 rfl rfl 1 rfl ?_
    refine r_sipush (q := 19) (v := 200) hK dX9_turnsBy_16 rfl rfl ?_
    refine r_icmp_gt (t := 40) (q := 22) hK dX9_turnsBy_19 rfl rfl (fun c10 => ?_) (fun c10 => ?_)
    · exact sV.sub [0, 1] (by rfl) (hk i1 τ)
    · refine r_aload_n (q := 23) hK dX9_turnsBy_22 rfl rfl 0 rfl ?_
      refine callV_b (q := 26) (j := 0) (As := []) (rest := []) (f := (fX9_isTurned τ)) hK dX9_turnsBy_23 rfl (fun b hb => c_X9_isTurned τ b hb) ⟨9, _, _, _, by decide, rfl, cM, rfl⟩ mv_X9_isTurned rfl rfl (Nat.le_of_ble_eq_true rfl) tw_1030 mw_X9_isTurned (rmOk (Nat.le_of_ble_eq_true rfl) (Nat.le_of_ble_eq_true rfl)) (fun r11 => ?_)
      refine r_ifb_ne (t := 40) (q := 29) hK dX9_turnsBy_26 rfl rfl (fun c12 => ?_) (fun c12 => ?_)
      · exact sV.sub [0, 1] (by rfl) (hk i1 τ)
      · refine r_aload_n (q := 30) hK dX9_turnsBy_29 rfl rfl 0 rfl ?_
        refine r_iconst (q := 31) (v := 1) hK dX9_turnsBy_30 rfl rfl ?_
        refine callV_vS (q := 34) (j := 0) (As := [.int (1 : Int32)]) (rest := []) (f := (fX9_daysGo (1 : Int32) τ)) hK dX9_turnsBy_31 rfl (fun b hb => c_X9_daysGo (1 : Int32) τ b hb) ⟨9, _, _, _, by decide, rfl, cM, rfl⟩ mv_X9_daysGo rfl rfl (Nat.le_of_ble_eq_true rfl) tw_1050 mw_X9_daysGo (rmOk (Nat.le_of_ble_eq_true rfl) (Nat.le_of_ble_eq_true rfl)) (fun s13 => ?_)
        refine r_iinc (q := 37) (v := (i1 + (1 : Int32))) (loc' := [(1, .int (i1 + (1 : Int32))), (0, .ref (gad G 0))]) hK dX9_turnsBy_34 rfl 1 rfl rfl (by decide) rfl ?_
        refine r_goto (q := 15) hK dX9_turnsBy_37 rfl ?_
        exact sV.sub [1, 0] (by rfl) (ih (i1 + (1 : Int32)) s13)
def fX9_turnsBy   (σ : Store) : Option (Int32 × Store) := (sbd (fX9_copyRow 1 1480 3 80 (80 : Int32) σ) fun s1 => (fX9_turnsBy_L15  (fun x14 s15 => (sjn (fun k54 : Int32 → Option (Int32 × Store) => (if x14 ≤ (200 : Int32) then (k54 x14) else (k54 (-1000000005 : Int32)))) (fun (z0_54 : Int32) => (sbd2 (fX9_putBack z0_54 s15) fun r17 s18 => (some (r17, s18)))))) FU (0 : Int32) s1))
theorem c_X9_turnsBy {l0 : Launch} {G : Geo}  (σ : Store) (a : (Int32 × Store)) (hf : fX9_turnsBy   σ = some a) : sCon l0 wMod G yX9_turnsBy cX9_turnsBy 2 (some .int) (rmL 8 221) [.ref (gad G 0)] σ (some (.int a.1)) a.2 := by
  refine sCon.of (by decide) ⟨rfl, rfl⟩ (Nat.le_of_ble_eq_true rfl) RX9 rfl _ hf (fun K hK => ?_)
  show sV wMod G K a σ 0 [(0, .ref (gad G 0))] [] _
  unfold fX9_turnsBy
  refine r_aload_n (q := 1) hK dX9_turnsBy_0 rfl rfl 0 rfl ?_
  refine gf_9_0 (q := 4) hK dX9_turnsBy_1 rfl tw_804 ?_
  refine r_aload_n (q := 5) hK dX9_turnsBy_4 rfl rfl 0 rfl ?_
  refine gf_9_3 (q := 8) hK dX9_turnsBy_5 rfl tw_807 ?_
  refine r_bipush (q := 10) (v := 80) hK dX9_turnsBy_8 rfl rfl ?_
  refine callS_vS (q := 13) (As := [.ref (gad G 1), .ref (gad G 3), .int (80 : Int32)]) (rest := []) (f := (fX9_copyRow 1 1480 3 80 (80 : Int32) σ)) hK dX9_turnsBy_10 rfl (fun b hb => c_X9_copyRow 1 1480 aM1 3 80 aM3 (80 : Int32) σ b hb) ms_X9_copyRow rfl rfl (Nat.le_of_ble_eq_true rfl) tw_1098 mw_X9_copyRow (rmOk (Nat.le_of_ble_eq_true rfl) (Nat.le_of_ble_eq_true rfl)) (fun s1 => ?_)
  refine r_iconst (q := 14) (v := 0) hK dX9_turnsBy_13 rfl rfl ?_
  refine r_istore_n (q := 15) (loc' := [(1, .int (0 : Int32)), (0, .ref (gad G 0))]) hK dX9_turnsBy_14 rfl rfl (by decide) rfl ?_
  refine sV.sub [1, 0] (by rfl) (vX9_turnsBy_L15 s1  hK _ (fun x14 s15 => ?_) FU (0 : Int32) s1)
  refine r_aload_n (q := 41) hK dX9_turnsBy_40 rfl rfl 0 rfl ?_
  refine r_iload_n (q := 42) hK dX9_turnsBy_41 rfl rfl 1 rfl ?_
  refine r_sipush (q := 45) (v := 200) hK dX9_turnsBy_42 rfl rfl ?_
  refine sV.jn (fun k : Int32 → Option (Int32 × Store) => ∀ (z0_54 : Int32), sV wMod G K a s15 54 [(0, .ref (gad G 0)), (1, .int x14)] [.int z0_54, .ref (gad G 0)] (k z0_54)) (fun z0_54 => ?_) (fun k54 hk54 => ?_)
  · refine callV_iS (q := 57) (j := 0) (As := [.int z0_54]) (rest := []) (f := (fX9_putBack z0_54 s15)) hK dX9_turnsBy_54 rfl (fun b hb => c_X9_putBack z0_54 s15 b hb) ⟨9, _, _, _, by decide, rfl, cM, rfl⟩ mv_X9_putBack rfl rfl (Nat.le_of_ble_eq_true rfl) tw_1105 mw_X9_putBack (rmOk (Nat.le_of_ble_eq_true rfl) (Nat.le_of_ble_eq_true rfl)) (fun r17 s18 => ?_)
    exact e_iS hK dX9_turnsBy_57
  · refine r_icmp_le (t := 53) (q := 48) hK dX9_turnsBy_45 rfl rfl (fun c19 => ?_) (fun c19 => ?_)
    · refine r_iload_n (q := 54) hK dX9_turnsBy_53 rfl rfl 1 rfl ?_
      exact sV.sub [0, 1] (by rfl) (hk54 x14)
    · refine r_ldc (q := 50) hK dX9_turnsBy_48 rfl tw_1077 ?_
      refine r_goto (q := 54) hK dX9_turnsBy_50 rfl ?_
      exact sV.sub [0, 1] (by rfl) (hk54 (-1000000005 : Int32))
def fX9_isSheet  (a0 : Int32) (σ : Store) : Option Bool := (sbd (fX9_within a0 (0 : Int32) (3 : Int32) σ) fun r1 => (some r1))
theorem c_X9_isSheet {l0 : Launch} {G : Geo} (a0 : Int32) (σ : Store) (a : Bool) (hf : fX9_isSheet  a0 σ = some a) : sCon l0 wMod G yX9_isSheet cX9_isSheet 1 (some .boolean) (rmL 2 82) [.int a0] σ (some (.int (b2i a))) σ := by
  refine sCon.of (by decide) ⟨rfl, rfl⟩ (Nat.le_of_ble_eq_true rfl) RX9 rfl _ hf (fun K hK => ?_)
  show sV wMod G K a σ 0 [(0, .int a0)] [] _
  unfold fX9_isSheet
  refine r_iload_n (q := 1) hK dX9_isSheet_0 rfl rfl 0 rfl ?_
  refine r_iconst (q := 2) (v := 0) hK dX9_isSheet_1 rfl rfl ?_
  refine r_iconst (q := 3) (v := 3) hK dX9_isSheet_2 rfl rfl ?_
  refine callS_b (q := 6) (As := [.int a0, .int (0 : Int32), .int (3 : Int32)]) (rest := []) (f := (fX9_within a0 (0 : Int32) (3 : Int32) σ)) hK dX9_isSheet_3 rfl (fun b hb => c_X9_within a0 (0 : Int32) (3 : Int32) σ b hb) ms_X9_within rfl rfl (Nat.le_of_ble_eq_true rfl) tw_900 mw_X9_within (rmOk (Nat.le_of_ble_eq_true rfl) (Nat.le_of_ble_eq_true rfl)) (fun r1 => ?_)
  exact e_b (b := r1) hK dX9_isSheet_6
def fX9_quota_L92  (v1 : Int32) (v2 : Int32) (k : Int64 → Int32 → Store → Option (Int32 × Store)) : Nat → Int64 → Int32 → Store → Option (Int32 × Store)
  | 0, _, _, _ => none
  | n + 1, i8, i10, τ => (six 4 v1 (if (τ 12 (snx v1)) ≤ i10 then (k i8 i10 τ) else (six 96 (((24 : Int32) * v1) + i10) (slt (τ 13 (snx (((24 : Int32) * v1) + i10))) fun x120 => (sjn (fun k143 : Int64 → Option (Int32 × Store) => (if ¬ x120 = (-1000000005 : Int32) then (sbd (fX9_wordIs v2 (4 : Int32) τ) fun r126 => (k143 ((sabs (r126 - x120))).toInt64)) else (k143 (0 : Int64)))) (fun (z0_143 : Int64) => (slt (i8 + z0_143) fun x123 => (sbd (fX9_daysGo (1 : Int32) τ) fun s124 => (fX9_quota_L92 v1 v2 k n x123 (i10 + (1 : Int32)) s124)))))))))
theorem vX9_quota_L92 {G : Geo} {K : KT} {l0 : Launch} (σ : Store) {a : (Int32 × Store)} (v1 : Int32) (v2 : Int32) (v3 : Int32) (v4 : Int32) (v5 : Int64) (v7 : Int32) (hK : sOk wMod G K l0 RX9 cX9_quota (rmL 8 221) 12 (some .int) (some (.int a.1)) a.2) (k : Int64 → Int32 → Store → Option (Int32 × Store)) (hk : ∀ (e8 : Int64) (e10 : Int32) (ε : Store), sV wMod G K a ε 157 [(0, .ref (gad G 0)), (1, .int v1), (2, .int v2), (3, .int v3), (4, .int v4), (5, .long v5), (7, .int v7), (8, .long e8), (10, .int e10)] [] (k e8 e10 ε)) : ∀ (n : Nat) (i8 : Int64) (i10 : Int32) (τ : Store), sV wMod G K a τ 92 [(0, .ref (gad G 0)), (1, .int v1), (2, .int v2), (3, .int v3), (4, .int v4), (5, .long v5), (7, .int v7), (8, .long i8), (10, .int i10)] [] (fX9_quota_L92 v1 v2 k n i8 i10 τ) := by
  intro n
  induction n with
  | zero =>
    intro i8 i10 τ
    exact sV.no
  | succ n ih =>
    intro i8 i10 τ
    rw [fX9_quota_L92]
    refine r_iload (q := 94) hK dX9_quota_92 rfl 8 rfl ?_
    refine r_aload_n (q := 95) hK dX9_quota_94 rfl rfl 0 rfl ?_
    refine gf_9_22 (q := 98) hK dX9_quota_95 rfl tw_826 ?_
    refine r_iload_n (q := 99) hK dX9_quota_98 rfl rfl 1 rfl ?_
    refine r_iald (q := 100) hK dX9_quota_99 rfl aM12 (fun h117 => ?_)
    refine r_icmp_ge (t := 157) (q := 103) hK dX9_quota_100 rfl rfl (fun c118 => ?_) (fun c118 => ?_)
    · exact sV.sub [0, 1, 2, 3, 4, 5, 6, 7, 8] (by rfl) (hk i8 i10 τ)
    · refine r_aload_n (q := 104) hK dX9_quota_103 rfl rfl 0 rfl ?_
      refine gf_9_23 (q := 107) hK dX9_quota_104 rfl tw_827 ?_
      refine r_bipush (q := 109) (v := 24) hK dX9_quota_107 rfl rfl ?_
      refine r_iload_n (q := 110) hK dX9_quota_109 rfl rfl 1 rfl ?_
      refine r_imul (q := 111) hK dX9_quota_110 rfl ?_
      refine r_iload (q := 113) hK dX9_quota_111 rfl 8 rfl ?_
      refine r_iadd (q := 114) hK dX9_quota_113 rfl ?_
      refine r_iald (q := 115) hK dX9_quota_114 rfl aM13 (fun h119 => ?_)
      refine sV.ltI (fun x120 => ?_)
      refine r_istore (q := 117) (loc' := [(11, .int x120), (0, .ref (gad G 0)), (1, .int v1), (2, .int v2), (3, .int v3), (4, .int v4), (5, .long v5), (7, .int v7), (8, .long i8), (10, .int i10)]) hK dX9_quota_115 rfl (by decide) rfl ?_
      refine r_lload (q := 119) hK dX9_quota_117 rfl 8 rfl ?_
      refine r_iload (q := 121) hK dX9_quota_119 rfl 0 rfl ?_
      refine r_ldc (q := 123) hK dX9_quota_121 rfl tw_1077 ?_
      refine sV.jn (fun k : Int64 → Option (Int32 × Store) => ∀ (z0_143 : Int64), sV wMod G K a τ 143 [(0, .ref (gad G 0)), (1, .int v1), (2, .int v2), (3, .int v3), (4, .int v4), (5, .long v5), (7, .int v7), (8, .long i8), (10, .int i10), (11, .int x120)] [.long z0_143, .long i8] (k z0_143)) (fun z0_143 => ?_) (fun k143 hk143 => ?_)
      · refine r_ladd (q := 144) hK dX9_quota_143 rfl ?_
        refine sV.ltL (fun x123 => ?_)
        refine r_lstore (q := 146) (loc' := [(8, .long x123), (0, .ref (gad G 0)), (1, .int v1), (2, .int v2), (3, .int v3), (4, .int v4), (5, .long v5), (7, .int v7), (10, .int i10), (11, .int x120)]) hK dX9_quota_144 rfl (by decide) rfl ?_
        refine r_aload_n (q := 147) hK dX9_quota_146 rfl rfl 1 rfl ?_
        refine r_iconst (q := 148) (v := 1) hK dX9_quota_147 rfl rfl ?_
        refine callV_vS (q := 151) (j := 0) (As := [.int (1 : Int32)]) (rest := []) (f := (fX9_daysGo (1 : Int32) τ)) hK dX9_quota_148 rfl (fun b hb => c_X9_daysGo (1 : Int32) τ b hb) ⟨9, _, _, _, by decide, rfl, cM, rfl⟩ mv_X9_daysGo rfl rfl (Nat.le_of_ble_eq_true rfl) tw_1050 mw_X9_daysGo (rmOk (Nat.le_of_ble_eq_true rfl) (Nat.le_of_ble_eq_true rfl)) (fun s124 => ?_)
        refine r_iinc (q := 154) (v := (i10 + (1 : Int32))) (loc' := [(10, .int (i10 + (1 : Int32))), (8, .long x123), (0, .ref (gad G 0)), (1, .int v1), (2, .int v2), (3, .int v3), (4, .int v4), (5, .long v5), (7, .int v7), (11, .int x120)]) hK dX9_quota_151 rfl 8 rfl rfl (by decide) rfl ?_
        refine r_goto (q := 92) hK dX9_quota_154 rfl ?_
        exact sV.sub [2, 3, 4, 5, 6, 7, 8, 1, 0] (by rfl) (ih x123 (i10 + (1 : Int32)) s124)
      · refine r_icmp_ne (t := 130) (q := 126) hK dX9_quota_123 rfl rfl (fun c125 => ?_) (fun c125 => ?_)
        · refine r_aload_n (q := 131) hK dX9_quota_130 rfl rfl 1 rfl ?_
          refine r_iload_n (q := 132) hK dX9_quota_131 rfl rfl 3 rfl ?_
          refine r_iconst (q := 133) (v := 4) hK dX9_quota_132 rfl rfl ?_
          refine callV_i (q := 136) (j := 0) (As := [.int v2, .int (4 : Int32)]) (rest := [.long i8]) (f := (fX9_wordIs v2 (4 : Int32) τ)) hK dX9_quota_133 rfl (fun b hb => c_X9_wordIs v2 (4 : Int32) τ b hb) ⟨9, _, _, _, by decide, rfl, cM, rfl⟩ mv_X9_wordIs rfl rfl (Nat.le_of_ble_eq_true rfl) tw_932 mw_X9_wordIs (rmOk (Nat.le_of_ble_eq_true rfl) (Nat.le_of_ble_eq_true rfl)) (fun r126 => ?_)
          refine r_iload (q := 138) hK dX9_quota_136 rfl 0 rfl ?_
          refine r_isub (q := 139) hK dX9_quota_138 rfl ?_
          refine r_abs (q := 142) hK dX9_quota_139 rfl tw_1122 mt_abs (rmM (Nat.le_of_ble_eq_true rfl) (Nat.le_of_ble_eq_true rfl)) ?_
          refine r_i2l (q := 143) hK dX9_quota_142 rfl ?_
          exact sV.sub [1, 2, 3, 4, 5, 6, 7, 8, 9, 0] (by rfl) (hk143 ((sabs (r126 - x120))).toInt64)
        · refine r_lconst (q := 127) (v := 0) hK dX9_quota_126 rfl rfl ?_
          refine r_goto (q := 143) hK dX9_quota_127 rfl ?_
          exact sV.sub [1, 2, 3, 4, 5, 6, 7, 8, 9, 0] (by rfl) (hk143 (0 : Int64))
def fX9_quota_L63  (v1 : Int32) (v2 : Int32) (k : Int32 → Int64 → Int32 → Store → Option (Int32 × Store)) : Nat → Int32 → Int64 → Int32 → Store → Option (Int32 × Store)
  | 0, _, _, _, _ => none
  | n + 1, i4, i5, i7, τ => (if (20 : Int32) < i7 then (k i4 i5 i7 τ) else (six 1480 (((8 : Int32) + ((6 : Int32) * v2)) + (3 : Int32)) (slt (sup τ 1 (snx (((8 : Int32) + ((6 : Int32) * v2)) + (3 : Int32))) i7) fun s96 => (fX9_quota_L92 v1 v2 (fun x127 x128 s129 => (sjn (fun k180 : Int32 → Int64 → Option (Int32 × Store) => (if (lg_cmp i5 (0 : Int64)) < 0 then (k180 i7 x127) else (if 0 ≤ (lg_cmp x127 i5) then (k180 i4 i5) else (k180 i7 x127)))) (fun (y4_180 : Int32) (y5_180 : Int64) => (sbd2 (fX9_putBack y4_180 s129) fun r132 s133 => (fX9_quota_L63 v1 v2 k n r132 y5_180 (i7 + (1 : Int32)) s133))))) FU (0 : Int64) (0 : Int32) s96))))
theorem vX9_quota_L63 {G : Geo} {K : KT} {l0 : Launch} (σ : Store) {a : (Int32 × Store)} (v1 : Int32) (v2 : Int32) (v3 : Int32) (hK : sOk wMod G K l0 RX9 cX9_quota (rmL 8 221) 12 (some .int) (some (.int a.1)) a.2) (k : Int32 → Int64 → Int32 → Store → Option (Int32 × Store)) (hk : ∀ (e4 : Int32) (e5 : Int64) (e7 : Int32) (ε : Store), sV wMod G K a ε 194 [(0, .ref (gad G 0)), (1, .int v1), (2, .int v2), (3, .int v3), (4, .int e4), (5, .long e5), (7, .int e7)] [] (k e4 e5 e7 ε)) : ∀ (n : Nat) (i4 : Int32) (i5 : Int64) (i7 : Int32) (τ : Store), sV wMod G K a τ 63 [(0, .ref (gad G 0)), (1, .int v1), (2, .int v2), (3, .int v3), (4, .int i4), (5, .long i5), (7, .int i7)] [] (fX9_quota_L63 v1 v2 k n i4 i5 i7 τ) := by
  intro n
  induction n with
  | zero =>
    intro i4 i5 i7 τ
    exact sV.no
  | succ n ih =>
    intro i4 i5 i7 τ
    rw [fX9_quota_L63]
    refine r_iload (q := 65) hK dX9_quota_63 rfl 6 rfl ?_
    refine r_bipush (q := 67) (v := 20) hK dX9_quota_65 rfl rfl ?_
    refine r_icmp_gt (t := 194) (q := 70) hK dX9_quota_67 rfl rfl (fun c94 => ?_) (fun c94 => ?_)
    · exact sV.sub [0, 1, 2, 3, 4, 5, 6] (by rfl) (hk i4 i5 i7 τ)
    · refine r_aload_n (q := 71) hK dX9_quota_70 rfl rfl 0 rfl ?_
      refine gf_9_0 (q := 74) hK dX9_quota_71 rfl tw_804 ?_
      refine r_bipush (q := 76) (v := 8) hK dX9_quota_74 rfl rfl ?_
      refine r_bipush (q := 78) (v := 6) hK dX9_quota_76 rfl rfl ?_
      refine r_iload_n (q := 79) hK dX9_quota_78 rfl rfl 2 rfl ?_
      refine r_imul (q := 80) hK dX9_quota_79 rfl ?_
      refine r_iadd (q := 81) hK dX9_quota_80 rfl ?_
      refine r_iconst (q := 82) (v := 3) hK dX9_quota_81 rfl rfl ?_
      refine r_iadd (q := 83) hK dX9_quota_82 rfl ?_
      refine r_iload (q := 85) hK dX9_quota_83 rfl 6 rfl ?_
      refine r_iast (q := 86) hK dX9_quota_85 rfl aM1 (fun h95 => ?_)
      refine sV.ltS (fun s96 => ?_)
      refine r_lconst (q := 87) (v := 0) hK dX9_quota_86 rfl rfl ?_
      refine r_lstore (q := 89) (loc' := [(8, .long (0 : Int64)), (0, .ref (gad G 0)), (1, .int v1), (2, .int v2), (3, .int v3), (4, .int i4), (5, .long i5), (7, .int i7)]) hK dX9_quota_87 rfl (by decide) rfl ?_
      refine r_iconst (q := 90) (v := 0) hK dX9_quota_89 rfl rfl ?_
      refine r_istore (q := 92) (loc' := [(10, .int (0 : Int32)), (8, .long (0 : Int64)), (0, .ref (gad G 0)), (1, .int v1), (2, .int v2), (3, .int v3), (4, .int i4), (5, .long i5), (7, .int i7)]) hK dX9_quota_90 rfl (by decide) rfl ?_
      refine sV.sub [2, 3, 4, 5, 6, 7, 8, 1, 0] (by rfl) (vX9_quota_L92 s96 v1 v2 v3 i4 i5 i7 hK _ (fun x127 x128 s129 => ?_) FU (0 : Int64) (0 : Int32) s96)
      refine r_lload (q := 159) hK dX9_quota_157 rfl 5 rfl ?_
      refine r_lconst (q := 160) (v := 0) hK dX9_quota_159 rfl rfl ?_
      refine r_lcmp (q := 161) hK dX9_quota_160 rfl ?_
      refine sV.jn (fun k : Int32 → Int64 → Option (Int32 × Store) => ∀ (y4_180 : Int32) (y5_180 : Int64), sV wMod G K a s129 180 [(0, .ref (gad G 0)), (1, .int v1), (2, .int v2), (3, .int v3), (4, .int y4_180), (5, .long y5_180), (7, .int i7), (8, .long x127), (10, .int x128)] [] (k y4_180 y5_180)) (fun y4_180 y5_180 => ?_) (fun k180 hk180 => ?_)
      · refine r_aload_n (q := 181) hK dX9_quota_180 rfl rfl 0 rfl ?_
        refine r_iload (q := 183) hK dX9_quota_181 rfl 4 rfl ?_
        refine callV_iS (q := 186) (j := 0) (As := [.int y4_180]) (rest := []) (f := (fX9_putBack y4_180 s129)) hK dX9_quota_183 rfl (fun b hb => c_X9_putBack y4_180 s129 b hb) ⟨9, _, _, _, by decide, rfl, cM, rfl⟩ mv_X9_putBack rfl rfl (Nat.le_of_ble_eq_true rfl) tw_1105 mw_X9_putBack (rmOk (Nat.le_of_ble_eq_true rfl) (Nat.le_of_ble_eq_true rfl)) (fun r132 s133 => ?_)
        refine r_istore (q := 188) (loc' := [(4, .int r132), (0, .ref (gad G 0)), (1, .int v1), (2, .int v2), (3, .int v3), (5, .long y5_180), (7, .int i7), (8, .long x127), (10, .int x128)]) hK dX9_quota_186 rfl (by decide) rfl ?_
        refine r_iinc (q := 191) (v := (i7 + (1 : Int32))) (loc' := [(7, .int (i7 + (1 : Int32))), (4, .int r132), (0, .ref (gad G 0)), (1, .int v1), (2, .int v2), (3, .int v3), (5, .long y5_180), (8, .long x127), (10, .int x128)]) hK dX9_quota_188 rfl 6 rfl rfl (by decide) rfl ?_
        refine r_goto (q := 63) hK dX9_quota_191 rfl ?_
        exact sV.sub [2, 3, 4, 5, 1, 6, 0] (by rfl) (ih r132 y5_180 (i7 + (1 : Int32)) s133)
      · refine r_if_lt (t := 172) (q := 164) hK dX9_quota_161 rfl rfl (fun c134 => ?_) (fun c134 => ?_)
        · refine r_lload (q := 174) hK dX9_quota_172 rfl 7 rfl ?_
          refine r_lstore (q := 176) (loc' := [(5, .long x127), (0, .ref (gad G 0)), (1, .int v1), (2, .int v2), (3, .int v3), (4, .int i4), (7, .int i7), (8, .long x127), (10, .int x128)]) hK dX9_quota_174 rfl (by decide) rfl ?_
          refine r_iload (q := 178) hK dX9_quota_176 rfl 6 rfl ?_
          refine r_istore (q := 180) (loc' := [(4, .int i7), (5, .long x127), (0, .ref (gad G 0)), (1, .int v1), (2, .int v2), (3, .int v3), (7, .int i7), (8, .long x127), (10, .int x128)]) hK dX9_quota_178 rfl (by decide) rfl ?_
          exact sV.sub [2, 3, 4, 5, 0, 1, 6, 7, 8] (by rfl) (hk180 i7 x127)
        · refine r_lload (q := 166) hK dX9_quota_164 rfl 7 rfl ?_
          refine r_lload (q := 168) hK dX9_quota_166 rfl 5 rfl ?_
          refine r_lcmp (q := 169) hK dX9_quota_168 rfl ?_
          refine r_if_ge (t := 180) (q := 172) hK dX9_quota_169 rfl rfl (fun c135 => ?_) (fun c135 => ?_)
          · exact sV.sub [0, 1, 2, 3, 4, 5, 6, 7, 8] (by rfl) (hk180 i4 i5)
          · refine r_lload (q := 174) hK dX9_quota_172 rfl 7 rfl ?_
            refine r_lstore (q := 176) (loc' := [(5, .long x127), (0, .ref (gad G 0)), (1, .int v1), (2, .int v2), (3, .int v3), (4, .int i4), (7, .int i7), (8, .long x127), (10, .int x128)]) hK dX9_quota_174 rfl (by decide) rfl ?_
            refine r_iload (q := 178) hK dX9_quota_176 rfl 6 rfl ?_
            refine r_istore (q := 180) (loc' := [(4, .int i7), (5, .long x127), (0, .ref (gad G 0)), (1, .int v1), (2, .int v2), (3, .int v3), (7, .int i7), (8, .long x127), (10, .int x128)]) hK dX9_quota_178 rfl (by decide) rfl ?_
            exact sV.sub [2, 3, 4, 5, 0, 1, 6, 7, 8] (by rfl) (hk180 i7 x127)
def fX9_quota  (a1 : Int32) (a2 : Int32) (a3 : Int32) (σ : Store) : Option (Int32 × Store) := (sbd (fX9_isSheet a1 σ) fun r1 => (if r1 = true then (sbd (fX9_isWord a2 σ) fun r3 => (if r3 = true then (sbd (fX9_within a3 (0 : Int32) (1 : Int32) σ) fun r5 => (if r5 = true then (six 4 a1 (if 0 ≤ (σ 11 (snx a1)) then (sbd (fX9_copyRow 1 1480 3 80 (80 : Int32) σ) fun s9 => (fX9_quota_L63 a1 a2 (fun x136 x137 x138 s139 => (if ¬ a3 = 0 then (some ((x137).toInt32, s139)) else (some (x136, s139)))) FU (0 : Int32) (-1 : Int64) (0 : Int32) s9)) else (some ((-1000000011 : Int32), σ)))) else (some ((-1000000001 : Int32), σ)))) else (some ((-1000000001 : Int32), σ)))) else (some ((-1000000001 : Int32), σ))))
theorem c_X9_quota {l0 : Launch} {G : Geo} (a1 : Int32) (a2 : Int32) (a3 : Int32) (σ : Store) (a : (Int32 × Store)) (hf : fX9_quota  a1 a2 a3 σ = some a) : sCon l0 wMod G yX9_quota cX9_quota 12 (some .int) (rmL 8 221) [.ref (gad G 0), .int a1, .int a2, .int a3] σ (some (.int a.1)) a.2 := by
  refine sCon.of (by decide) ⟨rfl, rfl⟩ (Nat.le_of_ble_eq_true rfl) RX9 rfl _ hf (fun K hK => ?_)
  show sV wMod G K a σ 0 [(0, .ref (gad G 0)), (1, .int a1), (2, .int a2), (3, .int a3)] [] _
  unfold fX9_quota
  refine r_iload_n (q := 1) hK dX9_quota_0 rfl rfl 1 rfl ?_
  refine callS_b (q := 4) (As := [.int a1]) (rest := []) (f := (fX9_isSheet a1 σ)) hK dX9_quota_1 rfl (fun b hb => c_X9_isSheet a1 σ b hb) ms_X9_isSheet rfl rfl (Nat.le_of_ble_eq_true rfl) tw_1117 mw_X9_isSheet (rmOk (Nat.le_of_ble_eq_true rfl) (Nat.le_of_ble_eq_true rfl)) (fun r1 => ?_)
  refine r_ifb_eq (t := 24) (q := 7) hK dX9_quota_4 rfl rfl (fun c2 => ?_) (fun c2 => ?_)
  · refine r_aload_n (q := 8) hK dX9_quota_7 rfl rfl 0 rfl ?_
    refine r_iload_n (q := 9) hK dX9_quota_8 rfl rfl 2 rfl ?_
    refine callV_b (q := 12) (j := 0) (As := [.int a2]) (rest := []) (f := (fX9_isWord a2 σ)) hK dX9_quota_9 rfl (fun b hb => c_X9_isWord a2 σ b hb) ⟨9, _, _, _, by decide, rfl, cM, rfl⟩ mv_X9_isWord rfl rfl (Nat.le_of_ble_eq_true rfl) tw_916 mw_X9_isWord (rmOk (Nat.le_of_ble_eq_true rfl) (Nat.le_of_ble_eq_true rfl)) (fun r3 => ?_)
    refine r_ifb_eq (t := 24) (q := 15) hK dX9_quota_12 rfl rfl (fun c4 => ?_) (fun c4 => ?_)
    · refine r_iload_n (q := 16) hK dX9_quota_15 rfl rfl 3 rfl ?_
      refine r_iconst (q := 17) (v := 0) hK dX9_quota_16 rfl rfl ?_
      refine r_iconst (q := 18) (v := 1) hK dX9_quota_17 rfl rfl ?_
      refine callS_b (q := 21) (As := [.int a3, .int (0 : Int32), .int (1 : Int32)]) (rest := []) (f := (fX9_within a3 (0 : Int32) (1 : Int32) σ)) hK dX9_quota_18 rfl (fun b hb => c_X9_within a3 (0 : Int32) (1 : Int32) σ b hb) ms_X9_within rfl rfl (Nat.le_of_ble_eq_true rfl) tw_900 mw_X9_within (rmOk (Nat.le_of_ble_eq_true rfl) (Nat.le_of_ble_eq_true rfl)) (fun r5 => ?_)
      refine r_ifb_ne (t := 27) (q := 24) hK dX9_quota_21 rfl rfl (fun c6 => ?_) (fun c6 => ?_)
      · refine r_aload_n (q := 28) hK dX9_quota_27 rfl rfl 0 rfl ?_
        refine gf_9_21 (q := 31) hK dX9_quota_28 rfl tw_825 ?_
        refine r_iload_n (q := 32) hK dX9_quota_31 rfl rfl 1 rfl ?_
        refine r_iald (q := 33) hK dX9_quota_32 rfl aM11 (fun h7 => ?_)
        refine r_if_ge (t := 39) (q := 36) hK dX9_quota_33 rfl rfl (fun c8 => ?_) (fun c8 => ?_)
        · refine r_aload_n (q := 40) hK dX9_quota_39 rfl rfl 0 rfl ?_
          refine gf_9_0 (q := 43) hK dX9_quota_40 rfl tw_804 ?_
          refine r_aload_n (q := 44) hK dX9_quota_43 rfl rfl 0 rfl ?_
          refine gf_9_3 (q := 47) hK dX9_quota_44 rfl tw_807 ?_
          refine r_bipush (q := 49) (v := 80) hK dX9_quota_47 rfl rfl ?_
          refine callS_vS (q := 52) (As := [.ref (gad G 1), .ref (gad G 3), .int (80 : Int32)]) (rest := []) (f := (fX9_copyRow 1 1480 3 80 (80 : Int32) σ)) hK dX9_quota_49 rfl (fun b hb => c_X9_copyRow 1 1480 aM1 3 80 aM3 (80 : Int32) σ b hb) ms_X9_copyRow rfl rfl (Nat.le_of_ble_eq_true rfl) tw_1098 mw_X9_copyRow (rmOk (Nat.le_of_ble_eq_true rfl) (Nat.le_of_ble_eq_true rfl)) (fun s9 => ?_)
          refine r_iconst (q := 53) (v := 0) hK dX9_quota_52 rfl rfl ?_
          refine r_istore (q := 55) (loc' := [(4, .int (0 : Int32)), (0, .ref (gad G 0)), (1, .int a1), (2, .int a2), (3, .int a3)]) hK dX9_quota_53 rfl (by decide) rfl ?_
          refine r_ldc2 (q := 58) hK dX9_quota_55 rfl tw_1121 ?_
          refine r_lstore (q := 60) (loc' := [(5, .long (-1 : Int64)), (4, .int (0 : Int32)), (0, .ref (gad G 0)), (1, .int a1), (2, .int a2), (3, .int a3)]) hK dX9_quota_58 rfl (by decide) rfl ?_
          refine r_iconst (q := 61) (v := 0) hK dX9_quota_60 rfl rfl ?_
          refine r_istore (q := 63) (loc' := [(7, .int (0 : Int32)), (5, .long (-1 : Int64)), (4, .int (0 : Int32)), (0, .ref (gad G 0)), (1, .int a1), (2, .int a2), (3, .int a3)]) hK dX9_quota_61 rfl (by decide) rfl ?_
          refine sV.sub [3, 4, 5, 6, 2, 1, 0] (by rfl) (vX9_quota_L63 s9 a1 a2 a3 hK _ (fun x136 x137 x138 s139 => ?_) FU (0 : Int32) (-1 : Int64) (0 : Int32) s9)
          refine r_iload_n (q := 195) hK dX9_quota_194 rfl rfl 3 rfl ?_
          refine r_if_ne (t := 203) (q := 198) hK dX9_quota_195 rfl rfl (fun c140 => ?_) (fun c140 => ?_)
          · refine r_lload (q := 205) hK dX9_quota_203 rfl 5 rfl ?_
            refine r_l2i (q := 206) hK dX9_quota_205 rfl ?_
            exact e_iS hK dX9_quota_206
          · refine r_iload (q := 200) hK dX9_quota_198 rfl 4 rfl ?_
            refine r_goto (q := 206) hK dX9_quota_200 rfl ?_
            exact e_iS hK dX9_quota_206
        · refine r_ldc (q := 38) hK dX9_quota_36 rfl tw_1120 ?_
          exact e_iS hK dX9_quota_38
      · refine r_ldc (q := 26) hK dX9_quota_24 rfl tw_906 ?_
        exact e_iS hK dX9_quota_26
    · refine r_ldc (q := 26) hK dX9_quota_24 rfl tw_906 ?_
      exact e_iS hK dX9_quota_26
  · refine r_ldc (q := 26) hK dX9_quota_24 rfl tw_906 ?_
    exact e_iS hK dX9_quota_26
def fX9_bill  (a1 : Int32) (σ : Store) : Option (Int32 × Store) := (sbd (fX9_isTraveller a1 σ) fun r1 => (if r1 = true then (sbd (fX9_counting (1 : Int32) σ) fun r3 => (sbd (fX9_travellerIs a1 (1 : Int32) σ) fun r4 => (six 3 (0 : Int32) (slt (sup σ 9 (snx (0 : Int32)) r4) fun s6 => (sbd (fX9_travellerIs a1 (0 : Int32) s6) fun r7 => (sbd (fX9_bits r7 s6) fun r8 => (six 3 (1 : Int32) (slt (sup s6 9 (snx (1 : Int32)) r8) fun s10 => (if 0 ≤ r3 then (sbd2 (fX9_worked r3 s10) fun r12 s13 => (some (r12, s13))) else (six 3 (0 : Int32) (some ((s10 9 (snx (0 : Int32))), s10)))))))))))) else (some ((-1000000001 : Int32), σ))))
theorem c_X9_bill {l0 : Launch} {G : Geo} (a1 : Int32) (σ : Store) (a : (Int32 × Store)) (hf : fX9_bill  a1 σ = some a) : sCon l0 wMod G yX9_bill cX9_bill 3 (some .int) (rmL 3 107) [.ref (gad G 0), .int a1] σ (some (.int a.1)) a.2 := by
  refine sCon.of (by decide) ⟨rfl, rfl⟩ (Nat.le_of_ble_eq_true rfl) RX9 rfl _ hf (fun K hK => ?_)
  show sV wMod G K a σ 0 [(0, .ref (gad G 0)), (1, .int a1)] [] _
  unfold fX9_bill
  refine r_aload_n (q := 1) hK dX9_bill_0 rfl rfl 0 rfl ?_
  refine r_iload_n (q := 2) hK dX9_bill_1 rfl rfl 1 rfl ?_
  refine callV_b (q := 5) (j := 0) (As := [.int a1]) (rest := []) (f := (fX9_isTraveller a1 σ)) hK dX9_bill_2 rfl (fun b hb => c_X9_isTraveller a1 σ b hb) ⟨9, _, _, _, by decide, rfl, cM, rfl⟩ mv_X9_isTraveller rfl rfl (Nat.le_of_ble_eq_true rfl) tw_982 mw_X9_isTraveller (rmOk (Nat.le_of_ble_eq_true rfl) (Nat.le_of_ble_eq_true rfl)) (fun r1 => ?_)
  refine r_ifb_ne (t := 11) (q := 8) hK dX9_bill_5 rfl rfl (fun c2 => ?_) (fun c2 => ?_)
  · refine r_aload_n (q := 12) hK dX9_bill_11 rfl rfl 0 rfl ?_
    refine r_iconst (q := 13) (v := 1) hK dX9_bill_12 rfl rfl ?_
    refine callV_i (q := 16) (j := 0) (As := [.int (1 : Int32)]) (rest := []) (f := (fX9_counting (1 : Int32) σ)) hK dX9_bill_13 rfl (fun b hb => c_X9_counting (1 : Int32) σ b hb) ⟨9, _, _, _, by decide, rfl, cM, rfl⟩ mv_X9_counting rfl rfl (Nat.le_of_ble_eq_true rfl) tw_928 mw_X9_counting (rmOk (Nat.le_of_ble_eq_true rfl) (Nat.le_of_ble_eq_true rfl)) (fun r3 => ?_)
    refine r_istore_n (q := 17) (loc' := [(2, .int r3), (0, .ref (gad G 0)), (1, .int a1)]) hK dX9_bill_16 rfl rfl (by decide) rfl ?_
    refine r_aload_n (q := 18) hK dX9_bill_17 rfl rfl 1 rfl ?_
    refine gf_9_19 (q := 21) hK dX9_bill_18 rfl tw_823 ?_
    refine r_iconst (q := 22) (v := 0) hK dX9_bill_21 rfl rfl ?_
    refine r_aload_n (q := 23) hK dX9_bill_22 rfl rfl 1 rfl ?_
    refine r_iload_n (q := 24) hK dX9_bill_23 rfl rfl 2 rfl ?_
    refine r_iconst (q := 25) (v := 1) hK dX9_bill_24 rfl rfl ?_
    refine callV_i (q := 28) (j := 0) (As := [.int a1, .int (1 : Int32)]) (rest := [.int (0 : Int32), .ref (gad G 9)]) (f := (fX9_travellerIs a1 (1 : Int32) σ)) hK dX9_bill_25 rfl (fun b hb => c_X9_travellerIs a1 (1 : Int32) σ b hb) ⟨9, _, _, _, by decide, rfl, cM, rfl⟩ mv_X9_travellerIs rfl rfl (Nat.le_of_ble_eq_true rfl) tw_986 mw_X9_travellerIs (rmOk (Nat.le_of_ble_eq_true rfl) (Nat.le_of_ble_eq_true rfl)) (fun r4 => ?_)
    refine r_iast (q := 29) hK dX9_bill_28 rfl aM9 (fun h5 => ?_)
    refine sV.ltS (fun s6 => ?_)
    refine r_aload_n (q := 30) hK dX9_bill_29 rfl rfl 1 rfl ?_
    refine gf_9_19 (q := 33) hK dX9_bill_30 rfl tw_823 ?_
    refine r_iconst (q := 34) (v := 1) hK dX9_bill_33 rfl rfl ?_
    refine r_aload_n (q := 35) hK dX9_bill_34 rfl rfl 1 rfl ?_
    refine r_iload_n (q := 36) hK dX9_bill_35 rfl rfl 2 rfl ?_
    refine r_iconst (q := 37) (v := 0) hK dX9_bill_36 rfl rfl ?_
    refine callV_i (q := 40) (j := 0) (As := [.int a1, .int (0 : Int32)]) (rest := [.int (1 : Int32), .ref (gad G 9)]) (f := (fX9_travellerIs a1 (0 : Int32) s6)) hK dX9_bill_37 rfl (fun b hb => c_X9_travellerIs a1 (0 : Int32) s6 b hb) ⟨9, _, _, _, by decide, rfl, cM, rfl⟩ mv_X9_travellerIs rfl rfl (Nat.le_of_ble_eq_true rfl) tw_986 mw_X9_travellerIs (rmOk (Nat.le_of_ble_eq_true rfl) (Nat.le_of_ble_eq_true rfl)) (fun r7 => ?_)
    refine callS_i (q := 43) (As := [.int r7]) (rest := [.int (1 : Int32), .ref (gad G 9)]) (f := (fX9_bits r7 s6)) hK dX9_bill_40 rfl (fun b hb => c_X9_bits r7 s6 b hb) ms_X9_bits rfl rfl (Nat.le_of_ble_eq_true rfl) tw_948 mw_X9_bits (rmOk (Nat.le_of_ble_eq_true rfl) (Nat.le_of_ble_eq_true rfl)) (fun r8 => ?_)
    refine r_iast (q := 44) hK dX9_bill_43 rfl aM9 (fun h9 => ?_)
    refine sV.ltS (fun s10 => ?_)
    refine r_iload_n (q := 45) hK dX9_bill_44 rfl rfl 0 rfl ?_
    refine r_if_ge (t := 57) (q := 48) hK dX9_bill_45 rfl rfl (fun c11 => ?_) (fun c11 => ?_)
    · refine r_aload_n (q := 58) hK dX9_bill_57 rfl rfl 1 rfl ?_
      refine r_iload_n (q := 59) hK dX9_bill_58 rfl rfl 0 rfl ?_
      refine callV_iS (q := 62) (j := 0) (As := [.int r3]) (rest := []) (f := (fX9_worked r3 s10)) hK dX9_bill_59 rfl (fun b hb => c_X9_worked r3 s10 b hb) ⟨9, _, _, _, by decide, rfl, cM, rfl⟩ mv_X9_worked rfl rfl (Nat.le_of_ble_eq_true rfl) tw_936 mw_X9_worked (rmOk (Nat.le_of_ble_eq_true rfl) (Nat.le_of_ble_eq_true rfl)) (fun r12 s13 => ?_)
      exact e_iS hK dX9_bill_62
    · refine r_aload_n (q := 49) hK dX9_bill_48 rfl rfl 1 rfl ?_
      refine gf_9_19 (q := 52) hK dX9_bill_49 rfl tw_823 ?_
      refine r_iconst (q := 53) (v := 0) hK dX9_bill_52 rfl rfl ?_
      refine r_iald (q := 54) hK dX9_bill_53 rfl aM9 (fun h14 => ?_)
      refine r_goto (q := 62) hK dX9_bill_54 rfl ?_
      exact e_iS hK dX9_bill_62
  · refine r_ldc (q := 10) hK dX9_bill_8 rfl tw_906 ?_
    exact e_iS hK dX9_bill_10
def fX9_fine   (σ : Store) : Option (Int32 × Store) := (sbd (fX9_counting (2 : Int32) σ) fun r1 => (sbd (fX9_stamps σ) fun r2 => (six 3 (0 : Int32) (slt (sup σ 9 (snx (0 : Int32)) r2) fun s4 => (six 1480 (4 : Int32) (sbd (fX9_bits (s4 1 (snx (4 : Int32))) s4) fun r6 => (six 3 (1 : Int32) (slt (sup s4 9 (snx (1 : Int32)) r6) fun s8 => (if 0 ≤ r1 then (sbd2 (fX9_worked r1 s8) fun r10 s11 => (some (r10, s11))) else (six 3 (0 : Int32) (some ((s8 9 (snx (0 : Int32))), s8))))))))))))
theorem c_X9_fine {l0 : Launch} {G : Geo}  (σ : Store) (a : (Int32 × Store)) (hf : fX9_fine   σ = some a) : sCon l0 wMod G yX9_fine cX9_fine 2 (some .int) (rmL 3 107) [.ref (gad G 0)] σ (some (.int a.1)) a.2 := by
  refine sCon.of (by decide) ⟨rfl, rfl⟩ (Nat.le_of_ble_eq_true rfl) RX9 rfl _ hf (fun K hK => ?_)
  show sV wMod G K a σ 0 [(0, .ref (gad G 0))] [] _
  unfold fX9_fine
  refine r_aload_n (q := 1) hK dX9_fine_0 rfl rfl 0 rfl ?_
  refine r_iconst (q := 2) (v := 2) hK dX9_fine_1 rfl rfl ?_
  refine callV_i (q := 5) (j := 0) (As := [.int (2 : Int32)]) (rest := []) (f := (fX9_counting (2 : Int32) σ)) hK dX9_fine_2 rfl (fun b hb => c_X9_counting (2 : Int32) σ b hb) ⟨9, _, _, _, by decide, rfl, cM, rfl⟩ mv_X9_counting rfl rfl (Nat.le_of_ble_eq_true rfl) tw_928 mw_X9_counting (rmOk (Nat.le_of_ble_eq_true rfl) (Nat.le_of_ble_eq_true rfl)) (fun r1 => ?_)
  refine r_istore_n (q := 6) (loc' := [(1, .int r1), (0, .ref (gad G 0))]) hK dX9_fine_5 rfl rfl (by decide) rfl ?_
  refine r_aload_n (q := 7) hK dX9_fine_6 rfl rfl 1 rfl ?_
  refine gf_9_19 (q := 10) hK dX9_fine_7 rfl tw_823 ?_
  refine r_iconst (q := 11) (v := 0) hK dX9_fine_10 rfl rfl ?_
  refine r_aload_n (q := 12) hK dX9_fine_11 rfl rfl 1 rfl ?_
  refine callV_i (q := 15) (j := 0) (As := []) (rest := [.int (0 : Int32), .ref (gad G 9)]) (f := (fX9_stamps σ)) hK dX9_fine_12 rfl (fun b hb => c_X9_stamps σ b hb) ⟨9, _, _, _, by decide, rfl, cM, rfl⟩ mv_X9_stamps rfl rfl (Nat.le_of_ble_eq_true rfl) tw_1046 mw_X9_stamps (rmOk (Nat.le_of_ble_eq_true rfl) (Nat.le_of_ble_eq_true rfl)) (fun r2 => ?_)
  refine r_iast (q := 16) hK dX9_fine_15 rfl aM9 (fun h3 => ?_)
  refine sV.ltS (fun s4 => ?_)
  refine r_aload_n (q := 17) hK dX9_fine_16 rfl rfl 1 rfl ?_
  refine gf_9_19 (q := 20) hK dX9_fine_17 rfl tw_823 ?_
  refine r_iconst (q := 21) (v := 1) hK dX9_fine_20 rfl rfl ?_
  refine r_aload_n (q := 22) hK dX9_fine_21 rfl rfl 1 rfl ?_
  refine gf_9_0 (q := 25) hK dX9_fine_22 rfl tw_804 ?_
  refine r_iconst (q := 26) (v := 4) hK dX9_fine_25 rfl rfl ?_
  refine r_iald (q := 27) hK dX9_fine_26 rfl aM1 (fun h5 => ?_)
  refine callS_i (q := 30) (As := [.int (s4 1 (snx (4 : Int32)))]) (rest := [.int (1 : Int32), .ref (gad G 9)]) (f := (fX9_bits (s4 1 (snx (4 : Int32))) s4)) hK dX9_fine_27 rfl (fun b hb => c_X9_bits (s4 1 (snx (4 : Int32))) s4 b hb) ms_X9_bits rfl rfl (Nat.le_of_ble_eq_true rfl) tw_948 mw_X9_bits (rmOk (Nat.le_of_ble_eq_true rfl) (Nat.le_of_ble_eq_true rfl)) (fun r6 => ?_)
  refine r_iast (q := 31) hK dX9_fine_30 rfl aM9 (fun h7 => ?_)
  refine sV.ltS (fun s8 => ?_)
  refine r_iload_n (q := 32) hK dX9_fine_31 rfl rfl 0 rfl ?_
  refine r_if_ge (t := 44) (q := 35) hK dX9_fine_32 rfl rfl (fun c9 => ?_) (fun c9 => ?_)
  · refine r_aload_n (q := 45) hK dX9_fine_44 rfl rfl 1 rfl ?_
    refine r_iload_n (q := 46) hK dX9_fine_45 rfl rfl 0 rfl ?_
    refine callV_iS (q := 49) (j := 0) (As := [.int r1]) (rest := []) (f := (fX9_worked r1 s8)) hK dX9_fine_46 rfl (fun b hb => c_X9_worked r1 s8 b hb) ⟨9, _, _, _, by decide, rfl, cM, rfl⟩ mv_X9_worked rfl rfl (Nat.le_of_ble_eq_true rfl) tw_936 mw_X9_worked (rmOk (Nat.le_of_ble_eq_true rfl) (Nat.le_of_ble_eq_true rfl)) (fun r10 s11 => ?_)
    exact e_iS hK dX9_fine_49
  · refine r_aload_n (q := 36) hK dX9_fine_35 rfl rfl 1 rfl ?_
    refine gf_9_19 (q := 39) hK dX9_fine_36 rfl tw_823 ?_
    refine r_iconst (q := 40) (v := 0) hK dX9_fine_39 rfl rfl ?_
    refine r_iald (q := 41) hK dX9_fine_40 rfl aM9 (fun h12 => ?_)
    refine r_goto (q := 49) hK dX9_fine_41 rfl ?_
    exact e_iS hK dX9_fine_49
def fX9_lays_L3  (v1 : Int32) : Nat → Int32 → Store → Option Store
  | 0, _, _ => none
  | n + 1, i2, τ => (if i2 < 0 then (some τ) else (six 96 (τ 0 6) (slt (sup τ 5 (snx (τ 0 6)) ((v1 >>> (i2 &&& 31)) &&& (255 : Int32))) fun s11 => (slt (sup s11 0 6 ((s11 0 6) + (1 : Int32))) fun s12 => (fX9_lays_L3 v1 n (i2 + (-8 : Int32)) s12)))))
theorem vX9_lays_L3 {G : Geo} {K : KT} {l0 : Launch} (σ : Store) {a : Store} (v1 : Int32) (hK : sOk wMod G K l0 RX9 cX9_lays (rmL 1 60) 3 (none) none a) : ∀ (n : Nat) (i2 : Int32) (τ : Store), sV wMod G K a τ 3 [(0, .ref (gad G 0)), (1, .int v1), (2, .int i2)] [] (fX9_lays_L3 v1 n i2 τ) := by
  intro n
  induction n with
  | zero =>
    intro i2 τ
    exact sV.no
  | succ n ih =>
    intro i2 τ
    rw [fX9_lays_L3]
    refine r_iload_n (q := 4) hK dX9_lays_3 rfl rfl 2 rfl ?_
    refine r_if_lt (t := 39) (q := 7) hK dX9_lays_4 rfl rfl (fun c9 => ?_) (fun c9 => ?_)
    · exact e_vS hK dX9_lays_39
    · refine r_aload_n (q := 8) hK dX9_lays_7 rfl rfl 0 rfl ?_
      refine gf_9_5 (q := 11) hK dX9_lays_8 rfl tw_809 ?_
      refine r_aload_n (q := 12) hK dX9_lays_11 rfl rfl 0 rfl ?_
      refine gf_9_6 (q := 15) hK dX9_lays_12 rfl tw_810 ?_
      refine r_iload_n (q := 16) hK dX9_lays_15 rfl rfl 1 rfl ?_
      refine r_iload_n (q := 17) hK dX9_lays_16 rfl rfl 2 rfl ?_
      refine r_ishr (q := 18) hK dX9_lays_17 rfl ?_
      refine r_sipush (q := 21) (v := 255) hK dX9_lays_18 rfl rfl ?_
      refine r_iand (q := 22) hK dX9_lays_21 rfl ?_
      refine r_iast (q := 23) hK dX9_lays_22 rfl aM5 (fun h10 => ?_)
      refine sV.ltS (fun s11 => ?_)
      refine r_aload_n (q := 24) hK dX9_lays_23 rfl rfl 0 rfl ?_
      refine r_dup (q := 25) hK dX9_lays_24 rfl rfl ?_
      refine gf_9_6 (q := 28) hK dX9_lays_25 rfl tw_810 ?_
      refine r_iconst (q := 29) (v := 1) hK dX9_lays_28 rfl rfl ?_
      refine r_iadd (q := 30) hK dX9_lays_29 rfl ?_
      refine pf_9_6 (q := 33) hK dX9_lays_30 rfl tw_810 ?_
      refine sV.ltS (fun s12 => ?_)
      refine r_iinc (q := 36) (v := (i2 + (-8 : Int32))) (loc' := [(2, .int (i2 + (-8 : Int32))), (0, .ref (gad G 0)), (1, .int v1)]) hK dX9_lays_33 rfl 2 rfl rfl (by decide) rfl ?_
      refine r_goto (q := 3) hK dX9_lays_36 rfl ?_
      exact sV.sub [1, 2, 0] (by rfl) (ih (i2 + (-8 : Int32)) s12)
def fX9_lays  (a1 : Int32) (σ : Store) : Option Store := (fX9_lays_L3 a1 FU (24 : Int32) σ)
theorem c_X9_lays {l0 : Launch} {G : Geo} (a1 : Int32) (σ : Store) (a : Store) (hf : fX9_lays  a1 σ = some a) : sCon l0 wMod G yX9_lays cX9_lays 3 (none) (rmL 1 60) [.ref (gad G 0), .int a1] σ none a := by
  refine sCon.of (by decide) ⟨rfl, rfl⟩ (Nat.le_of_ble_eq_true rfl) RX9 rfl _ hf (fun K hK => ?_)
  show sV wMod G K a σ 0 [(0, .ref (gad G 0)), (1, .int a1)] [] _
  unfold fX9_lays
  refine r_bipush (q := 2) (v := 24) hK dX9_lays_0 rfl rfl ?_
  refine r_istore_n (q := 3) (loc' := [(2, .int (24 : Int32)), (0, .ref (gad G 0)), (1, .int a1)]) hK dX9_lays_2 rfl rfl (by decide) rfl ?_
  exact sV.sub [1, 2, 0] (by rfl) (vX9_lays_L3 σ a1 hK FU (24 : Int32) σ)
def fX9_feed  (a1 : Int32) (a2 : Int32) (a3 : Int32) (σ : Store) : Option (Int32 × Store) := (if ((σ 0 6) + (12 : Int32)) ≤ (96 : Int32) then (sbd (fX9_lays a1 σ) fun s2 => (sbd (fX9_lays a2 s2) fun s3 => (sbd (fX9_lays a3 s3) fun s4 => (some ((s4 0 6), s4))))) else (some ((-1000000003 : Int32), σ)))
theorem c_X9_feed {l0 : Launch} {G : Geo} (a1 : Int32) (a2 : Int32) (a3 : Int32) (σ : Store) (a : (Int32 × Store)) (hf : fX9_feed  a1 a2 a3 σ = some a) : sCon l0 wMod G yX9_feed cX9_feed 4 (some .int) (rmL 2 82) [.ref (gad G 0), .int a1, .int a2, .int a3] σ (some (.int a.1)) a.2 := by
  refine sCon.of (by decide) ⟨rfl, rfl⟩ (Nat.le_of_ble_eq_true rfl) RX9 rfl _ hf (fun K hK => ?_)
  show sV wMod G K a σ 0 [(0, .ref (gad G 0)), (1, .int a1), (2, .int a2), (3, .int a3)] [] _
  unfold fX9_feed
  refine r_aload_n (q := 1) hK dX9_feed_0 rfl rfl 0 rfl ?_
  refine gf_9_6 (q := 4) hK dX9_feed_1 rfl tw_810 ?_
  refine r_bipush (q := 6) (v := 12) hK dX9_feed_4 rfl rfl ?_
  refine r_iadd (q := 7) hK dX9_feed_6 rfl ?_
  refine r_bipush (q := 9) (v := 96) hK dX9_feed_7 rfl rfl ?_
  refine r_icmp_le (t := 15) (q := 12) hK dX9_feed_9 rfl rfl (fun c1 => ?_) (fun c1 => ?_)
  · refine r_aload_n (q := 16) hK dX9_feed_15 rfl rfl 0 rfl ?_
    refine r_iload_n (q := 17) hK dX9_feed_16 rfl rfl 1 rfl ?_
    refine callV_vS (q := 20) (j := 0) (As := [.int a1]) (rest := []) (f := (fX9_lays a1 σ)) hK dX9_feed_17 rfl (fun b hb => c_X9_lays a1 σ b hb) ⟨9, _, _, _, by decide, rfl, cM, rfl⟩ mv_X9_lays rfl rfl (Nat.le_of_ble_eq_true rfl) tw_1135 mw_X9_lays (rmOk (Nat.le_of_ble_eq_true rfl) (Nat.le_of_ble_eq_true rfl)) (fun s2 => ?_)
    refine r_aload_n (q := 21) hK dX9_feed_20 rfl rfl 0 rfl ?_
    refine r_iload_n (q := 22) hK dX9_feed_21 rfl rfl 2 rfl ?_
    refine callV_vS (q := 25) (j := 0) (As := [.int a2]) (rest := []) (f := (fX9_lays a2 s2)) hK dX9_feed_22 rfl (fun b hb => c_X9_lays a2 s2 b hb) ⟨9, _, _, _, by decide, rfl, cM, rfl⟩ mv_X9_lays rfl rfl (Nat.le_of_ble_eq_true rfl) tw_1135 mw_X9_lays (rmOk (Nat.le_of_ble_eq_true rfl) (Nat.le_of_ble_eq_true rfl)) (fun s3 => ?_)
    refine r_aload_n (q := 26) hK dX9_feed_25 rfl rfl 0 rfl ?_
    refine r_iload_n (q := 27) hK dX9_feed_26 rfl rfl 3 rfl ?_
    refine callV_vS (q := 30) (j := 0) (As := [.int a3]) (rest := []) (f := (fX9_lays a3 s3)) hK dX9_feed_27 rfl (fun b hb => c_X9_lays a3 s3 b hb) ⟨9, _, _, _, by decide, rfl, cM, rfl⟩ mv_X9_lays rfl rfl (Nat.le_of_ble_eq_true rfl) tw_1135 mw_X9_lays (rmOk (Nat.le_of_ble_eq_true rfl) (Nat.le_of_ble_eq_true rfl)) (fun s4 => ?_)
    refine r_aload_n (q := 31) hK dX9_feed_30 rfl rfl 0 rfl ?_
    refine gf_9_6 (q := 34) hK dX9_feed_31 rfl tw_810 ?_
    exact e_iS hK dX9_feed_34
  · refine r_ldc (q := 14) hK dX9_feed_12 rfl tw_907 ?_
    exact e_iS hK dX9_feed_14
def fX9_trim  (a1 : Int32) (σ : Store) : Option (Int32 × Store) := (sbd (fX9_within a1 (0 : Int32) (σ 0 6) σ) fun r1 => (if r1 = true then (slt (sup σ 0 6 a1) fun s3 => (some (a1, s3))) else (some ((-1000000001 : Int32), σ))))
theorem c_X9_trim {l0 : Launch} {G : Geo} (a1 : Int32) (σ : Store) (a : (Int32 × Store)) (hf : fX9_trim  a1 σ = some a) : sCon l0 wMod G yX9_trim cX9_trim 2 (some .int) (rmL 2 82) [.ref (gad G 0), .int a1] σ (some (.int a.1)) a.2 := by
  refine sCon.of (by decide) ⟨rfl, rfl⟩ (Nat.le_of_ble_eq_true rfl) RX9 rfl _ hf (fun K hK => ?_)
  show sV wMod G K a σ 0 [(0, .ref (gad G 0)), (1, .int a1)] [] _
  unfold fX9_trim
  refine r_iload_n (q := 1) hK dX9_trim_0 rfl rfl 1 rfl ?_
  refine r_iconst (q := 2) (v := 0) hK dX9_trim_1 rfl rfl ?_
  refine r_aload_n (q := 3) hK dX9_trim_2 rfl rfl 0 rfl ?_
  refine gf_9_6 (q := 6) hK dX9_trim_3 rfl tw_810 ?_
  refine callS_b (q := 9) (As := [.int a1, .int (0 : Int32), .int (σ 0 6)]) (rest := []) (f := (fX9_within a1 (0 : Int32) (σ 0 6) σ)) hK dX9_trim_6 rfl (fun b hb => c_X9_within a1 (0 : Int32) (σ 0 6) σ b hb) ms_X9_within rfl rfl (Nat.le_of_ble_eq_true rfl) tw_900 mw_X9_within (rmOk (Nat.le_of_ble_eq_true rfl) (Nat.le_of_ble_eq_true rfl)) (fun r1 => ?_)
  refine r_ifb_ne (t := 15) (q := 12) hK dX9_trim_9 rfl rfl (fun c2 => ?_) (fun c2 => ?_)
  · refine r_aload_n (q := 16) hK dX9_trim_15 rfl rfl 0 rfl ?_
    refine r_iload_n (q := 17) hK dX9_trim_16 rfl rfl 1 rfl ?_
    refine pf_9_6 (q := 20) hK dX9_trim_17 rfl tw_810 ?_
    refine sV.ltS (fun s3 => ?_)
    refine r_iload_n (q := 21) hK dX9_trim_20 rfl rfl 1 rfl ?_
    exact e_iS hK dX9_trim_21
  · refine r_ldc (q := 14) hK dX9_trim_12 rfl tw_906 ?_
    exact e_iS hK dX9_trim_14
def fX9_byteAt  (a1 : Int32) (σ : Store) : Option Int32 := (if (σ 0 6) ≤ a1 then (some (-1 : Int32)) else (six 96 a1 (some (σ 5 (snx a1)))))
theorem c_X9_byteAt {l0 : Launch} {G : Geo} (a1 : Int32) (σ : Store) (a : Int32) (hf : fX9_byteAt  a1 σ = some a) : sCon l0 wMod G yX9_byteAt cX9_byteAt 2 (some .int) (rmL 1 60) [.ref (gad G 0), .int a1] σ (some (.int a)) σ := by
  refine sCon.of (by decide) ⟨rfl, rfl⟩ (Nat.le_of_ble_eq_true rfl) RX9 rfl _ hf (fun K hK => ?_)
  show sV wMod G K a σ 0 [(0, .ref (gad G 0)), (1, .int a1)] [] _
  unfold fX9_byteAt
  refine r_iload_n (q := 1) hK dX9_byteAt_0 rfl rfl 1 rfl ?_
  refine r_aload_n (q := 2) hK dX9_byteAt_1 rfl rfl 0 rfl ?_
  refine gf_9_6 (q := 5) hK dX9_byteAt_2 rfl tw_810 ?_
  refine r_icmp_ge (t := 17) (q := 8) hK dX9_byteAt_5 rfl rfl (fun c1 => ?_) (fun c1 => ?_)
  · refine r_iconst (q := 18) (v := -1) hK dX9_byteAt_17 rfl rfl ?_
    exact e_i hK dX9_byteAt_18
  · refine r_aload_n (q := 9) hK dX9_byteAt_8 rfl rfl 0 rfl ?_
    refine gf_9_5 (q := 12) hK dX9_byteAt_9 rfl tw_809 ?_
    refine r_iload_n (q := 13) hK dX9_byteAt_12 rfl rfl 1 rfl ?_
    refine r_iald (q := 14) hK dX9_byteAt_13 rfl aM5 (fun h2 => ?_)
    refine r_goto (q := 18) hK dX9_byteAt_14 rfl ?_
    exact e_i hK dX9_byteAt_18
def fX9_sortOf  (a0 : Int32) (σ : Store) : Option Int32 := (if 0 ≤ a0 then (sbd (fX9_within a0 (97 : Int32) (122 : Int32) σ) fun r2 => (if r2 = true then (some (1 : Int32)) else (sbd (fX9_within a0 (48 : Int32) (57 : Int32) σ) fun r4 => (if r4 = true then (some (2 : Int32)) else (some (3 : Int32)))))) else (some (0 : Int32)))
theorem c_X9_sortOf {l0 : Launch} {G : Geo} (a0 : Int32) (σ : Store) (a : Int32) (hf : fX9_sortOf  a0 σ = some a) : sCon l0 wMod G yX9_sortOf cX9_sortOf 1 (some .int) (rmL 2 82) [.int a0] σ (some (.int a)) σ := by
  refine sCon.of (by decide) ⟨rfl, rfl⟩ (Nat.le_of_ble_eq_true rfl) RX9 rfl _ hf (fun K hK => ?_)
  show sV wMod G K a σ 0 [(0, .int a0)] [] _
  unfold fX9_sortOf
  refine r_iload_n (q := 1) hK dX9_sortOf_0 rfl rfl 0 rfl ?_
  refine r_if_ge (t := 8) (q := 4) hK dX9_sortOf_1 rfl rfl (fun c1 => ?_) (fun c1 => ?_)
  · refine r_iload_n (q := 9) hK dX9_sortOf_8 rfl rfl 0 rfl ?_
    refine r_bipush (q := 11) (v := 97) hK dX9_sortOf_9 rfl rfl ?_
    refine r_bipush (q := 13) (v := 122) hK dX9_sortOf_11 rfl rfl ?_
    refine callS_b (q := 16) (As := [.int a0, .int (97 : Int32), .int (122 : Int32)]) (rest := []) (f := (fX9_within a0 (97 : Int32) (122 : Int32) σ)) hK dX9_sortOf_13 rfl (fun b hb => c_X9_within a0 (97 : Int32) (122 : Int32) σ b hb) ms_X9_within rfl rfl (Nat.le_of_ble_eq_true rfl) tw_900 mw_X9_within (rmOk (Nat.le_of_ble_eq_true rfl) (Nat.le_of_ble_eq_true rfl)) (fun r2 => ?_)
    refine r_ifb_eq (t := 23) (q := 19) hK dX9_sortOf_16 rfl rfl (fun c3 => ?_) (fun c3 => ?_)
    · refine r_iconst (q := 20) (v := 1) hK dX9_sortOf_19 rfl rfl ?_
      refine r_goto (q := 39) hK dX9_sortOf_20 rfl ?_
      exact e_i hK dX9_sortOf_39
    · refine r_iload_n (q := 24) hK dX9_sortOf_23 rfl rfl 0 rfl ?_
      refine r_bipush (q := 26) (v := 48) hK dX9_sortOf_24 rfl rfl ?_
      refine r_bipush (q := 28) (v := 57) hK dX9_sortOf_26 rfl rfl ?_
      refine callS_b (q := 31) (As := [.int a0, .int (48 : Int32), .int (57 : Int32)]) (rest := []) (f := (fX9_within a0 (48 : Int32) (57 : Int32) σ)) hK dX9_sortOf_28 rfl (fun b hb => c_X9_within a0 (48 : Int32) (57 : Int32) σ b hb) ms_X9_within rfl rfl (Nat.le_of_ble_eq_true rfl) tw_900 mw_X9_within (rmOk (Nat.le_of_ble_eq_true rfl) (Nat.le_of_ble_eq_true rfl)) (fun r4 => ?_)
      refine r_ifb_eq (t := 38) (q := 34) hK dX9_sortOf_31 rfl rfl (fun c5 => ?_) (fun c5 => ?_)
      · refine r_iconst (q := 35) (v := 2) hK dX9_sortOf_34 rfl rfl ?_
        refine r_goto (q := 39) hK dX9_sortOf_35 rfl ?_
        exact e_i hK dX9_sortOf_39
      · refine r_iconst (q := 39) (v := 3) hK dX9_sortOf_38 rfl rfl ?_
        exact e_i hK dX9_sortOf_39
  · refine r_iconst (q := 5) (v := 0) hK dX9_sortOf_4 rfl rfl ?_
    refine r_goto (q := 39) hK dX9_sortOf_5 rfl ?_
    exact e_i hK dX9_sortOf_39
def fX9_isRow  (a0 : Int32) (σ : Store) : Option Bool := (if a0 = (1 : Int32) then (some true) else (if ¬ a0 = (2 : Int32) then (some false) else (some true)))
theorem c_X9_isRow {l0 : Launch} {G : Geo} (a0 : Int32) (σ : Store) (a : Bool) (hf : fX9_isRow  a0 σ = some a) : sCon l0 wMod G yX9_isRow cX9_isRow 1 (some .boolean) (rmL 1 60) [.int a0] σ (some (.int (b2i a))) σ := by
  refine sCon.of (by decide) ⟨rfl, rfl⟩ (Nat.le_of_ble_eq_true rfl) RX9 rfl _ hf (fun K hK => ?_)
  show sV wMod G K a σ 0 [(0, .int a0)] [] _
  unfold fX9_isRow
  refine r_iload_n (q := 1) hK dX9_isRow_0 rfl rfl 0 rfl ?_
  refine r_iconst (q := 2) (v := 1) hK dX9_isRow_1 rfl rfl ?_
  refine r_icmp_eq (t := 10) (q := 5) hK dX9_isRow_2 rfl rfl (fun c1 => ?_) (fun c1 => ?_)
  · refine r_iconst (q := 11) (v := 1) hK dX9_isRow_10 rfl rfl ?_
    refine r_goto (q := 15) hK dX9_isRow_11 rfl ?_
    exact e_b (b := true) hK dX9_isRow_15
  · refine r_iload_n (q := 6) hK dX9_isRow_5 rfl rfl 0 rfl ?_
    refine r_iconst (q := 7) (v := 2) hK dX9_isRow_6 rfl rfl ?_
    refine r_icmp_ne (t := 14) (q := 10) hK dX9_isRow_7 rfl rfl (fun c2 => ?_) (fun c2 => ?_)
    · refine r_iconst (q := 15) (v := 0) hK dX9_isRow_14 rfl rfl ?_
      exact e_b (b := false) hK dX9_isRow_15
    · refine r_iconst (q := 11) (v := 1) hK dX9_isRow_10 rfl rfl ?_
      refine r_goto (q := 15) hK dX9_isRow_11 rfl ?_
      exact e_b (b := true) hK dX9_isRow_15
def fX9_next_L13   (k : Store → Option Store) : Nat → Store → Option Store
  | 0, _ => none
  | n + 1, τ => (sbd (fX9_byteAt (τ 0 9) τ) fun r9 => (if ¬ r9 = (32 : Int32) then (k τ) else (slt (sup τ 0 9 ((τ 0 9) + (1 : Int32))) fun s11 => (fX9_next_L13 k n s11))))
theorem vX9_next_L13 {G : Geo} {K : KT} {l0 : Launch} (σ : Store) {a : Store} (v1 : Int32) (hK : sOk wMod G K l0 RX9 cX9_next (rmL 3 102) 3 (none) none a) (k : Store → Option Store) (hk : ∀ (ε : Store), sV wMod G K a ε 39 [(0, .ref (gad G 0)), (1, .int v1)] [] (k ε)) : ∀ (n : Nat) (τ : Store), sV wMod G K a τ 13 [(0, .ref (gad G 0)), (1, .int v1)] [] (fX9_next_L13  k n τ) := by
  intro n
  induction n with
  | zero =>
    intro τ
    exact sV.no
  | succ n ih =>
    intro τ
    rw [fX9_next_L13]
    refine r_aload_n (q := 14) hK dX9_next_13 rfl rfl 0 rfl ?_
    refine r_aload_n (q := 15) hK dX9_next_14 rfl rfl 0 rfl ?_
    refine gf_9_9 (q := 18) hK dX9_next_15 rfl tw_813 ?_
    refine callV_i (q := 21) (j := 0) (As := [.int (τ 0 9)]) (rest := []) (f := (fX9_byteAt (τ 0 9) τ)) hK dX9_next_18 rfl (fun b hb => c_X9_byteAt (τ 0 9) τ b hb) ⟨9, _, _, _, by decide, rfl, cM, rfl⟩ mv_X9_byteAt rfl rfl (Nat.le_of_ble_eq_true rfl) tw_1155 mw_X9_byteAt (rmOk (Nat.le_of_ble_eq_true rfl) (Nat.le_of_ble_eq_true rfl)) (fun r9 => ?_)
    refine r_bipush (q := 23) (v := 32) hK dX9_next_21 rfl rfl ?_
    refine r_icmp_ne (t := 39) (q := 26) hK dX9_next_23 rfl rfl (fun c10 => ?_) (fun c10 => ?_)
    · exact sV.sub [0, 1] (by rfl) (hk τ)
    · refine r_aload_n (q := 27) hK dX9_next_26 rfl rfl 0 rfl ?_
      refine r_dup (q := 28) hK dX9_next_27 rfl rfl ?_
      refine gf_9_9 (q := 31) hK dX9_next_28 rfl tw_813 ?_
      refine r_iconst (q := 32) (v := 1) hK dX9_next_31 rfl rfl ?_
      refine r_iadd (q := 33) hK dX9_next_32 rfl ?_
      refine pf_9_9 (q := 36) hK dX9_next_33 rfl tw_813 ?_
      refine sV.ltS (fun s11 => ?_)
      refine r_goto (q := 13) hK dX9_next_36 rfl ?_
      exact sV.sub [0, 1] (by rfl) (ih s11)
def fX9_next_L102   (k : Store → Option Store) : Nat → Store → Option Store
  | 0, _ => none
  | n + 1, τ => (sbd (fX9_isRow (τ 0 11) τ) fun r33 => (if r33 = true then (sbd (fX9_byteAt (τ 0 10) τ) fun r35 => (sbd (fX9_sortOf r35 τ) fun r36 => (if ¬ r36 = (τ 0 11) then (k τ) else (slt (sup τ 0 10 ((τ 0 10) + (1 : Int32))) fun s38 => (fX9_next_L102 k n s38))))) else (k τ)))
theorem vX9_next_L102 {G : Geo} {K : KT} {l0 : Launch} (σ : Store) {a : Store} (v1 : Int32) (v2 : Bool) (hK : sOk wMod G K l0 RX9 cX9_next (rmL 3 102) 3 (none) none a) (k : Store → Option Store) (hk : ∀ (ε : Store), sV wMod G K a ε 143 [(0, .ref (gad G 0)), (1, .int v1), (2, .int (b2i v2))] [] (k ε)) : ∀ (n : Nat) (τ : Store), sV wMod G K a τ 102 [(0, .ref (gad G 0)), (1, .int v1), (2, .int (b2i v2))] [] (fX9_next_L102  k n τ) := by
  intro n
  induction n with
  | zero =>
    intro τ
    exact sV.no
  | succ n ih =>
    intro τ
    rw [fX9_next_L102]
    refine r_aload_n (q := 103) hK dX9_next_102 rfl rfl 0 rfl ?_
    refine gf_9_11 (q := 106) hK dX9_next_103 rfl tw_815 ?_
    refine callS_b (q := 109) (As := [.int (τ 0 11)]) (rest := []) (f := (fX9_isRow (τ 0 11) τ)) hK dX9_next_106 rfl (fun b hb => c_X9_isRow (τ 0 11) τ b hb) ms_X9_isRow rfl rfl (Nat.le_of_ble_eq_true rfl) tw_1159 mw_X9_isRow (rmOk (Nat.le_of_ble_eq_true rfl) (Nat.le_of_ble_eq_true rfl)) (fun r33 => ?_)
    refine r_ifb_eq (t := 143) (q := 112) hK dX9_next_109 rfl rfl (fun c34 => ?_) (fun c34 => ?_)
    · refine r_aload_n (q := 113) hK dX9_next_112 rfl rfl 0 rfl ?_
      refine r_aload_n (q := 114) hK dX9_next_113 rfl rfl 0 rfl ?_
      refine gf_9_10 (q := 117) hK dX9_next_114 rfl tw_814 ?_
      refine callV_i (q := 120) (j := 0) (As := [.int (τ 0 10)]) (rest := []) (f := (fX9_byteAt (τ 0 10) τ)) hK dX9_next_117 rfl (fun b hb => c_X9_byteAt (τ 0 10) τ b hb) ⟨9, _, _, _, by decide, rfl, cM, rfl⟩ mv_X9_byteAt rfl rfl (Nat.le_of_ble_eq_true rfl) tw_1155 mw_X9_byteAt (rmOk (Nat.le_of_ble_eq_true rfl) (Nat.le_of_ble_eq_true rfl)) (fun r35 => ?_)
      refine callS_i (q := 123) (As := [.int r35]) (rest := []) (f := (fX9_sortOf r35 τ)) hK dX9_next_120 rfl (fun b hb => c_X9_sortOf r35 τ b hb) ms_X9_sortOf rfl rfl (Nat.le_of_ble_eq_true rfl) tw_1162 mw_X9_sortOf (rmOk (Nat.le_of_ble_eq_true rfl) (Nat.le_of_ble_eq_true rfl)) (fun r36 => ?_)
      refine r_aload_n (q := 124) hK dX9_next_123 rfl rfl 0 rfl ?_
      refine gf_9_11 (q := 127) hK dX9_next_124 rfl tw_815 ?_
      refine r_icmp_ne (t := 143) (q := 130) hK dX9_next_127 rfl rfl (fun c37 => ?_) (fun c37 => ?_)
      · exact sV.sub [0, 1, 2] (by rfl) (hk τ)
      · refine r_aload_n (q := 131) hK dX9_next_130 rfl rfl 0 rfl ?_
        refine r_dup (q := 132) hK dX9_next_131 rfl rfl ?_
        refine gf_9_10 (q := 135) hK dX9_next_132 rfl tw_814 ?_
        refine r_iconst (q := 136) (v := 1) hK dX9_next_135 rfl rfl ?_
        refine r_iadd (q := 137) hK dX9_next_136 rfl ?_
        refine pf_9_10 (q := 140) hK dX9_next_137 rfl tw_814 ?_
        refine sV.ltS (fun s38 => ?_)
        refine r_goto (q := 102) hK dX9_next_140 rfl ?_
        exact sV.sub [0, 1, 2] (by rfl) (ih s38)
    · exact sV.sub [0, 1, 2] (by rfl) (hk τ)
def fX9_next   (σ : Store) : Option Store := (slt (σ 0 11) fun x1 => (slt (sup σ 0 9 (σ 0 10)) fun s2 => (fX9_next_L13  (fun s12 => (sjn (fun k62 : Bool → Option Store => (if ¬ (s12 0 9) = (s12 0 10) then (k62 false) else (sbd (fX9_isRow x1 s12) fun r49 => (if r49 = true then (k62 true) else (k62 false))))) (fun (z0_62 : Bool) => (sbd (fX9_byteAt (s12 0 9) s12) fun r16 => (sbd (fX9_sortOf r16 s12) fun r17 => (slt (sup s12 0 11 r17) fun s18 => (sjn (fun k99 : Int32 → Option Store => (if ¬ (s18 0 11) = 0 then (k99 ((s18 0 9) + (1 : Int32))) else (k99 (s18 0 9)))) (fun (z0_99 : Int32) => (slt (sup s18 0 10 z0_99) fun s20 => (fX9_next_L102  (fun s39 => (sjn (fun k166 : Int32 → Option Store => (if z0_62 = true then (sbd (fX9_isRow (s39 0 11) s39) fun r45 => (if r45 = true then (k166 (4 : Int32)) else (k166 (s39 0 11)))) else (k166 (s39 0 11)))) (fun (z0_166 : Int32) => (slt (sup s39 0 11 z0_166) fun s43 => (some s43))))) FU s20)))))))))) FU s2)))
theorem c_X9_next {l0 : Launch} {G : Geo}  (σ : Store) (a : Store) (hf : fX9_next   σ = some a) : sCon l0 wMod G yX9_next cX9_next 3 (none) (rmL 3 102) [.ref (gad G 0)] σ none a := by
  refine sCon.of (by decide) ⟨rfl, rfl⟩ (Nat.le_of_ble_eq_true rfl) RX9 rfl _ hf (fun K hK => ?_)
  show sV wMod G K a σ 0 [(0, .ref (gad G 0))] [] _
  unfold fX9_next
  refine r_aload_n (q := 1) hK dX9_next_0 rfl rfl 0 rfl ?_
  refine gf_9_11 (q := 4) hK dX9_next_1 rfl tw_815 ?_
  refine sV.ltI (fun x1 => ?_)
  refine r_istore_n (q := 5) (loc' := [(1, .int x1), (0, .ref (gad G 0))]) hK dX9_next_4 rfl rfl (by decide) rfl ?_
  refine r_aload_n (q := 6) hK dX9_next_5 rfl rfl 1 rfl ?_
  refine r_aload_n (q := 7) hK dX9_next_6 rfl rfl 1 rfl ?_
  refine gf_9_10 (q := 10) hK dX9_next_7 rfl tw_814 ?_
  refine pf_9_9 (q := 13) hK dX9_next_10 rfl tw_813 ?_
  refine sV.ltS (fun s2 => ?_)
  refine sV.sub [1, 0] (by rfl) (vX9_next_L13 s2 x1 hK _ (fun s12 => ?_) FU s2)
  refine r_aload_n (q := 40) hK dX9_next_39 rfl rfl 0 rfl ?_
  refine gf_9_9 (q := 43) hK dX9_next_40 rfl tw_813 ?_
  refine r_aload_n (q := 44) hK dX9_next_43 rfl rfl 0 rfl ?_
  refine gf_9_10 (q := 47) hK dX9_next_44 rfl tw_814 ?_
  refine sV.jn (fun k : Bool → Option Store => ∀ (z0_62 : Bool), sV wMod G K a s12 62 [(0, .ref (gad G 0)), (1, .int x1)] [.int (b2i z0_62)] (k z0_62)) (fun z0_62 => ?_) (fun k62 hk62 => ?_)
  · refine r_istore_n (q := 63) (loc' := [(2, .int (b2i z0_62)), (0, .ref (gad G 0)), (1, .int x1)]) hK dX9_next_62 rfl rfl (by decide) rfl ?_
    refine r_aload_n (q := 64) hK dX9_next_63 rfl rfl 1 rfl ?_
    refine r_aload_n (q := 65) hK dX9_next_64 rfl rfl 1 rfl ?_
    refine r_aload_n (q := 66) hK dX9_next_65 rfl rfl 1 rfl ?_
    refine gf_9_9 (q := 69) hK dX9_next_66 rfl tw_813 ?_
    refine callV_i (q := 72) (j := 0) (As := [.int (s12 0 9)]) (rest := [.ref (gad G 0)]) (f := (fX9_byteAt (s12 0 9) s12)) hK dX9_next_69 rfl (fun b hb => c_X9_byteAt (s12 0 9) s12 b hb) ⟨9, _, _, _, by decide, rfl, cM, rfl⟩ mv_X9_byteAt rfl rfl (Nat.le_of_ble_eq_true rfl) tw_1155 mw_X9_byteAt (rmOk (Nat.le_of_ble_eq_true rfl) (Nat.le_of_ble_eq_true rfl)) (fun r16 => ?_)
    refine callS_i (q := 75) (As := [.int r16]) (rest := [.ref (gad G 0)]) (f := (fX9_sortOf r16 s12)) hK dX9_next_72 rfl (fun b hb => c_X9_sortOf r16 s12 b hb) ms_X9_sortOf rfl rfl (Nat.le_of_ble_eq_true rfl) tw_1162 mw_X9_sortOf (rmOk (Nat.le_of_ble_eq_true rfl) (Nat.le_of_ble_eq_true rfl)) (fun r17 => ?_)
    refine pf_9_11 (q := 78) hK dX9_next_75 rfl tw_815 ?_
    refine sV.ltS (fun s18 => ?_)
    refine r_aload_n (q := 79) hK dX9_next_78 rfl rfl 1 rfl ?_
    refine r_aload_n (q := 80) hK dX9_next_79 rfl rfl 1 rfl ?_
    refine gf_9_11 (q := 83) hK dX9_next_80 rfl tw_815 ?_
    refine sV.jn (fun k : Int32 → Option Store => ∀ (z0_99 : Int32), sV wMod G K a s18 99 [(0, .ref (gad G 0)), (1, .int x1), (2, .int (b2i z0_62))] [.int z0_99, .ref (gad G 0)] (k z0_99)) (fun z0_99 => ?_) (fun k99 hk99 => ?_)
    · refine pf_9_10 (q := 102) hK dX9_next_99 rfl tw_814 ?_
      refine sV.ltS (fun s20 => ?_)
      refine sV.sub [0, 1, 2] (by rfl) (vX9_next_L102 s20 x1 z0_62 hK _ (fun s39 => ?_) FU s20)
      refine r_aload_n (q := 144) hK dX9_next_143 rfl rfl 0 rfl ?_
      refine r_iload_n (q := 145) hK dX9_next_144 rfl rfl 2 rfl ?_
      refine sV.jn (fun k : Int32 → Option Store => ∀ (z0_166 : Int32), sV wMod G K a s39 166 [(0, .ref (gad G 0)), (1, .int x1), (2, .int (b2i z0_62))] [.int z0_166, .ref (gad G 0)] (k z0_166)) (fun z0_166 => ?_) (fun k166 hk166 => ?_)
      · refine pf_9_11 (q := 169) hK dX9_next_166 rfl tw_815 ?_
        refine sV.ltS (fun s43 => ?_)
        exact e_vS hK dX9_next_169
      · refine r_ifb_eq (t := 162) (q := 148) hK dX9_next_145 rfl rfl (fun c44 => ?_) (fun c44 => ?_)
        · refine r_aload_n (q := 149) hK dX9_next_148 rfl rfl 0 rfl ?_
          refine gf_9_11 (q := 152) hK dX9_next_149 rfl tw_815 ?_
          refine callS_b (q := 155) (As := [.int (s39 0 11)]) (rest := [.ref (gad G 0)]) (f := (fX9_isRow (s39 0 11) s39)) hK dX9_next_152 rfl (fun b hb => c_X9_isRow (s39 0 11) s39 b hb) ms_X9_isRow rfl rfl (Nat.le_of_ble_eq_true rfl) tw_1159 mw_X9_isRow (rmOk (Nat.le_of_ble_eq_true rfl) (Nat.le_of_ble_eq_true rfl)) (fun r45 => ?_)
          refine r_ifb_eq (t := 162) (q := 158) hK dX9_next_155 rfl rfl (fun c46 => ?_) (fun c46 => ?_)
          · refine r_iconst (q := 159) (v := 4) hK dX9_next_158 rfl rfl ?_
            refine r_goto (q := 166) hK dX9_next_159 rfl ?_
            exact sV.sub [0, 1, 2] (by rfl) (hk166 (4 : Int32))
          · refine r_aload_n (q := 163) hK dX9_next_162 rfl rfl 0 rfl ?_
            refine gf_9_11 (q := 166) hK dX9_next_163 rfl tw_815 ?_
            exact sV.sub [0, 1, 2] (by rfl) (hk166 (s39 0 11))
        · refine r_aload_n (q := 163) hK dX9_next_162 rfl rfl 0 rfl ?_
          refine gf_9_11 (q := 166) hK dX9_next_163 rfl tw_815 ?_
          exact sV.sub [0, 1, 2] (by rfl) (hk166 (s39 0 11))
    · refine r_if_ne (t := 93) (q := 86) hK dX9_next_83 rfl rfl (fun c47 => ?_) (fun c47 => ?_)
      · refine r_aload_n (q := 94) hK dX9_next_93 rfl rfl 1 rfl ?_
        refine gf_9_9 (q := 97) hK dX9_next_94 rfl tw_813 ?_
        refine r_iconst (q := 98) (v := 1) hK dX9_next_97 rfl rfl ?_
        refine r_iadd (q := 99) hK dX9_next_98 rfl ?_
        exact sV.sub [1, 2, 0] (by rfl) (hk99 ((s18 0 9) + (1 : Int32)))
      · refine r_aload_n (q := 87) hK dX9_next_86 rfl rfl 1 rfl ?_
        refine gf_9_9 (q := 90) hK dX9_next_87 rfl tw_813 ?_
        refine r_goto (q := 99) hK dX9_next_90 rfl ?_
        exact sV.sub [1, 2, 0] (by rfl) (hk99 (s18 0 9))
  · refine r_icmp_ne (t := 61) (q := 50) hK dX9_next_47 rfl rfl (fun c48 => ?_) (fun c48 => ?_)
    · refine r_iconst (q := 62) (v := 0) hK dX9_next_61 rfl rfl ?_
      exact sV.sub [0, 1] (by rfl) (hk62 false)
    · refine r_iload_n (q := 51) hK dX9_next_50 rfl rfl 1 rfl ?_
      refine callS_b (q := 54) (As := [.int x1]) (rest := []) (f := (fX9_isRow x1 s12)) hK dX9_next_51 rfl (fun b hb => c_X9_isRow x1 s12 b hb) ms_X9_isRow rfl rfl (Nat.le_of_ble_eq_true rfl) tw_1159 mw_X9_isRow (rmOk (Nat.le_of_ble_eq_true rfl) (Nat.le_of_ble_eq_true rfl)) (fun r49 => ?_)
      refine r_ifb_eq (t := 61) (q := 57) hK dX9_next_54 rfl rfl (fun c50 => ?_) (fun c50 => ?_)
      · refine r_iconst (q := 58) (v := 1) hK dX9_next_57 rfl rfl ?_
        refine r_goto (q := 62) hK dX9_next_58 rfl ?_
        exact sV.sub [0, 1] (by rfl) (hk62 true)
      · refine r_iconst (q := 62) (v := 0) hK dX9_next_61 rfl rfl ?_
        exact sV.sub [0, 1] (by rfl) (hk62 false)
