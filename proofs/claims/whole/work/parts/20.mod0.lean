def fX9_within  (a0 : Int32) (a1 : Int32) (a2 : Int32) (σ : Store) : Option Bool := (if a0 < a1 then (some false) else (if a2 < a0 then (some false) else (some true)))
theorem c_X9_within {l0 : Launch} {G : Geo} (a0 : Int32) (a1 : Int32) (a2 : Int32) (σ : Store) (a : Bool) (hf : fX9_within  a0 a1 a2 σ = some a) : sCon l0 wMod G yX9_within cX9_within 3 (some .boolean) (rmL 1 60) [.int a0, .int a1, .int a2] σ (some (.int (b2i a))) σ := by
  refine sCon.of (by decide) ⟨rfl, rfl⟩ (Nat.le_of_ble_eq_true rfl) RX9 rfl _ hf (fun K hK => ?_)
  show sV wMod G K a σ 0 [(0, .int a0), (1, .int a1), (2, .int a2)] [] _
  unfold fX9_within
  refine r_iload_n (q := 1) hK dX9_within_0 rfl rfl 0 rfl ?_
  refine r_iload_n (q := 2) hK dX9_within_1 rfl rfl 1 rfl ?_
  refine r_icmp_lt (t := 14) (q := 5) hK dX9_within_2 rfl rfl (fun c1 => ?_) (fun c1 => ?_)
  · refine r_iconst (q := 15) (v := 0) hK dX9_within_14 rfl rfl ?_
    exact e_b (b := false) hK dX9_within_15
  · refine r_iload_n (q := 6) hK dX9_within_5 rfl rfl 0 rfl ?_
    refine r_iload_n (q := 7) hK dX9_within_6 rfl rfl 2 rfl ?_
    refine r_icmp_gt (t := 14) (q := 10) hK dX9_within_7 rfl rfl (fun c2 => ?_) (fun c2 => ?_)
    · refine r_iconst (q := 15) (v := 0) hK dX9_within_14 rfl rfl ?_
      exact e_b (b := false) hK dX9_within_15
    · refine r_iconst (q := 11) (v := 1) hK dX9_within_10 rfl rfl ?_
      refine r_goto (q := 15) hK dX9_within_11 rfl ?_
      exact e_b (b := true) hK dX9_within_15
def fX9_has  (a0 : Int32) (a1 : Int32) (σ : Store) : Option Bool := (if ¬ ((a0 >>> (a1 &&& 31)) &&& (1 : Int32)) = (1 : Int32) then (some false) else (some true))
theorem c_X9_has {l0 : Launch} {G : Geo} (a0 : Int32) (a1 : Int32) (σ : Store) (a : Bool) (hf : fX9_has  a0 a1 σ = some a) : sCon l0 wMod G yX9_has cX9_has 2 (some .boolean) (rmL 1 60) [.int a0, .int a1] σ (some (.int (b2i a))) σ := by
  refine sCon.of (by decide) ⟨rfl, rfl⟩ (Nat.le_of_ble_eq_true rfl) RX9 rfl _ hf (fun K hK => ?_)
  show sV wMod G K a σ 0 [(0, .int a0), (1, .int a1)] [] _
  unfold fX9_has
  refine r_iload_n (q := 1) hK dX9_has_0 rfl rfl 0 rfl ?_
  refine r_iload_n (q := 2) hK dX9_has_1 rfl rfl 1 rfl ?_
  refine r_ishr (q := 3) hK dX9_has_2 rfl ?_
  refine r_iconst (q := 4) (v := 1) hK dX9_has_3 rfl rfl ?_
  refine r_iand (q := 5) hK dX9_has_4 rfl ?_
  refine r_iconst (q := 6) (v := 1) hK dX9_has_5 rfl rfl ?_
  refine r_icmp_ne (t := 13) (q := 9) hK dX9_has_6 rfl rfl (fun c1 => ?_) (fun c1 => ?_)
  · refine r_iconst (q := 14) (v := 0) hK dX9_has_13 rfl rfl ?_
    exact e_b (b := false) hK dX9_has_14
  · refine r_iconst (q := 10) (v := 1) hK dX9_has_9 rfl rfl ?_
    refine r_goto (q := 14) hK dX9_has_10 rfl ?_
    exact e_b (b := true) hK dX9_has_14
def fX9_bits_L4   : Nat → Int32 → Int32 → Option Int32
  | 0, _, _ => none
  | n + 1, i1, i2 => (if i2 = 0 then (some i1) else (slt (i2 &&& (i2 - (1 : Int32))) fun x6 => (fX9_bits_L4 n (i1 + (1 : Int32)) x6)))
theorem vX9_bits_L4 {G : Geo} {K : KT} {l0 : Launch} (σ : Store) {a : Int32} (v0 : Int32) (hK : sOk wMod G K l0 RX9 cX9_bits (rmL 1 60) 3 (some .int) (some (.int a)) σ) : ∀ (n : Nat) (i1 : Int32) (i2 : Int32), sV wMod G K a σ 4 [(0, .int v0), (1, .int i1), (2, .int i2)] [] (fX9_bits_L4  n i1 i2) := by
  intro n
  induction n with
  | zero =>
    intro i1 i2
    exact sV.no
  | succ n ih =>
    intro i1 i2
    rw [fX9_bits_L4]
    refine r_iload_n (q := 5) hK dX9_bits_4 rfl rfl 2 rfl ?_
    refine r_if_eq (t := 20) (q := 8) hK dX9_bits_5 rfl rfl (fun c5 => ?_) (fun c5 => ?_)
    · refine r_iload_n (q := 21) hK dX9_bits_20 rfl rfl 1 rfl ?_
      exact e_i hK dX9_bits_21
    · refine r_iinc (q := 11) (v := (i1 + (1 : Int32))) (loc' := [(1, .int (i1 + (1 : Int32))), (0, .int v0), (2, .int i2)]) hK dX9_bits_8 rfl 1 rfl rfl (by decide) rfl ?_
      refine r_iload_n (q := 12) hK dX9_bits_11 rfl rfl 2 rfl ?_
      refine r_iload_n (q := 13) hK dX9_bits_12 rfl rfl 2 rfl ?_
      refine r_iconst (q := 14) (v := 1) hK dX9_bits_13 rfl rfl ?_
      refine r_isub (q := 15) hK dX9_bits_14 rfl ?_
      refine r_iand (q := 16) hK dX9_bits_15 rfl ?_
      refine sV.ltI (fun x6 => ?_)
      refine r_istore_n (q := 17) (loc' := [(2, .int x6), (1, .int (i1 + (1 : Int32))), (0, .int v0)]) hK dX9_bits_16 rfl rfl (by decide) rfl ?_
      refine r_goto (q := 4) hK dX9_bits_17 rfl ?_
      exact sV.sub [2, 1, 0] (by rfl) (ih (i1 + (1 : Int32)) x6)
def fX9_bits  (a0 : Int32) (σ : Store) : Option Int32 := (fX9_bits_L4  FU (0 : Int32) a0)
theorem c_X9_bits {l0 : Launch} {G : Geo} (a0 : Int32) (σ : Store) (a : Int32) (hf : fX9_bits  a0 σ = some a) : sCon l0 wMod G yX9_bits cX9_bits 3 (some .int) (rmL 1 60) [.int a0] σ (some (.int a)) σ := by
  refine sCon.of (by decide) ⟨rfl, rfl⟩ (Nat.le_of_ble_eq_true rfl) RX9 rfl _ hf (fun K hK => ?_)
  show sV wMod G K a σ 0 [(0, .int a0)] [] _
  unfold fX9_bits
  refine r_iconst (q := 1) (v := 0) hK dX9_bits_0 rfl rfl ?_
  refine r_istore_n (q := 2) (loc' := [(1, .int (0 : Int32)), (0, .int a0)]) hK dX9_bits_1 rfl rfl (by decide) rfl ?_
  refine r_iload_n (q := 3) hK dX9_bits_2 rfl rfl 1 rfl ?_
  refine r_istore_n (q := 4) (loc' := [(2, .int a0), (1, .int (0 : Int32)), (0, .int a0)]) hK dX9_bits_3 rfl rfl (by decide) rfl ?_
  exact sV.sub [2, 1, 0] (by rfl) (vX9_bits_L4 σ a0 hK FU (0 : Int32) a0)
def fX9_become  (a1 : Int32) (a2 : Int32) (σ : Store) : Option (Int32 × Store) := (six 1480 a1 (slt (σ 1 (snx a1)) fun x2 => (six 1480 a1 (slt (sup σ 1 (snx a1) a2) fun s4 => (some (x2, s4))))))
theorem c_X9_become {l0 : Launch} {G : Geo} (a1 : Int32) (a2 : Int32) (σ : Store) (a : (Int32 × Store)) (hf : fX9_become  a1 a2 σ = some a) : sCon l0 wMod G yX9_become cX9_become 4 (some .int) (rmL 1 60) [.ref (gad G 0), .int a1, .int a2] σ (some (.int a.1)) a.2 := by
  refine sCon.of (by decide) ⟨rfl, rfl⟩ (Nat.le_of_ble_eq_true rfl) RX9 rfl _ hf (fun K hK => ?_)
  show sV wMod G K a σ 0 [(0, .ref (gad G 0)), (1, .int a1), (2, .int a2)] [] _
  unfold fX9_become
  refine r_aload_n (q := 1) hK dX9_become_0 rfl rfl 0 rfl ?_
  refine gf_9_0 (q := 4) hK dX9_become_1 rfl tw_804 ?_
  refine r_iload_n (q := 5) hK dX9_become_4 rfl rfl 1 rfl ?_
  refine r_iald (q := 6) hK dX9_become_5 rfl aM1 (fun h1 => ?_)
  refine sV.ltI (fun x2 => ?_)
  refine r_istore_n (q := 7) (loc' := [(3, .int x2), (0, .ref (gad G 0)), (1, .int a1), (2, .int a2)]) hK dX9_become_6 rfl rfl (by decide) rfl ?_
  refine r_aload_n (q := 8) hK dX9_become_7 rfl rfl 1 rfl ?_
  refine gf_9_0 (q := 11) hK dX9_become_8 rfl tw_804 ?_
  refine r_iload_n (q := 12) hK dX9_become_11 rfl rfl 2 rfl ?_
  refine r_iload_n (q := 13) hK dX9_become_12 rfl rfl 3 rfl ?_
  refine r_iast (q := 14) hK dX9_become_13 rfl aM1 (fun h3 => ?_)
  refine sV.ltS (fun s4 => ?_)
  refine r_iload_n (q := 15) hK dX9_become_14 rfl rfl 0 rfl ?_
  exact e_iS hK dX9_become_15
def fX9_copyRow_L2  (n0 : Nat) (n1 : Nat) (o0 : Nat) (o1 : Nat) (v2 : Int32) : Nat → Int32 → Store → Option Store
  | 0, _, _ => none
  | n + 1, i3, τ => (if v2 ≤ i3 then (some τ) else (six n0 i3 (six n1 i3 (slt (sup τ o1 (snx i3) (τ o0 (snx i3))) fun s12 => (fX9_copyRow_L2 n0 n1 o0 o1 v2 n (i3 + (1 : Int32)) s12)))))
theorem vX9_copyRow_L2 {G : Geo} {K : KT} {l0 : Launch} (σ : Store) {a : Store} (n0 : Nat) (n1 : Nat) (o0 : Nat) (ho0 : iA wMod G o0 n0) (o1 : Nat) (ho1 : iA wMod G o1 n1) (v2 : Int32) (hK : sOk wMod G K l0 RX9 cX9_copyRow (rmL 1 60) 4 (none) none a) : ∀ (n : Nat) (i3 : Int32) (τ : Store), sV wMod G K a τ 2 [(0, .ref (gad G o0)), (1, .ref (gad G o1)), (2, .int v2), (3, .int i3)] [] (fX9_copyRow_L2 n0 n1 o0 o1 v2 n i3 τ) := by
  intro n
  induction n with
  | zero =>
    intro i3 τ
    exact sV.no
  | succ n ih =>
    intro i3 τ
    rw [fX9_copyRow_L2]
    refine r_iload_n (q := 3) hK dX9_copyRow_2 rfl rfl 3 rfl ?_
    refine r_iload_n (q := 4) hK dX9_copyRow_3 rfl rfl 2 rfl ?_
    refine r_icmp_ge (t := 19) (q := 7) hK dX9_copyRow_4 rfl rfl (fun c9 => ?_) (fun c9 => ?_)
    · exact e_vS hK dX9_copyRow_19
    · refine r_aload_n (q := 8) hK dX9_copyRow_7 rfl rfl 1 rfl ?_
      refine r_iload_n (q := 9) hK dX9_copyRow_8 rfl rfl 3 rfl ?_
      refine r_aload_n (q := 10) hK dX9_copyRow_9 rfl rfl 0 rfl ?_
      refine r_iload_n (q := 11) hK dX9_copyRow_10 rfl rfl 3 rfl ?_
      refine r_iald (q := 12) hK dX9_copyRow_11 rfl ho0 (fun h10 => ?_)
      refine r_iast (q := 13) hK dX9_copyRow_12 rfl ho1 (fun h11 => ?_)
      refine sV.ltS (fun s12 => ?_)
      refine r_iinc (q := 16) (v := (i3 + (1 : Int32))) (loc' := [(3, .int (i3 + (1 : Int32))), (0, .ref (gad G o0)), (1, .ref (gad G o1)), (2, .int v2)]) hK dX9_copyRow_13 rfl 3 rfl rfl (by decide) rfl ?_
      refine r_goto (q := 2) hK dX9_copyRow_16 rfl ?_
      exact sV.sub [1, 2, 3, 0] (by rfl) (ih (i3 + (1 : Int32)) s12)
def fX9_copyRow  (a0 n0 : Nat) (a1 n1 : Nat) (a2 : Int32) (σ : Store) : Option Store := (fX9_copyRow_L2 n0 n1 a0 a1 a2 FU (0 : Int32) σ)
theorem c_X9_copyRow {l0 : Launch} {G : Geo} (a0 n0 : Nat) (h0 : iA wMod G a0 n0) (a1 n1 : Nat) (h1 : iA wMod G a1 n1) (a2 : Int32) (σ : Store) (a : Store) (hf : fX9_copyRow  a0 n0 a1 n1 a2 σ = some a) : sCon l0 wMod G yX9_copyRow cX9_copyRow 4 (none) (rmL 1 60) [.ref (gad G a0), .ref (gad G a1), .int a2] σ none a := by
  refine sCon.of (by decide) ⟨rfl, rfl⟩ (Nat.le_of_ble_eq_true rfl) RX9 rfl _ hf (fun K hK => ?_)
  show sV wMod G K a σ 0 [(0, .ref (gad G a0)), (1, .ref (gad G a1)), (2, .int a2)] [] _
  unfold fX9_copyRow
  refine r_iconst (q := 1) (v := 0) hK dX9_copyRow_0 rfl rfl ?_
  refine r_istore_n (q := 2) (loc' := [(3, .int (0 : Int32)), (0, .ref (gad G a0)), (1, .ref (gad G a1)), (2, .int a2)]) hK dX9_copyRow_1 rfl rfl (by decide) rfl ?_
  exact sV.sub [1, 2, 3, 0] (by rfl) (vX9_copyRow_L2 σ n0 n1 a0 h0 a1 h1 a2 hK FU (0 : Int32) σ)
def fX9_putBack  (a1 : Int32) (σ : Store) : Option (Int32 × Store) := (sbd (fX9_copyRow 3 80 1 1480 (80 : Int32) σ) fun s1 => (some (a1, s1)))
theorem c_X9_putBack {l0 : Launch} {G : Geo} (a1 : Int32) (σ : Store) (a : (Int32 × Store)) (hf : fX9_putBack  a1 σ = some a) : sCon l0 wMod G yX9_putBack cX9_putBack 2 (some .int) (rmL 2 83) [.ref (gad G 0), .int a1] σ (some (.int a.1)) a.2 := by
  refine sCon.of (by decide) ⟨rfl, rfl⟩ (Nat.le_of_ble_eq_true rfl) RX9 rfl _ hf (fun K hK => ?_)
  show sV wMod G K a σ 0 [(0, .ref (gad G 0)), (1, .int a1)] [] _
  unfold fX9_putBack
  refine r_aload_n (q := 1) hK dX9_putBack_0 rfl rfl 0 rfl ?_
  refine gf_9_3 (q := 4) hK dX9_putBack_1 rfl tw_807 ?_
  refine r_aload_n (q := 5) hK dX9_putBack_4 rfl rfl 0 rfl ?_
  refine gf_9_0 (q := 8) hK dX9_putBack_5 rfl tw_804 ?_
  refine r_bipush (q := 10) (v := 80) hK dX9_putBack_8 rfl rfl ?_
  refine callS_vS (q := 13) (As := [.ref (gad G 3), .ref (gad G 1), .int (80 : Int32)]) (rest := []) (f := (fX9_copyRow 3 80 1 1480 (80 : Int32) σ)) hK dX9_putBack_10 rfl (fun b hb => c_X9_copyRow 3 80 aM3 1 1480 aM1 (80 : Int32) σ b hb) ms_X9_copyRow rfl rfl (Nat.le_of_ble_eq_true rfl) tw_1098 mw_X9_copyRow (rmOk (Nat.le_of_ble_eq_true rfl) (Nat.le_of_ble_eq_true rfl)) (fun s1 => ?_)
  refine r_iload_n (q := 14) hK dX9_putBack_13 rfl rfl 1 rfl ?_
  exact e_iS hK dX9_putBack_14
def fX9_isWord  (a1 : Int32) (σ : Store) : Option Bool := (six 1480 (5 : Int32) (sbd (fX9_within a1 (0 : Int32) ((σ 1 (snx (5 : Int32))) - (1 : Int32)) σ) fun r2 => (some r2)))
theorem c_X9_isWord {l0 : Launch} {G : Geo} (a1 : Int32) (σ : Store) (a : Bool) (hf : fX9_isWord  a1 σ = some a) : sCon l0 wMod G yX9_isWord cX9_isWord 2 (some .boolean) (rmL 2 82) [.ref (gad G 0), .int a1] σ (some (.int (b2i a))) σ := by
  refine sCon.of (by decide) ⟨rfl, rfl⟩ (Nat.le_of_ble_eq_true rfl) RX9 rfl _ hf (fun K hK => ?_)
  show sV wMod G K a σ 0 [(0, .ref (gad G 0)), (1, .int a1)] [] _
  unfold fX9_isWord
  refine r_iload_n (q := 1) hK dX9_isWord_0 rfl rfl 1 rfl ?_
  refine r_iconst (q := 2) (v := 0) hK dX9_isWord_1 rfl rfl ?_
  refine r_aload_n (q := 3) hK dX9_isWord_2 rfl rfl 0 rfl ?_
  refine gf_9_0 (q := 6) hK dX9_isWord_3 rfl tw_804 ?_
  refine r_iconst (q := 7) (v := 5) hK dX9_isWord_6 rfl rfl ?_
  refine r_iald (q := 8) hK dX9_isWord_7 rfl aM1 (fun h1 => ?_)
  refine r_iconst (q := 9) (v := 1) hK dX9_isWord_8 rfl rfl ?_
  refine r_isub (q := 10) hK dX9_isWord_9 rfl ?_
  refine callS_b (q := 13) (As := [.int a1, .int (0 : Int32), .int ((σ 1 (snx (5 : Int32))) - (1 : Int32))]) (rest := []) (f := (fX9_within a1 (0 : Int32) ((σ 1 (snx (5 : Int32))) - (1 : Int32)) σ)) hK dX9_isWord_10 rfl (fun b hb => c_X9_within a1 (0 : Int32) ((σ 1 (snx (5 : Int32))) - (1 : Int32)) σ b hb) ms_X9_within rfl rfl (Nat.le_of_ble_eq_true rfl) tw_900 mw_X9_within (rmOk (Nat.le_of_ble_eq_true rfl) (Nat.le_of_ble_eq_true rfl)) (fun r2 => ?_)
  exact e_b (b := r2) hK dX9_isWord_13
def fX9_areWords  (a1 : Int32) (σ : Store) : Option Bool := (six 1480 (5 : Int32) (sbd (fX9_within a1 (0 : Int32) (((1 : Int32) <<< ((σ 1 (snx (5 : Int32))) &&& 31)) - (1 : Int32)) σ) fun r2 => (some r2)))
theorem c_X9_areWords {l0 : Launch} {G : Geo} (a1 : Int32) (σ : Store) (a : Bool) (hf : fX9_areWords  a1 σ = some a) : sCon l0 wMod G yX9_areWords cX9_areWords 2 (some .boolean) (rmL 2 82) [.ref (gad G 0), .int a1] σ (some (.int (b2i a))) σ := by
  refine sCon.of (by decide) ⟨rfl, rfl⟩ (Nat.le_of_ble_eq_true rfl) RX9 rfl _ hf (fun K hK => ?_)
  show sV wMod G K a σ 0 [(0, .ref (gad G 0)), (1, .int a1)] [] _
  unfold fX9_areWords
  refine r_iload_n (q := 1) hK dX9_areWords_0 rfl rfl 1 rfl ?_
  refine r_iconst (q := 2) (v := 0) hK dX9_areWords_1 rfl rfl ?_
  refine r_iconst (q := 3) (v := 1) hK dX9_areWords_2 rfl rfl ?_
  refine r_aload_n (q := 4) hK dX9_areWords_3 rfl rfl 0 rfl ?_
  refine gf_9_0 (q := 7) hK dX9_areWords_4 rfl tw_804 ?_
  refine r_iconst (q := 8) (v := 5) hK dX9_areWords_7 rfl rfl ?_
  refine r_iald (q := 9) hK dX9_areWords_8 rfl aM1 (fun h1 => ?_)
  refine r_ishl (q := 10) hK dX9_areWords_9 rfl ?_
  refine r_iconst (q := 11) (v := 1) hK dX9_areWords_10 rfl rfl ?_
  refine r_isub (q := 12) hK dX9_areWords_11 rfl ?_
  refine callS_b (q := 15) (As := [.int a1, .int (0 : Int32), .int (((1 : Int32) <<< ((σ 1 (snx (5 : Int32))) &&& 31)) - (1 : Int32))]) (rest := []) (f := (fX9_within a1 (0 : Int32) (((1 : Int32) <<< ((σ 1 (snx (5 : Int32))) &&& 31)) - (1 : Int32)) σ)) hK dX9_areWords_12 rfl (fun b hb => c_X9_within a1 (0 : Int32) (((1 : Int32) <<< ((σ 1 (snx (5 : Int32))) &&& 31)) - (1 : Int32)) σ b hb) ms_X9_within rfl rfl (Nat.le_of_ble_eq_true rfl) tw_900 mw_X9_within (rmOk (Nat.le_of_ble_eq_true rfl) (Nat.le_of_ble_eq_true rfl)) (fun r2 => ?_)
  exact e_b (b := r2) hK dX9_areWords_15
def fX9_isTraveller  (a1 : Int32) (σ : Store) : Option Bool := (six 1480 (6 : Int32) (sbd (fX9_within a1 (0 : Int32) ((σ 1 (snx (6 : Int32))) - (1 : Int32)) σ) fun r2 => (some r2)))
theorem c_X9_isTraveller {l0 : Launch} {G : Geo} (a1 : Int32) (σ : Store) (a : Bool) (hf : fX9_isTraveller  a1 σ = some a) : sCon l0 wMod G yX9_isTraveller cX9_isTraveller 2 (some .boolean) (rmL 2 82) [.ref (gad G 0), .int a1] σ (some (.int (b2i a))) σ := by
  refine sCon.of (by decide) ⟨rfl, rfl⟩ (Nat.le_of_ble_eq_true rfl) RX9 rfl _ hf (fun K hK => ?_)
  show sV wMod G K a σ 0 [(0, .ref (gad G 0)), (1, .int a1)] [] _
  unfold fX9_isTraveller
  refine r_iload_n (q := 1) hK dX9_isTraveller_0 rfl rfl 1 rfl ?_
  refine r_iconst (q := 2) (v := 0) hK dX9_isTraveller_1 rfl rfl ?_
  refine r_aload_n (q := 3) hK dX9_isTraveller_2 rfl rfl 0 rfl ?_
  refine gf_9_0 (q := 6) hK dX9_isTraveller_3 rfl tw_804 ?_
  refine r_bipush (q := 8) (v := 6) hK dX9_isTraveller_6 rfl rfl ?_
  refine r_iald (q := 9) hK dX9_isTraveller_8 rfl aM1 (fun h1 => ?_)
  refine r_iconst (q := 10) (v := 1) hK dX9_isTraveller_9 rfl rfl ?_
  refine r_isub (q := 11) hK dX9_isTraveller_10 rfl ?_
  refine callS_b (q := 14) (As := [.int a1, .int (0 : Int32), .int ((σ 1 (snx (6 : Int32))) - (1 : Int32))]) (rest := []) (f := (fX9_within a1 (0 : Int32) ((σ 1 (snx (6 : Int32))) - (1 : Int32)) σ)) hK dX9_isTraveller_11 rfl (fun b hb => c_X9_within a1 (0 : Int32) ((σ 1 (snx (6 : Int32))) - (1 : Int32)) σ b hb) ms_X9_within rfl rfl (Nat.le_of_ble_eq_true rfl) tw_900 mw_X9_within (rmOk (Nat.le_of_ble_eq_true rfl) (Nat.le_of_ble_eq_true rfl)) (fun r2 => ?_)
  exact e_b (b := r2) hK dX9_isTraveller_14
def fX9_wordIs  (a1 : Int32) (a2 : Int32) (σ : Store) : Option Int32 := (six 1480 (((8 : Int32) + ((6 : Int32) * a1)) + a2) (some (σ 1 (snx (((8 : Int32) + ((6 : Int32) * a1)) + a2)))))
theorem c_X9_wordIs {l0 : Launch} {G : Geo} (a1 : Int32) (a2 : Int32) (σ : Store) (a : Int32) (hf : fX9_wordIs  a1 a2 σ = some a) : sCon l0 wMod G yX9_wordIs cX9_wordIs 3 (some .int) (rmL 1 60) [.ref (gad G 0), .int a1, .int a2] σ (some (.int a)) σ := by
  refine sCon.of (by decide) ⟨rfl, rfl⟩ (Nat.le_of_ble_eq_true rfl) RX9 rfl _ hf (fun K hK => ?_)
  show sV wMod G K a σ 0 [(0, .ref (gad G 0)), (1, .int a1), (2, .int a2)] [] _
  unfold fX9_wordIs
  refine r_aload_n (q := 1) hK dX9_wordIs_0 rfl rfl 0 rfl ?_
  refine gf_9_0 (q := 4) hK dX9_wordIs_1 rfl tw_804 ?_
  refine r_bipush (q := 6) (v := 8) hK dX9_wordIs_4 rfl rfl ?_
  refine r_bipush (q := 8) (v := 6) hK dX9_wordIs_6 rfl rfl ?_
  refine r_iload_n (q := 9) hK dX9_wordIs_8 rfl rfl 1 rfl ?_
  refine r_imul (q := 10) hK dX9_wordIs_9 rfl ?_
  refine r_iadd (q := 11) hK dX9_wordIs_10 rfl ?_
  refine r_iload_n (q := 12) hK dX9_wordIs_11 rfl rfl 2 rfl ?_
  refine r_iadd (q := 13) hK dX9_wordIs_12 rfl ?_
  refine r_iald (q := 14) hK dX9_wordIs_13 rfl aM1 (fun h1 => ?_)
  exact e_i hK dX9_wordIs_14
def fX9_travellerIs  (a1 : Int32) (a2 : Int32) (σ : Store) : Option Int32 := (six 1480 (((68 : Int32) + ((2 : Int32) * a1)) + a2) (some (σ 1 (snx (((68 : Int32) + ((2 : Int32) * a1)) + a2)))))
theorem c_X9_travellerIs {l0 : Launch} {G : Geo} (a1 : Int32) (a2 : Int32) (σ : Store) (a : Int32) (hf : fX9_travellerIs  a1 a2 σ = some a) : sCon l0 wMod G yX9_travellerIs cX9_travellerIs 3 (some .int) (rmL 1 60) [.ref (gad G 0), .int a1, .int a2] σ (some (.int a)) σ := by
  refine sCon.of (by decide) ⟨rfl, rfl⟩ (Nat.le_of_ble_eq_true rfl) RX9 rfl _ hf (fun K hK => ?_)
  show sV wMod G K a σ 0 [(0, .ref (gad G 0)), (1, .int a1), (2, .int a2)] [] _
  unfold fX9_travellerIs
  refine r_aload_n (q := 1) hK dX9_travellerIs_0 rfl rfl 0 rfl ?_
  refine gf_9_0 (q := 4) hK dX9_travellerIs_1 rfl tw_804 ?_
  refine r_bipush (q := 6) (v := 68) hK dX9_travellerIs_4 rfl rfl ?_
  refine r_iconst (q := 7) (v := 2) hK dX9_travellerIs_6 rfl rfl ?_
  refine r_iload_n (q := 8) hK dX9_travellerIs_7 rfl rfl 1 rfl ?_
  refine r_imul (q := 9) hK dX9_travellerIs_8 rfl ?_
  refine r_iadd (q := 10) hK dX9_travellerIs_9 rfl ?_
  refine r_iload_n (q := 11) hK dX9_travellerIs_10 rfl rfl 2 rfl ?_
  refine r_iadd (q := 12) hK dX9_travellerIs_11 rfl ?_
  refine r_iald (q := 13) hK dX9_travellerIs_12 rfl aM1 (fun h1 => ?_)
  exact e_i hK dX9_travellerIs_13
def fX9_comes  (a1 : Int32) (a2 : Int32) (a3 : Int32) (a4 : Int32) (σ : Store) : Option (Int32 × Store) := (six 1480 (5 : Int32) (slt (σ 1 (snx (5 : Int32))) fun x2 => (slt ((8 : Int32) + ((6 : Int32) * x2)) fun x3 => (six 1480 (x3 + (0 : Int32)) (slt (sup σ 1 (snx (x3 + (0 : Int32))) a1) fun s5 => (six 1480 (x3 + (1 : Int32)) (slt (sup s5 1 (snx (x3 + (1 : Int32))) a2) fun s7 => (six 1480 (x3 + (2 : Int32)) (slt (sup s7 1 (snx (x3 + (2 : Int32))) a3) fun s9 => (six 1480 (x3 + (3 : Int32)) (slt (sup s9 1 (snx (x3 + (3 : Int32))) a4) fun s11 => (six 1480 (x3 + (4 : Int32)) (slt (sup s11 1 (snx (x3 + (4 : Int32))) (0 : Int32)) fun s13 => (six 1480 (x3 + (5 : Int32)) (slt (sup s13 1 (snx (x3 + (5 : Int32))) (0 : Int32)) fun s15 => (six 1480 (5 : Int32) (six 1480 (5 : Int32) (slt (sup s15 1 (snx (5 : Int32)) ((s15 1 (snx (5 : Int32))) + (1 : Int32))) fun s18 => (some (x2, s18))))))))))))))))))))
theorem c_X9_comes {l0 : Launch} {G : Geo} (a1 : Int32) (a2 : Int32) (a3 : Int32) (a4 : Int32) (σ : Store) (a : (Int32 × Store)) (hf : fX9_comes  a1 a2 a3 a4 σ = some a) : sCon l0 wMod G yX9_comes cX9_comes 7 (some .int) (rmL 1 60) [.ref (gad G 0), .int a1, .int a2, .int a3, .int a4] σ (some (.int a.1)) a.2 := by
  refine sCon.of (by decide) ⟨rfl, rfl⟩ (Nat.le_of_ble_eq_true rfl) RX9 rfl _ hf (fun K hK => ?_)
  show sV wMod G K a σ 0 [(0, .ref (gad G 0)), (1, .int a1), (2, .int a2), (3, .int a3), (4, .int a4)] [] _
  unfold fX9_comes
  refine r_aload_n (q := 1) hK dX9_comes_0 rfl rfl 0 rfl ?_
  refine gf_9_0 (q := 4) hK dX9_comes_1 rfl tw_804 ?_
  refine r_iconst (q := 5) (v := 5) hK dX9_comes_4 rfl rfl ?_
  refine r_iald (q := 6) hK dX9_comes_5 rfl aM1 (fun h1 => ?_)
  refine sV.ltI (fun x2 => ?_)
  refine r_istore (q := 8) (loc' := [(5, .int x2), (0, .ref (gad G 0)), (1, .int a1), (2, .int a2), (3, .int a3), (4, .int a4)]) hK dX9_comes_6 rfl (by decide) rfl ?_
  refine r_bipush (q := 10) (v := 8) hK dX9_comes_8 rfl rfl ?_
  refine r_bipush (q := 12) (v := 6) hK dX9_comes_10 rfl rfl ?_
  refine r_iload (q := 14) hK dX9_comes_12 rfl 0 rfl ?_
  refine r_imul (q := 15) hK dX9_comes_14 rfl ?_
  refine r_iadd (q := 16) hK dX9_comes_15 rfl ?_
  refine sV.ltI (fun x3 => ?_)
  refine r_istore (q := 18) (loc' := [(6, .int x3), (5, .int x2), (0, .ref (gad G 0)), (1, .int a1), (2, .int a2), (3, .int a3), (4, .int a4)]) hK dX9_comes_16 rfl (by decide) rfl ?_
  refine r_aload_n (q := 19) hK dX9_comes_18 rfl rfl 2 rfl ?_
  refine gf_9_0 (q := 22) hK dX9_comes_19 rfl tw_804 ?_
  refine r_iload (q := 24) hK dX9_comes_22 rfl 0 rfl ?_
  refine r_iconst (q := 25) (v := 0) hK dX9_comes_24 rfl rfl ?_
  refine r_iadd (q := 26) hK dX9_comes_25 rfl ?_
  refine r_iload_n (q := 27) hK dX9_comes_26 rfl rfl 3 rfl ?_
  refine r_iast (q := 28) hK dX9_comes_27 rfl aM1 (fun h4 => ?_)
  refine sV.ltS (fun s5 => ?_)
  refine r_aload_n (q := 29) hK dX9_comes_28 rfl rfl 2 rfl ?_
  refine gf_9_0 (q := 32) hK dX9_comes_29 rfl tw_804 ?_
  refine r_iload (q := 34) hK dX9_comes_32 rfl 0 rfl ?_
  refine r_iconst (q := 35) (v := 1) hK dX9_comes_34 rfl rfl ?_
  refine r_iadd (q := 36) hK dX9_comes_35 rfl ?_
  refine r_iload_n (q := 37) hK dX9_comes_36 rfl rfl 4 rfl ?_
  refine r_iast (q := 38) hK dX9_comes_37 rfl aM1 (fun h6 => ?_)
  refine sV.ltS (fun s7 => ?_)
  refine r_aload_n (q := 39) hK dX9_comes_38 rfl rfl 2 rfl ?_
  refine gf_9_0 (q := 42) hK dX9_comes_39 rfl tw_804 ?_
  refine r_iload (q := 44) hK dX9_comes_42 rfl 0 rfl ?_
  refine r_iconst (q := 45) (v := 2) hK dX9_comes_44 rfl rfl ?_
  refine r_iadd (q := 46) hK dX9_comes_45 rfl ?_
  refine r_iload_n (q := 47) hK dX9_comes_46 rfl rfl 5 rfl ?_
  refine r_iast (q := 48) hK dX9_comes_47 rfl aM1 (fun h8 => ?_)
  refine sV.ltS (fun s9 => ?_)
  refine r_aload_n (q := 49) hK dX9_comes_48 rfl rfl 2 rfl ?_
  refine gf_9_0 (q := 52) hK dX9_comes_49 rfl tw_804 ?_
  refine r_iload (q := 54) hK dX9_comes_52 rfl 0 rfl ?_
  refine r_iconst (q := 55) (v := 3) hK dX9_comes_54 rfl rfl ?_
  refine r_iadd (q := 56) hK dX9_comes_55 rfl ?_
  refine r_iload (q := 58) hK dX9_comes_56 rfl 6 rfl ?_
  refine r_iast (q := 59) hK dX9_comes_58 rfl aM1 (fun h10 => ?_)
  refine sV.ltS (fun s11 => ?_)
  refine r_aload_n (q := 60) hK dX9_comes_59 rfl rfl 2 rfl ?_
  refine gf_9_0 (q := 63) hK dX9_comes_60 rfl tw_804 ?_
  refine r_iload (q := 65) hK dX9_comes_63 rfl 0 rfl ?_
  refine r_iconst (q := 66) (v := 4) hK dX9_comes_65 rfl rfl ?_
  refine r_iadd (q := 67) hK dX9_comes_66 rfl ?_
  refine r_iconst (q := 68) (v := 0) hK dX9_comes_67 rfl rfl ?_
  refine r_iast (q := 69) hK dX9_comes_68 rfl aM1 (fun h12 => ?_)
  refine sV.ltS (fun s13 => ?_)
  refine r_aload_n (q := 70) hK dX9_comes_69 rfl rfl 2 rfl ?_
  refine gf_9_0 (q := 73) hK dX9_comes_70 rfl tw_804 ?_
  refine r_iload (q := 75) hK dX9_comes_73 rfl 0 rfl ?_
  refine r_iconst (q := 76) (v := 5) hK dX9_comes_75 rfl rfl ?_
  refine r_iadd (q := 77) hK dX9_comes_76 rfl ?_
  refine r_iconst (q := 78) (v := 0) hK dX9_comes_77 rfl rfl ?_
  refine r_iast (q := 79) hK dX9_comes_78 rfl aM1 (fun h14 => ?_)
  refine sV.ltS (fun s15 => ?_)
  refine r_aload_n (q := 80) hK dX9_comes_79 rfl rfl 2 rfl ?_
  refine gf_9_0 (q := 83) hK dX9_comes_80 rfl tw_804 ?_
  refine r_iconst (q := 84) (v := 5) hK dX9_comes_83 rfl rfl ?_
  refine r_dup2 (q := 85) hK dX9_comes_84 rfl rfl rfl ?_
  refine r_iald (q := 86) hK dX9_comes_85 rfl aM1 (fun h16 => ?_)
  refine r_iconst (q := 87) (v := 1) hK dX9_comes_86 rfl rfl ?_
  refine r_iadd (q := 88) hK dX9_comes_87 rfl ?_
  refine r_iast (q := 89) hK dX9_comes_88 rfl aM1 (fun h17 => ?_)
  refine sV.ltS (fun s18 => ?_)
  refine r_iload (q := 91) hK dX9_comes_89 rfl 1 rfl ?_
  exact e_iS hK dX9_comes_91
def fX9_isKind  (a0 : Int32) (σ : Store) : Option Bool := (sbd (fX9_within a0 (0 : Int32) (5 : Int32) σ) fun r1 => (some r1))
theorem c_X9_isKind {l0 : Launch} {G : Geo} (a0 : Int32) (σ : Store) (a : Bool) (hf : fX9_isKind  a0 σ = some a) : sCon l0 wMod G yX9_isKind cX9_isKind 1 (some .boolean) (rmL 2 82) [.int a0] σ (some (.int (b2i a))) σ := by
  refine sCon.of (by decide) ⟨rfl, rfl⟩ (Nat.le_of_ble_eq_true rfl) RX9 rfl _ hf (fun K hK => ?_)
  show sV wMod G K a σ 0 [(0, .int a0)] [] _
  unfold fX9_isKind
  refine r_iload_n (q := 1) hK dX9_isKind_0 rfl rfl 0 rfl ?_
  refine r_iconst (q := 2) (v := 0) hK dX9_isKind_1 rfl rfl ?_
  refine r_iconst (q := 3) (v := 5) hK dX9_isKind_2 rfl rfl ?_
  refine callS_b (q := 6) (As := [.int a0, .int (0 : Int32), .int (5 : Int32)]) (rest := []) (f := (fX9_within a0 (0 : Int32) (5 : Int32) σ)) hK dX9_isKind_3 rfl (fun b hb => c_X9_within a0 (0 : Int32) (5 : Int32) σ b hb) ms_X9_within rfl rfl (Nat.le_of_ble_eq_true rfl) tw_900 mw_X9_within (rmOk (Nat.le_of_ble_eq_true rfl) (Nat.le_of_ble_eq_true rfl)) (fun r1 => ?_)
  exact e_b (b := r1) hK dX9_isKind_6
def fX9_isHundred  (a0 : Int32) (σ : Store) : Option Bool := (sbd (fX9_within a0 (0 : Int32) (99 : Int32) σ) fun r1 => (some r1))
theorem c_X9_isHundred {l0 : Launch} {G : Geo} (a0 : Int32) (σ : Store) (a : Bool) (hf : fX9_isHundred  a0 σ = some a) : sCon l0 wMod G yX9_isHundred cX9_isHundred 1 (some .boolean) (rmL 2 82) [.int a0] σ (some (.int (b2i a))) σ := by
  refine sCon.of (by decide) ⟨rfl, rfl⟩ (Nat.le_of_ble_eq_true rfl) RX9 rfl _ hf (fun K hK => ?_)
  show sV wMod G K a σ 0 [(0, .int a0)] [] _
  unfold fX9_isHundred
  refine r_iload_n (q := 1) hK dX9_isHundred_0 rfl rfl 0 rfl ?_
  refine r_iconst (q := 2) (v := 0) hK dX9_isHundred_1 rfl rfl ?_
  refine r_bipush (q := 4) (v := 99) hK dX9_isHundred_2 rfl rfl ?_
  refine callS_b (q := 7) (As := [.int a0, .int (0 : Int32), .int (99 : Int32)]) (rest := []) (f := (fX9_within a0 (0 : Int32) (99 : Int32) σ)) hK dX9_isHundred_4 rfl (fun b hb => c_X9_within a0 (0 : Int32) (99 : Int32) σ b hb) ms_X9_within rfl rfl (Nat.le_of_ble_eq_true rfl) tw_900 mw_X9_within (rmOk (Nat.le_of_ble_eq_true rfl) (Nat.le_of_ble_eq_true rfl)) (fun r1 => ?_)
  exact e_b (b := r1) hK dX9_isHundred_7
def fX9_word  (a1 : Int32) (a2 : Int32) (a3 : Int32) (a4 : Int32) (σ : Store) : Option (Int32 × Store) := (sbd (fX9_isKind a1 σ) fun r1 => (if r1 = true then (sbd (fX9_within a2 (1 : Int32) (255 : Int32) σ) fun r3 => (if r3 = true then (sbd (fX9_isHundred a3 σ) fun r5 => (if r5 = true then (sbd (fX9_isHundred a4 σ) fun r7 => (if r7 = true then (six 1480 (5 : Int32) (if ¬ (σ 1 (snx (5 : Int32))) = (10 : Int32) then (sbd2 (fX9_comes a1 a2 a3 a4 σ) fun r11 s12 => (some (r11, s12))) else (some ((-1000000003 : Int32), σ)))) else (some ((-1000000001 : Int32), σ)))) else (some ((-1000000001 : Int32), σ)))) else (some ((-1000000001 : Int32), σ)))) else (some ((-1000000001 : Int32), σ))))
theorem c_X9_word {l0 : Launch} {G : Geo} (a1 : Int32) (a2 : Int32) (a3 : Int32) (a4 : Int32) (σ : Store) (a : (Int32 × Store)) (hf : fX9_word  a1 a2 a3 a4 σ = some a) : sCon l0 wMod G yX9_word cX9_word 5 (some .int) (rmL 3 102) [.ref (gad G 0), .int a1, .int a2, .int a3, .int a4] σ (some (.int a.1)) a.2 := by
  refine sCon.of (by decide) ⟨rfl, rfl⟩ (Nat.le_of_ble_eq_true rfl) RX9 rfl _ hf (fun K hK => ?_)
  show sV wMod G K a σ 0 [(0, .ref (gad G 0)), (1, .int a1), (2, .int a2), (3, .int a3), (4, .int a4)] [] _
  unfold fX9_word
  refine r_iload_n (q := 1) hK dX9_word_0 rfl rfl 1 rfl ?_
  refine callS_b (q := 4) (As := [.int a1]) (rest := []) (f := (fX9_isKind a1 σ)) hK dX9_word_1 rfl (fun b hb => c_X9_isKind a1 σ b hb) ms_X9_isKind rfl rfl (Nat.le_of_ble_eq_true rfl) tw_897 mw_X9_isKind (rmOk (Nat.le_of_ble_eq_true rfl) (Nat.le_of_ble_eq_true rfl)) (fun r1 => ?_)
  refine r_ifb_eq (t := 33) (q := 7) hK dX9_word_4 rfl rfl (fun c2 => ?_) (fun c2 => ?_)
  · refine r_iload_n (q := 8) hK dX9_word_7 rfl rfl 2 rfl ?_
    refine r_iconst (q := 9) (v := 1) hK dX9_word_8 rfl rfl ?_
    refine r_sipush (q := 12) (v := 255) hK dX9_word_9 rfl rfl ?_
    refine callS_b (q := 15) (As := [.int a2, .int (1 : Int32), .int (255 : Int32)]) (rest := []) (f := (fX9_within a2 (1 : Int32) (255 : Int32) σ)) hK dX9_word_12 rfl (fun b hb => c_X9_within a2 (1 : Int32) (255 : Int32) σ b hb) ms_X9_within rfl rfl (Nat.le_of_ble_eq_true rfl) tw_900 mw_X9_within (rmOk (Nat.le_of_ble_eq_true rfl) (Nat.le_of_ble_eq_true rfl)) (fun r3 => ?_)
    refine r_ifb_eq (t := 33) (q := 18) hK dX9_word_15 rfl rfl (fun c4 => ?_) (fun c4 => ?_)
    · refine r_iload_n (q := 19) hK dX9_word_18 rfl rfl 3 rfl ?_
      refine callS_b (q := 22) (As := [.int a3]) (rest := []) (f := (fX9_isHundred a3 σ)) hK dX9_word_19 rfl (fun b hb => c_X9_isHundred a3 σ b hb) ms_X9_isHundred rfl rfl (Nat.le_of_ble_eq_true rfl) tw_903 mw_X9_isHundred (rmOk (Nat.le_of_ble_eq_true rfl) (Nat.le_of_ble_eq_true rfl)) (fun r5 => ?_)
      refine r_ifb_eq (t := 33) (q := 25) hK dX9_word_22 rfl rfl (fun c6 => ?_) (fun c6 => ?_)
      · refine r_iload (q := 27) hK dX9_word_25 rfl 4 rfl ?_
        refine callS_b (q := 30) (As := [.int a4]) (rest := []) (f := (fX9_isHundred a4 σ)) hK dX9_word_27 rfl (fun b hb => c_X9_isHundred a4 σ b hb) ms_X9_isHundred rfl rfl (Nat.le_of_ble_eq_true rfl) tw_903 mw_X9_isHundred (rmOk (Nat.le_of_ble_eq_true rfl) (Nat.le_of_ble_eq_true rfl)) (fun r7 => ?_)
        refine r_ifb_ne (t := 36) (q := 33) hK dX9_word_30 rfl rfl (fun c8 => ?_) (fun c8 => ?_)
        · refine r_aload_n (q := 37) hK dX9_word_36 rfl rfl 0 rfl ?_
          refine gf_9_0 (q := 40) hK dX9_word_37 rfl tw_804 ?_
          refine r_iconst (q := 41) (v := 5) hK dX9_word_40 rfl rfl ?_
          refine r_iald (q := 42) hK dX9_word_41 rfl aM1 (fun h9 => ?_)
          refine r_bipush (q := 44) (v := 10) hK dX9_word_42 rfl rfl ?_
          refine r_icmp_ne (t := 52) (q := 47) hK dX9_word_44 rfl rfl (fun c10 => ?_) (fun c10 => ?_)
          · refine r_aload_n (q := 53) hK dX9_word_52 rfl rfl 0 rfl ?_
            refine r_iload_n (q := 54) hK dX9_word_53 rfl rfl 1 rfl ?_
            refine r_iload_n (q := 55) hK dX9_word_54 rfl rfl 2 rfl ?_
            refine r_iload_n (q := 56) hK dX9_word_55 rfl rfl 3 rfl ?_
            refine r_iload (q := 58) hK dX9_word_56 rfl 4 rfl ?_
            refine callV_iS (q := 61) (j := 0) (As := [.int a1, .int a2, .int a3, .int a4]) (rest := []) (f := (fX9_comes a1 a2 a3 a4 σ)) hK dX9_word_58 rfl (fun b hb => c_X9_comes a1 a2 a3 a4 σ b hb) ⟨9, _, _, _, by decide, rfl, cM, rfl⟩ mv_X9_comes rfl rfl (Nat.le_of_ble_eq_true rfl) tw_908 mw_X9_comes (rmOk (Nat.le_of_ble_eq_true rfl) (Nat.le_of_ble_eq_true rfl)) (fun r11 s12 => ?_)
            exact e_iS hK dX9_word_61
          · refine r_ldc (q := 49) hK dX9_word_47 rfl tw_907 ?_
            refine r_goto (q := 61) hK dX9_word_49 rfl ?_
            exact e_iS hK dX9_word_61
        · refine r_ldc (q := 35) hK dX9_word_33 rfl tw_906 ?_
          exact e_iS hK dX9_word_35
      · refine r_ldc (q := 35) hK dX9_word_33 rfl tw_906 ?_
        exact e_iS hK dX9_word_35
    · refine r_ldc (q := 35) hK dX9_word_33 rfl tw_906 ?_
      exact e_iS hK dX9_word_35
  · refine r_ldc (q := 35) hK dX9_word_33 rfl tw_906 ?_
    exact e_iS hK dX9_word_35
def fX9_above  (a0 : Int32) (σ : Store) : Option Int32 := (if ¬ a0 = 0 then (if ¬ a0 = (3 : Int32) then (if ¬ a0 = (4 : Int32) then (some (0 : Int32)) else (some (2 : Int32))) else (some (1 : Int32))) else (some (-1 : Int32)))
theorem c_X9_above {l0 : Launch} {G : Geo} (a0 : Int32) (σ : Store) (a : Int32) (hf : fX9_above  a0 σ = some a) : sCon l0 wMod G yX9_above cX9_above 1 (some .int) (rmL 1 60) [.int a0] σ (some (.int a)) σ := by
  refine sCon.of (by decide) ⟨rfl, rfl⟩ (Nat.le_of_ble_eq_true rfl) RX9 rfl _ hf (fun K hK => ?_)
  show sV wMod G K a σ 0 [(0, .int a0)] [] _
  unfold fX9_above
  refine r_iload_n (q := 1) hK dX9_above_0 rfl rfl 0 rfl ?_
  refine r_if_ne (t := 8) (q := 4) hK dX9_above_1 rfl rfl (fun c1 => ?_) (fun c1 => ?_)
  · refine r_iload_n (q := 9) hK dX9_above_8 rfl rfl 0 rfl ?_
    refine r_iconst (q := 10) (v := 3) hK dX9_above_9 rfl rfl ?_
    refine r_icmp_ne (t := 17) (q := 13) hK dX9_above_10 rfl rfl (fun c2 => ?_) (fun c2 => ?_)
    · refine r_iload_n (q := 18) hK dX9_above_17 rfl rfl 0 rfl ?_
      refine r_iconst (q := 19) (v := 4) hK dX9_above_18 rfl rfl ?_
      refine r_icmp_ne (t := 26) (q := 22) hK dX9_above_19 rfl rfl (fun c3 => ?_) (fun c3 => ?_)
      · refine r_iconst (q := 27) (v := 0) hK dX9_above_26 rfl rfl ?_
        exact e_i hK dX9_above_27
      · refine r_iconst (q := 23) (v := 2) hK dX9_above_22 rfl rfl ?_
        refine r_goto (q := 27) hK dX9_above_23 rfl ?_
        exact e_i hK dX9_above_27
    · refine r_iconst (q := 14) (v := 1) hK dX9_above_13 rfl rfl ?_
      refine r_goto (q := 27) hK dX9_above_14 rfl ?_
      exact e_i hK dX9_above_27
  · refine r_iconst (q := 5) (v := -1) hK dX9_above_4 rfl rfl ?_
    refine r_goto (q := 27) hK dX9_above_5 rfl ?_
    exact e_i hK dX9_above_27
def fX9_isUnder_L2  (v1 : Int32) (σ : Store) (k : Int32 → Option Bool) : Nat → Int32 → Option Bool
  | 0, _ => none
  | n + 1, i2 => (if i2 < 0 then (k i2) else (if i2 = v1 then (k i2) else (sbd (fX9_above i2 σ) fun r9 => (fX9_isUnder_L2 v1 σ k n r9))))
theorem vX9_isUnder_L2 {G : Geo} {K : KT} {l0 : Launch} (σ : Store) {a : Bool} (v0 : Int32) (v1 : Int32) (hK : sOk wMod G K l0 RX9 cX9_isUnder (rmL 2 80) 3 (some .boolean) (some (.int (b2i a))) σ) (k : Int32 → Option Bool) (hk : ∀ (e2 : Int32), sV wMod G K a σ 19 [(0, .int v0), (1, .int v1), (2, .int e2)] [] (k e2)) : ∀ (n : Nat) (i2 : Int32), sV wMod G K a σ 2 [(0, .int v0), (1, .int v1), (2, .int i2)] [] (fX9_isUnder_L2 v1 σ k n i2) := by
  intro n
  induction n with
  | zero =>
    intro i2
    exact sV.no
  | succ n ih =>
    intro i2
    rw [fX9_isUnder_L2]
    refine r_iload_n (q := 3) hK dX9_isUnder_2 rfl rfl 2 rfl ?_
    refine r_if_lt (t := 19) (q := 6) hK dX9_isUnder_3 rfl rfl (fun c7 => ?_) (fun c7 => ?_)
    · exact sV.sub [0, 1, 2] (by rfl) (hk i2)
    · refine r_iload_n (q := 7) hK dX9_isUnder_6 rfl rfl 2 rfl ?_
      refine r_iload_n (q := 8) hK dX9_isUnder_7 rfl rfl 1 rfl ?_
      refine r_icmp_eq (t := 19) (q := 11) hK dX9_isUnder_8 rfl rfl (fun c8 => ?_) (fun c8 => ?_)
      · exact sV.sub [0, 1, 2] (by rfl) (hk i2)
      · refine r_iload_n (q := 12) hK dX9_isUnder_11 rfl rfl 2 rfl ?_
        refine callS_i (q := 15) (As := [.int i2]) (rest := []) (f := (fX9_above i2 σ)) hK dX9_isUnder_12 rfl (fun b hb => c_X9_above i2 σ b hb) ms_X9_above rfl rfl (Nat.le_of_ble_eq_true rfl) tw_958 mw_X9_above (rmOk (Nat.le_of_ble_eq_true rfl) (Nat.le_of_ble_eq_true rfl)) (fun r9 => ?_)
        refine r_istore_n (q := 16) (loc' := [(2, .int r9), (0, .int v0), (1, .int v1)]) hK dX9_isUnder_15 rfl rfl (by decide) rfl ?_
        refine r_goto (q := 2) hK dX9_isUnder_16 rfl ?_
        exact sV.sub [1, 2, 0] (by rfl) (ih r9)
def fX9_isUnder  (a0 : Int32) (a1 : Int32) (σ : Store) : Option Bool := (fX9_isUnder_L2 a1 σ (fun x10 => (if x10 < 0 then (some false) else (some true))) FU a0)
theorem c_X9_isUnder {l0 : Launch} {G : Geo} (a0 : Int32) (a1 : Int32) (σ : Store) (a : Bool) (hf : fX9_isUnder  a0 a1 σ = some a) : sCon l0 wMod G yX9_isUnder cX9_isUnder 3 (some .boolean) (rmL 2 80) [.int a0, .int a1] σ (some (.int (b2i a))) σ := by
  refine sCon.of (by decide) ⟨rfl, rfl⟩ (Nat.le_of_ble_eq_true rfl) RX9 rfl _ hf (fun K hK => ?_)
  show sV wMod G K a σ 0 [(0, .int a0), (1, .int a1)] [] _
  unfold fX9_isUnder
  refine r_iload_n (q := 1) hK dX9_isUnder_0 rfl rfl 0 rfl ?_
  refine r_istore_n (q := 2) (loc' := [(2, .int a0), (0, .int a0), (1, .int a1)]) hK dX9_isUnder_1 rfl rfl (by decide) rfl ?_
  refine sV.sub [1, 2, 0] (by rfl) (vX9_isUnder_L2 σ a0 a1 hK _ (fun x10 => ?_) FU a0)
  refine r_iload_n (q := 20) hK dX9_isUnder_19 rfl rfl 2 rfl ?_
  refine r_if_lt (t := 27) (q := 23) hK dX9_isUnder_20 rfl rfl (fun c11 => ?_) (fun c11 => ?_)
  · refine r_iconst (q := 28) (v := 0) hK dX9_isUnder_27 rfl rfl ?_
    exact e_b (b := false) hK dX9_isUnder_28
  · refine r_iconst (q := 24) (v := 1) hK dX9_isUnder_23 rfl rfl ?_
    refine r_goto (q := 28) hK dX9_isUnder_24 rfl ?_
    exact e_b (b := true) hK dX9_isUnder_28
def fX9_counting_L4  (v1 : Int32) (σ : Store) : Nat → Int32 → Int32 → Option Int32
  | 0, _, _ => none
  | n + 1, i2, i3 => (six 1480 (7 : Int32) (if (σ 1 (snx (7 : Int32))) ≤ i3 then (some i2) else (six 1480 (((80 : Int32) + ((100 : Int32) * i3)) + (0 : Int32)) (if ¬ (σ 1 (snx (((80 : Int32) + ((100 : Int32) * i3)) + (0 : Int32)))) = v1 then (fX9_counting_L4 v1 σ n i2 (i3 + (1 : Int32))) else (fX9_counting_L4 v1 σ n i3 (i3 + (1 : Int32)))))))
theorem vX9_counting_L4 {G : Geo} {K : KT} {l0 : Launch} (σ : Store) {a : Int32} (v1 : Int32) (hK : sOk wMod G K l0 RX9 cX9_counting (rmL 1 60) 4 (some .int) (some (.int a)) σ) : ∀ (n : Nat) (i2 : Int32) (i3 : Int32), sV wMod G K a σ 4 [(0, .ref (gad G 0)), (1, .int v1), (2, .int i2), (3, .int i3)] [] (fX9_counting_L4 v1 σ n i2 i3) := by
  intro n
  induction n with
  | zero =>
    intro i2 i3
    exact sV.no
  | succ n ih =>
    intro i2 i3
    rw [fX9_counting_L4]
    refine r_iload_n (q := 5) hK dX9_counting_4 rfl rfl 3 rfl ?_
    refine r_aload_n (q := 6) hK dX9_counting_5 rfl rfl 0 rfl ?_
    refine gf_9_0 (q := 9) hK dX9_counting_6 rfl tw_804 ?_
    refine r_bipush (q := 11) (v := 7) hK dX9_counting_9 rfl rfl ?_
    refine r_iald (q := 12) hK dX9_counting_11 rfl aM1 (fun h9 => ?_)
    refine r_icmp_ge (t := 45) (q := 15) hK dX9_counting_12 rfl rfl (fun c10 => ?_) (fun c10 => ?_)
    · refine r_iload_n (q := 46) hK dX9_counting_45 rfl rfl 2 rfl ?_
      exact e_i hK dX9_counting_46
    · refine r_aload_n (q := 16) hK dX9_counting_15 rfl rfl 0 rfl ?_
      refine gf_9_0 (q := 19) hK dX9_counting_16 rfl tw_804 ?_
      refine r_bipush (q := 21) (v := 80) hK dX9_counting_19 rfl rfl ?_
      refine r_bipush (q := 23) (v := 100) hK dX9_counting_21 rfl rfl ?_
      refine r_iload_n (q := 24) hK dX9_counting_23 rfl rfl 3 rfl ?_
      refine r_imul (q := 25) hK dX9_counting_24 rfl ?_
      refine r_iadd (q := 26) hK dX9_counting_25 rfl ?_
      refine r_iconst (q := 27) (v := 0) hK dX9_counting_26 rfl rfl ?_
      refine r_iadd (q := 28) hK dX9_counting_27 rfl ?_
      refine r_iald (q := 29) hK dX9_counting_28 rfl aM1 (fun h11 => ?_)
      refine r_iload_n (q := 30) hK dX9_counting_29 rfl rfl 1 rfl ?_
      refine r_icmp_ne (t := 37) (q := 33) hK dX9_counting_30 rfl rfl (fun c12 => ?_) (fun c12 => ?_)
      · refine r_iload_n (q := 38) hK dX9_counting_37 rfl rfl 2 rfl ?_
        refine r_istore_n (q := 39) (loc' := [(2, .int i2), (0, .ref (gad G 0)), (1, .int v1), (3, .int i3)]) hK dX9_counting_38 rfl rfl (by decide) rfl ?_
        refine r_iinc (q := 42) (v := (i3 + (1 : Int32))) (loc' := [(3, .int (i3 + (1 : Int32))), (2, .int i2), (0, .ref (gad G 0)), (1, .int v1)]) hK dX9_counting_39 rfl 3 rfl rfl (by decide) rfl ?_
        refine r_goto (q := 4) hK dX9_counting_42 rfl ?_
        exact sV.sub [2, 3, 1, 0] (by rfl) (ih i2 (i3 + (1 : Int32)))
      · refine r_iload_n (q := 34) hK dX9_counting_33 rfl rfl 3 rfl ?_
        refine r_goto (q := 38) hK dX9_counting_34 rfl ?_
        refine r_istore_n (q := 39) (loc' := [(2, .int i3), (0, .ref (gad G 0)), (1, .int v1), (3, .int i3)]) hK dX9_counting_38 rfl rfl (by decide) rfl ?_
        refine r_iinc (q := 42) (v := (i3 + (1 : Int32))) (loc' := [(3, .int (i3 + (1 : Int32))), (2, .int i3), (0, .ref (gad G 0)), (1, .int v1)]) hK dX9_counting_39 rfl 3 rfl rfl (by decide) rfl ?_
        refine r_goto (q := 4) hK dX9_counting_42 rfl ?_
        exact sV.sub [2, 3, 1, 0] (by rfl) (ih i3 (i3 + (1 : Int32)))
def fX9_counting  (a1 : Int32) (σ : Store) : Option Int32 := (fX9_counting_L4 a1 σ FU (-1 : Int32) (0 : Int32))
theorem c_X9_counting {l0 : Launch} {G : Geo} (a1 : Int32) (σ : Store) (a : Int32) (hf : fX9_counting  a1 σ = some a) : sCon l0 wMod G yX9_counting cX9_counting 4 (some .int) (rmL 1 60) [.ref (gad G 0), .int a1] σ (some (.int a)) σ := by
  refine sCon.of (by decide) ⟨rfl, rfl⟩ (Nat.le_of_ble_eq_true rfl) RX9 rfl _ hf (fun K hK => ?_)
  show sV wMod G K a σ 0 [(0, .ref (gad G 0)), (1, .int a1)] [] _
  unfold fX9_counting
  refine r_iconst (q := 1) (v := -1) hK dX9_counting_0 rfl rfl ?_
  refine r_istore_n (q := 2) (loc' := [(2, .int (-1 : Int32)), (0, .ref (gad G 0)), (1, .int a1)]) hK dX9_counting_1 rfl rfl (by decide) rfl ?_
  refine r_iconst (q := 3) (v := 0) hK dX9_counting_2 rfl rfl ?_
  refine r_istore_n (q := 4) (loc' := [(3, .int (0 : Int32)), (2, .int (-1 : Int32)), (0, .ref (gad G 0)), (1, .int a1)]) hK dX9_counting_3 rfl rfl (by decide) rfl ?_
  exact sV.sub [2, 3, 1, 0] (by rfl) (vX9_counting_L4 σ a1 hK FU (-1 : Int32) (0 : Int32))
def fX9_done  (a0 : Int32) (a1 : Int32) (a2 : Int32) (σ : Store) : Option Int32 := (if a0 = (-27 : Int32) then (some (a1 * a2)) else (if a0 = (-26 : Int32) then (some (a1 - a2)) else (if a0 = (-25 : Int32) then (some (a1 + a2)) else (if a0 = (-24 : Int32) then (if a1 ≤ a2 then (some (0 : Int32)) else (some (1 : Int32))) else (if a0 = (-23 : Int32) then (if ¬ a1 = a2 then (some (0 : Int32)) else (some (1 : Int32))) else (if a0 = (-22 : Int32) then (if a2 ≤ a1 then (some (0 : Int32)) else (some (1 : Int32))) else (if a0 = (-21 : Int32) then (if a1 = 0 then (some (0 : Int32)) else (if a2 = 0 then (some (0 : Int32)) else (some (1 : Int32)))) else (if a0 = (-20 : Int32) then (if ¬ a1 = 0 then (some (1 : Int32)) else (if a2 = 0 then (some (0 : Int32)) else (some (1 : Int32)))) else (if ¬ a2 = 0 then (sdz a2 (some (a1 / a2))) else (some (0 : Int32)))))))))))
theorem c_X9_done {l0 : Launch} {G : Geo} (a0 : Int32) (a1 : Int32) (a2 : Int32) (σ : Store) (a : Int32) (hf : fX9_done  a0 a1 a2 σ = some a) : sCon l0 wMod G yX9_done cX9_done 3 (some .int) (rmL 1 60) [.int a0, .int a1, .int a2] σ (some (.int a)) σ := by
  refine sCon.of (by decide) ⟨rfl, rfl⟩ (Nat.le_of_ble_eq_true rfl) RX9 rfl _ hf (fun K hK => ?_)
  show sV wMod G K a σ 0 [(0, .int a0), (1, .int a1), (2, .int a2)] [] _
  unfold fX9_done
  refine r_iload_n (q := 1) hK dX9_done_0 rfl rfl 0 rfl ?_
  refine sV.ite (fun c1 => ?_) (fun c1 => ?_)
  · refine r_tsI (t := 117) (-27 : Int32) hK dX9_done_1 c1 (by decide) (by decide) rfl rfl ?_
    refine r_iload_n (q := 118) hK dX9_done_117 rfl rfl 1 rfl ?_
    refine r_iload_n (q := 119) hK dX9_done_118 rfl rfl 2 rfl ?_
    refine r_imul (q := 120) hK dX9_done_119 rfl ?_
    exact e_i hK dX9_done_120
  · refine sV.ite (fun c2 => ?_) (fun c2 => ?_)
    · refine r_tsI (t := 113) (-26 : Int32) hK dX9_done_1 c2 (by decide) (by decide) rfl rfl ?_
      refine r_iload_n (q := 114) hK dX9_done_113 rfl rfl 1 rfl ?_
      refine r_iload_n (q := 115) hK dX9_done_114 rfl rfl 2 rfl ?_
      refine r_isub (q := 116) hK dX9_done_115 rfl ?_
      exact e_i hK dX9_done_116
    · refine sV.ite (fun c3 => ?_) (fun c3 => ?_)
      · refine r_tsI (t := 109) (-25 : Int32) hK dX9_done_1 c3 (by decide) (by decide) rfl rfl ?_
        refine r_iload_n (q := 110) hK dX9_done_109 rfl rfl 1 rfl ?_
        refine r_iload_n (q := 111) hK dX9_done_110 rfl rfl 2 rfl ?_
        refine r_iadd (q := 112) hK dX9_done_111 rfl ?_
        exact e_i hK dX9_done_112
      · refine sV.ite (fun c4 => ?_) (fun c4 => ?_)
        · refine r_tsI (t := 98) (-24 : Int32) hK dX9_done_1 c4 (by decide) (by decide) rfl rfl ?_
          refine r_iload_n (q := 99) hK dX9_done_98 rfl rfl 1 rfl ?_
          refine r_iload_n (q := 100) hK dX9_done_99 rfl rfl 2 rfl ?_
          refine r_icmp_le (t := 107) (q := 103) hK dX9_done_100 rfl rfl (fun c5 => ?_) (fun c5 => ?_)
          · refine r_iconst (q := 108) (v := 0) hK dX9_done_107 rfl rfl ?_
            exact e_i hK dX9_done_108
          · refine r_iconst (q := 104) (v := 1) hK dX9_done_103 rfl rfl ?_
            refine r_goto (q := 108) hK dX9_done_104 rfl ?_
            exact e_i hK dX9_done_108
        · refine sV.ite (fun c6 => ?_) (fun c6 => ?_)
          · refine r_tsI (t := 87) (-23 : Int32) hK dX9_done_1 c6 (by decide) (by decide) rfl rfl ?_
            refine r_iload_n (q := 88) hK dX9_done_87 rfl rfl 1 rfl ?_
            refine r_iload_n (q := 89) hK dX9_done_88 rfl rfl 2 rfl ?_
            refine r_icmp_ne (t := 96) (q := 92) hK dX9_done_89 rfl rfl (fun c7 => ?_) (fun c7 => ?_)
            · refine r_iconst (q := 97) (v := 0) hK dX9_done_96 rfl rfl ?_
              exact e_i hK dX9_done_97
            · refine r_iconst (q := 93) (v := 1) hK dX9_done_92 rfl rfl ?_
              refine r_goto (q := 97) hK dX9_done_93 rfl ?_
              exact e_i hK dX9_done_97
          · refine sV.ite (fun c8 => ?_) (fun c8 => ?_)
            · refine r_tsI (t := 76) (-22 : Int32) hK dX9_done_1 c8 (by decide) (by decide) rfl rfl ?_
              refine r_iload_n (q := 77) hK dX9_done_76 rfl rfl 1 rfl ?_
              refine r_iload_n (q := 78) hK dX9_done_77 rfl rfl 2 rfl ?_
              refine r_icmp_ge (t := 85) (q := 81) hK dX9_done_78 rfl rfl (fun c9 => ?_) (fun c9 => ?_)
              · refine r_iconst (q := 86) (v := 0) hK dX9_done_85 rfl rfl ?_
                exact e_i hK dX9_done_86
              · refine r_iconst (q := 82) (v := 1) hK dX9_done_81 rfl rfl ?_
                refine r_goto (q := 86) hK dX9_done_82 rfl ?_
                exact e_i hK dX9_done_86
            · refine sV.ite (fun c10 => ?_) (fun c10 => ?_)
              · refine r_tsI (t := 62) (-21 : Int32) hK dX9_done_1 c10 (by decide) (by decide) rfl rfl ?_
                refine r_iload_n (q := 63) hK dX9_done_62 rfl rfl 1 rfl ?_
                refine r_if_eq (t := 74) (q := 66) hK dX9_done_63 rfl rfl (fun c11 => ?_) (fun c11 => ?_)
                · refine r_iconst (q := 75) (v := 0) hK dX9_done_74 rfl rfl ?_
                  exact e_i hK dX9_done_75
                · refine r_iload_n (q := 67) hK dX9_done_66 rfl rfl 2 rfl ?_
                  refine r_if_eq (t := 74) (q := 70) hK dX9_done_67 rfl rfl (fun c12 => ?_) (fun c12 => ?_)
                  · refine r_iconst (q := 75) (v := 0) hK dX9_done_74 rfl rfl ?_
                    exact e_i hK dX9_done_75
                  · refine r_iconst (q := 71) (v := 1) hK dX9_done_70 rfl rfl ?_
                    refine r_goto (q := 75) hK dX9_done_71 rfl ?_
                    exact e_i hK dX9_done_75
              · refine sV.ite (fun c13 => ?_) (fun c13 => ?_)
                · refine r_tsI (t := 48) (-20 : Int32) hK dX9_done_1 c13 (by decide) (by decide) rfl rfl ?_
                  refine r_iload_n (q := 49) hK dX9_done_48 rfl rfl 1 rfl ?_
                  refine r_if_ne (t := 56) (q := 52) hK dX9_done_49 rfl rfl (fun c14 => ?_) (fun c14 => ?_)
                  · refine r_iconst (q := 57) (v := 1) hK dX9_done_56 rfl rfl ?_
                    refine r_goto (q := 61) hK dX9_done_57 rfl ?_
                    exact e_i hK dX9_done_61
                  · refine r_iload_n (q := 53) hK dX9_done_52 rfl rfl 2 rfl ?_
                    refine r_if_eq (t := 60) (q := 56) hK dX9_done_53 rfl rfl (fun c15 => ?_) (fun c15 => ?_)
                    · refine r_iconst (q := 61) (v := 0) hK dX9_done_60 rfl rfl ?_
                      exact e_i hK dX9_done_61
                    · refine r_iconst (q := 57) (v := 1) hK dX9_done_56 rfl rfl ?_
                      refine r_goto (q := 61) hK dX9_done_57 rfl ?_
                      exact e_i hK dX9_done_61
                · have ec1 : ¬ (a0).toInt = -27 := ne_ti c1
                  have ec2 : ¬ (a0).toInt = -26 := ne_ti c2
                  have ec3 : ¬ (a0).toInt = -25 := ne_ti c3
                  have ec4 : ¬ (a0).toInt = -24 := ne_ti c4
                  have ec6 : ¬ (a0).toInt = -23 := ne_ti c6
                  have ec8 : ¬ (a0).toInt = -22 := ne_ti c8
                  have ec10 : ¬ (a0).toInt = -21 := ne_ti c10
                  have ec13 : ¬ (a0).toInt = -20 := ne_ti c13
                  refine r_tsO (t := 121) hK dX9_done_1 (by omega) rfl ?_
                  refine r_iload_n (q := 122) hK dX9_done_121 rfl rfl 2 rfl ?_
                  refine r_if_ne (t := 129) (q := 125) hK dX9_done_122 rfl rfl (fun c16 => ?_) (fun c16 => ?_)
                  · refine r_iload_n (q := 130) hK dX9_done_129 rfl rfl 1 rfl ?_
                    refine r_iload_n (q := 131) hK dX9_done_130 rfl rfl 2 rfl ?_
                    refine r_idiv (q := 132) hK dX9_done_131 rfl ?_
                    exact e_i hK dX9_done_132
                  · refine r_iconst (q := 126) (v := 0) hK dX9_done_125 rfl rfl ?_
                    refine r_goto (q := 132) hK dX9_done_126 rfl ?_
                    exact e_i hK dX9_done_132
def fX9_worked_L13  (v2 : Int32) (k : Int32 → Int32 → Store → Option (Int32 × Store)) : Nat → Int32 → Int32 → Store → Option (Int32 × Store)
  | 0, _, _, _ => none
  | n + 1, i3, i4, τ => (six 1480 (v2 + (2 : Int32)) (if (τ 1 (snx (v2 + (2 : Int32)))) ≤ i4 then (k i3 i4 τ) else (six 1480 ((v2 + (3 : Int32)) + i4) (slt (τ 1 (snx ((v2 + (3 : Int32)) + i4))) fun x49 => (if x49 < 0 then (if x49 < (-10 : Int32) then (if ¬ x49 = (-29 : Int32) then (six 100 ((i3 + (-1 : Int32)) - (1 : Int32)) (six 100 (i3 + (-1 : Int32)) (sbd (fX9_done x49 (τ 10 (snx ((i3 + (-1 : Int32)) - (1 : Int32)))) (τ 10 (snx (i3 + (-1 : Int32)))) τ) fun r55 => (six 100 ((i3 + (-1 : Int32)) - (1 : Int32)) (slt (sup τ 10 (snx ((i3 + (-1 : Int32)) - (1 : Int32))) r55) fun s57 => (fX9_worked_L13 v2 k n (i3 + (-1 : Int32)) (i4 + (1 : Int32)) s57)))))) else (six 100 (i3 - (1 : Int32)) (sjn (fun k117 : Bool → Option (Int32 × Store) => (if ¬ (τ 10 (snx (i3 - (1 : Int32)))) = 0 then (k117 false) else (k117 true))) (fun (z0_117 : Bool) => (six 100 (i3 - (1 : Int32)) (slt (sup τ 10 (snx (i3 - (1 : Int32))) (b2i z0_117)) fun s61 => (fX9_worked_L13 v2 k n i3 (i4 + (1 : Int32)) s61))))))) else (six 3 (x49 - (-10 : Int32)) (six 100 i3 (slt (sup τ 10 (snx i3) (τ 9 (snx (x49 - (-10 : Int32))))) fun s65 => (fX9_worked_L13 v2 k n (i3 + (1 : Int32)) (i4 + (1 : Int32)) s65))))) else (six 100 i3 (slt (sup τ 10 (snx i3) x49) fun s67 => (fX9_worked_L13 v2 k n (i3 + (1 : Int32)) (i4 + (1 : Int32)) s67))))))))
theorem vX9_worked_L13 {G : Geo} {K : KT} {l0 : Launch} (σ : Store) {a : (Int32 × Store)} (v1 : Int32) (v2 : Int32) (hK : sOk wMod G K l0 RX9 cX9_worked (rmL 2 82) 6 (some .int) (some (.int a.1)) a.2) (k : Int32 → Int32 → Store → Option (Int32 × Store)) (hk : ∀ (e3 : Int32) (e4 : Int32) (ε : Store), sV wMod G K a ε 157 [(0, .ref (gad G 0)), (1, .int v1), (2, .int v2), (3, .int e3), (4, .int e4)] [] (k e3 e4 ε)) : ∀ (n : Nat) (i3 : Int32) (i4 : Int32) (τ : Store), sV wMod G K a τ 13 [(0, .ref (gad G 0)), (1, .int v1), (2, .int v2), (3, .int i3), (4, .int i4)] [] (fX9_worked_L13 v2 k n i3 i4 τ) := by
  intro n
  induction n with
  | zero =>
    intro i3 i4 τ
    exact sV.no
  | succ n ih =>
    intro i3 i4 τ
    rw [fX9_worked_L13]
    refine r_iload (q := 15) hK dX9_worked_13 rfl 4 rfl ?_
    refine r_aload_n (q := 16) hK dX9_worked_15 rfl rfl 0 rfl ?_
    refine gf_9_0 (q := 19) hK dX9_worked_16 rfl tw_804 ?_
    refine r_iload_n (q := 20) hK dX9_worked_19 rfl rfl 2 rfl ?_
    refine r_iconst (q := 21) (v := 2) hK dX9_worked_20 rfl rfl ?_
    refine r_iadd (q := 22) hK dX9_worked_21 rfl ?_
    refine r_iald (q := 23) hK dX9_worked_22 rfl aM1 (fun h46 => ?_)
    refine r_icmp_ge (t := 157) (q := 26) hK dX9_worked_23 rfl rfl (fun c47 => ?_) (fun c47 => ?_)
    · exact sV.sub [0, 1, 2, 3, 4] (by rfl) (hk i3 i4 τ)
    · refine r_aload_n (q := 27) hK dX9_worked_26 rfl rfl 0 rfl ?_
      refine gf_9_0 (q := 30) hK dX9_worked_27 rfl tw_804 ?_
      refine r_iload_n (q := 31) hK dX9_worked_30 rfl rfl 2 rfl ?_
      refine r_iconst (q := 32) (v := 3) hK dX9_worked_31 rfl rfl ?_
      refine r_iadd (q := 33) hK dX9_worked_32 rfl ?_
      refine r_iload (q := 35) hK dX9_worked_33 rfl 4 rfl ?_
      refine r_iadd (q := 36) hK dX9_worked_35 rfl ?_
      refine r_iald (q := 37) hK dX9_worked_36 rfl aM1 (fun h48 => ?_)
      refine sV.ltI (fun x49 => ?_)
      refine r_istore (q := 39) (loc' := [(5, .int x49), (0, .ref (gad G 0)), (1, .int v1), (2, .int v2), (3, .int i3), (4, .int i4)]) hK dX9_worked_37 rfl (by decide) rfl ?_
      refine r_iload (q := 41) hK dX9_worked_39 rfl 0 rfl ?_
      refine r_if_lt (t := 58) (q := 44) hK dX9_worked_41 rfl rfl (fun c50 => ?_) (fun c50 => ?_)
      · refine r_iload (q := 60) hK dX9_worked_58 rfl 0 rfl ?_
        refine r_bipush (q := 62) (v := -10) hK dX9_worked_60 rfl rfl ?_
        refine r_icmp_lt (t := 87) (q := 65) hK dX9_worked_62 rfl rfl (fun c51 => ?_) (fun c51 => ?_)
        · refine r_iload (q := 89) hK dX9_worked_87 rfl 0 rfl ?_
          refine r_bipush (q := 91) (v := -29) hK dX9_worked_89 rfl rfl ?_
          refine r_icmp_ne (t := 121) (q := 94) hK dX9_worked_91 rfl rfl (fun c52 => ?_) (fun c52 => ?_)
          · refine r_iinc (q := 124) (v := (i3 + (-1 : Int32))) (loc' := [(3, .int (i3 + (-1 : Int32))), (5, .int x49), (0, .ref (gad G 0)), (1, .int v1), (2, .int v2), (4, .int i4)]) hK dX9_worked_121 rfl 4 rfl rfl (by decide) rfl ?_
            refine r_aload_n (q := 125) hK dX9_worked_124 rfl rfl 2 rfl ?_
            refine gf_9_20 (q := 128) hK dX9_worked_125 rfl tw_824 ?_
            refine r_iload_n (q := 129) hK dX9_worked_128 rfl rfl 0 rfl ?_
            refine r_iconst (q := 130) (v := 1) hK dX9_worked_129 rfl rfl ?_
            refine r_isub (q := 131) hK dX9_worked_130 rfl ?_
            refine r_iload (q := 133) hK dX9_worked_131 rfl 1 rfl ?_
            refine r_aload_n (q := 134) hK dX9_worked_133 rfl rfl 2 rfl ?_
            refine gf_9_20 (q := 137) hK dX9_worked_134 rfl tw_824 ?_
            refine r_iload_n (q := 138) hK dX9_worked_137 rfl rfl 0 rfl ?_
            refine r_iconst (q := 139) (v := 1) hK dX9_worked_138 rfl rfl ?_
            refine r_isub (q := 140) hK dX9_worked_139 rfl ?_
            refine r_iald (q := 141) hK dX9_worked_140 rfl aM10 (fun h53 => ?_)
            refine r_aload_n (q := 142) hK dX9_worked_141 rfl rfl 2 rfl ?_
            refine gf_9_20 (q := 145) hK dX9_worked_142 rfl tw_824 ?_
            refine r_iload_n (q := 146) hK dX9_worked_145 rfl rfl 0 rfl ?_
            refine r_iald (q := 147) hK dX9_worked_146 rfl aM10 (fun h54 => ?_)
            refine callS_i (q := 150) (As := [.int x49, .int (τ 10 (snx ((i3 + (-1 : Int32)) - (1 : Int32)))), .int (τ 10 (snx (i3 + (-1 : Int32))))]) (rest := [.int ((i3 + (-1 : Int32)) - (1 : Int32)), .ref (gad G 10)]) (f := (fX9_done x49 (τ 10 (snx ((i3 + (-1 : Int32)) - (1 : Int32)))) (τ 10 (snx (i3 + (-1 : Int32)))) τ)) hK dX9_worked_147 rfl (fun b hb => c_X9_done x49 (τ 10 (snx ((i3 + (-1 : Int32)) - (1 : Int32)))) (τ 10 (snx (i3 + (-1 : Int32)))) τ b hb) ms_X9_done rfl rfl (Nat.le_of_ble_eq_true rfl) tw_940 mw_X9_done (rmOk (Nat.le_of_ble_eq_true rfl) (Nat.le_of_ble_eq_true rfl)) (fun r55 => ?_)
            refine r_iast (q := 151) hK dX9_worked_150 rfl aM10 (fun h56 => ?_)
            refine sV.ltS (fun s57 => ?_)
            refine r_iinc (q := 154) (v := (i4 + (1 : Int32))) (loc' := [(4, .int (i4 + (1 : Int32))), (3, .int (i3 + (-1 : Int32))), (5, .int x49), (0, .ref (gad G 0)), (1, .int v1), (2, .int v2)]) hK dX9_worked_151 rfl 5 rfl rfl (by decide) rfl ?_
            refine r_goto (q := 13) hK dX9_worked_154 rfl ?_
            exact sV.sub [3, 4, 5, 1, 0] (by rfl) (ih (i3 + (-1 : Int32)) (i4 + (1 : Int32)) s57)
          · refine r_aload_n (q := 95) hK dX9_worked_94 rfl rfl 1 rfl ?_
            refine gf_9_20 (q := 98) hK dX9_worked_95 rfl tw_824 ?_
            refine r_iload_n (q := 99) hK dX9_worked_98 rfl rfl 4 rfl ?_
            refine r_iconst (q := 100) (v := 1) hK dX9_worked_99 rfl rfl ?_
            refine r_isub (q := 101) hK dX9_worked_100 rfl ?_
            refine r_aload_n (q := 102) hK dX9_worked_101 rfl rfl 1 rfl ?_
            refine gf_9_20 (q := 105) hK dX9_worked_102 rfl tw_824 ?_
            refine r_iload_n (q := 106) hK dX9_worked_105 rfl rfl 4 rfl ?_
            refine r_iconst (q := 107) (v := 1) hK dX9_worked_106 rfl rfl ?_
            refine r_isub (q := 108) hK dX9_worked_107 rfl ?_
            refine r_iald (q := 109) hK dX9_worked_108 rfl aM10 (fun h58 => ?_)
            refine sV.jn (fun k : Bool → Option (Int32 × Store) => ∀ (z0_117 : Bool), sV wMod G K a τ 117 [(0, .ref (gad G 0)), (1, .int v1), (2, .int v2), (3, .int i3), (4, .int i4), (5, .int x49)] [.int (b2i z0_117), .int (i3 - (1 : Int32)), .ref (gad G 10)] (k z0_117)) (fun z0_117 => ?_) (fun k117 hk117 => ?_)
            · refine r_iast (q := 118) hK dX9_worked_117 rfl aM10 (fun h60 => ?_)
              refine sV.ltS (fun s61 => ?_)
              refine r_goto (q := 151) hK dX9_worked_118 rfl ?_
              refine r_iinc (q := 154) (v := (i4 + (1 : Int32))) (loc' := [(4, .int (i4 + (1 : Int32))), (0, .ref (gad G 0)), (1, .int v1), (2, .int v2), (3, .int i3), (5, .int x49)]) hK dX9_worked_151 rfl 4 rfl rfl (by decide) rfl ?_
              refine r_goto (q := 13) hK dX9_worked_154 rfl ?_
              exact sV.sub [1, 2, 3, 4, 0] (by rfl) (ih i3 (i4 + (1 : Int32)) s61)
            · refine r_if_ne (t := 116) (q := 112) hK dX9_worked_109 rfl rfl (fun c62 => ?_) (fun c62 => ?_)
              · refine r_iconst (q := 117) (v := 0) hK dX9_worked_116 rfl rfl ?_
                exact sV.sub [1, 2, 3, 4, 5, 0] (by rfl) (hk117 false)
              · refine r_iconst (q := 113) (v := 1) hK dX9_worked_112 rfl rfl ?_
                refine r_goto (q := 117) hK dX9_worked_113 rfl ?_
                exact sV.sub [1, 2, 3, 4, 5, 0] (by rfl) (hk117 true)
        · refine r_aload_n (q := 66) hK dX9_worked_65 rfl rfl 1 rfl ?_
          refine gf_9_20 (q := 69) hK dX9_worked_66 rfl tw_824 ?_
          refine r_iload_n (q := 70) hK dX9_worked_69 rfl rfl 4 rfl ?_
          refine r_aload_n (q := 71) hK dX9_worked_70 rfl rfl 1 rfl ?_
          refine gf_9_19 (q := 74) hK dX9_worked_71 rfl tw_823 ?_
          refine r_iload (q := 76) hK dX9_worked_74 rfl 0 rfl ?_
          refine r_bipush (q := 78) (v := -10) hK dX9_worked_76 rfl rfl ?_
          refine r_isub (q := 79) hK dX9_worked_78 rfl ?_
          refine r_iald (q := 80) hK dX9_worked_79 rfl aM9 (fun h63 => ?_)
          refine r_iast (q := 81) hK dX9_worked_80 rfl aM10 (fun h64 => ?_)
          refine sV.ltS (fun s65 => ?_)
          refine r_iinc (q := 84) (v := (i3 + (1 : Int32))) (loc' := [(3, .int (i3 + (1 : Int32))), (5, .int x49), (0, .ref (gad G 0)), (1, .int v1), (2, .int v2), (4, .int i4)]) hK dX9_worked_81 rfl 4 rfl rfl (by decide) rfl ?_
          refine r_goto (q := 151) hK dX9_worked_84 rfl ?_
          refine r_iinc (q := 154) (v := (i4 + (1 : Int32))) (loc' := [(4, .int (i4 + (1 : Int32))), (3, .int (i3 + (1 : Int32))), (5, .int x49), (0, .ref (gad G 0)), (1, .int v1), (2, .int v2)]) hK dX9_worked_151 rfl 5 rfl rfl (by decide) rfl ?_
          refine r_goto (q := 13) hK dX9_worked_154 rfl ?_
          exact sV.sub [3, 4, 5, 1, 0] (by rfl) (ih (i3 + (1 : Int32)) (i4 + (1 : Int32)) s65)
      · refine r_aload_n (q := 45) hK dX9_worked_44 rfl rfl 1 rfl ?_
        refine gf_9_20 (q := 48) hK dX9_worked_45 rfl tw_824 ?_
        refine r_iload_n (q := 49) hK dX9_worked_48 rfl rfl 4 rfl ?_
        refine r_iload (q := 51) hK dX9_worked_49 rfl 0 rfl ?_
        refine r_iast (q := 52) hK dX9_worked_51 rfl aM10 (fun h66 => ?_)
        refine sV.ltS (fun s67 => ?_)
        refine r_iinc (q := 55) (v := (i3 + (1 : Int32))) (loc' := [(3, .int (i3 + (1 : Int32))), (5, .int x49), (0, .ref (gad G 0)), (1, .int v1), (2, .int v2), (4, .int i4)]) hK dX9_worked_52 rfl 4 rfl rfl (by decide) rfl ?_
        refine r_goto (q := 151) hK dX9_worked_55 rfl ?_
        refine r_iinc (q := 154) (v := (i4 + (1 : Int32))) (loc' := [(4, .int (i4 + (1 : Int32))), (3, .int (i3 + (1 : Int32))), (5, .int x49), (0, .ref (gad G 0)), (1, .int v1), (2, .int v2)]) hK dX9_worked_151 rfl 5 rfl rfl (by decide) rfl ?_
        refine r_goto (q := 13) hK dX9_worked_154 rfl ?_
        exact sV.sub [3, 4, 5, 1, 0] (by rfl) (ih (i3 + (1 : Int32)) (i4 + (1 : Int32)) s67)
def fX9_worked  (a1 : Int32) (σ : Store) : Option (Int32 × Store) := (slt ((80 : Int32) + ((100 : Int32) * a1)) fun x1 => (fX9_worked_L13 x1 (fun x68 x69 s70 => (six 100 (0 : Int32) (some ((s70 10 (snx (0 : Int32))), s70)))) FU (0 : Int32) (0 : Int32) σ))
theorem c_X9_worked {l0 : Launch} {G : Geo} (a1 : Int32) (σ : Store) (a : (Int32 × Store)) (hf : fX9_worked  a1 σ = some a) : sCon l0 wMod G yX9_worked cX9_worked 6 (some .int) (rmL 2 82) [.ref (gad G 0), .int a1] σ (some (.int a.1)) a.2 := by
  refine sCon.of (by decide) ⟨rfl, rfl⟩ (Nat.le_of_ble_eq_true rfl) RX9 rfl _ hf (fun K hK => ?_)
  show sV wMod G K a σ 0 [(0, .ref (gad G 0)), (1, .int a1)] [] _
  unfold fX9_worked
  refine r_bipush (q := 2) (v := 80) hK dX9_worked_0 rfl rfl ?_
  refine r_bipush (q := 4) (v := 100) hK dX9_worked_2 rfl rfl ?_
  refine r_iload_n (q := 5) hK dX9_worked_4 rfl rfl 1 rfl ?_
  refine r_imul (q := 6) hK dX9_worked_5 rfl ?_
  refine r_iadd (q := 7) hK dX9_worked_6 rfl ?_
  refine sV.ltI (fun x1 => ?_)
  refine r_istore_n (q := 8) (loc' := [(2, .int x1), (0, .ref (gad G 0)), (1, .int a1)]) hK dX9_worked_7 rfl rfl (by decide) rfl ?_
  refine r_iconst (q := 9) (v := 0) hK dX9_worked_8 rfl rfl ?_
  refine r_istore_n (q := 10) (loc' := [(3, .int (0 : Int32)), (2, .int x1), (0, .ref (gad G 0)), (1, .int a1)]) hK dX9_worked_9 rfl rfl (by decide) rfl ?_
  refine r_iconst (q := 11) (v := 0) hK dX9_worked_10 rfl rfl ?_
  refine r_istore (q := 13) (loc' := [(4, .int (0 : Int32)), (3, .int (0 : Int32)), (2, .int x1), (0, .ref (gad G 0)), (1, .int a1)]) hK dX9_worked_11 rfl (by decide) rfl ?_
  refine sV.sub [3, 4, 2, 1, 0] (by rfl) (vX9_worked_L13 σ a1 x1 hK _ (fun x68 x69 s70 => ?_) FU (0 : Int32) (0 : Int32) σ)
  refine r_aload_n (q := 158) hK dX9_worked_157 rfl rfl 0 rfl ?_
  refine gf_9_20 (q := 161) hK dX9_worked_158 rfl tw_824 ?_
  refine r_iconst (q := 162) (v := 0) hK dX9_worked_161 rfl rfl ?_
  refine r_iald (q := 163) hK dX9_worked_162 rfl aM10 (fun h71 => ?_)
  exact e_iS hK dX9_worked_163
def fX9_dutyOf  (a1 : Int32) (σ : Store) : Option (Int32 × Store) := (sbd (fX9_counting (0 : Int32) σ) fun r1 => (if 0 ≤ r1 then (sbd (fX9_wordIs a1 (2 : Int32) σ) fun r3 => (six 3 (0 : Int32) (slt (sup σ 9 (snx (0 : Int32)) r3) fun s5 => (sbd (fX9_wordIs a1 (5 : Int32) s5) fun r6 => (six 3 (1 : Int32) (slt (sup s5 9 (snx (1 : Int32)) r6) fun s8 => (sbd (fX9_wordIs a1 (3 : Int32) s8) fun r9 => (six 3 (2 : Int32) (slt (sup s8 9 (snx (2 : Int32)) r9) fun s11 => (sbd2 (fX9_worked r1 s11) fun r12 s13 => (some ((smax (0 : Int32) (smin (999 : Int32) r12)), s13)))))))))))) else (sbd (fX9_wordIs a1 (2 : Int32) σ) fun r14 => (some (r14, σ)))))
theorem c_X9_dutyOf {l0 : Launch} {G : Geo} (a1 : Int32) (σ : Store) (a : (Int32 × Store)) (hf : fX9_dutyOf  a1 σ = some a) : sCon l0 wMod G yX9_dutyOf cX9_dutyOf 3 (some .int) (rmL 3 107) [.ref (gad G 0), .int a1] σ (some (.int a.1)) a.2 := by
  refine sCon.of (by decide) ⟨rfl, rfl⟩ (Nat.le_of_ble_eq_true rfl) RX9 rfl _ hf (fun K hK => ?_)
  show sV wMod G K a σ 0 [(0, .ref (gad G 0)), (1, .int a1)] [] _
  unfold fX9_dutyOf
  refine r_aload_n (q := 1) hK dX9_dutyOf_0 rfl rfl 0 rfl ?_
  refine r_iconst (q := 2) (v := 0) hK dX9_dutyOf_1 rfl rfl ?_
  refine callV_i (q := 5) (j := 0) (As := [.int (0 : Int32)]) (rest := []) (f := (fX9_counting (0 : Int32) σ)) hK dX9_dutyOf_2 rfl (fun b hb => c_X9_counting (0 : Int32) σ b hb) ⟨9, _, _, _, by decide, rfl, cM, rfl⟩ mv_X9_counting rfl rfl (Nat.le_of_ble_eq_true rfl) tw_928 mw_X9_counting (rmOk (Nat.le_of_ble_eq_true rfl) (Nat.le_of_ble_eq_true rfl)) (fun r1 => ?_)
  refine r_istore_n (q := 6) (loc' := [(2, .int r1), (0, .ref (gad G 0)), (1, .int a1)]) hK dX9_dutyOf_5 rfl rfl (by decide) rfl ?_
  refine r_iload_n (q := 7) hK dX9_dutyOf_6 rfl rfl 0 rfl ?_
  refine r_if_ge (t := 17) (q := 10) hK dX9_dutyOf_7 rfl rfl (fun c2 => ?_) (fun c2 => ?_)
  · refine r_aload_n (q := 18) hK dX9_dutyOf_17 rfl rfl 1 rfl ?_
    refine gf_9_19 (q := 21) hK dX9_dutyOf_18 rfl tw_823 ?_
    refine r_iconst (q := 22) (v := 0) hK dX9_dutyOf_21 rfl rfl ?_
    refine r_aload_n (q := 23) hK dX9_dutyOf_22 rfl rfl 1 rfl ?_
    refine r_iload_n (q := 24) hK dX9_dutyOf_23 rfl rfl 2 rfl ?_
    refine r_iconst (q := 25) (v := 2) hK dX9_dutyOf_24 rfl rfl ?_
    refine callV_i (q := 28) (j := 0) (As := [.int a1, .int (2 : Int32)]) (rest := [.int (0 : Int32), .ref (gad G 9)]) (f := (fX9_wordIs a1 (2 : Int32) σ)) hK dX9_dutyOf_25 rfl (fun b hb => c_X9_wordIs a1 (2 : Int32) σ b hb) ⟨9, _, _, _, by decide, rfl, cM, rfl⟩ mv_X9_wordIs rfl rfl (Nat.le_of_ble_eq_true rfl) tw_932 mw_X9_wordIs (rmOk (Nat.le_of_ble_eq_true rfl) (Nat.le_of_ble_eq_true rfl)) (fun r3 => ?_)
    refine r_iast (q := 29) hK dX9_dutyOf_28 rfl aM9 (fun h4 => ?_)
    refine sV.ltS (fun s5 => ?_)
    refine r_aload_n (q := 30) hK dX9_dutyOf_29 rfl rfl 1 rfl ?_
    refine gf_9_19 (q := 33) hK dX9_dutyOf_30 rfl tw_823 ?_
    refine r_iconst (q := 34) (v := 1) hK dX9_dutyOf_33 rfl rfl ?_
    refine r_aload_n (q := 35) hK dX9_dutyOf_34 rfl rfl 1 rfl ?_
    refine r_iload_n (q := 36) hK dX9_dutyOf_35 rfl rfl 2 rfl ?_
    refine r_iconst (q := 37) (v := 5) hK dX9_dutyOf_36 rfl rfl ?_
    refine callV_i (q := 40) (j := 0) (As := [.int a1, .int (5 : Int32)]) (rest := [.int (1 : Int32), .ref (gad G 9)]) (f := (fX9_wordIs a1 (5 : Int32) s5)) hK dX9_dutyOf_37 rfl (fun b hb => c_X9_wordIs a1 (5 : Int32) s5 b hb) ⟨9, _, _, _, by decide, rfl, cM, rfl⟩ mv_X9_wordIs rfl rfl (Nat.le_of_ble_eq_true rfl) tw_932 mw_X9_wordIs (rmOk (Nat.le_of_ble_eq_true rfl) (Nat.le_of_ble_eq_true rfl)) (fun r6 => ?_)
    refine r_iast (q := 41) hK dX9_dutyOf_40 rfl aM9 (fun h7 => ?_)
    refine sV.ltS (fun s8 => ?_)
    refine r_aload_n (q := 42) hK dX9_dutyOf_41 rfl rfl 1 rfl ?_
    refine gf_9_19 (q := 45) hK dX9_dutyOf_42 rfl tw_823 ?_
    refine r_iconst (q := 46) (v := 2) hK dX9_dutyOf_45 rfl rfl ?_
    refine r_aload_n (q := 47) hK dX9_dutyOf_46 rfl rfl 1 rfl ?_
    refine r_iload_n (q := 48) hK dX9_dutyOf_47 rfl rfl 2 rfl ?_
    refine r_iconst (q := 49) (v := 3) hK dX9_dutyOf_48 rfl rfl ?_
    refine callV_i (q := 52) (j := 0) (As := [.int a1, .int (3 : Int32)]) (rest := [.int (2 : Int32), .ref (gad G 9)]) (f := (fX9_wordIs a1 (3 : Int32) s8)) hK dX9_dutyOf_49 rfl (fun b hb => c_X9_wordIs a1 (3 : Int32) s8 b hb) ⟨9, _, _, _, by decide, rfl, cM, rfl⟩ mv_X9_wordIs rfl rfl (Nat.le_of_ble_eq_true rfl) tw_932 mw_X9_wordIs (rmOk (Nat.le_of_ble_eq_true rfl) (Nat.le_of_ble_eq_true rfl)) (fun r9 => ?_)
    refine r_iast (q := 53) hK dX9_dutyOf_52 rfl aM9 (fun h10 => ?_)
    refine sV.ltS (fun s11 => ?_)
    refine r_iconst (q := 54) (v := 0) hK dX9_dutyOf_53 rfl rfl ?_
    refine r_sipush (q := 57) (v := 999) hK dX9_dutyOf_54 rfl rfl ?_
    refine r_aload_n (q := 58) hK dX9_dutyOf_57 rfl rfl 1 rfl ?_
    refine r_iload_n (q := 59) hK dX9_dutyOf_58 rfl rfl 0 rfl ?_
    refine callV_iS (q := 62) (j := 0) (As := [.int r1]) (rest := [.int (999 : Int32), .int (0 : Int32)]) (f := (fX9_worked r1 s11)) hK dX9_dutyOf_59 rfl (fun b hb => c_X9_worked r1 s11 b hb) ⟨9, _, _, _, by decide, rfl, cM, rfl⟩ mv_X9_worked rfl rfl (Nat.le_of_ble_eq_true rfl) tw_936 mw_X9_worked (rmOk (Nat.le_of_ble_eq_true rfl) (Nat.le_of_ble_eq_true rfl)) (fun r12 s13 => ?_)
    refine r_min (q := 65) hK dX9_dutyOf_62 rfl tw_943 mt_min (rmM (Nat.le_of_ble_eq_true rfl) (Nat.le_of_ble_eq_true rfl)) ?_
    refine r_max (q := 68) hK dX9_dutyOf_65 rfl tw_944 mt_max (rmM (Nat.le_of_ble_eq_true rfl) (Nat.le_of_ble_eq_true rfl)) ?_
    exact e_iS hK dX9_dutyOf_68
  · refine r_aload_n (q := 11) hK dX9_dutyOf_10 rfl rfl 1 rfl ?_
    refine r_iload_n (q := 12) hK dX9_dutyOf_11 rfl rfl 2 rfl ?_
    refine r_iconst (q := 13) (v := 2) hK dX9_dutyOf_12 rfl rfl ?_
    refine callV_i (q := 16) (j := 0) (As := [.int a1, .int (2 : Int32)]) (rest := []) (f := (fX9_wordIs a1 (2 : Int32) σ)) hK dX9_dutyOf_13 rfl (fun b hb => c_X9_wordIs a1 (2 : Int32) σ b hb) ⟨9, _, _, _, by decide, rfl, cM, rfl⟩ mv_X9_wordIs rfl rfl (Nat.le_of_ble_eq_true rfl) tw_932 mw_X9_wordIs (rmOk (Nat.le_of_ble_eq_true rfl) (Nat.le_of_ble_eq_true rfl)) (fun r14 => ?_)
    exact e_iS hK dX9_dutyOf_16
def fX9_costs  (a1 : Int32) (σ : Store) : Option (Int32 × Store) := (sbd2 (fX9_dutyOf a1 σ) fun r1 s2 => (sbd (fX9_wordIs a1 (5 : Int32) s2) fun r3 => (sbd (fX9_wordIs a1 (3 : Int32) s2) fun r4 => (sjn (fun k30 : Int32 → Option (Int32 × Store) => (if r3 < (r4 / (2 : Int32)) then (k30 r1) else (k30 ((2 : Int32) * r1)))) (fun (z0_30 : Int32) => (sbd (fX9_wordIs a1 (0 : Int32) s2) fun r6 => (if r6 = (1 : Int32) then (some (z0_30, s2)) else (if r6 = (2 : Int32) then (some ((r1 / (2 : Int32)), s2)) else (if r6 = (3 : Int32) then (some ((z0_30 + (3 : Int32)), s2)) else (if r6 = (4 : Int32) then (some ((smax (0 : Int32) ((r1 / (2 : Int32)) - (2 : Int32))), s2)) else (if r6 = (5 : Int32) then (some ((0 : Int32), s2)) else (some (r1, s2)))))))))))))
theorem c_X9_costs {l0 : Launch} {G : Geo} (a1 : Int32) (σ : Store) (a : (Int32 × Store)) (hf : fX9_costs  a1 σ = some a) : sCon l0 wMod G yX9_costs cX9_costs 4 (some .int) (rmL 4 129) [.ref (gad G 0), .int a1] σ (some (.int a.1)) a.2 := by
  refine sCon.of (by decide) ⟨rfl, rfl⟩ (Nat.le_of_ble_eq_true rfl) RX9 rfl _ hf (fun K hK => ?_)
  show sV wMod G K a σ 0 [(0, .ref (gad G 0)), (1, .int a1)] [] _
  unfold fX9_costs
  refine r_aload_n (q := 1) hK dX9_costs_0 rfl rfl 0 rfl ?_
  refine r_iload_n (q := 2) hK dX9_costs_1 rfl rfl 1 rfl ?_
  refine callV_iS (q := 5) (j := 0) (As := [.int a1]) (rest := []) (f := (fX9_dutyOf a1 σ)) hK dX9_costs_2 rfl (fun b hb => c_X9_dutyOf a1 σ b hb) ⟨9, _, _, _, by decide, rfl, cM, rfl⟩ mv_X9_dutyOf rfl rfl (Nat.le_of_ble_eq_true rfl) tw_924 mw_X9_dutyOf (rmOk (Nat.le_of_ble_eq_true rfl) (Nat.le_of_ble_eq_true rfl)) (fun r1 s2 => ?_)
  refine r_istore_n (q := 6) (loc' := [(2, .int r1), (0, .ref (gad G 0)), (1, .int a1)]) hK dX9_costs_5 rfl rfl (by decide) rfl ?_
  refine r_aload_n (q := 7) hK dX9_costs_6 rfl rfl 1 rfl ?_
  refine r_iload_n (q := 8) hK dX9_costs_7 rfl rfl 2 rfl ?_
  refine r_iconst (q := 9) (v := 5) hK dX9_costs_8 rfl rfl ?_
  refine callV_i (q := 12) (j := 0) (As := [.int a1, .int (5 : Int32)]) (rest := []) (f := (fX9_wordIs a1 (5 : Int32) s2)) hK dX9_costs_9 rfl (fun b hb => c_X9_wordIs a1 (5 : Int32) s2 b hb) ⟨9, _, _, _, by decide, rfl, cM, rfl⟩ mv_X9_wordIs rfl rfl (Nat.le_of_ble_eq_true rfl) tw_932 mw_X9_wordIs (rmOk (Nat.le_of_ble_eq_true rfl) (Nat.le_of_ble_eq_true rfl)) (fun r3 => ?_)
  refine r_aload_n (q := 13) hK dX9_costs_12 rfl rfl 1 rfl ?_
  refine r_iload_n (q := 14) hK dX9_costs_13 rfl rfl 2 rfl ?_
  refine r_iconst (q := 15) (v := 3) hK dX9_costs_14 rfl rfl ?_
  refine callV_i (q := 18) (j := 0) (As := [.int a1, .int (3 : Int32)]) (rest := [.int r3]) (f := (fX9_wordIs a1 (3 : Int32) s2)) hK dX9_costs_15 rfl (fun b hb => c_X9_wordIs a1 (3 : Int32) s2 b hb) ⟨9, _, _, _, by decide, rfl, cM, rfl⟩ mv_X9_wordIs rfl rfl (Nat.le_of_ble_eq_true rfl) tw_932 mw_X9_wordIs (rmOk (Nat.le_of_ble_eq_true rfl) (Nat.le_of_ble_eq_true rfl)) (fun r4 => ?_)
  refine r_iconst (q := 19) (v := 2) hK dX9_costs_18 rfl rfl ?_
  refine r_idivc (q := 20) hK dX9_costs_19 rfl (by decide) ?_
  refine sV.jn (fun k : Int32 → Option (Int32 × Store) => ∀ (z0_30 : Int32), sV wMod G K a s2 30 [(0, .ref (gad G 0)), (1, .int a1), (2, .int r1)] [.int z0_30] (k z0_30)) (fun z0_30 => ?_) (fun k30 hk30 => ?_)
  · refine r_istore_n (q := 31) (loc' := [(3, .int z0_30), (0, .ref (gad G 0)), (1, .int a1), (2, .int r1)]) hK dX9_costs_30 rfl rfl (by decide) rfl ?_
    refine r_aload_n (q := 32) hK dX9_costs_31 rfl rfl 1 rfl ?_
    refine r_iload_n (q := 33) hK dX9_costs_32 rfl rfl 2 rfl ?_
    refine r_iconst (q := 34) (v := 0) hK dX9_costs_33 rfl rfl ?_
    refine callV_i (q := 37) (j := 0) (As := [.int a1, .int (0 : Int32)]) (rest := []) (f := (fX9_wordIs a1 (0 : Int32) s2)) hK dX9_costs_34 rfl (fun b hb => c_X9_wordIs a1 (0 : Int32) s2 b hb) ⟨9, _, _, _, by decide, rfl, cM, rfl⟩ mv_X9_wordIs rfl rfl (Nat.le_of_ble_eq_true rfl) tw_932 mw_X9_wordIs (rmOk (Nat.le_of_ble_eq_true rfl) (Nat.le_of_ble_eq_true rfl)) (fun r6 => ?_)
    refine sV.ite (fun c7 => ?_) (fun c7 => ?_)
    · refine r_tsI (t := 72) (1 : Int32) hK dX9_costs_37 c7 (by decide) (by decide) rfl rfl ?_
      refine r_iload_n (q := 73) hK dX9_costs_72 rfl rfl 0 rfl ?_
      exact e_iS hK dX9_costs_73
    · refine sV.ite (fun c8 => ?_) (fun c8 => ?_)
      · refine r_tsI (t := 78) (2 : Int32) hK dX9_costs_37 c8 (by decide) (by decide) rfl rfl ?_
        refine r_iload_n (q := 79) hK dX9_costs_78 rfl rfl 3 rfl ?_
        refine r_iconst (q := 80) (v := 2) hK dX9_costs_79 rfl rfl ?_
        refine r_idivc (q := 81) hK dX9_costs_80 rfl (by decide) ?_
        exact e_iS hK dX9_costs_81
      · refine sV.ite (fun c9 => ?_) (fun c9 => ?_)
        · refine r_tsI (t := 74) (3 : Int32) hK dX9_costs_37 c9 (by decide) (by decide) rfl rfl ?_
          refine r_iload_n (q := 75) hK dX9_costs_74 rfl rfl 0 rfl ?_
          refine r_iconst (q := 76) (v := 3) hK dX9_costs_75 rfl rfl ?_
          refine r_iadd (q := 77) hK dX9_costs_76 rfl ?_
          exact e_iS hK dX9_costs_77
        · refine sV.ite (fun c10 => ?_) (fun c10 => ?_)
          · refine r_tsI (t := 82) (4 : Int32) hK dX9_costs_37 c10 (by decide) (by decide) rfl rfl ?_
            refine r_iconst (q := 83) (v := 0) hK dX9_costs_82 rfl rfl ?_
            refine r_iload_n (q := 84) hK dX9_costs_83 rfl rfl 3 rfl ?_
            refine r_iconst (q := 85) (v := 2) hK dX9_costs_84 rfl rfl ?_
            refine r_idivc (q := 86) hK dX9_costs_85 rfl (by decide) ?_
            refine r_iconst (q := 87) (v := 2) hK dX9_costs_86 rfl rfl ?_
            refine r_isub (q := 88) hK dX9_costs_87 rfl ?_
            refine r_max (q := 91) hK dX9_costs_88 rfl tw_944 mt_max (rmM (Nat.le_of_ble_eq_true rfl) (Nat.le_of_ble_eq_true rfl)) ?_
            exact e_iS hK dX9_costs_91
          · refine sV.ite (fun c11 => ?_) (fun c11 => ?_)
            · refine r_tsI (t := 92) (5 : Int32) hK dX9_costs_37 c11 (by decide) (by decide) rfl rfl ?_
              refine r_iconst (q := 93) (v := 0) hK dX9_costs_92 rfl rfl ?_
              exact e_iS hK dX9_costs_93
            · have ec7 : ¬ (r6).toInt = 1 := ne_ti c7
              have ec8 : ¬ (r6).toInt = 2 := ne_ti c8
              have ec9 : ¬ (r6).toInt = 3 := ne_ti c9
              have ec10 : ¬ (r6).toInt = 4 := ne_ti c10
              have ec11 : ¬ (r6).toInt = 5 := ne_ti c11
              refine r_tsO (t := 94) hK dX9_costs_37 (by omega) rfl ?_
              refine r_iload_n (q := 95) hK dX9_costs_94 rfl rfl 3 rfl ?_
              exact e_iS hK dX9_costs_95
  · refine r_icmp_lt (t := 29) (q := 23) hK dX9_costs_20 rfl rfl (fun c12 => ?_) (fun c12 => ?_)
    · refine r_iload_n (q := 30) hK dX9_costs_29 rfl rfl 0 rfl ?_
      exact sV.sub [1, 2, 0] (by rfl) (hk30 r1)
    · refine r_iconst (q := 24) (v := 2) hK dX9_costs_23 rfl rfl ?_
      refine r_iload_n (q := 25) hK dX9_costs_24 rfl rfl 0 rfl ?_
      refine r_imul (q := 26) hK dX9_costs_25 rfl ?_
      refine r_goto (q := 30) hK dX9_costs_26 rfl ?_
      exact sV.sub [1, 2, 0] (by rfl) (hk30 ((2 : Int32) * r1))
def fX9_worth  (a0 : Int32) (a1 : Int32) (a2 : Int32) (σ : Store) : Option Int32 := (if a0 = (1 : Int32) then (some (a2 + (6 : Int32))) else (if a0 = (2 : Int32) then (some ((99 : Int32) - a2)) else (if a0 = (3 : Int32) then (some ((2 : Int32) * (a2 + (6 : Int32)))) else (if a0 = (4 : Int32) then (some ((94 : Int32) - a2)) else (if a0 = (5 : Int32) then (sbd (fX9_bits a1 σ) fun r6 => (some r6)) else (some a2))))))
theorem c_X9_worth {l0 : Launch} {G : Geo} (a0 : Int32) (a1 : Int32) (a2 : Int32) (σ : Store) (a : Int32) (hf : fX9_worth  a0 a1 a2 σ = some a) : sCon l0 wMod G yX9_worth cX9_worth 3 (some .int) (rmL 2 82) [.int a0, .int a1, .int a2] σ (some (.int a)) σ := by
  refine sCon.of (by decide) ⟨rfl, rfl⟩ (Nat.le_of_ble_eq_true rfl) RX9 rfl _ hf (fun K hK => ?_)
  show sV wMod G K a σ 0 [(0, .int a0), (1, .int a1), (2, .int a2)] [] _
  unfold fX9_worth
  refine r_iload_n (q := 1) hK dX9_worth_0 rfl rfl 0 rfl ?_
  refine sV.ite (fun c1 => ?_) (fun c1 => ?_)
  · refine r_tsI (t := 36) (1 : Int32) hK dX9_worth_1 c1 (by decide) (by decide) rfl rfl ?_
    refine r_iload_n (q := 37) hK dX9_worth_36 rfl rfl 2 rfl ?_
    refine r_bipush (q := 39) (v := 6) hK dX9_worth_37 rfl rfl ?_
    refine r_iadd (q := 40) hK dX9_worth_39 rfl ?_
    exact e_i hK dX9_worth_40
  · refine sV.ite (fun c2 => ?_) (fun c2 => ?_)
    · refine r_tsI (t := 48) (2 : Int32) hK dX9_worth_1 c2 (by decide) (by decide) rfl rfl ?_
      refine r_bipush (q := 50) (v := 99) hK dX9_worth_48 rfl rfl ?_
      refine r_iload_n (q := 51) hK dX9_worth_50 rfl rfl 2 rfl ?_
      refine r_isub (q := 52) hK dX9_worth_51 rfl ?_
      exact e_i hK dX9_worth_52
    · refine sV.ite (fun c3 => ?_) (fun c3 => ?_)
      · refine r_tsI (t := 41) (3 : Int32) hK dX9_worth_1 c3 (by decide) (by decide) rfl rfl ?_
        refine r_iconst (q := 42) (v := 2) hK dX9_worth_41 rfl rfl ?_
        refine r_iload_n (q := 43) hK dX9_worth_42 rfl rfl 2 rfl ?_
        refine r_bipush (q := 45) (v := 6) hK dX9_worth_43 rfl rfl ?_
        refine r_iadd (q := 46) hK dX9_worth_45 rfl ?_
        refine r_imul (q := 47) hK dX9_worth_46 rfl ?_
        exact e_i hK dX9_worth_47
      · refine sV.ite (fun c4 => ?_) (fun c4 => ?_)
        · refine r_tsI (t := 53) (4 : Int32) hK dX9_worth_1 c4 (by decide) (by decide) rfl rfl ?_
          refine r_bipush (q := 55) (v := 94) hK dX9_worth_53 rfl rfl ?_
          refine r_iload_n (q := 56) hK dX9_worth_55 rfl rfl 2 rfl ?_
          refine r_isub (q := 57) hK dX9_worth_56 rfl ?_
          exact e_i hK dX9_worth_57
        · refine sV.ite (fun c5 => ?_) (fun c5 => ?_)
          · refine r_tsI (t := 58) (5 : Int32) hK dX9_worth_1 c5 (by decide) (by decide) rfl rfl ?_
            refine r_iload_n (q := 59) hK dX9_worth_58 rfl rfl 1 rfl ?_
            refine callS_i (q := 62) (As := [.int a1]) (rest := []) (f := (fX9_bits a1 σ)) hK dX9_worth_59 rfl (fun b hb => c_X9_bits a1 σ b hb) ms_X9_bits rfl rfl (Nat.le_of_ble_eq_true rfl) tw_948 mw_X9_bits (rmOk (Nat.le_of_ble_eq_true rfl) (Nat.le_of_ble_eq_true rfl)) (fun r6 => ?_)
            exact e_i hK dX9_worth_62
          · have ec1 : ¬ (a0).toInt = 1 := ne_ti c1
            have ec2 : ¬ (a0).toInt = 2 := ne_ti c2
            have ec3 : ¬ (a0).toInt = 3 := ne_ti c3
            have ec4 : ¬ (a0).toInt = 4 := ne_ti c4
            have ec5 : ¬ (a0).toInt = 5 := ne_ti c5
            refine r_tsO (t := 63) hK dX9_worth_1 (by omega) rfl ?_
            refine r_iload_n (q := 64) hK dX9_worth_63 rfl rfl 2 rfl ?_
            exact e_i hK dX9_worth_64
def fX9_told  (a1 : Int32) (a2 : Int32) (σ : Store) : Option (Int32 × Store) := (sbd (fX9_isWord a1 σ) fun r1 => (if r1 = true then (sbd (fX9_within a2 (0 : Int32) (8 : Int32) σ) fun r3 => (if r3 = true then (if a2 = (6 : Int32) then (sbd2 (fX9_costs a1 σ) fun r6 s7 => (some (r6, s7))) else (if a2 = (7 : Int32) then (sbd (fX9_wordIs a1 (0 : Int32) σ) fun r9 => (sbd (fX9_wordIs a1 (1 : Int32) σ) fun r10 => (sbd (fX9_wordIs a1 (2 : Int32) σ) fun r11 => (sbd (fX9_worth r9 r10 r11 σ) fun r12 => (some (r12, σ)))))) else (if a2 = (8 : Int32) then (six 1480 (4 : Int32) (some ((((σ 1 (snx (4 : Int32))) >>> (a1 &&& 31)) &&& (1 : Int32)), σ))) else (sbd (fX9_wordIs a1 a2 σ) fun r15 => (some (r15, σ)))))) else (some ((-1000000001 : Int32), σ)))) else (some ((-1000000001 : Int32), σ))))
theorem c_X9_told {l0 : Launch} {G : Geo} (a1 : Int32) (a2 : Int32) (σ : Store) (a : (Int32 × Store)) (hf : fX9_told  a1 a2 σ = some a) : sCon l0 wMod G yX9_told cX9_told 3 (some .int) (rmL 5 152) [.ref (gad G 0), .int a1, .int a2] σ (some (.int a.1)) a.2 := by
  refine sCon.of (by decide) ⟨rfl, rfl⟩ (Nat.le_of_ble_eq_true rfl) RX9 rfl _ hf (fun K hK => ?_)
  show sV wMod G K a σ 0 [(0, .ref (gad G 0)), (1, .int a1), (2, .int a2)] [] _
  unfold fX9_told
  refine r_aload_n (q := 1) hK dX9_told_0 rfl rfl 0 rfl ?_
  refine r_iload_n (q := 2) hK dX9_told_1 rfl rfl 1 rfl ?_
  refine callV_b (q := 5) (j := 0) (As := [.int a1]) (rest := []) (f := (fX9_isWord a1 σ)) hK dX9_told_2 rfl (fun b hb => c_X9_isWord a1 σ b hb) ⟨9, _, _, _, by decide, rfl, cM, rfl⟩ mv_X9_isWord rfl rfl (Nat.le_of_ble_eq_true rfl) tw_916 mw_X9_isWord (rmOk (Nat.le_of_ble_eq_true rfl) (Nat.le_of_ble_eq_true rfl)) (fun r1 => ?_)
  refine r_ifb_eq (t := 18) (q := 8) hK dX9_told_5 rfl rfl (fun c2 => ?_) (fun c2 => ?_)
  · refine r_iload_n (q := 9) hK dX9_told_8 rfl rfl 2 rfl ?_
    refine r_iconst (q := 10) (v := 0) hK dX9_told_9 rfl rfl ?_
    refine r_bipush (q := 12) (v := 8) hK dX9_told_10 rfl rfl ?_
    refine callS_b (q := 15) (As := [.int a2, .int (0 : Int32), .int (8 : Int32)]) (rest := []) (f := (fX9_within a2 (0 : Int32) (8 : Int32) σ)) hK dX9_told_12 rfl (fun b hb => c_X9_within a2 (0 : Int32) (8 : Int32) σ b hb) ms_X9_within rfl rfl (Nat.le_of_ble_eq_true rfl) tw_900 mw_X9_within (rmOk (Nat.le_of_ble_eq_true rfl) (Nat.le_of_ble_eq_true rfl)) (fun r3 => ?_)
    refine r_ifb_ne (t := 21) (q := 18) hK dX9_told_15 rfl rfl (fun c4 => ?_) (fun c4 => ?_)
    · refine r_iload_n (q := 22) hK dX9_told_21 rfl rfl 2 rfl ?_
      refine sV.ite (fun c5 => ?_) (fun c5 => ?_)
      · refine r_tsI (t := 48) (6 : Int32) hK dX9_told_22 c5 (by decide) (by decide) rfl rfl ?_
        refine r_aload_n (q := 49) hK dX9_told_48 rfl rfl 0 rfl ?_
        refine r_iload_n (q := 50) hK dX9_told_49 rfl rfl 1 rfl ?_
        refine callV_iS (q := 53) (j := 0) (As := [.int a1]) (rest := []) (f := (fX9_costs a1 σ)) hK dX9_told_50 rfl (fun b hb => c_X9_costs a1 σ b hb) ⟨9, _, _, _, by decide, rfl, cM, rfl⟩ mv_X9_costs rfl rfl (Nat.le_of_ble_eq_true rfl) tw_920 mw_X9_costs (rmOk (Nat.le_of_ble_eq_true rfl) (Nat.le_of_ble_eq_true rfl)) (fun r6 s7 => ?_)
        exact e_iS hK dX9_told_53
      · refine sV.ite (fun c8 => ?_) (fun c8 => ?_)
        · refine r_tsI (t := 54) (7 : Int32) hK dX9_told_22 c8 (by decide) (by decide) rfl rfl ?_
          refine r_aload_n (q := 55) hK dX9_told_54 rfl rfl 0 rfl ?_
          refine r_iload_n (q := 56) hK dX9_told_55 rfl rfl 1 rfl ?_
          refine r_iconst (q := 57) (v := 0) hK dX9_told_56 rfl rfl ?_
          refine callV_i (q := 60) (j := 0) (As := [.int a1, .int (0 : Int32)]) (rest := []) (f := (fX9_wordIs a1 (0 : Int32) σ)) hK dX9_told_57 rfl (fun b hb => c_X9_wordIs a1 (0 : Int32) σ b hb) ⟨9, _, _, _, by decide, rfl, cM, rfl⟩ mv_X9_wordIs rfl rfl (Nat.le_of_ble_eq_true rfl) tw_932 mw_X9_wordIs (rmOk (Nat.le_of_ble_eq_true rfl) (Nat.le_of_ble_eq_true rfl)) (fun r9 => ?_)
          refine r_aload_n (q := 61) hK dX9_told_60 rfl rfl 0 rfl ?_
          refine r_iload_n (q := 62) hK dX9_told_61 rfl rfl 1 rfl ?_
          refine r_iconst (q := 63) (v := 1) hK dX9_told_62 rfl rfl ?_
          refine callV_i (q := 66) (j := 0) (As := [.int a1, .int (1 : Int32)]) (rest := [.int r9]) (f := (fX9_wordIs a1 (1 : Int32) σ)) hK dX9_told_63 rfl (fun b hb => c_X9_wordIs a1 (1 : Int32) σ b hb) ⟨9, _, _, _, by decide, rfl, cM, rfl⟩ mv_X9_wordIs rfl rfl (Nat.le_of_ble_eq_true rfl) tw_932 mw_X9_wordIs (rmOk (Nat.le_of_ble_eq_true rfl) (Nat.le_of_ble_eq_true rfl)) (fun r10 => ?_)
          refine r_aload_n (q := 67) hK dX9_told_66 rfl rfl 0 rfl ?_
          refine r_iload_n (q := 68) hK dX9_told_67 rfl rfl 1 rfl ?_
          refine r_iconst (q := 69) (v := 2) hK dX9_told_68 rfl rfl ?_
          refine callV_i (q := 72) (j := 0) (As := [.int a1, .int (2 : Int32)]) (rest := [.int r10, .int r9]) (f := (fX9_wordIs a1 (2 : Int32) σ)) hK dX9_told_69 rfl (fun b hb => c_X9_wordIs a1 (2 : Int32) σ b hb) ⟨9, _, _, _, by decide, rfl, cM, rfl⟩ mv_X9_wordIs rfl rfl (Nat.le_of_ble_eq_true rfl) tw_932 mw_X9_wordIs (rmOk (Nat.le_of_ble_eq_true rfl) (Nat.le_of_ble_eq_true rfl)) (fun r11 => ?_)
          refine callS_i (q := 75) (As := [.int r9, .int r10, .int r11]) (rest := []) (f := (fX9_worth r9 r10 r11 σ)) hK dX9_told_72 rfl (fun b hb => c_X9_worth r9 r10 r11 σ b hb) ms_X9_worth rfl rfl (Nat.le_of_ble_eq_true rfl) tw_945 mw_X9_worth (rmOk (Nat.le_of_ble_eq_true rfl) (Nat.le_of_ble_eq_true rfl)) (fun r12 => ?_)
          exact e_iS hK dX9_told_75
        · refine sV.ite (fun c13 => ?_) (fun c13 => ?_)
          · refine r_tsI (t := 76) (8 : Int32) hK dX9_told_22 c13 (by decide) (by decide) rfl rfl ?_
            refine r_aload_n (q := 77) hK dX9_told_76 rfl rfl 0 rfl ?_
            refine gf_9_0 (q := 80) hK dX9_told_77 rfl tw_804 ?_
            refine r_iconst (q := 81) (v := 4) hK dX9_told_80 rfl rfl ?_
            refine r_iald (q := 82) hK dX9_told_81 rfl aM1 (fun h14 => ?_)
            refine r_iload_n (q := 83) hK dX9_told_82 rfl rfl 1 rfl ?_
            refine r_ishr (q := 84) hK dX9_told_83 rfl ?_
            refine r_iconst (q := 85) (v := 1) hK dX9_told_84 rfl rfl ?_
            refine r_iand (q := 86) hK dX9_told_85 rfl ?_
            exact e_iS hK dX9_told_86
          · have ec5 : ¬ (a2).toInt = 6 := ne_ti c5
            have ec8 : ¬ (a2).toInt = 7 := ne_ti c8
            have ec13 : ¬ (a2).toInt = 8 := ne_ti c13
            refine r_tsO (t := 87) hK dX9_told_22 (by omega) rfl ?_
            refine r_aload_n (q := 88) hK dX9_told_87 rfl rfl 0 rfl ?_
            refine r_iload_n (q := 89) hK dX9_told_88 rfl rfl 1 rfl ?_
            refine r_iload_n (q := 90) hK dX9_told_89 rfl rfl 2 rfl ?_
            refine callV_i (q := 93) (j := 0) (As := [.int a1, .int a2]) (rest := []) (f := (fX9_wordIs a1 a2 σ)) hK dX9_told_90 rfl (fun b hb => c_X9_wordIs a1 a2 σ b hb) ⟨9, _, _, _, by decide, rfl, cM, rfl⟩ mv_X9_wordIs rfl rfl (Nat.le_of_ble_eq_true rfl) tw_932 mw_X9_wordIs (rmOk (Nat.le_of_ble_eq_true rfl) (Nat.le_of_ble_eq_true rfl)) (fun r15 => ?_)
            exact e_iS hK dX9_told_93
    · refine r_ldc (q := 20) hK dX9_told_18 rfl tw_906 ?_
      exact e_iS hK dX9_told_20
  · refine r_ldc (q := 20) hK dX9_told_18 rfl tw_906 ?_
    exact e_iS hK dX9_told_20
def fX9_as  (a1 : Int32) (a2 : Int32) (σ : Store) : Option Int32 := (sbd (fX9_isWord a1 σ) fun r1 => (if r1 = true then (sbd (fX9_isKind a2 σ) fun r3 => (if r3 = true then (sbd (fX9_wordIs a1 (0 : Int32) σ) fun r5 => (sbd (fX9_isUnder r5 a2 σ) fun r6 => (if r6 = true then (sbd (fX9_wordIs a1 (2 : Int32) σ) fun r8 => (some r8)) else (some (-1000000012 : Int32))))) else (some (-1000000001 : Int32)))) else (some (-1000000001 : Int32))))
theorem c_X9_as {l0 : Launch} {G : Geo} (a1 : Int32) (a2 : Int32) (σ : Store) (a : Int32) (hf : fX9_as  a1 a2 σ = some a) : sCon l0 wMod G yX9_as cX9_as 3 (some .int) (rmL 3 103) [.ref (gad G 0), .int a1, .int a2] σ (some (.int a)) σ := by
  refine sCon.of (by decide) ⟨rfl, rfl⟩ (Nat.le_of_ble_eq_true rfl) RX9 rfl _ hf (fun K hK => ?_)
  show sV wMod G K a σ 0 [(0, .ref (gad G 0)), (1, .int a1), (2, .int a2)] [] _
  unfold fX9_as
  refine r_aload_n (q := 1) hK dX9_as_0 rfl rfl 0 rfl ?_
  refine r_iload_n (q := 2) hK dX9_as_1 rfl rfl 1 rfl ?_
  refine callV_b (q := 5) (j := 0) (As := [.int a1]) (rest := []) (f := (fX9_isWord a1 σ)) hK dX9_as_2 rfl (fun b hb => c_X9_isWord a1 σ b hb) ⟨9, _, _, _, by decide, rfl, cM, rfl⟩ mv_X9_isWord rfl rfl (Nat.le_of_ble_eq_true rfl) tw_916 mw_X9_isWord (rmOk (Nat.le_of_ble_eq_true rfl) (Nat.le_of_ble_eq_true rfl)) (fun r1 => ?_)
  refine r_ifb_eq (t := 15) (q := 8) hK dX9_as_5 rfl rfl (fun c2 => ?_) (fun c2 => ?_)
  · refine r_iload_n (q := 9) hK dX9_as_8 rfl rfl 2 rfl ?_
    refine callS_b (q := 12) (As := [.int a2]) (rest := []) (f := (fX9_isKind a2 σ)) hK dX9_as_9 rfl (fun b hb => c_X9_isKind a2 σ b hb) ms_X9_isKind rfl rfl (Nat.le_of_ble_eq_true rfl) tw_897 mw_X9_isKind (rmOk (Nat.le_of_ble_eq_true rfl) (Nat.le_of_ble_eq_true rfl)) (fun r3 => ?_)
    refine r_ifb_ne (t := 18) (q := 15) hK dX9_as_12 rfl rfl (fun c4 => ?_) (fun c4 => ?_)
    · refine r_aload_n (q := 19) hK dX9_as_18 rfl rfl 0 rfl ?_
      refine r_iload_n (q := 20) hK dX9_as_19 rfl rfl 1 rfl ?_
      refine r_iconst (q := 21) (v := 0) hK dX9_as_20 rfl rfl ?_
      refine callV_i (q := 24) (j := 0) (As := [.int a1, .int (0 : Int32)]) (rest := []) (f := (fX9_wordIs a1 (0 : Int32) σ)) hK dX9_as_21 rfl (fun b hb => c_X9_wordIs a1 (0 : Int32) σ b hb) ⟨9, _, _, _, by decide, rfl, cM, rfl⟩ mv_X9_wordIs rfl rfl (Nat.le_of_ble_eq_true rfl) tw_932 mw_X9_wordIs (rmOk (Nat.le_of_ble_eq_true rfl) (Nat.le_of_ble_eq_true rfl)) (fun r5 => ?_)
      refine r_iload_n (q := 25) hK dX9_as_24 rfl rfl 2 rfl ?_
      refine callS_b (q := 28) (As := [.int r5, .int a2]) (rest := []) (f := (fX9_isUnder r5 a2 σ)) hK dX9_as_25 rfl (fun b hb => c_X9_isUnder r5 a2 σ b hb) ms_X9_isUnder rfl rfl (Nat.le_of_ble_eq_true rfl) tw_955 mw_X9_isUnder (rmOk (Nat.le_of_ble_eq_true rfl) (Nat.le_of_ble_eq_true rfl)) (fun r6 => ?_)
      refine r_ifb_eq (t := 40) (q := 31) hK dX9_as_28 rfl rfl (fun c7 => ?_) (fun c7 => ?_)
      · refine r_aload_n (q := 32) hK dX9_as_31 rfl rfl 0 rfl ?_
        refine r_iload_n (q := 33) hK dX9_as_32 rfl rfl 1 rfl ?_
        refine r_iconst (q := 34) (v := 2) hK dX9_as_33 rfl rfl ?_
        refine callV_i (q := 37) (j := 0) (As := [.int a1, .int (2 : Int32)]) (rest := []) (f := (fX9_wordIs a1 (2 : Int32) σ)) hK dX9_as_34 rfl (fun b hb => c_X9_wordIs a1 (2 : Int32) σ b hb) ⟨9, _, _, _, by decide, rfl, cM, rfl⟩ mv_X9_wordIs rfl rfl (Nat.le_of_ble_eq_true rfl) tw_932 mw_X9_wordIs (rmOk (Nat.le_of_ble_eq_true rfl) (Nat.le_of_ble_eq_true rfl)) (fun r8 => ?_)
        refine r_goto (q := 42) hK dX9_as_37 rfl ?_
        exact e_i hK dX9_as_42
      · refine r_ldc (q := 42) hK dX9_as_40 rfl tw_961 ?_
        exact e_i hK dX9_as_42
    · refine r_ldc (q := 17) hK dX9_as_15 rfl tw_906 ?_
      exact e_i hK dX9_as_17
  · refine r_ldc (q := 17) hK dX9_as_15 rfl tw_906 ?_
    exact e_i hK dX9_as_17
def fX9_turns  (a1 : Int32) (a2 : Int32) (σ : Store) : Option (Int32 × Store) := (sbd (fX9_isWord a1 σ) fun r1 => (if r1 = true then (sbd (fX9_isKind a2 σ) fun r3 => (if r3 = true then (sbd2 (fX9_become (((8 : Int32) + ((6 : Int32) * a1)) + (0 : Int32)) a2 σ) fun r5 s6 => (some (r5, s6))) else (some ((-1000000001 : Int32), σ)))) else (some ((-1000000001 : Int32), σ))))
theorem c_X9_turns {l0 : Launch} {G : Geo} (a1 : Int32) (a2 : Int32) (σ : Store) (a : (Int32 × Store)) (hf : fX9_turns  a1 a2 σ = some a) : sCon l0 wMod G yX9_turns cX9_turns 3 (some .int) (rmL 3 103) [.ref (gad G 0), .int a1, .int a2] σ (some (.int a.1)) a.2 := by
  refine sCon.of (by decide) ⟨rfl, rfl⟩ (Nat.le_of_ble_eq_true rfl) RX9 rfl _ hf (fun K hK => ?_)
  show sV wMod G K a σ 0 [(0, .ref (gad G 0)), (1, .int a1), (2, .int a2)] [] _
  unfold fX9_turns
  refine r_aload_n (q := 1) hK dX9_turns_0 rfl rfl 0 rfl ?_
  refine r_iload_n (q := 2) hK dX9_turns_1 rfl rfl 1 rfl ?_
  refine callV_b (q := 5) (j := 0) (As := [.int a1]) (rest := []) (f := (fX9_isWord a1 σ)) hK dX9_turns_2 rfl (fun b hb => c_X9_isWord a1 σ b hb) ⟨9, _, _, _, by decide, rfl, cM, rfl⟩ mv_X9_isWord rfl rfl (Nat.le_of_ble_eq_true rfl) tw_916 mw_X9_isWord (rmOk (Nat.le_of_ble_eq_true rfl) (Nat.le_of_ble_eq_true rfl)) (fun r1 => ?_)
  refine r_ifb_eq (t := 32) (q := 8) hK dX9_turns_5 rfl rfl (fun c2 => ?_) (fun c2 => ?_)
  · refine r_iload_n (q := 9) hK dX9_turns_8 rfl rfl 2 rfl ?_
    refine callS_b (q := 12) (As := [.int a2]) (rest := []) (f := (fX9_isKind a2 σ)) hK dX9_turns_9 rfl (fun b hb => c_X9_isKind a2 σ b hb) ms_X9_isKind rfl rfl (Nat.le_of_ble_eq_true rfl) tw_897 mw_X9_isKind (rmOk (Nat.le_of_ble_eq_true rfl) (Nat.le_of_ble_eq_true rfl)) (fun r3 => ?_)
    refine r_ifb_eq (t := 32) (q := 15) hK dX9_turns_12 rfl rfl (fun c4 => ?_) (fun c4 => ?_)
    · refine r_aload_n (q := 16) hK dX9_turns_15 rfl rfl 0 rfl ?_
      refine r_bipush (q := 18) (v := 8) hK dX9_turns_16 rfl rfl ?_
      refine r_bipush (q := 20) (v := 6) hK dX9_turns_18 rfl rfl ?_
      refine r_iload_n (q := 21) hK dX9_turns_20 rfl rfl 1 rfl ?_
      refine r_imul (q := 22) hK dX9_turns_21 rfl ?_
      refine r_iadd (q := 23) hK dX9_turns_22 rfl ?_
      refine r_iconst (q := 24) (v := 0) hK dX9_turns_23 rfl rfl ?_
      refine r_iadd (q := 25) hK dX9_turns_24 rfl ?_
      refine r_iload_n (q := 26) hK dX9_turns_25 rfl rfl 2 rfl ?_
      refine callV_iS (q := 29) (j := 0) (As := [.int (((8 : Int32) + ((6 : Int32) * a1)) + (0 : Int32)), .int a2]) (rest := []) (f := (fX9_become (((8 : Int32) + ((6 : Int32) * a1)) + (0 : Int32)) a2 σ)) hK dX9_turns_26 rfl (fun b hb => c_X9_become (((8 : Int32) + ((6 : Int32) * a1)) + (0 : Int32)) a2 σ b hb) ⟨9, _, _, _, by decide, rfl, cM, rfl⟩ mv_X9_become rfl rfl (Nat.le_of_ble_eq_true rfl) tw_966 mw_X9_become (rmOk (Nat.le_of_ble_eq_true rfl) (Nat.le_of_ble_eq_true rfl)) (fun r5 s6 => ?_)
      refine r_goto (q := 34) hK dX9_turns_29 rfl ?_
      exact e_iS hK dX9_turns_34
    · refine r_ldc (q := 34) hK dX9_turns_32 rfl tw_906 ?_
      exact e_iS hK dX9_turns_34
  · refine r_ldc (q := 34) hK dX9_turns_32 rfl tw_906 ?_
    exact e_iS hK dX9_turns_34
def fX9_set  (a1 : Int32) (a2 : Int32) (a3 : Int32) (σ : Store) : Option (Int32 × Store) := (sjn (fun k37 : Bool → Option (Int32 × Store) => (if ¬ a2 = (1 : Int32) then (sbd (fX9_within a2 (2 : Int32) (3 : Int32) σ) fun r13 => (if r13 = true then (sbd (fX9_isHundred a3 σ) fun r15 => (if r15 = true then (k37 true) else (k37 false))) else (k37 false))) else (sbd (fX9_within a3 (1 : Int32) (255 : Int32) σ) fun r17 => (k37 r17)))) (fun (z0_37 : Bool) => (sbd (fX9_isWord a1 σ) fun r7 => (if r7 = true then (if z0_37 = true then (sbd2 (fX9_become (((8 : Int32) + ((6 : Int32) * a1)) + a2) a3 σ) fun r10 s11 => (some (r10, s11))) else (some ((-1000000001 : Int32), σ))) else (some ((-1000000001 : Int32), σ))))))
theorem c_X9_set {l0 : Launch} {G : Geo} (a1 : Int32) (a2 : Int32) (a3 : Int32) (σ : Store) (a : (Int32 × Store)) (hf : fX9_set  a1 a2 a3 σ = some a) : sCon l0 wMod G yX9_set cX9_set 5 (some .int) (rmL 3 103) [.ref (gad G 0), .int a1, .int a2, .int a3] σ (some (.int a.1)) a.2 := by
  refine sCon.of (by decide) ⟨rfl, rfl⟩ (Nat.le_of_ble_eq_true rfl) RX9 rfl _ hf (fun K hK => ?_)
  show sV wMod G K a σ 0 [(0, .ref (gad G 0)), (1, .int a1), (2, .int a2), (3, .int a3)] [] _
  unfold fX9_set
  refine r_iload_n (q := 1) hK dX9_set_0 rfl rfl 2 rfl ?_
  refine r_iconst (q := 2) (v := 1) hK dX9_set_1 rfl rfl ?_
  refine sV.jn (fun k : Bool → Option (Int32 × Store) => ∀ (z0_37 : Bool), sV wMod G K a σ 37 [(0, .ref (gad G 0)), (1, .int a1), (2, .int a2), (3, .int a3)] [.int (b2i z0_37)] (k z0_37)) (fun z0_37 => ?_) (fun k37 hk37 => ?_)
  · refine r_istore (q := 39) (loc' := [(4, .int (b2i z0_37)), (0, .ref (gad G 0)), (1, .int a1), (2, .int a2), (3, .int a3)]) hK dX9_set_37 rfl (by decide) rfl ?_
    refine r_aload_n (q := 40) hK dX9_set_39 rfl rfl 1 rfl ?_
    refine r_iload_n (q := 41) hK dX9_set_40 rfl rfl 2 rfl ?_
    refine callV_b (q := 44) (j := 0) (As := [.int a1]) (rest := []) (f := (fX9_isWord a1 σ)) hK dX9_set_41 rfl (fun b hb => c_X9_isWord a1 σ b hb) ⟨9, _, _, _, by decide, rfl, cM, rfl⟩ mv_X9_isWord rfl rfl (Nat.le_of_ble_eq_true rfl) tw_916 mw_X9_isWord (rmOk (Nat.le_of_ble_eq_true rfl) (Nat.le_of_ble_eq_true rfl)) (fun r7 => ?_)
    refine r_ifb_eq (t := 69) (q := 47) hK dX9_set_44 rfl rfl (fun c8 => ?_) (fun c8 => ?_)
    · refine r_iload (q := 49) hK dX9_set_47 rfl 0 rfl ?_
      refine r_ifb_eq (t := 69) (q := 52) hK dX9_set_49 rfl rfl (fun c9 => ?_) (fun c9 => ?_)
      · refine r_aload_n (q := 53) hK dX9_set_52 rfl rfl 1 rfl ?_
        refine r_bipush (q := 55) (v := 8) hK dX9_set_53 rfl rfl ?_
        refine r_bipush (q := 57) (v := 6) hK dX9_set_55 rfl rfl ?_
        refine r_iload_n (q := 58) hK dX9_set_57 rfl rfl 2 rfl ?_
        refine r_imul (q := 59) hK dX9_set_58 rfl ?_
        refine r_iadd (q := 60) hK dX9_set_59 rfl ?_
        refine r_iload_n (q := 61) hK dX9_set_60 rfl rfl 3 rfl ?_
        refine r_iadd (q := 62) hK dX9_set_61 rfl ?_
        refine r_iload_n (q := 63) hK dX9_set_62 rfl rfl 4 rfl ?_
        refine callV_iS (q := 66) (j := 0) (As := [.int (((8 : Int32) + ((6 : Int32) * a1)) + a2), .int a3]) (rest := []) (f := (fX9_become (((8 : Int32) + ((6 : Int32) * a1)) + a2) a3 σ)) hK dX9_set_63 rfl (fun b hb => c_X9_become (((8 : Int32) + ((6 : Int32) * a1)) + a2) a3 σ b hb) ⟨9, _, _, _, by decide, rfl, cM, rfl⟩ mv_X9_become rfl rfl (Nat.le_of_ble_eq_true rfl) tw_966 mw_X9_become (rmOk (Nat.le_of_ble_eq_true rfl) (Nat.le_of_ble_eq_true rfl)) (fun r10 s11 => ?_)
        refine r_goto (q := 71) hK dX9_set_66 rfl ?_
        exact e_iS hK dX9_set_71
      · refine r_ldc (q := 71) hK dX9_set_69 rfl tw_906 ?_
        exact e_iS hK dX9_set_71
    · refine r_ldc (q := 71) hK dX9_set_69 rfl tw_906 ?_
      exact e_iS hK dX9_set_71
  · refine r_icmp_ne (t := 16) (q := 5) hK dX9_set_2 rfl rfl (fun c12 => ?_) (fun c12 => ?_)
    · refine r_iload_n (q := 17) hK dX9_set_16 rfl rfl 2 rfl ?_
      refine r_iconst (q := 18) (v := 2) hK dX9_set_17 rfl rfl ?_
      refine r_iconst (q := 19) (v := 3) hK dX9_set_18 rfl rfl ?_
      refine callS_b (q := 22) (As := [.int a2, .int (2 : Int32), .int (3 : Int32)]) (rest := []) (f := (fX9_within a2 (2 : Int32) (3 : Int32) σ)) hK dX9_set_19 rfl (fun b hb => c_X9_within a2 (2 : Int32) (3 : Int32) σ b hb) ms_X9_within rfl rfl (Nat.le_of_ble_eq_true rfl) tw_900 mw_X9_within (rmOk (Nat.le_of_ble_eq_true rfl) (Nat.le_of_ble_eq_true rfl)) (fun r13 => ?_)
      refine r_ifb_eq (t := 36) (q := 25) hK dX9_set_22 rfl rfl (fun c14 => ?_) (fun c14 => ?_)
      · refine r_iload_n (q := 26) hK dX9_set_25 rfl rfl 3 rfl ?_
        refine callS_b (q := 29) (As := [.int a3]) (rest := []) (f := (fX9_isHundred a3 σ)) hK dX9_set_26 rfl (fun b hb => c_X9_isHundred a3 σ b hb) ms_X9_isHundred rfl rfl (Nat.le_of_ble_eq_true rfl) tw_903 mw_X9_isHundred (rmOk (Nat.le_of_ble_eq_true rfl) (Nat.le_of_ble_eq_true rfl)) (fun r15 => ?_)
        refine r_ifb_eq (t := 36) (q := 32) hK dX9_set_29 rfl rfl (fun c16 => ?_) (fun c16 => ?_)
        · refine r_iconst (q := 33) (v := 1) hK dX9_set_32 rfl rfl ?_
          refine r_goto (q := 37) hK dX9_set_33 rfl ?_
          exact sV.sub [0, 1, 2, 3] (by rfl) (hk37 true)
        · refine r_iconst (q := 37) (v := 0) hK dX9_set_36 rfl rfl ?_
          exact sV.sub [0, 1, 2, 3] (by rfl) (hk37 false)
      · refine r_iconst (q := 37) (v := 0) hK dX9_set_36 rfl rfl ?_
        exact sV.sub [0, 1, 2, 3] (by rfl) (hk37 false)
    · refine r_iload_n (q := 6) hK dX9_set_5 rfl rfl 3 rfl ?_
      refine r_iconst (q := 7) (v := 1) hK dX9_set_6 rfl rfl ?_
      refine r_sipush (q := 10) (v := 255) hK dX9_set_7 rfl rfl ?_
      refine callS_b (q := 13) (As := [.int a3, .int (1 : Int32), .int (255 : Int32)]) (rest := []) (f := (fX9_within a3 (1 : Int32) (255 : Int32) σ)) hK dX9_set_10 rfl (fun b hb => c_X9_within a3 (1 : Int32) (255 : Int32) σ b hb) ms_X9_within rfl rfl (Nat.le_of_ble_eq_true rfl) tw_900 mw_X9_within (rmOk (Nat.le_of_ble_eq_true rfl) (Nat.le_of_ble_eq_true rfl)) (fun r17 => ?_)
      refine r_goto (q := 37) hK dX9_set_13 rfl ?_
      exact sV.sub [0, 1, 2, 3] (by rfl) (hk37 r17)
def fX9_traveller   (σ : Store) : Option (Int32 × Store) := (six 1480 (6 : Int32) (if ¬ (σ 1 (snx (6 : Int32))) = (6 : Int32) then (six 1480 (6 : Int32) (slt (σ 1 (snx (6 : Int32))) fun x4 => (six 1480 (((68 : Int32) + ((2 : Int32) * x4)) + (0 : Int32)) (slt (sup σ 1 (snx (((68 : Int32) + ((2 : Int32) * x4)) + (0 : Int32))) (0 : Int32)) fun s6 => (six 1480 (((68 : Int32) + ((2 : Int32) * x4)) + (1 : Int32)) (slt (sup s6 1 (snx (((68 : Int32) + ((2 : Int32) * x4)) + (1 : Int32))) (0 : Int32)) fun s8 => (six 1480 (6 : Int32) (six 1480 (6 : Int32) (slt (sup s8 1 (snx (6 : Int32)) ((s8 1 (snx (6 : Int32))) + (1 : Int32))) fun s11 => (some (x4, s11))))))))))) else (some ((-1000000003 : Int32), σ))))
theorem c_X9_traveller {l0 : Launch} {G : Geo}  (σ : Store) (a : (Int32 × Store)) (hf : fX9_traveller   σ = some a) : sCon l0 wMod G yX9_traveller cX9_traveller 2 (some .int) (rmL 1 60) [.ref (gad G 0)] σ (some (.int a.1)) a.2 := by
  refine sCon.of (by decide) ⟨rfl, rfl⟩ (Nat.le_of_ble_eq_true rfl) RX9 rfl _ hf (fun K hK => ?_)
  show sV wMod G K a σ 0 [(0, .ref (gad G 0))] [] _
  unfold fX9_traveller
  refine r_aload_n (q := 1) hK dX9_traveller_0 rfl rfl 0 rfl ?_
  refine gf_9_0 (q := 4) hK dX9_traveller_1 rfl tw_804 ?_
  refine r_bipush (q := 6) (v := 6) hK dX9_traveller_4 rfl rfl ?_
  refine r_iald (q := 7) hK dX9_traveller_6 rfl aM1 (fun h1 => ?_)
  refine r_bipush (q := 9) (v := 6) hK dX9_traveller_7 rfl rfl ?_
  refine r_icmp_ne (t := 15) (q := 12) hK dX9_traveller_9 rfl rfl (fun c2 => ?_) (fun c2 => ?_)
  · refine r_aload_n (q := 16) hK dX9_traveller_15 rfl rfl 0 rfl ?_
    refine gf_9_0 (q := 19) hK dX9_traveller_16 rfl tw_804 ?_
    refine r_bipush (q := 21) (v := 6) hK dX9_traveller_19 rfl rfl ?_
    refine r_iald (q := 22) hK dX9_traveller_21 rfl aM1 (fun h3 => ?_)
    refine sV.ltI (fun x4 => ?_)
    refine r_istore_n (q := 23) (loc' := [(1, .int x4), (0, .ref (gad G 0))]) hK dX9_traveller_22 rfl rfl (by decide) rfl ?_
    refine r_aload_n (q := 24) hK dX9_traveller_23 rfl rfl 1 rfl ?_
    refine gf_9_0 (q := 27) hK dX9_traveller_24 rfl tw_804 ?_
    refine r_bipush (q := 29) (v := 68) hK dX9_traveller_27 rfl rfl ?_
    refine r_iconst (q := 30) (v := 2) hK dX9_traveller_29 rfl rfl ?_
    refine r_iload_n (q := 31) hK dX9_traveller_30 rfl rfl 0 rfl ?_
    refine r_imul (q := 32) hK dX9_traveller_31 rfl ?_
    refine r_iadd (q := 33) hK dX9_traveller_32 rfl ?_
    refine r_iconst (q := 34) (v := 0) hK dX9_traveller_33 rfl rfl ?_
    refine r_iadd (q := 35) hK dX9_traveller_34 rfl ?_
    refine r_iconst (q := 36) (v := 0) hK dX9_traveller_35 rfl rfl ?_
    refine r_iast (q := 37) hK dX9_traveller_36 rfl aM1 (fun h5 => ?_)
    refine sV.ltS (fun s6 => ?_)
    refine r_aload_n (q := 38) hK dX9_traveller_37 rfl rfl 1 rfl ?_
    refine gf_9_0 (q := 41) hK dX9_traveller_38 rfl tw_804 ?_
    refine r_bipush (q := 43) (v := 68) hK dX9_traveller_41 rfl rfl ?_
    refine r_iconst (q := 44) (v := 2) hK dX9_traveller_43 rfl rfl ?_
    refine r_iload_n (q := 45) hK dX9_traveller_44 rfl rfl 0 rfl ?_
    refine r_imul (q := 46) hK dX9_traveller_45 rfl ?_
    refine r_iadd (q := 47) hK dX9_traveller_46 rfl ?_
    refine r_iconst (q := 48) (v := 1) hK dX9_traveller_47 rfl rfl ?_
    refine r_iadd (q := 49) hK dX9_traveller_48 rfl ?_
    refine r_iconst (q := 50) (v := 0) hK dX9_traveller_49 rfl rfl ?_
    refine r_iast (q := 51) hK dX9_traveller_50 rfl aM1 (fun h7 => ?_)
    refine sV.ltS (fun s8 => ?_)
    refine r_aload_n (q := 52) hK dX9_traveller_51 rfl rfl 1 rfl ?_
    refine gf_9_0 (q := 55) hK dX9_traveller_52 rfl tw_804 ?_
    refine r_bipush (q := 57) (v := 6) hK dX9_traveller_55 rfl rfl ?_
    refine r_dup2 (q := 58) hK dX9_traveller_57 rfl rfl rfl ?_
    refine r_iald (q := 59) hK dX9_traveller_58 rfl aM1 (fun h9 => ?_)
    refine r_iconst (q := 60) (v := 1) hK dX9_traveller_59 rfl rfl ?_
    refine r_iadd (q := 61) hK dX9_traveller_60 rfl ?_
    refine r_iast (q := 62) hK dX9_traveller_61 rfl aM1 (fun h10 => ?_)
    refine sV.ltS (fun s11 => ?_)
    refine r_iload_n (q := 63) hK dX9_traveller_62 rfl rfl 0 rfl ?_
    exact e_iS hK dX9_traveller_63
  · refine r_ldc (q := 14) hK dX9_traveller_12 rfl tw_907 ?_
    exact e_iS hK dX9_traveller_14
def fX9_travels  (a1 : Int32) (a2 : Int32) (σ : Store) : Option Int32 := (sbd (fX9_isTraveller a1 σ) fun r1 => (if r1 = true then (sbd (fX9_within a2 (0 : Int32) (1 : Int32) σ) fun r3 => (if r3 = true then (sbd (fX9_travellerIs a1 a2 σ) fun r5 => (some r5)) else (some (-1000000001 : Int32)))) else (some (-1000000001 : Int32))))
theorem c_X9_travels {l0 : Launch} {G : Geo} (a1 : Int32) (a2 : Int32) (σ : Store) (a : Int32) (hf : fX9_travels  a1 a2 σ = some a) : sCon l0 wMod G yX9_travels cX9_travels 3 (some .int) (rmL 3 103) [.ref (gad G 0), .int a1, .int a2] σ (some (.int a)) σ := by
  refine sCon.of (by decide) ⟨rfl, rfl⟩ (Nat.le_of_ble_eq_true rfl) RX9 rfl _ hf (fun K hK => ?_)
  show sV wMod G K a σ 0 [(0, .ref (gad G 0)), (1, .int a1), (2, .int a2)] [] _
  unfold fX9_travels
  refine r_aload_n (q := 1) hK dX9_travels_0 rfl rfl 0 rfl ?_
  refine r_iload_n (q := 2) hK dX9_travels_1 rfl rfl 1 rfl ?_
  refine callV_b (q := 5) (j := 0) (As := [.int a1]) (rest := []) (f := (fX9_isTraveller a1 σ)) hK dX9_travels_2 rfl (fun b hb => c_X9_isTraveller a1 σ b hb) ⟨9, _, _, _, by decide, rfl, cM, rfl⟩ mv_X9_isTraveller rfl rfl (Nat.le_of_ble_eq_true rfl) tw_982 mw_X9_isTraveller (rmOk (Nat.le_of_ble_eq_true rfl) (Nat.le_of_ble_eq_true rfl)) (fun r1 => ?_)
  refine r_ifb_eq (t := 26) (q := 8) hK dX9_travels_5 rfl rfl (fun c2 => ?_) (fun c2 => ?_)
  · refine r_iload_n (q := 9) hK dX9_travels_8 rfl rfl 2 rfl ?_
    refine r_iconst (q := 10) (v := 0) hK dX9_travels_9 rfl rfl ?_
    refine r_iconst (q := 11) (v := 1) hK dX9_travels_10 rfl rfl ?_
    refine callS_b (q := 14) (As := [.int a2, .int (0 : Int32), .int (1 : Int32)]) (rest := []) (f := (fX9_within a2 (0 : Int32) (1 : Int32) σ)) hK dX9_travels_11 rfl (fun b hb => c_X9_within a2 (0 : Int32) (1 : Int32) σ b hb) ms_X9_within rfl rfl (Nat.le_of_ble_eq_true rfl) tw_900 mw_X9_within (rmOk (Nat.le_of_ble_eq_true rfl) (Nat.le_of_ble_eq_true rfl)) (fun r3 => ?_)
    refine r_ifb_eq (t := 26) (q := 17) hK dX9_travels_14 rfl rfl (fun c4 => ?_) (fun c4 => ?_)
    · refine r_aload_n (q := 18) hK dX9_travels_17 rfl rfl 0 rfl ?_
      refine r_iload_n (q := 19) hK dX9_travels_18 rfl rfl 1 rfl ?_
      refine r_iload_n (q := 20) hK dX9_travels_19 rfl rfl 2 rfl ?_
      refine callV_i (q := 23) (j := 0) (As := [.int a1, .int a2]) (rest := []) (f := (fX9_travellerIs a1 a2 σ)) hK dX9_travels_20 rfl (fun b hb => c_X9_travellerIs a1 a2 σ b hb) ⟨9, _, _, _, by decide, rfl, cM, rfl⟩ mv_X9_travellerIs rfl rfl (Nat.le_of_ble_eq_true rfl) tw_986 mw_X9_travellerIs (rmOk (Nat.le_of_ble_eq_true rfl) (Nat.le_of_ble_eq_true rfl)) (fun r5 => ?_)
      refine r_goto (q := 28) hK dX9_travels_23 rfl ?_
      exact e_i hK dX9_travels_28
    · refine r_ldc (q := 28) hK dX9_travels_26 rfl tw_906 ?_
      exact e_i hK dX9_travels_28
  · refine r_ldc (q := 28) hK dX9_travels_26 rfl tw_906 ?_
    exact e_i hK dX9_travels_28
def fX9_gives  (a1 : Int32) (a2 : Int32) (σ : Store) : Option (Int32 × Store) := (sbd (fX9_isTraveller a1 σ) fun r1 => (if r1 = true then (sbd (fX9_areWords a2 σ) fun r3 => (if r3 = true then (sbd2 (fX9_become (((68 : Int32) + ((2 : Int32) * a1)) + (0 : Int32)) a2 σ) fun r5 s6 => (some (r5, s6))) else (some ((-1000000001 : Int32), σ)))) else (some ((-1000000001 : Int32), σ))))
theorem c_X9_gives {l0 : Launch} {G : Geo} (a1 : Int32) (a2 : Int32) (σ : Store) (a : (Int32 × Store)) (hf : fX9_gives  a1 a2 σ = some a) : sCon l0 wMod G yX9_gives cX9_gives 3 (some .int) (rmL 3 103) [.ref (gad G 0), .int a1, .int a2] σ (some (.int a.1)) a.2 := by
  refine sCon.of (by decide) ⟨rfl, rfl⟩ (Nat.le_of_ble_eq_true rfl) RX9 rfl _ hf (fun K hK => ?_)
  show sV wMod G K a σ 0 [(0, .ref (gad G 0)), (1, .int a1), (2, .int a2)] [] _
  unfold fX9_gives
  refine r_aload_n (q := 1) hK dX9_gives_0 rfl rfl 0 rfl ?_
  refine r_iload_n (q := 2) hK dX9_gives_1 rfl rfl 1 rfl ?_
  refine callV_b (q := 5) (j := 0) (As := [.int a1]) (rest := []) (f := (fX9_isTraveller a1 σ)) hK dX9_gives_2 rfl (fun b hb => c_X9_isTraveller a1 σ b hb) ⟨9, _, _, _, by decide, rfl, cM, rfl⟩ mv_X9_isTraveller rfl rfl (Nat.le_of_ble_eq_true rfl) tw_982 mw_X9_isTraveller (rmOk (Nat.le_of_ble_eq_true rfl) (Nat.le_of_ble_eq_true rfl)) (fun r1 => ?_)
  refine r_ifb_eq (t := 32) (q := 8) hK dX9_gives_5 rfl rfl (fun c2 => ?_) (fun c2 => ?_)
  · refine r_aload_n (q := 9) hK dX9_gives_8 rfl rfl 0 rfl ?_
    refine r_iload_n (q := 10) hK dX9_gives_9 rfl rfl 2 rfl ?_
    refine callV_b (q := 13) (j := 0) (As := [.int a2]) (rest := []) (f := (fX9_areWords a2 σ)) hK dX9_gives_10 rfl (fun b hb => c_X9_areWords a2 σ b hb) ⟨9, _, _, _, by decide, rfl, cM, rfl⟩ mv_X9_areWords rfl rfl (Nat.le_of_ble_eq_true rfl) tw_994 mw_X9_areWords (rmOk (Nat.le_of_ble_eq_true rfl) (Nat.le_of_ble_eq_true rfl)) (fun r3 => ?_)
    refine r_ifb_eq (t := 32) (q := 16) hK dX9_gives_13 rfl rfl (fun c4 => ?_) (fun c4 => ?_)
    · refine r_aload_n (q := 17) hK dX9_gives_16 rfl rfl 0 rfl ?_
      refine r_bipush (q := 19) (v := 68) hK dX9_gives_17 rfl rfl ?_
      refine r_iconst (q := 20) (v := 2) hK dX9_gives_19 rfl rfl ?_
      refine r_iload_n (q := 21) hK dX9_gives_20 rfl rfl 1 rfl ?_
      refine r_imul (q := 22) hK dX9_gives_21 rfl ?_
      refine r_iadd (q := 23) hK dX9_gives_22 rfl ?_
      refine r_iconst (q := 24) (v := 0) hK dX9_gives_23 rfl rfl ?_
      refine r_iadd (q := 25) hK dX9_gives_24 rfl ?_
      refine r_iload_n (q := 26) hK dX9_gives_25 rfl rfl 2 rfl ?_
      refine callV_iS (q := 29) (j := 0) (As := [.int (((68 : Int32) + ((2 : Int32) * a1)) + (0 : Int32)), .int a2]) (rest := []) (f := (fX9_become (((68 : Int32) + ((2 : Int32) * a1)) + (0 : Int32)) a2 σ)) hK dX9_gives_26 rfl (fun b hb => c_X9_become (((68 : Int32) + ((2 : Int32) * a1)) + (0 : Int32)) a2 σ b hb) ⟨9, _, _, _, by decide, rfl, cM, rfl⟩ mv_X9_become rfl rfl (Nat.le_of_ble_eq_true rfl) tw_966 mw_X9_become (rmOk (Nat.le_of_ble_eq_true rfl) (Nat.le_of_ble_eq_true rfl)) (fun r5 s6 => ?_)
      refine r_goto (q := 34) hK dX9_gives_29 rfl ?_
      exact e_iS hK dX9_gives_34
    · refine r_ldc (q := 34) hK dX9_gives_32 rfl tw_906 ?_
      exact e_iS hK dX9_gives_34
  · refine r_ldc (q := 34) hK dX9_gives_32 rfl tw_906 ?_
    exact e_iS hK dX9_gives_34
def fX9_rule  (a1 : Int32) (a2 : Int32) (σ : Store) : Option (Int32 × Store) := (sjn (fun k34 : Bool → Option (Int32 × Store) => (sjn (fun k14 : Unit → Option (Int32 × Store) => (if ¬ a1 = 0 then (k14 ()) else (sbd (fX9_within a2 (1 : Int32) (10 : Int32) σ) fun r20 => (if r20 = true then (k34 true) else (k14 ()))))) (fun (_u : Unit) => (if ¬ a1 = (1 : Int32) then (k34 false) else (sbd (fX9_within a2 (0 : Int32) (100 : Int32) σ) fun r17 => (if r17 = true then (k34 true) else (k34 false))))))) (fun (z0_34 : Bool) => (if z0_34 = true then (sbd2 (fX9_become ((2 : Int32) + a1) a2 σ) fun r11 s12 => (some (r11, s12))) else (some ((-1000000001 : Int32), σ)))))
theorem c_X9_rule {l0 : Launch} {G : Geo} (a1 : Int32) (a2 : Int32) (σ : Store) (a : (Int32 × Store)) (hf : fX9_rule  a1 a2 σ = some a) : sCon l0 wMod G yX9_rule cX9_rule 4 (some .int) (rmL 2 83) [.ref (gad G 0), .int a1, .int a2] σ (some (.int a.1)) a.2 := by
  refine sCon.of (by decide) ⟨rfl, rfl⟩ (Nat.le_of_ble_eq_true rfl) RX9 rfl _ hf (fun K hK => ?_)
  show sV wMod G K a σ 0 [(0, .ref (gad G 0)), (1, .int a1), (2, .int a2)] [] _
  unfold fX9_rule
  refine r_iload_n (q := 1) hK dX9_rule_0 rfl rfl 1 rfl ?_
  refine sV.jn (fun k : Bool → Option (Int32 × Store) => ∀ (z0_34 : Bool), sV wMod G K a σ 34 [(0, .ref (gad G 0)), (1, .int a1), (2, .int a2)] [.int (b2i z0_34)] (k z0_34)) (fun z0_34 => ?_) (fun k34 hk34 => ?_)
  · refine r_istore_n (q := 35) (loc' := [(3, .int (b2i z0_34)), (0, .ref (gad G 0)), (1, .int a1), (2, .int a2)]) hK dX9_rule_34 rfl rfl (by decide) rfl ?_
    refine r_iload_n (q := 36) hK dX9_rule_35 rfl rfl 0 rfl ?_
    refine r_ifb_eq (t := 50) (q := 39) hK dX9_rule_36 rfl rfl (fun c10 => ?_) (fun c10 => ?_)
    · refine r_aload_n (q := 40) hK dX9_rule_39 rfl rfl 1 rfl ?_
      refine r_iconst (q := 41) (v := 2) hK dX9_rule_40 rfl rfl ?_
      refine r_iload_n (q := 42) hK dX9_rule_41 rfl rfl 2 rfl ?_
      refine r_iadd (q := 43) hK dX9_rule_42 rfl ?_
      refine r_iload_n (q := 44) hK dX9_rule_43 rfl rfl 3 rfl ?_
      refine callV_iS (q := 47) (j := 0) (As := [.int ((2 : Int32) + a1), .int a2]) (rest := []) (f := (fX9_become ((2 : Int32) + a1) a2 σ)) hK dX9_rule_44 rfl (fun b hb => c_X9_become ((2 : Int32) + a1) a2 σ b hb) ⟨9, _, _, _, by decide, rfl, cM, rfl⟩ mv_X9_become rfl rfl (Nat.le_of_ble_eq_true rfl) tw_966 mw_X9_become (rmOk (Nat.le_of_ble_eq_true rfl) (Nat.le_of_ble_eq_true rfl)) (fun r11 s12 => ?_)
      refine r_goto (q := 52) hK dX9_rule_47 rfl ?_
      exact e_iS hK dX9_rule_52
    · refine r_ldc (q := 52) hK dX9_rule_50 rfl tw_906 ?_
      exact e_iS hK dX9_rule_52
  · refine sV.jn (fun k : Unit → Option (Int32 × Store) => ∀ (_u : Unit), sV wMod G K a σ 14 [(0, .ref (gad G 0)), (1, .int a1), (2, .int a2)] [] (k ())) (fun _ => ?_) (fun k14 hk14 => ?_)
    · refine r_iload_n (q := 15) hK dX9_rule_14 rfl rfl 1 rfl ?_
      refine r_iconst (q := 16) (v := 1) hK dX9_rule_15 rfl rfl ?_
      refine r_icmp_ne (t := 33) (q := 19) hK dX9_rule_16 rfl rfl (fun c16 => ?_) (fun c16 => ?_)
      · refine r_iconst (q := 34) (v := 0) hK dX9_rule_33 rfl rfl ?_
        exact sV.sub [0, 1, 2] (by rfl) (hk34 false)
      · refine r_iload_n (q := 20) hK dX9_rule_19 rfl rfl 2 rfl ?_
        refine r_iconst (q := 21) (v := 0) hK dX9_rule_20 rfl rfl ?_
        refine r_bipush (q := 23) (v := 100) hK dX9_rule_21 rfl rfl ?_
        refine callS_b (q := 26) (As := [.int a2, .int (0 : Int32), .int (100 : Int32)]) (rest := []) (f := (fX9_within a2 (0 : Int32) (100 : Int32) σ)) hK dX9_rule_23 rfl (fun b hb => c_X9_within a2 (0 : Int32) (100 : Int32) σ b hb) ms_X9_within rfl rfl (Nat.le_of_ble_eq_true rfl) tw_900 mw_X9_within (rmOk (Nat.le_of_ble_eq_true rfl) (Nat.le_of_ble_eq_true rfl)) (fun r17 => ?_)
        refine r_ifb_eq (t := 33) (q := 29) hK dX9_rule_26 rfl rfl (fun c18 => ?_) (fun c18 => ?_)
        · refine r_iconst (q := 30) (v := 1) hK dX9_rule_29 rfl rfl ?_
          refine r_goto (q := 34) hK dX9_rule_30 rfl ?_
          exact sV.sub [0, 1, 2] (by rfl) (hk34 true)
        · refine r_iconst (q := 34) (v := 0) hK dX9_rule_33 rfl rfl ?_
          exact sV.sub [0, 1, 2] (by rfl) (hk34 false)
    · refine r_if_ne (t := 14) (q := 4) hK dX9_rule_1 rfl rfl (fun c19 => ?_) (fun c19 => ?_)
      · exact sV.sub [0, 1, 2] (by rfl) (hk14 ())
      · refine r_iload_n (q := 5) hK dX9_rule_4 rfl rfl 2 rfl ?_
        refine r_iconst (q := 6) (v := 1) hK dX9_rule_5 rfl rfl ?_
        refine r_bipush (q := 8) (v := 10) hK dX9_rule_6 rfl rfl ?_
        refine callS_b (q := 11) (As := [.int a2, .int (1 : Int32), .int (10 : Int32)]) (rest := []) (f := (fX9_within a2 (1 : Int32) (10 : Int32) σ)) hK dX9_rule_8 rfl (fun b hb => c_X9_within a2 (1 : Int32) (10 : Int32) σ b hb) ms_X9_within rfl rfl (Nat.le_of_ble_eq_true rfl) tw_900 mw_X9_within (rmOk (Nat.le_of_ble_eq_true rfl) (Nat.le_of_ble_eq_true rfl)) (fun r20 => ?_)
        refine r_ifb_ne (t := 29) (q := 14) hK dX9_rule_11 rfl rfl (fun c21 => ?_) (fun c21 => ?_)
        · refine r_iconst (q := 30) (v := 1) hK dX9_rule_29 rfl rfl ?_
          refine r_goto (q := 34) hK dX9_rule_30 rfl ?_
          exact sV.sub [0, 1, 2] (by rfl) (hk34 true)
        · exact sV.sub [0, 1, 2] (by rfl) (hk14 ())
def fX9_drawn  (a1 : Int32) (σ : Store) : Option (Int32 × Store) := (six 1480 (0 : Int32) (six 1480 (0 : Int32) (slt (sup σ 1 (snx (0 : Int32)) (((σ 1 (snx (0 : Int32))) * (1103515245 : Int32)) + (12345 : Int32))) fun s3 => (six 1480 (0 : Int32) (sdz a1 (some (((sushr (s3 1 (snx (0 : Int32))) (8 : Int32)) - (sushr (s3 1 (snx (0 : Int32))) (8 : Int32)) / a1 * a1), s3)))))))
theorem c_X9_drawn {l0 : Launch} {G : Geo} (a1 : Int32) (σ : Store) (a : (Int32 × Store)) (hf : fX9_drawn  a1 σ = some a) : sCon l0 wMod G yX9_drawn cX9_drawn 2 (some .int) (rmL 1 60) [.ref (gad G 0), .int a1] σ (some (.int a.1)) a.2 := by
  refine sCon.of (by decide) ⟨rfl, rfl⟩ (Nat.le_of_ble_eq_true rfl) RX9 rfl _ hf (fun K hK => ?_)
  show sV wMod G K a σ 0 [(0, .ref (gad G 0)), (1, .int a1)] [] _
  unfold fX9_drawn
  refine r_aload_n (q := 1) hK dX9_drawn_0 rfl rfl 0 rfl ?_
  refine gf_9_0 (q := 4) hK dX9_drawn_1 rfl tw_804 ?_
  refine r_iconst (q := 5) (v := 0) hK dX9_drawn_4 rfl rfl ?_
  refine r_aload_n (q := 6) hK dX9_drawn_5 rfl rfl 0 rfl ?_
  refine gf_9_0 (q := 9) hK dX9_drawn_6 rfl tw_804 ?_
  refine r_iconst (q := 10) (v := 0) hK dX9_drawn_9 rfl rfl ?_
  refine r_iald (q := 11) hK dX9_drawn_10 rfl aM1 (fun h1 => ?_)
  refine r_ldc (q := 13) hK dX9_drawn_11 rfl tw_1010 ?_
  refine r_imul (q := 14) hK dX9_drawn_13 rfl ?_
  refine r_sipush (q := 17) (v := 12345) hK dX9_drawn_14 rfl rfl ?_
  refine r_iadd (q := 18) hK dX9_drawn_17 rfl ?_
  refine r_iast (q := 19) hK dX9_drawn_18 rfl aM1 (fun h2 => ?_)
  refine sV.ltS (fun s3 => ?_)
  refine r_aload_n (q := 20) hK dX9_drawn_19 rfl rfl 0 rfl ?_
  refine gf_9_0 (q := 23) hK dX9_drawn_20 rfl tw_804 ?_
  refine r_iconst (q := 24) (v := 0) hK dX9_drawn_23 rfl rfl ?_
  refine r_iald (q := 25) hK dX9_drawn_24 rfl aM1 (fun h4 => ?_)
  refine r_bipush (q := 27) (v := 8) hK dX9_drawn_25 rfl rfl ?_
  refine r_iushr (q := 28) hK dX9_drawn_27 rfl ?_
  refine r_iload_n (q := 29) hK dX9_drawn_28 rfl rfl 1 rfl ?_
  refine r_irem (q := 30) hK dX9_drawn_29 rfl ?_
  exact e_iS hK dX9_drawn_30
def fX9_deal_L29  (v2 : Int32) : Nat → Int32 → Store → Option (Int32 × Store)
  | 0, _, _ => none
  | n + 1, i3, τ => (if v2 ≤ i3 then (some (v2, τ)) else (sbd2 (fX9_drawn (6 : Int32) τ) fun r30 s31 => (sbd2 (fX9_drawn (255 : Int32) s31) fun r32 s33 => (slt ((1 : Int32) + r32) fun x34 => (sbd2 (fX9_drawn (50 : Int32) s33) fun r35 s36 => (sbd2 (fX9_drawn (10 : Int32) s36) fun r37 s38 => (sbd2 (fX9_comes r30 x34 r35 r37 s38) fun r39 s40 => (fX9_deal_L29 v2 n (i3 + (1 : Int32)) s40))))))))
theorem vX9_deal_L29 {G : Geo} {K : KT} {l0 : Launch} (σ : Store) {a : (Int32 × Store)} (v1 : Int32) (v2 : Int32) (hK : sOk wMod G K l0 RX9 cX9_deal (rmL 2 86) 7 (some .int) (some (.int a.1)) a.2) : ∀ (n : Nat) (i3 : Int32) (τ : Store), sV wMod G K a τ 29 [(0, .ref (gad G 0)), (1, .int v1), (2, .int v2), (3, .int i3)] [] (fX9_deal_L29 v2 n i3 τ) := by
  intro n
  induction n with
  | zero =>
    intro i3 τ
    exact sV.no
  | succ n ih =>
    intro i3 τ
    rw [fX9_deal_L29]
    refine r_iload_n (q := 30) hK dX9_deal_29 rfl rfl 3 rfl ?_
    refine r_iload_n (q := 31) hK dX9_deal_30 rfl rfl 2 rfl ?_
    refine r_icmp_ge (t := 84) (q := 34) hK dX9_deal_31 rfl rfl (fun c29 => ?_) (fun c29 => ?_)
    · refine r_iload_n (q := 85) hK dX9_deal_84 rfl rfl 2 rfl ?_
      exact e_iS hK dX9_deal_85
    · refine r_aload_n (q := 35) hK dX9_deal_34 rfl rfl 0 rfl ?_
      refine r_bipush (q := 37) (v := 6) hK dX9_deal_35 rfl rfl ?_
      refine callV_iS (q := 40) (j := 0) (As := [.int (6 : Int32)]) (rest := []) (f := (fX9_drawn (6 : Int32) τ)) hK dX9_deal_37 rfl (fun b hb => c_X9_drawn (6 : Int32) τ b hb) ⟨9, _, _, _, by decide, rfl, cM, rfl⟩ mv_X9_drawn rfl rfl (Nat.le_of_ble_eq_true rfl) tw_1006 mw_X9_drawn (rmOk (Nat.le_of_ble_eq_true rfl) (Nat.le_of_ble_eq_true rfl)) (fun r30 s31 => ?_)
      refine r_istore (q := 42) (loc' := [(4, .int r30), (0, .ref (gad G 0)), (1, .int v1), (2, .int v2), (3, .int i3)]) hK dX9_deal_40 rfl (by decide) rfl ?_
      refine r_iconst (q := 43) (v := 1) hK dX9_deal_42 rfl rfl ?_
      refine r_aload_n (q := 44) hK dX9_deal_43 rfl rfl 1 rfl ?_
      refine r_sipush (q := 47) (v := 255) hK dX9_deal_44 rfl rfl ?_
      refine callV_iS (q := 50) (j := 0) (As := [.int (255 : Int32)]) (rest := [.int (1 : Int32)]) (f := (fX9_drawn (255 : Int32) s31)) hK dX9_deal_47 rfl (fun b hb => c_X9_drawn (255 : Int32) s31 b hb) ⟨9, _, _, _, by decide, rfl, cM, rfl⟩ mv_X9_drawn rfl rfl (Nat.le_of_ble_eq_true rfl) tw_1006 mw_X9_drawn (rmOk (Nat.le_of_ble_eq_true rfl) (Nat.le_of_ble_eq_true rfl)) (fun r32 s33 => ?_)
      refine r_iadd (q := 51) hK dX9_deal_50 rfl ?_
      refine sV.ltI (fun x34 => ?_)
      refine r_istore (q := 53) (loc' := [(5, .int x34), (4, .int r30), (0, .ref (gad G 0)), (1, .int v1), (2, .int v2), (3, .int i3)]) hK dX9_deal_51 rfl (by decide) rfl ?_
      refine r_aload_n (q := 54) hK dX9_deal_53 rfl rfl 2 rfl ?_
      refine r_bipush (q := 56) (v := 50) hK dX9_deal_54 rfl rfl ?_
      refine callV_iS (q := 59) (j := 0) (As := [.int (50 : Int32)]) (rest := []) (f := (fX9_drawn (50 : Int32) s33)) hK dX9_deal_56 rfl (fun b hb => c_X9_drawn (50 : Int32) s33 b hb) ⟨9, _, _, _, by decide, rfl, cM, rfl⟩ mv_X9_drawn rfl rfl (Nat.le_of_ble_eq_true rfl) tw_1006 mw_X9_drawn (rmOk (Nat.le_of_ble_eq_true rfl) (Nat.le_of_ble_eq_true rfl)) (fun r35 s36 => ?_)
      refine r_istore (q := 61) (loc' := [(6, .int r35), (5, .int x34), (4, .int r30), (0, .ref (gad G 0)), (1, .int v1), (2, .int v2), (3, .int i3)]) hK dX9_deal_59 rfl (by decide) rfl ?_
      refine r_aload_n (q := 62) hK dX9_deal_61 rfl rfl 3 rfl ?_
      refine r_iload (q := 64) hK dX9_deal_62 rfl 2 rfl ?_
      refine r_iload (q := 66) hK dX9_deal_64 rfl 1 rfl ?_
      refine r_iload (q := 68) hK dX9_deal_66 rfl 0 rfl ?_
      refine r_aload_n (q := 69) hK dX9_deal_68 rfl rfl 3 rfl ?_
      refine r_bipush (q := 71) (v := 10) hK dX9_deal_69 rfl rfl ?_
      refine callV_iS (q := 74) (j := 0) (As := [.int (10 : Int32)]) (rest := [.int r35, .int x34, .int r30, .ref (gad G 0)]) (f := (fX9_drawn (10 : Int32) s36)) hK dX9_deal_71 rfl (fun b hb => c_X9_drawn (10 : Int32) s36 b hb) ⟨9, _, _, _, by decide, rfl, cM, rfl⟩ mv_X9_drawn rfl rfl (Nat.le_of_ble_eq_true rfl) tw_1006 mw_X9_drawn (rmOk (Nat.le_of_ble_eq_true rfl) (Nat.le_of_ble_eq_true rfl)) (fun r37 s38 => ?_)
      refine callV_iS (q := 77) (j := 0) (As := [.int r30, .int x34, .int r35, .int r37]) (rest := []) (f := (fX9_comes r30 x34 r35 r37 s38)) hK dX9_deal_74 rfl (fun b hb => c_X9_comes r30 x34 r35 r37 s38 b hb) ⟨9, _, _, _, by decide, rfl, cM, rfl⟩ mv_X9_comes rfl rfl (Nat.le_of_ble_eq_true rfl) tw_908 mw_X9_comes (rmOk (Nat.le_of_ble_eq_true rfl) (Nat.le_of_ble_eq_true rfl)) (fun r39 s40 => ?_)
      refine r_pop (q := 78) hK dX9_deal_77 rfl rfl ?_
      refine r_iinc (q := 81) (v := (i3 + (1 : Int32))) (loc' := [(3, .int (i3 + (1 : Int32))), (6, .int r35), (5, .int x34), (4, .int r30), (0, .ref (gad G 0)), (1, .int v1), (2, .int v2)]) hK dX9_deal_78 rfl 6 rfl rfl (by decide) rfl ?_
      refine r_goto (q := 29) hK dX9_deal_81 rfl ?_
      exact sV.sub [4, 5, 6, 0] (by rfl) (ih (i3 + (1 : Int32)) s40)
def fX9_deal  (a1 : Int32) (σ : Store) : Option (Int32 × Store) := (sbd (fX9_within a1 (1 : Int32) (10 : Int32) σ) fun r1 => (if r1 = true then (six 1480 (5 : Int32) (slt (smin a1 ((10 : Int32) - (σ 1 (snx (5 : Int32))))) fun x4 => (fX9_deal_L29 x4 FU (0 : Int32) σ))) else (some ((-1000000001 : Int32), σ))))
theorem c_X9_deal {l0 : Launch} {G : Geo} (a1 : Int32) (σ : Store) (a : (Int32 × Store)) (hf : fX9_deal  a1 σ = some a) : sCon l0 wMod G yX9_deal cX9_deal 7 (some .int) (rmL 2 86) [.ref (gad G 0), .int a1] σ (some (.int a.1)) a.2 := by
  refine sCon.of (by decide) ⟨rfl, rfl⟩ (Nat.le_of_ble_eq_true rfl) RX9 rfl _ hf (fun K hK => ?_)
  show sV wMod G K a σ 0 [(0, .ref (gad G 0)), (1, .int a1)] [] _
  unfold fX9_deal
  refine r_iload_n (q := 1) hK dX9_deal_0 rfl rfl 1 rfl ?_
  refine r_iconst (q := 2) (v := 1) hK dX9_deal_1 rfl rfl ?_
  refine r_bipush (q := 4) (v := 10) hK dX9_deal_2 rfl rfl ?_
  refine callS_b (q := 7) (As := [.int a1, .int (1 : Int32), .int (10 : Int32)]) (rest := []) (f := (fX9_within a1 (1 : Int32) (10 : Int32) σ)) hK dX9_deal_4 rfl (fun b hb => c_X9_within a1 (1 : Int32) (10 : Int32) σ b hb) ms_X9_within rfl rfl (Nat.le_of_ble_eq_true rfl) tw_900 mw_X9_within (rmOk (Nat.le_of_ble_eq_true rfl) (Nat.le_of_ble_eq_true rfl)) (fun r1 => ?_)
  refine r_ifb_ne (t := 13) (q := 10) hK dX9_deal_7 rfl rfl (fun c2 => ?_) (fun c2 => ?_)
  · refine r_iload_n (q := 14) hK dX9_deal_13 rfl rfl 1 rfl ?_
    refine r_bipush (q := 16) (v := 10) hK dX9_deal_14 rfl rfl ?_
    refine r_aload_n (q := 17) hK dX9_deal_16 rfl rfl 0 rfl ?_
    refine gf_9_0 (q := 20) hK dX9_deal_17 rfl tw_804 ?_
    refine r_iconst (q := 21) (v := 5) hK dX9_deal_20 rfl rfl ?_
    refine r_iald (q := 22) hK dX9_deal_21 rfl aM1 (fun h3 => ?_)
    refine r_isub (q := 23) hK dX9_deal_22 rfl ?_
    refine r_min (q := 26) hK dX9_deal_23 rfl tw_943 mt_min (rmM (Nat.le_of_ble_eq_true rfl) (Nat.le_of_ble_eq_true rfl)) ?_
    refine sV.ltI (fun x4 => ?_)
    refine r_istore_n (q := 27) (loc' := [(2, .int x4), (0, .ref (gad G 0)), (1, .int a1)]) hK dX9_deal_26 rfl rfl (by decide) rfl ?_
    refine r_iconst (q := 28) (v := 0) hK dX9_deal_27 rfl rfl ?_
    refine r_istore_n (q := 29) (loc' := [(3, .int (0 : Int32)), (2, .int x4), (0, .ref (gad G 0)), (1, .int a1)]) hK dX9_deal_28 rfl rfl (by decide) rfl ?_
    exact sV.sub [2, 3, 1, 0] (by rfl) (vX9_deal_L29 σ a1 x4 hK FU (0 : Int32) σ)
  · refine r_ldc (q := 12) hK dX9_deal_10 rfl tw_906 ?_
    exact e_iS hK dX9_deal_12
def fX9_seed  (a1 : Int32) (σ : Store) : Option (Int32 × Store) := (sbd2 (fX9_become (0 : Int32) a1 σ) fun r1 s2 => (some (r1, s2)))
theorem c_X9_seed {l0 : Launch} {G : Geo} (a1 : Int32) (σ : Store) (a : (Int32 × Store)) (hf : fX9_seed  a1 σ = some a) : sCon l0 wMod G yX9_seed cX9_seed 2 (some .int) (rmL 2 83) [.ref (gad G 0), .int a1] σ (some (.int a.1)) a.2 := by
  refine sCon.of (by decide) ⟨rfl, rfl⟩ (Nat.le_of_ble_eq_true rfl) RX9 rfl _ hf (fun K hK => ?_)
  show sV wMod G K a σ 0 [(0, .ref (gad G 0)), (1, .int a1)] [] _
  unfold fX9_seed
  refine r_aload_n (q := 1) hK dX9_seed_0 rfl rfl 0 rfl ?_
  refine r_iconst (q := 2) (v := 0) hK dX9_seed_1 rfl rfl ?_
  refine r_iload_n (q := 3) hK dX9_seed_2 rfl rfl 1 rfl ?_
  refine callV_iS (q := 6) (j := 0) (As := [.int (0 : Int32), .int a1]) (rest := []) (f := (fX9_become (0 : Int32) a1 σ)) hK dX9_seed_3 rfl (fun b hb => c_X9_become (0 : Int32) a1 σ b hb) ⟨9, _, _, _, by decide, rfl, cM, rfl⟩ mv_X9_become rfl rfl (Nat.le_of_ble_eq_true rfl) tw_966 mw_X9_become (rmOk (Nat.le_of_ble_eq_true rfl) (Nat.le_of_ble_eq_true rfl)) (fun r1 s2 => ?_)
  exact e_iS hK dX9_seed_6
def fX9_isTurned   (σ : Store) : Option Bool := (six 1480 (4 : Int32) (sbd (fX9_bits (σ 1 (snx (4 : Int32))) σ) fun r2 => (six 1480 (2 : Int32) (if r2 < (σ 1 (snx (2 : Int32))) then (some false) else (some true)))))
theorem c_X9_isTurned {l0 : Launch} {G : Geo}  (σ : Store) (a : Bool) (hf : fX9_isTurned   σ = some a) : sCon l0 wMod G yX9_isTurned cX9_isTurned 1 (some .boolean) (rmL 2 82) [.ref (gad G 0)] σ (some (.int (b2i a))) σ := by
  refine sCon.of (by decide) ⟨rfl, rfl⟩ (Nat.le_of_ble_eq_true rfl) RX9 rfl _ hf (fun K hK => ?_)
  show sV wMod G K a σ 0 [(0, .ref (gad G 0))] [] _
  unfold fX9_isTurned
  refine r_aload_n (q := 1) hK dX9_isTurned_0 rfl rfl 0 rfl ?_
  refine gf_9_0 (q := 4) hK dX9_isTurned_1 rfl tw_804 ?_
  refine r_iconst (q := 5) (v := 4) hK dX9_isTurned_4 rfl rfl ?_
  refine r_iald (q := 6) hK dX9_isTurned_5 rfl aM1 (fun h1 => ?_)
  refine callS_i (q := 9) (As := [.int (σ 1 (snx (4 : Int32)))]) (rest := []) (f := (fX9_bits (σ 1 (snx (4 : Int32))) σ)) hK dX9_isTurned_6 rfl (fun b hb => c_X9_bits (σ 1 (snx (4 : Int32))) σ b hb) ms_X9_bits rfl rfl (Nat.le_of_ble_eq_true rfl) tw_948 mw_X9_bits (rmOk (Nat.le_of_ble_eq_true rfl) (Nat.le_of_ble_eq_true rfl)) (fun r2 => ?_)
  refine r_aload_n (q := 10) hK dX9_isTurned_9 rfl rfl 0 rfl ?_
  refine gf_9_0 (q := 13) hK dX9_isTurned_10 rfl tw_804 ?_
  refine r_iconst (q := 14) (v := 2) hK dX9_isTurned_13 rfl rfl ?_
  refine r_iald (q := 15) hK dX9_isTurned_14 rfl aM1 (fun h3 => ?_)
  refine r_icmp_lt (t := 22) (q := 18) hK dX9_isTurned_15 rfl rfl (fun c4 => ?_) (fun c4 => ?_)
  · refine r_iconst (q := 23) (v := 0) hK dX9_isTurned_22 rfl rfl ?_
    exact e_b (b := false) hK dX9_isTurned_23
  · refine r_iconst (q := 19) (v := 1) hK dX9_isTurned_18 rfl rfl ?_
    refine r_goto (q := 23) hK dX9_isTurned_19 rfl ?_
    exact e_b (b := true) hK dX9_isTurned_23
def fX9_comesIn  (a1 : Int32) (a2 : Int32) (σ : Store) : Option (Bool × Store) := (sbd (fX9_isTurned σ) fun r1 => (if r1 = true then (some (true, σ)) else (sbd (fX9_wordIs a1 (0 : Int32) σ) fun r3 => (sbd (fX9_isUnder r3 (2 : Int32) σ) fun r4 => (sjn (fun k37 : Store → Option (Bool × Store) => (if r4 = true then (sbd2 (fX9_drawn (100 : Int32) σ) fun r28 s29 => (six 1480 (3 : Int32) (if r28 < (s29 1 (snx (3 : Int32))) then (k37 s29) else (some (true, s29))))) else (k37 σ))) (fun (s_37 : Store) => (sbd (fX9_wordIs a1 (5 : Int32) s_37) fun r10 => (sbd (fX9_wordIs a1 (3 : Int32) s_37) fun r11 => (if r10 < r11 then (six 1480 (((68 : Int32) + ((2 : Int32) * a2)) + (1 : Int32)) (sbd2 (fX9_costs a1 s_37) fun r14 s15 => (six 1480 (((68 : Int32) + ((2 : Int32) * a2)) + (1 : Int32)) (slt (sup s15 1 (snx (((68 : Int32) + ((2 : Int32) * a2)) + (1 : Int32))) ((s_37 1 (snx (((68 : Int32) + ((2 : Int32) * a2)) + (1 : Int32)))) + r14)) fun s17 => (six 1480 (((8 : Int32) + ((6 : Int32) * a1)) + (4 : Int32)) (six 1480 (((8 : Int32) + ((6 : Int32) * a1)) + (4 : Int32)) (slt (sup s17 1 (snx (((8 : Int32) + ((6 : Int32) * a1)) + (4 : Int32))) ((s17 1 (snx (((8 : Int32) + ((6 : Int32) * a1)) + (4 : Int32)))) + (1 : Int32))) fun s20 => (six 1480 (((8 : Int32) + ((6 : Int32) * a1)) + (5 : Int32)) (six 1480 (((8 : Int32) + ((6 : Int32) * a1)) + (5 : Int32)) (slt (sup s20 1 (snx (((8 : Int32) + ((6 : Int32) * a1)) + (5 : Int32))) ((s20 1 (snx (((8 : Int32) + ((6 : Int32) * a1)) + (5 : Int32)))) + (1 : Int32))) fun s23 => (six 1480 (4 : Int32) (six 1480 (4 : Int32) (slt (sup s23 1 (snx (4 : Int32)) ((s23 1 (snx (4 : Int32))) ||| ((1 : Int32) <<< (a1 &&& 31)))) fun s26 => (some (true, s26))))))))))))))) else (some (false, s_37)))))))))))
theorem c_X9_comesIn {l0 : Launch} {G : Geo} (a1 : Int32) (a2 : Int32) (σ : Store) (a : (Bool × Store)) (hf : fX9_comesIn  a1 a2 σ = some a) : sCon l0 wMod G yX9_comesIn cX9_comesIn 3 (some .boolean) (rmL 5 152) [.ref (gad G 0), .int a1, .int a2] σ (some (.int (b2i a.1))) a.2 := by
  refine sCon.of (by decide) ⟨rfl, rfl⟩ (Nat.le_of_ble_eq_true rfl) RX9 rfl _ hf (fun K hK => ?_)
  show sV wMod G K a σ 0 [(0, .ref (gad G 0)), (1, .int a1), (2, .int a2)] [] _
  unfold fX9_comesIn
  refine r_aload_n (q := 1) hK dX9_comesIn_0 rfl rfl 0 rfl ?_
  refine callV_b (q := 4) (j := 0) (As := []) (rest := []) (f := (fX9_isTurned σ)) hK dX9_comesIn_1 rfl (fun b hb => c_X9_isTurned σ b hb) ⟨9, _, _, _, by decide, rfl, cM, rfl⟩ mv_X9_isTurned rfl rfl (Nat.le_of_ble_eq_true rfl) tw_1030 mw_X9_isTurned (rmOk (Nat.le_of_ble_eq_true rfl) (Nat.le_of_ble_eq_true rfl)) (fun r1 => ?_)
  refine r_ifb_ne (t := 35) (q := 7) hK dX9_comesIn_4 rfl rfl (fun c2 => ?_) (fun c2 => ?_)
  · refine r_iconst (q := 36) (v := 1) hK dX9_comesIn_35 rfl rfl ?_
    exact e_bS (b := true) hK dX9_comesIn_36
  · refine r_aload_n (q := 8) hK dX9_comesIn_7 rfl rfl 0 rfl ?_
    refine r_iload_n (q := 9) hK dX9_comesIn_8 rfl rfl 1 rfl ?_
    refine r_iconst (q := 10) (v := 0) hK dX9_comesIn_9 rfl rfl ?_
    refine callV_i (q := 13) (j := 0) (As := [.int a1, .int (0 : Int32)]) (rest := []) (f := (fX9_wordIs a1 (0 : Int32) σ)) hK dX9_comesIn_10 rfl (fun b hb => c_X9_wordIs a1 (0 : Int32) σ b hb) ⟨9, _, _, _, by decide, rfl, cM, rfl⟩ mv_X9_wordIs rfl rfl (Nat.le_of_ble_eq_true rfl) tw_932 mw_X9_wordIs (rmOk (Nat.le_of_ble_eq_true rfl) (Nat.le_of_ble_eq_true rfl)) (fun r3 => ?_)
    refine r_iconst (q := 14) (v := 2) hK dX9_comesIn_13 rfl rfl ?_
    refine callS_b (q := 17) (As := [.int r3, .int (2 : Int32)]) (rest := []) (f := (fX9_isUnder r3 (2 : Int32) σ)) hK dX9_comesIn_14 rfl (fun b hb => c_X9_isUnder r3 (2 : Int32) σ b hb) ms_X9_isUnder rfl rfl (Nat.le_of_ble_eq_true rfl) tw_955 mw_X9_isUnder (rmOk (Nat.le_of_ble_eq_true rfl) (Nat.le_of_ble_eq_true rfl)) (fun r4 => ?_)
    refine sV.jn (fun k : Store → Option (Bool × Store) => ∀ (s_37 : Store), sV wMod G K a s_37 37 [(0, .ref (gad G 0)), (1, .int a1), (2, .int a2)] [] (k s_37)) (fun s_37 => ?_) (fun k37 hk37 => ?_)
    · refine r_aload_n (q := 38) hK dX9_comesIn_37 rfl rfl 0 rfl ?_
      refine r_iload_n (q := 39) hK dX9_comesIn_38 rfl rfl 1 rfl ?_
      refine r_iconst (q := 40) (v := 5) hK dX9_comesIn_39 rfl rfl ?_
      refine callV_i (q := 43) (j := 0) (As := [.int a1, .int (5 : Int32)]) (rest := []) (f := (fX9_wordIs a1 (5 : Int32) s_37)) hK dX9_comesIn_40 rfl (fun b hb => c_X9_wordIs a1 (5 : Int32) s_37 b hb) ⟨9, _, _, _, by decide, rfl, cM, rfl⟩ mv_X9_wordIs rfl rfl (Nat.le_of_ble_eq_true rfl) tw_932 mw_X9_wordIs (rmOk (Nat.le_of_ble_eq_true rfl) (Nat.le_of_ble_eq_true rfl)) (fun r10 => ?_)
      refine r_aload_n (q := 44) hK dX9_comesIn_43 rfl rfl 0 rfl ?_
      refine r_iload_n (q := 45) hK dX9_comesIn_44 rfl rfl 1 rfl ?_
      refine r_iconst (q := 46) (v := 3) hK dX9_comesIn_45 rfl rfl ?_
      refine callV_i (q := 49) (j := 0) (As := [.int a1, .int (3 : Int32)]) (rest := [.int r10]) (f := (fX9_wordIs a1 (3 : Int32) s_37)) hK dX9_comesIn_46 rfl (fun b hb => c_X9_wordIs a1 (3 : Int32) s_37 b hb) ⟨9, _, _, _, by decide, rfl, cM, rfl⟩ mv_X9_wordIs rfl rfl (Nat.le_of_ble_eq_true rfl) tw_932 mw_X9_wordIs (rmOk (Nat.le_of_ble_eq_true rfl) (Nat.le_of_ble_eq_true rfl)) (fun r11 => ?_)
      refine r_icmp_lt (t := 54) (q := 52) hK dX9_comesIn_49 rfl rfl (fun c12 => ?_) (fun c12 => ?_)
      · refine r_aload_n (q := 55) hK dX9_comesIn_54 rfl rfl 0 rfl ?_
        refine gf_9_0 (q := 58) hK dX9_comesIn_55 rfl tw_804 ?_
        refine r_bipush (q := 60) (v := 68) hK dX9_comesIn_58 rfl rfl ?_
        refine r_iconst (q := 61) (v := 2) hK dX9_comesIn_60 rfl rfl ?_
        refine r_iload_n (q := 62) hK dX9_comesIn_61 rfl rfl 2 rfl ?_
        refine r_imul (q := 63) hK dX9_comesIn_62 rfl ?_
        refine r_iadd (q := 64) hK dX9_comesIn_63 rfl ?_
        refine r_iconst (q := 65) (v := 1) hK dX9_comesIn_64 rfl rfl ?_
        refine r_iadd (q := 66) hK dX9_comesIn_65 rfl ?_
        refine r_dup2 (q := 67) hK dX9_comesIn_66 rfl rfl rfl ?_
        refine r_iald (q := 68) hK dX9_comesIn_67 rfl aM1 (fun h13 => ?_)
        refine r_aload_n (q := 69) hK dX9_comesIn_68 rfl rfl 0 rfl ?_
        refine r_iload_n (q := 70) hK dX9_comesIn_69 rfl rfl 1 rfl ?_
        refine callV_iS (q := 73) (j := 0) (As := [.int a1]) (rest := [.int (s_37 1 (snx (((68 : Int32) + ((2 : Int32) * a2)) + (1 : Int32)))), .int (((68 : Int32) + ((2 : Int32) * a2)) + (1 : Int32)), .ref (gad G 1)]) (f := (fX9_costs a1 s_37)) hK dX9_comesIn_70 rfl (fun b hb => c_X9_costs a1 s_37 b hb) ⟨9, _, _, _, by decide, rfl, cM, rfl⟩ mv_X9_costs rfl rfl (Nat.le_of_ble_eq_true rfl) tw_920 mw_X9_costs (rmOk (Nat.le_of_ble_eq_true rfl) (Nat.le_of_ble_eq_true rfl)) (fun r14 s15 => ?_)
        refine r_iadd (q := 74) hK dX9_comesIn_73 rfl ?_
        refine r_iast (q := 75) hK dX9_comesIn_74 rfl aM1 (fun h16 => ?_)
        refine sV.ltS (fun s17 => ?_)
        refine r_aload_n (q := 76) hK dX9_comesIn_75 rfl rfl 0 rfl ?_
        refine gf_9_0 (q := 79) hK dX9_comesIn_76 rfl tw_804 ?_
        refine r_bipush (q := 81) (v := 8) hK dX9_comesIn_79 rfl rfl ?_
        refine r_bipush (q := 83) (v := 6) hK dX9_comesIn_81 rfl rfl ?_
        refine r_iload_n (q := 84) hK dX9_comesIn_83 rfl rfl 1 rfl ?_
        refine r_imul (q := 85) hK dX9_comesIn_84 rfl ?_
        refine r_iadd (q := 86) hK dX9_comesIn_85 rfl ?_
        refine r_iconst (q := 87) (v := 4) hK dX9_comesIn_86 rfl rfl ?_
        refine r_iadd (q := 88) hK dX9_comesIn_87 rfl ?_
        refine r_dup2 (q := 89) hK dX9_comesIn_88 rfl rfl rfl ?_
        refine r_iald (q := 90) hK dX9_comesIn_89 rfl aM1 (fun h18 => ?_)
        refine r_iconst (q := 91) (v := 1) hK dX9_comesIn_90 rfl rfl ?_
        refine r_iadd (q := 92) hK dX9_comesIn_91 rfl ?_
        refine r_iast (q := 93) hK dX9_comesIn_92 rfl aM1 (fun h19 => ?_)
        refine sV.ltS (fun s20 => ?_)
        refine r_aload_n (q := 94) hK dX9_comesIn_93 rfl rfl 0 rfl ?_
        refine gf_9_0 (q := 97) hK dX9_comesIn_94 rfl tw_804 ?_
        refine r_bipush (q := 99) (v := 8) hK dX9_comesIn_97 rfl rfl ?_
        refine r_bipush (q := 101) (v := 6) hK dX9_comesIn_99 rfl rfl ?_
        refine r_iload_n (q := 102) hK dX9_comesIn_101 rfl rfl 1 rfl ?_
        refine r_imul (q := 103) hK dX9_comesIn_102 rfl ?_
        refine r_iadd (q := 104) hK dX9_comesIn_103 rfl ?_
        refine r_iconst (q := 105) (v := 5) hK dX9_comesIn_104 rfl rfl ?_
        refine r_iadd (q := 106) hK dX9_comesIn_105 rfl ?_
        refine r_dup2 (q := 107) hK dX9_comesIn_106 rfl rfl rfl ?_
        refine r_iald (q := 108) hK dX9_comesIn_107 rfl aM1 (fun h21 => ?_)
        refine r_iconst (q := 109) (v := 1) hK dX9_comesIn_108 rfl rfl ?_
        refine r_iadd (q := 110) hK dX9_comesIn_109 rfl ?_
        refine r_iast (q := 111) hK dX9_comesIn_110 rfl aM1 (fun h22 => ?_)
        refine sV.ltS (fun s23 => ?_)
        refine r_aload_n (q := 112) hK dX9_comesIn_111 rfl rfl 0 rfl ?_
        refine gf_9_0 (q := 115) hK dX9_comesIn_112 rfl tw_804 ?_
        refine r_iconst (q := 116) (v := 4) hK dX9_comesIn_115 rfl rfl ?_
        refine r_dup2 (q := 117) hK dX9_comesIn_116 rfl rfl rfl ?_
        refine r_iald (q := 118) hK dX9_comesIn_117 rfl aM1 (fun h24 => ?_)
        refine r_iconst (q := 119) (v := 1) hK dX9_comesIn_118 rfl rfl ?_
        refine r_iload_n (q := 120) hK dX9_comesIn_119 rfl rfl 1 rfl ?_
        refine r_ishl (q := 121) hK dX9_comesIn_120 rfl ?_
        refine r_ior (q := 122) hK dX9_comesIn_121 rfl ?_
        refine r_iast (q := 123) hK dX9_comesIn_122 rfl aM1 (fun h25 => ?_)
        refine sV.ltS (fun s26 => ?_)
        refine r_iconst (q := 124) (v := 1) hK dX9_comesIn_123 rfl rfl ?_
        exact e_bS (b := true) hK dX9_comesIn_124
      · refine r_iconst (q := 53) (v := 0) hK dX9_comesIn_52 rfl rfl ?_
        exact e_bS (b := false) hK dX9_comesIn_53
    · refine r_ifb_eq (t := 37) (q := 20) hK dX9_comesIn_17 rfl rfl (fun c27 => ?_) (fun c27 => ?_)
      · refine r_aload_n (q := 21) hK dX9_comesIn_20 rfl rfl 0 rfl ?_
        refine r_bipush (q := 23) (v := 100) hK dX9_comesIn_21 rfl rfl ?_
        refine callV_iS (q := 26) (j := 0) (As := [.int (100 : Int32)]) (rest := []) (f := (fX9_drawn (100 : Int32) σ)) hK dX9_comesIn_23 rfl (fun b hb => c_X9_drawn (100 : Int32) σ b hb) ⟨9, _, _, _, by decide, rfl, cM, rfl⟩ mv_X9_drawn rfl rfl (Nat.le_of_ble_eq_true rfl) tw_1006 mw_X9_drawn (rmOk (Nat.le_of_ble_eq_true rfl) (Nat.le_of_ble_eq_true rfl)) (fun r28 s29 => ?_)
        refine r_aload_n (q := 27) hK dX9_comesIn_26 rfl rfl 0 rfl ?_
        refine gf_9_0 (q := 30) hK dX9_comesIn_27 rfl tw_804 ?_
        refine r_iconst (q := 31) (v := 3) hK dX9_comesIn_30 rfl rfl ?_
        refine r_iald (q := 32) hK dX9_comesIn_31 rfl aM1 (fun h30 => ?_)
        refine r_icmp_lt (t := 37) (q := 35) hK dX9_comesIn_32 rfl rfl (fun c31 => ?_) (fun c31 => ?_)
        · exact sV.sub [0, 1, 2] (by rfl) (hk37 s29)
        · refine r_iconst (q := 36) (v := 1) hK dX9_comesIn_35 rfl rfl ?_
          exact e_bS (b := true) hK dX9_comesIn_36
      · exact sV.sub [0, 1, 2] (by rfl) (hk37 σ)
def fX9_crosses_L5  (v1 : Int32) (v2 : Int32) : Nat → Int32 → Int32 → Store → Option (Int32 × Store)
  | 0, _, _, _ => none
  | n + 1, i3, i4, τ => (six 1480 (5 : Int32) (if (τ 1 (snx (5 : Int32))) ≤ i4 then (some (i3, τ)) else (sbd (fX9_travellerIs v1 (0 : Int32) τ) fun r27 => (sbd (fX9_has (v2 &&& (r27 ^^^ (-1 : Int32))) i4 τ) fun r28 => (if r28 = true then (sbd2 (fX9_comesIn i4 v1 τ) fun r30 s31 => (if r30 = true then (slt (i3 ||| ((1 : Int32) <<< (i4 &&& 31))) fun x33 => (six 1480 (((68 : Int32) + ((2 : Int32) * v1)) + (0 : Int32)) (six 1480 (((68 : Int32) + ((2 : Int32) * v1)) + (0 : Int32)) (slt (sup s31 1 (snx (((68 : Int32) + ((2 : Int32) * v1)) + (0 : Int32))) ((s31 1 (snx (((68 : Int32) + ((2 : Int32) * v1)) + (0 : Int32)))) ||| ((1 : Int32) <<< (i4 &&& 31)))) fun s36 => (fX9_crosses_L5 v1 v2 n x33 (i4 + (1 : Int32)) s36))))) else (fX9_crosses_L5 v1 v2 n i3 (i4 + (1 : Int32)) s31))) else (fX9_crosses_L5 v1 v2 n i3 (i4 + (1 : Int32)) τ))))))
theorem vX9_crosses_L5 {G : Geo} {K : KT} {l0 : Launch} (σ : Store) {a : (Int32 × Store)} (v1 : Int32) (v2 : Int32) (hK : sOk wMod G K l0 RX9 cX9_crosses (rmL 6 174) 5 (some .int) (some (.int a.1)) a.2) : ∀ (n : Nat) (i3 : Int32) (i4 : Int32) (τ : Store), sV wMod G K a τ 5 [(0, .ref (gad G 0)), (1, .int v1), (2, .int v2), (3, .int i3), (4, .int i4)] [] (fX9_crosses_L5 v1 v2 n i3 i4 τ) := by
  intro n
  induction n with
  | zero =>
    intro i3 i4 τ
    exact sV.no
  | succ n ih =>
    intro i3 i4 τ
    rw [fX9_crosses_L5]
    refine r_iload (q := 7) hK dX9_crosses_5 rfl 4 rfl ?_
    refine r_aload_n (q := 8) hK dX9_crosses_7 rfl rfl 0 rfl ?_
    refine gf_9_0 (q := 11) hK dX9_crosses_8 rfl tw_804 ?_
    refine r_iconst (q := 12) (v := 5) hK dX9_crosses_11 rfl rfl ?_
    refine r_iald (q := 13) hK dX9_crosses_12 rfl aM1 (fun h25 => ?_)
    refine r_icmp_ge (t := 77) (q := 16) hK dX9_crosses_13 rfl rfl (fun c26 => ?_) (fun c26 => ?_)
    · refine r_iload_n (q := 78) hK dX9_crosses_77 rfl rfl 3 rfl ?_
      exact e_iS hK dX9_crosses_78
    · refine r_iload_n (q := 17) hK dX9_crosses_16 rfl rfl 2 rfl ?_
      refine r_aload_n (q := 18) hK dX9_crosses_17 rfl rfl 0 rfl ?_
      refine r_iload_n (q := 19) hK dX9_crosses_18 rfl rfl 1 rfl ?_
      refine r_iconst (q := 20) (v := 0) hK dX9_crosses_19 rfl rfl ?_
      refine callV_i (q := 23) (j := 0) (As := [.int v1, .int (0 : Int32)]) (rest := [.int v2]) (f := (fX9_travellerIs v1 (0 : Int32) τ)) hK dX9_crosses_20 rfl (fun b hb => c_X9_travellerIs v1 (0 : Int32) τ b hb) ⟨9, _, _, _, by decide, rfl, cM, rfl⟩ mv_X9_travellerIs rfl rfl (Nat.le_of_ble_eq_true rfl) tw_986 mw_X9_travellerIs (rmOk (Nat.le_of_ble_eq_true rfl) (Nat.le_of_ble_eq_true rfl)) (fun r27 => ?_)
      refine r_iconst (q := 24) (v := -1) hK dX9_crosses_23 rfl rfl ?_
      refine r_ixor (q := 25) hK dX9_crosses_24 rfl ?_
      refine r_iand (q := 26) hK dX9_crosses_25 rfl ?_
      refine r_iload (q := 28) hK dX9_crosses_26 rfl 4 rfl ?_
      refine callS_b (q := 31) (As := [.int (v2 &&& (r27 ^^^ (-1 : Int32))), .int i4]) (rest := []) (f := (fX9_has (v2 &&& (r27 ^^^ (-1 : Int32))) i4 τ)) hK dX9_crosses_28 rfl (fun b hb => c_X9_has (v2 &&& (r27 ^^^ (-1 : Int32))) i4 τ b hb) ms_X9_has rfl rfl (Nat.le_of_ble_eq_true rfl) tw_1023 mw_X9_has (rmOk (Nat.le_of_ble_eq_true rfl) (Nat.le_of_ble_eq_true rfl)) (fun r28 => ?_)
      refine r_ifb_eq (t := 71) (q := 34) hK dX9_crosses_31 rfl rfl (fun c29 => ?_) (fun c29 => ?_)
      · refine r_aload_n (q := 35) hK dX9_crosses_34 rfl rfl 0 rfl ?_
        refine r_iload (q := 37) hK dX9_crosses_35 rfl 4 rfl ?_
        refine r_iload_n (q := 38) hK dX9_crosses_37 rfl rfl 1 rfl ?_
        refine callV_bS (q := 41) (j := 0) (As := [.int i4, .int v1]) (rest := []) (f := (fX9_comesIn i4 v1 τ)) hK dX9_crosses_38 rfl (fun b hb => c_X9_comesIn i4 v1 τ b hb) ⟨9, _, _, _, by decide, rfl, cM, rfl⟩ mv_X9_comesIn rfl rfl (Nat.le_of_ble_eq_true rfl) tw_1026 mw_X9_comesIn (rmOk (Nat.le_of_ble_eq_true rfl) (Nat.le_of_ble_eq_true rfl)) (fun r30 s31 => ?_)
        refine r_ifb_eq (t := 71) (q := 44) hK dX9_crosses_41 rfl rfl (fun c32 => ?_) (fun c32 => ?_)
        · refine r_iload_n (q := 45) hK dX9_crosses_44 rfl rfl 3 rfl ?_
          refine r_iconst (q := 46) (v := 1) hK dX9_crosses_45 rfl rfl ?_
          refine r_iload (q := 48) hK dX9_crosses_46 rfl 4 rfl ?_
          refine r_ishl (q := 49) hK dX9_crosses_48 rfl ?_
          refine r_ior (q := 50) hK dX9_crosses_49 rfl ?_
          refine sV.ltI (fun x33 => ?_)
          refine r_istore_n (q := 51) (loc' := [(3, .int x33), (0, .ref (gad G 0)), (1, .int v1), (2, .int v2), (4, .int i4)]) hK dX9_crosses_50 rfl rfl (by decide) rfl ?_
          refine r_aload_n (q := 52) hK dX9_crosses_51 rfl rfl 1 rfl ?_
          refine gf_9_0 (q := 55) hK dX9_crosses_52 rfl tw_804 ?_
          refine r_bipush (q := 57) (v := 68) hK dX9_crosses_55 rfl rfl ?_
          refine r_iconst (q := 58) (v := 2) hK dX9_crosses_57 rfl rfl ?_
          refine r_iload_n (q := 59) hK dX9_crosses_58 rfl rfl 2 rfl ?_
          refine r_imul (q := 60) hK dX9_crosses_59 rfl ?_
          refine r_iadd (q := 61) hK dX9_crosses_60 rfl ?_
          refine r_iconst (q := 62) (v := 0) hK dX9_crosses_61 rfl rfl ?_
          refine r_iadd (q := 63) hK dX9_crosses_62 rfl ?_
          refine r_dup2 (q := 64) hK dX9_crosses_63 rfl rfl rfl ?_
          refine r_iald (q := 65) hK dX9_crosses_64 rfl aM1 (fun h34 => ?_)
          refine r_iconst (q := 66) (v := 1) hK dX9_crosses_65 rfl rfl ?_
          refine r_iload (q := 68) hK dX9_crosses_66 rfl 4 rfl ?_
          refine r_ishl (q := 69) hK dX9_crosses_68 rfl ?_
          refine r_ior (q := 70) hK dX9_crosses_69 rfl ?_
          refine r_iast (q := 71) hK dX9_crosses_70 rfl aM1 (fun h35 => ?_)
          refine sV.ltS (fun s36 => ?_)
          refine r_iinc (q := 74) (v := (i4 + (1 : Int32))) (loc' := [(4, .int (i4 + (1 : Int32))), (3, .int x33), (0, .ref (gad G 0)), (1, .int v1), (2, .int v2)]) hK dX9_crosses_71 rfl 4 rfl rfl (by decide) rfl ?_
          refine r_goto (q := 5) hK dX9_crosses_74 rfl ?_
          exact sV.sub [2, 3, 4, 1, 0] (by rfl) (ih x33 (i4 + (1 : Int32)) s36)
        · refine r_iinc (q := 74) (v := (i4 + (1 : Int32))) (loc' := [(4, .int (i4 + (1 : Int32))), (0, .ref (gad G 0)), (1, .int v1), (2, .int v2), (3, .int i3)]) hK dX9_crosses_71 rfl 4 rfl rfl (by decide) rfl ?_
          refine r_goto (q := 5) hK dX9_crosses_74 rfl ?_
          exact sV.sub [1, 2, 3, 4, 0] (by rfl) (ih i3 (i4 + (1 : Int32)) s31)
      · refine r_iinc (q := 74) (v := (i4 + (1 : Int32))) (loc' := [(4, .int (i4 + (1 : Int32))), (0, .ref (gad G 0)), (1, .int v1), (2, .int v2), (3, .int i3)]) hK dX9_crosses_71 rfl 4 rfl rfl (by decide) rfl ?_
        refine r_goto (q := 5) hK dX9_crosses_74 rfl ?_
        exact sV.sub [1, 2, 3, 4, 0] (by rfl) (ih i3 (i4 + (1 : Int32)) τ)
def fX9_crosses  (a1 : Int32) (a2 : Int32) (σ : Store) : Option (Int32 × Store) := (fX9_crosses_L5 a1 a2 FU (0 : Int32) (0 : Int32) σ)
theorem c_X9_crosses {l0 : Launch} {G : Geo} (a1 : Int32) (a2 : Int32) (σ : Store) (a : (Int32 × Store)) (hf : fX9_crosses  a1 a2 σ = some a) : sCon l0 wMod G yX9_crosses cX9_crosses 5 (some .int) (rmL 6 174) [.ref (gad G 0), .int a1, .int a2] σ (some (.int a.1)) a.2 := by
  refine sCon.of (by decide) ⟨rfl, rfl⟩ (Nat.le_of_ble_eq_true rfl) RX9 rfl _ hf (fun K hK => ?_)
  show sV wMod G K a σ 0 [(0, .ref (gad G 0)), (1, .int a1), (2, .int a2)] [] _
  unfold fX9_crosses
  refine r_iconst (q := 1) (v := 0) hK dX9_crosses_0 rfl rfl ?_
  refine r_istore_n (q := 2) (loc' := [(3, .int (0 : Int32)), (0, .ref (gad G 0)), (1, .int a1), (2, .int a2)]) hK dX9_crosses_1 rfl rfl (by decide) rfl ?_
  refine r_iconst (q := 3) (v := 0) hK dX9_crosses_2 rfl rfl ?_
  refine r_istore (q := 5) (loc' := [(4, .int (0 : Int32)), (3, .int (0 : Int32)), (0, .ref (gad G 0)), (1, .int a1), (2, .int a2)]) hK dX9_crosses_3 rfl (by decide) rfl ?_
  exact sV.sub [2, 3, 4, 1, 0] (by rfl) (vX9_crosses_L5 σ a1 a2 hK FU (0 : Int32) (0 : Int32) σ)
def fX9_cross  (a1 : Int32) (a2 : Int32) (σ : Store) : Option (Int32 × Store) := (sbd (fX9_isTraveller a1 σ) fun r1 => (if r1 = true then (sbd (fX9_areWords a2 σ) fun r3 => (if r3 = true then (sbd2 (fX9_crosses a1 a2 σ) fun r5 s6 => (some (r5, s6))) else (some ((-1000000001 : Int32), σ)))) else (some ((-1000000001 : Int32), σ))))
theorem c_X9_cross {l0 : Launch} {G : Geo} (a1 : Int32) (a2 : Int32) (σ : Store) (a : (Int32 × Store)) (hf : fX9_cross  a1 a2 σ = some a) : sCon l0 wMod G yX9_cross cX9_cross 3 (some .int) (rmL 7 198) [.ref (gad G 0), .int a1, .int a2] σ (some (.int a.1)) a.2 := by
  refine sCon.of (by decide) ⟨rfl, rfl⟩ (Nat.le_of_ble_eq_true rfl) RX9 rfl _ hf (fun K hK => ?_)
  show sV wMod G K a σ 0 [(0, .ref (gad G 0)), (1, .int a1), (2, .int a2)] [] _
  unfold fX9_cross
  refine r_aload_n (q := 1) hK dX9_cross_0 rfl rfl 0 rfl ?_
  refine r_iload_n (q := 2) hK dX9_cross_1 rfl rfl 1 rfl ?_
  refine callV_b (q := 5) (j := 0) (As := [.int a1]) (rest := []) (f := (fX9_isTraveller a1 σ)) hK dX9_cross_2 rfl (fun b hb => c_X9_isTraveller a1 σ b hb) ⟨9, _, _, _, by decide, rfl, cM, rfl⟩ mv_X9_isTraveller rfl rfl (Nat.le_of_ble_eq_true rfl) tw_982 mw_X9_isTraveller (rmOk (Nat.le_of_ble_eq_true rfl) (Nat.le_of_ble_eq_true rfl)) (fun r1 => ?_)
  refine r_ifb_eq (t := 25) (q := 8) hK dX9_cross_5 rfl rfl (fun c2 => ?_) (fun c2 => ?_)
  · refine r_aload_n (q := 9) hK dX9_cross_8 rfl rfl 0 rfl ?_
    refine r_iload_n (q := 10) hK dX9_cross_9 rfl rfl 2 rfl ?_
    refine callV_b (q := 13) (j := 0) (As := [.int a2]) (rest := []) (f := (fX9_areWords a2 σ)) hK dX9_cross_10 rfl (fun b hb => c_X9_areWords a2 σ b hb) ⟨9, _, _, _, by decide, rfl, cM, rfl⟩ mv_X9_areWords rfl rfl (Nat.le_of_ble_eq_true rfl) tw_994 mw_X9_areWords (rmOk (Nat.le_of_ble_eq_true rfl) (Nat.le_of_ble_eq_true rfl)) (fun r3 => ?_)
    refine r_ifb_eq (t := 25) (q := 16) hK dX9_cross_13 rfl rfl (fun c4 => ?_) (fun c4 => ?_)
    · refine r_aload_n (q := 17) hK dX9_cross_16 rfl rfl 0 rfl ?_
      refine r_iload_n (q := 18) hK dX9_cross_17 rfl rfl 1 rfl ?_
      refine r_iload_n (q := 19) hK dX9_cross_18 rfl rfl 2 rfl ?_
      refine callV_iS (q := 22) (j := 0) (As := [.int a1, .int a2]) (rest := []) (f := (fX9_crosses a1 a2 σ)) hK dX9_cross_19 rfl (fun b hb => c_X9_crosses a1 a2 σ b hb) ⟨9, _, _, _, by decide, rfl, cM, rfl⟩ mv_X9_crosses rfl rfl (Nat.le_of_ble_eq_true rfl) tw_1019 mw_X9_crosses (rmOk (Nat.le_of_ble_eq_true rfl) (Nat.le_of_ble_eq_true rfl)) (fun r5 s6 => ?_)
      refine r_goto (q := 27) hK dX9_cross_22 rfl ?_
      exact e_iS hK dX9_cross_27
    · refine r_ldc (q := 27) hK dX9_cross_25 rfl tw_906 ?_
      exact e_iS hK dX9_cross_27
  · refine r_ldc (q := 27) hK dX9_cross_25 rfl tw_906 ?_
    exact e_iS hK dX9_cross_27
def fX9_man  (a1 : Int32) (σ : Store) : Option Int32 := (if ¬ a1 = 0 then (if ¬ a1 = (1 : Int32) then (some (-1000000001 : Int32)) else (sbd (fX9_isTurned σ) fun r3 => (if r3 = true then (some (1 : Int32)) else (some (0 : Int32))))) else (six 1480 (4 : Int32) (some (σ 1 (snx (4 : Int32))))))
theorem c_X9_man {l0 : Launch} {G : Geo} (a1 : Int32) (σ : Store) (a : Int32) (hf : fX9_man  a1 σ = some a) : sCon l0 wMod G yX9_man cX9_man 2 (some .int) (rmL 3 102) [.ref (gad G 0), .int a1] σ (some (.int a)) σ := by
  refine sCon.of (by decide) ⟨rfl, rfl⟩ (Nat.le_of_ble_eq_true rfl) RX9 rfl _ hf (fun K hK => ?_)
  show sV wMod G K a σ 0 [(0, .ref (gad G 0)), (1, .int a1)] [] _
  unfold fX9_man
  refine r_iload_n (q := 1) hK dX9_man_0 rfl rfl 1 rfl ?_
  refine r_if_ne (t := 13) (q := 4) hK dX9_man_1 rfl rfl (fun c1 => ?_) (fun c1 => ?_)
  · refine r_iload_n (q := 14) hK dX9_man_13 rfl rfl 1 rfl ?_
    refine r_iconst (q := 15) (v := 1) hK dX9_man_14 rfl rfl ?_
    refine r_icmp_ne (t := 33) (q := 18) hK dX9_man_15 rfl rfl (fun c2 => ?_) (fun c2 => ?_)
    · refine r_ldc (q := 35) hK dX9_man_33 rfl tw_906 ?_
      exact e_i hK dX9_man_35
    · refine r_aload_n (q := 19) hK dX9_man_18 rfl rfl 0 rfl ?_
      refine callV_b (q := 22) (j := 0) (As := []) (rest := []) (f := (fX9_isTurned σ)) hK dX9_man_19 rfl (fun b hb => c_X9_isTurned σ b hb) ⟨9, _, _, _, by decide, rfl, cM, rfl⟩ mv_X9_isTurned rfl rfl (Nat.le_of_ble_eq_true rfl) tw_1030 mw_X9_isTurned (rmOk (Nat.le_of_ble_eq_true rfl) (Nat.le_of_ble_eq_true rfl)) (fun r3 => ?_)
      refine r_ifb_eq (t := 29) (q := 25) hK dX9_man_22 rfl rfl (fun c4 => ?_) (fun c4 => ?_)
      · refine r_iconst (q := 26) (v := 1) hK dX9_man_25 rfl rfl ?_
        refine r_goto (q := 35) hK dX9_man_26 rfl ?_
        exact e_i hK dX9_man_35
      · refine r_iconst (q := 30) (v := 0) hK dX9_man_29 rfl rfl ?_
        refine r_goto (q := 35) hK dX9_man_30 rfl ?_
        exact e_i hK dX9_man_35
  · refine r_aload_n (q := 5) hK dX9_man_4 rfl rfl 0 rfl ?_
    refine gf_9_0 (q := 8) hK dX9_man_5 rfl tw_804 ?_
    refine r_iconst (q := 9) (v := 4) hK dX9_man_8 rfl rfl ?_
    refine r_iald (q := 10) hK dX9_man_9 rfl aM1 (fun h5 => ?_)
    refine r_goto (q := 35) hK dX9_man_10 rfl ?_
    exact e_i hK dX9_man_35
