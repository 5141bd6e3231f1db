section CALLT
variable {α : Type} {w : Wd} {G : Geo} {K : KT} {a : α} {σ σ' : Store} {pc q : Nat} {loc : List (Nat × Value)} {st : List Value} {F : Option α} {l0 : Launch} {own : String} {cc : ByteArray} {rm : Room} {nL : Nat} {ret : Option FieldType} {rv : Option Value} {index n0 nL1 i : Nat} {bytes : ByteArray} {ret1 : Option FieldType} {rm1 : Room} {As rest stk : List Value}
theorem r_i2c {x v : Int32} (hK : sOk w G K l0 own cc rm nL ret rv σ') (hd : decode cc pc = .ok (.i2c, 1)) (hq : pc + 1 = q) (hv : (x.toUInt32 % 65536).toInt32 = v) (k : sV w G K a σ q loc (.int v :: st) F) : sV w G K a σ pc loc (.int x :: st) F := by
  subst hq
  obtain ⟨p, l, e, R, s, m, args, below, meth, c, n, Q⟩ := K
  obtain ⟨hx, hb, -⟩ := hK
  intro hF H locs ls hP hS hls
  exact lv_i2c hx hb hd hv (k hF H locs ls hP hS hls)
theorem callT_i {f : Option (Int32)} {kF : Int32 → Option α} {y : MethodName} (hK : sOk w G K l0 own cc rm nL ret rv σ') (hd : decode cc pc = .ok (.invokevirtual index, 3)) (hq : pc + 3 = q) (hc : ∀ b, f = some b → sCon l0 w G y bytes nL1 ret1 rm1 (.ref (gsk G i) :: As) σ (some (.int b)) σ) (hi : i < 6) (hv : mV y) (hst : stk = As.reverse ++ .ref (gsk G i) :: rest) (hn0 : As.length = n0) (hcat : (rest.map fun v => v.category).sum ≤ 8) (hl : Cond.methodLink own index y ∈ TT) (hw : mW y bytes nL1 ret1 n0) (hrm : (rm1.cells = 0 ∧ rm1.slots = 0) ∧ rm1.frames + 1 ≤ rm.frames ∧ 8 + (nL1 + 11) + rm1.locals ≤ rm.locals) (kk : ∀ b : Int32, sV w G K a σ q loc (.int b :: rest) (kF b)) (hy : y.cls = "java/lang/String" := by rfl) : sV w G K a σ pc loc stk (sbd f kF) := by
  subst hq
  cases hf : f with
  | none => exact sV.no
  | some b =>
    have kk := kk b
    have hc := hc b hf
    revert kk hc
    obtain ⟨p, l, e, R, s, m, args, below, meth, c, n, Q⟩ := K
    obtain ⟨hx, hb, hml, hown, hts, hKK, hI, hSt, hN, hlck, hR, hr, hn, hl0, hQ⟩ := hK
    intro kk hc hF H locs ls hP hS hls
    subst hR
    subst hst
    subst hl0
    refine s_goes (rest := rest) (va_runV (As := As) (rest := rest) (n := n0) ⟨hx, hb, hml, hown, hts⟩ hc ⟨callB_of n0 hts (TT_in hw.1) rfl hrm.1.1 hrm.1.2 (hts _ hw.2.1) (hts _ hl) ⟨hw.2.2.1.1, hw.2.2.1.2, hw.2.2.2⟩ hrm.2, hts _ hv.1, hts _ hv.2⟩ ⟨s_blind, by rw [hy]; exact vk_recv hSt.2.2.2.1 hi hS, fun U hU hW => ⟨rfl, s_pre hU hW hP hKK hI hSt hN hS⟩⟩ rfl hn0 hls.1 rfl (lv_room hcat) hd ⟨Nat.zero_le _, Nat.zero_le _⟩) hS (fun H1 locs1 hP1 hS1 => kk hF H1 locs1 ls hP1 hS1 hls)
end CALLT
theorem mw_J3_checkIndex_8e157 : mW yJ3_checkIndex_8e157 cJ3_checkIndex_8e157 3 (some .int) 3 := ⟨TT_t5 237 (by decide +kernel) (by decide +kernel), tw_16, ⟨by decide +kernel, by decide +kernel⟩, by decide +kernel⟩
theorem tw_1195b : Cond.methodLink "java/lang/String" 1059 yJ3_checkIndex_8e157 ∈ TT := TT_t5 235 (by decide +kernel) (by decide +kernel)
/-- the bytes of the literals are chars -/
theorem sb_ok : ∀ i, i < 6 → ∀ k, k < sLen.getD i 0 → (((sByt.getD i []).getD k 0 &&& 255).toUInt32 % 65536).toInt32 = (sByt.getD i []).getD k 0 ∧ narrow .char (.int ((sByt.getD i []).getD k 0)) = .int ((sByt.getD i []).getD k 0) := by decide +kernel
theorem sl_ok : ∀ i, i < 6 → sLen.getD i 0 < 2 ^ 31 := by decide +kernel
section JDK
variable {l0 : Launch} {G : Geo}
theorem c_J0_coder (i : Nat) (hi : i < 6) (σ : Store) : sCon l0 wMod G yJ0_coder_7d493 cJ0_coder_7d493 1 (some .byte) (rmL 0 0) [.ref (gsk G i)] σ (some (.int 0)) σ := by
  refine sCon.of (a := ()) (by decide) ⟨rfl, rfl⟩ (Nat.le_of_ble_eq_true rfl) RJ0 rfl (some ()) rfl (fun K hK => ?_)
  show sV wMod G K () σ 0 [(0, .ref (gsk G i))] [] _
  refine r_gets (i := 0) (q := 3) (v := .int 1) hK dJ0_coder_7d493_0 rfl (fun U h => h.2.2.2.2.1) tw_1177 ?_
  have h1 : sV wMod G K () σ 6 [(0, .ref (gsk G i))] [] (some ()) := by
    refine r_aload_n (q := 7) hK dJ0_coder_7d493_6 rfl rfl 0 rfl ?_
    refine r_sget (q := 10) (v := .int 0) hK dJ0_coder_7d493_7 rfl (fun U h => (h.2.2.2.1.1 _ hi).2.1) tw_1334 ?_
    refine r_goto (q := 14) hK dJ0_coder_7d493_10 rfl ?_
    exact r_iret hK dJ0_coder_7d493_14 (by decide) _ (fun _ => ⟨rfl, rfl⟩)
  have h2 := r_if_eq (F1 := (none : Option Unit)) (F2 := some ()) (x := 1) (st := []) (loc := [(0, .ref (gsk G i))]) (a := ()) (σ := σ) (t := 13) (q := 6) hK dJ0_coder_7d493_3 rfl rfl (fun h => absurd h (by decide)) (fun _ => h1)
  rw [if_neg (by decide)] at h2
  exact h2
theorem c_J0_isLatin1 (i : Nat) (hi : i < 6) (σ : Store) : sCon l0 wMod G yJ0_isLatin1_aae02 cJ0_isLatin1_aae02 1 (some .boolean) (rmL 0 0) [.ref (gsk G i)] σ (some (.int 1)) σ := by
  refine sCon.of (a := ()) (by decide) ⟨rfl, rfl⟩ (Nat.le_of_ble_eq_true rfl) RJ0 rfl (some ()) rfl (fun K hK => ?_)
  show sV wMod G K () σ 0 [(0, .ref (gsk G i))] [] _
  refine r_gets (i := 0) (q := 3) (v := .int 1) hK dJ0_isLatin1_aae02_0 rfl (fun U h => h.2.2.2.2.1) tw_1177 ?_
  have h1 : sV wMod G K () σ 13 [(0, .ref (gsk G i))] [] (some ()) := by
    refine r_iconst (q := 14) (v := 1) hK dJ0_isLatin1_aae02_13 rfl rfl ?_
    refine r_goto (q := 18) hK dJ0_isLatin1_aae02_14 rfl ?_
    exact r_iret hK dJ0_isLatin1_aae02_18 (by decide) _ (fun _ => ⟨rfl, rfl⟩)
  have h2 : sV wMod G K () σ 6 [(0, .ref (gsk G i))] [] (some ()) := by
    refine r_aload_n (q := 7) hK dJ0_isLatin1_aae02_6 rfl rfl 0 rfl ?_
    refine r_sget (q := 10) (v := .int 0) hK dJ0_isLatin1_aae02_7 rfl (fun U h => (h.2.2.2.1.1 _ hi).2.1) tw_1334 ?_
    have h3 := r_if_ne (F1 := (none : Option Unit)) (F2 := some ()) (x := 0) (st := []) (loc := [(0, .ref (gsk G i))]) (a := ()) (σ := σ) (t := 17) (q := 13) hK dJ0_isLatin1_aae02_10 rfl rfl (fun h => absurd rfl h) (fun _ => h1)
    rw [if_neg (by decide)] at h3
    exact h3
  have h4 := r_if_eq (F1 := (none : Option Unit)) (F2 := some ()) (x := 1) (st := []) (loc := [(0, .ref (gsk G i))]) (a := ()) (σ := σ) (t := 17) (q := 6) hK dJ0_isLatin1_aae02_3 rfl rfl (fun h => absurd h (by decide)) (fun _ => h2)
  rw [if_neg (by decide)] at h4
  exact h4
def fJ0_length_8abf5 (i : Nat) (_ : Store) : Option Int32 := some (nI (sLen.getD i 0))
theorem c_J0_length_8abf5 (i : Nat) (hi : i < 6) (σ : Store) (a : Int32) (hf : fJ0_length_8abf5 i σ = some a) : sCon l0 wMod G yJ0_length_8abf5 cJ0_length_8abf5 1 (some .int) (rmL 1 60) [.ref (gsk G i)] σ (some (.int a)) σ := by
  refine sCon.of (by decide) ⟨rfl, rfl⟩ (Nat.le_of_ble_eq_true rfl) RJ0 rfl _ hf (fun K hK => ?_)
  show sV wMod G K a σ 0 [(0, .ref (gsk G i))] [] _
  refine r_aload_n (q := 1) hK dJ0_length_8abf5_0 rfl rfl 0 rfl ?_
  refine r_sget (q := 4) hK dJ0_length_8abf5_1 rfl (fun U h => (h.2.2.2.1.1 _ hi).2.2.1) tw_1333 ?_
  refine r_stlen (q := 5) hK dJ0_length_8abf5_4 rfl (fun U h => (h.2.2.2.1.1 _ hi).2.2.2) ?_
  refine r_aload_n (q := 6) hK dJ0_length_8abf5_5 rfl rfl 0 rfl ?_
  have hF : fJ0_length_8abf5 i σ = sbd (some (0 : Int32)) (fun b => if b = 0 then some (nI (sLen.getD i 0)) else none) := rfl
  rw [hF]
  refine callT_i (q := 9) (i := i) (As := []) (rest := [.int (nI (sLen.getD i 0))]) hK dJ0_length_8abf5_6 rfl (fun b hb => by cases hb; exact c_J0_coder i hi σ) hi mv_J0_coder_7d493 rfl rfl (Nat.le_of_ble_eq_true rfl) tw_1173 mw_J0_coder_7d493 (rmOk (Nat.le_of_ble_eq_true rfl) (Nat.le_of_ble_eq_true rfl)) (fun b => ?_)
  refine sV.ite (fun hb => ?_) (fun _ => sV.no)
  subst hb
  refine r_ishr (q := 10) hK dJ0_length_8abf5_9 rfl ?_
  have e : nI (sLen.getD i 0) >>> ((0 : Int32) &&& 31) = nI (sLen.getD i 0) := by
    have : ∀ i, i < 6 → nI (sLen.getD i 0) >>> ((0 : Int32) &&& 31) = nI (sLen.getD i 0) := by decide +kernel
    exact this i hi
  rw [e]
  exact e_i hK dJ0_length_8abf5_10
theorem c_J3_check (i n : Int32) (r : Option Nat) (h0 : ¬ i < 0) (h1 : i < n) (σ : Store) : sCon l0 wMod G yJ3_checkIndex_8e157 cJ3_checkIndex_8e157 3 (some .int) (rmL 0 0) [.int i, .int n, va_rf r] σ (some (.int i)) σ := by
  have key : ∀ (v : Value) (b : lg_sl [.int i, .int n, v] = [.val (.int i), .val (.int n), .val v]) (c : lv_args 0 [.int i, .int n, v] = [(0, .int i), (1, .int n), (2, v)]), sCon l0 wMod G yJ3_checkIndex_8e157 cJ3_checkIndex_8e157 3 (some .int) (rmL 0 0) [.int i, .int n, v] σ (some (.int i)) σ := by
    intro v b c
    refine sCon.of (a := ()) (by decide) ⟨rfl, rfl⟩ (by rw [b]; exact Nat.le_refl 3) RJ3 rfl (some ()) rfl (fun K hK => ?_)
    rw [c]
    refine r_iload_n (q := 1) hK dJ3_checkIndex_8e157_0 rfl rfl 0 rfl ?_
    have h3 : sV wMod G K () σ 16 [(0, .int i), (1, .int n), (2, v)] [] (some ()) := by
      refine r_iload_n (q := 17) hK dJ3_checkIndex_8e157_16 rfl rfl 0 rfl ?_
      exact r_iret hK dJ3_checkIndex_8e157_17 rfl _ (fun _ => ⟨rfl, rfl⟩)
    have h4 : sV wMod G K () σ 4 [(0, .int i), (1, .int n), (2, v)] [] (some ()) := by
      refine r_iload_n (q := 5) hK dJ3_checkIndex_8e157_4 rfl rfl 0 rfl ?_
      refine r_iload_n (q := 6) hK dJ3_checkIndex_8e157_5 rfl rfl 1 rfl ?_
      have h5 := r_icmp_lt (F1 := some ()) (F2 := (none : Option Unit)) (x := i) (y := n) (st := []) (loc := [(0, .int i), (1, .int n), (2, v)]) (a := ()) (σ := σ) (t := 16) (q := 9) hK dJ3_checkIndex_8e157_6 rfl rfl (fun _ => h3) (fun h => absurd h1 h)
      rw [if_pos h1] at h5
      exact h5
    have h6 := r_if_lt (F1 := (none : Option Unit)) (F2 := some ()) (x := i) (st := []) (loc := [(0, .int i), (1, .int n), (2, v)]) (a := ()) (σ := σ) (t := 9) (q := 4) hK dJ3_checkIndex_8e157_1 rfl rfl (fun h => absurd h h0) (fun _ => h4)
    rw [if_neg h0] at h6
    exact h6
  cases r with
  | none => exact key .null rfl rfl
  | some a => exact key (.ref a) rfl rfl
theorem c_J0_check (i n : Int32) (h0 : ¬ i < 0) (h1 : i < n) (σ : Store) : sCon l0 wMod G yJ0_checkIndex_df160 cJ0_checkIndex_df160 2 none (rmL 1 60) [.int i, .int n] σ none σ := by
  refine sCon.of (a := ()) (by decide) ⟨rfl, rfl⟩ (Nat.le_of_ble_eq_true rfl) RJ0 rfl (sbd (some i) fun _ => some ()) rfl (fun K hK => ?_)
  show sV wMod G K () σ 0 [(0, .int i), (1, .int n)] [] _
  refine r_iload_n (q := 1) hK dJ0_checkIndex_df160_0 rfl rfl 0 rfl ?_
  refine r_iload_n (q := 2) hK dJ0_checkIndex_df160_1 rfl rfl 1 rfl ?_
  refine r_getsq (i := 0) (q := 5) hK dJ0_checkIndex_df160_2 rfl (fun U h => h.2.2.2.2.2) tw_1193 (fun r => ?_)
  refine callS_i (q := 8) (As := [.int i, .int n, va_rf r]) (rest := []) hK dJ0_checkIndex_df160_5 rfl (fun b hb => by cases hb; exact c_J3_check i n r h0 h1 σ) tw_1196 rfl rfl (Nat.le_of_ble_eq_true rfl) tw_1195b mw_J3_checkIndex_8e157 (rmOk (Nat.le_of_ble_eq_true rfl) (Nat.le_of_ble_eq_true rfl)) (fun b => ?_)
  refine r_pop (q := 9) hK dJ0_checkIndex_df160_8 rfl rfl ?_
  exact e_v hK dJ0_checkIndex_df160_9
theorem c_J1_charAt (i : Nat) (hi : i < 6) (k : Int32) (hk : 0 ≤ k.toInt ∧ k.toInt < (sLen.getD i 0 : Nat)) (σ : Store) : sCon l0 wMod G yJ1_charAt_3b067 cJ1_charAt_3b067 2 (some .char) (rmL 2 120) [.ref (gsv G i), .int k] σ (some (.int ((sByt.getD i []).getD (snx k) 0))) σ := by
  have h0 : ¬ k < 0 := fun h => by have := Int32.lt_iff_toInt_lt.mp h; have e : (0 : Int32).toInt = 0 := rfl; omega
  have h1 : k < nI (sLen.getD i 0) := by
    rw [Int32.lt_iff_toInt_lt, nI_toInt (sl_ok i hi)]
    exact hk.2
  obtain ⟨e1, e2⟩ := sb_ok i hi (snx k) (snx_lt hk)
  refine sCon.of (a := ()) (by decide) ⟨rfl, rfl⟩ (Nat.le_of_ble_eq_true rfl) RJ1 rfl (sbd (some ()) fun _ => six (sLen.getD i 0) k (some ())) (by unfold sbd six; exact if_pos hk) (fun K hK => ?_)
  show sV wMod G K () σ 0 [(0, .ref (gsv G i)), (1, .int k)] [] _
  refine r_iload_n (q := 1) hK dJ1_charAt_3b067_0 rfl rfl 1 rfl ?_
  refine r_aload_n (q := 2) hK dJ1_charAt_3b067_1 rfl rfl 0 rfl ?_
  refine r_stlen (q := 3) hK dJ1_charAt_3b067_2 rfl (fun U h => (h.2.2.2.1.1 _ hi).2.2.2) ?_
  refine callS_u (q := 6) (As := [.int k, .int (nI (sLen.getD i 0))]) (rest := []) hK dJ1_charAt_3b067_3 rfl (fun b hb => c_J0_check k _ h0 h1 σ) tw_1191 rfl rfl (Nat.le_of_ble_eq_true rfl) tw_1190 mw_J0_checkIndex_df160 (rmOk (Nat.le_of_ble_eq_true rfl) (Nat.le_of_ble_eq_true rfl)) ?_
  refine r_aload_n (q := 7) hK dJ1_charAt_3b067_6 rfl rfl 0 rfl ?_
  refine r_iload_n (q := 8) hK dJ1_charAt_3b067_7 rfl rfl 1 rfl ?_
  refine r_stb (q := 9) (f := fun k => (sByt.getD i []).getD k 0) hK dJ1_charAt_3b067_8 rfl (fun U h => (h.2.2.2.1.1 _ hi).2.2.2) (fun _ => ?_)
  refine r_sipush (q := 12) (v := 255) hK dJ1_charAt_3b067_9 rfl rfl ?_
  refine r_iand (q := 13) hK dJ1_charAt_3b067_12 rfl ?_
  refine r_i2c (q := 14) hK dJ1_charAt_3b067_13 rfl e1 ?_
  exact r_iret hK dJ1_charAt_3b067_14 e2 _ (fun _ => ⟨rfl, rfl⟩)
def fJ0_charAt_5068e (i : Nat) (k : Int32) (_ : Store) : Option Int32 := six (sLen.getD i 0) k (some ((sByt.getD i []).getD (snx k) 0))
theorem c_J0_charAt_5068e (i : Nat) (hi : i < 6) (k : Int32) (σ : Store) (a : Int32) (hf : fJ0_charAt_5068e i k σ = some a) : sCon l0 wMod G yJ0_charAt_5068e cJ0_charAt_5068e 2 (some .char) (rmL 4 200) [.ref (gsk G i), .int k] σ (some (.int a)) σ := by
  have hk : 0 ≤ k.toInt ∧ k.toInt < (sLen.getD i 0 : Nat) := by
    by_cases h : 0 ≤ k.toInt ∧ k.toInt < (sLen.getD i 0 : Nat)
    · exact h
    · unfold fJ0_charAt_5068e six at hf; rw [if_neg h] at hf; cases hf
  have ha : a = (sByt.getD i []).getD (snx k) 0 := by
    unfold fJ0_charAt_5068e six at hf; rw [if_pos hk] at hf; exact (Option.some.inj hf).symm
  subst ha
  obtain ⟨e1, e2⟩ := sb_ok i hi (snx k) (snx_lt hk)
  refine sCon.of (a := ()) (by decide) ⟨rfl, rfl⟩ (Nat.le_of_ble_eq_true rfl) RJ0 rfl (sbd (some (1 : Int32)) fun b => if b = 0 then none else sbd (some ((sByt.getD i []).getD (snx k) 0)) fun c => if c = (sByt.getD i []).getD (snx k) 0 then some () else none) (by simp [sbd]) (fun K hK => ?_)
  show sV wMod G K () σ 0 [(0, .ref (gsk G i)), (1, .int k)] [] _
  refine r_aload_n (q := 1) hK dJ0_charAt_5068e_0 rfl rfl 0 rfl ?_
  refine callT_i (q := 4) (i := i) (As := []) (rest := []) hK dJ0_charAt_5068e_1 rfl (fun b hb => by cases hb; exact c_J0_isLatin1 i hi σ) hi mv_J0_isLatin1_aae02 rfl rfl (Nat.le_of_ble_eq_true rfl) tw_1183 mw_J0_isLatin1_aae02 (rmOk (Nat.le_of_ble_eq_true rfl) (Nat.le_of_ble_eq_true rfl)) (fun b => ?_)
  refine r_if_eq (t := 16) (q := 7) hK dJ0_charAt_5068e_4 rfl rfl (fun _ => sV.no) (fun _ => ?_)
  refine r_aload_n (q := 8) hK dJ0_charAt_5068e_7 rfl rfl 0 rfl ?_
  refine r_sget (q := 11) hK dJ0_charAt_5068e_8 rfl (fun U h => (h.2.2.2.1.1 _ hi).2.2.1) tw_1333 ?_
  refine r_iload_n (q := 12) hK dJ0_charAt_5068e_11 rfl rfl 1 rfl ?_
  refine callS_i (q := 15) (As := [.ref (gsv G i), .int k]) (rest := []) hK dJ0_charAt_5068e_12 rfl (fun b hb => by cases hb; exact c_J1_charAt i hi k hk σ) tw_1188 rfl rfl (Nat.le_of_ble_eq_true rfl) tw_1187 mw_J1_charAt_3b067 (rmOk (Nat.le_of_ble_eq_true rfl) (Nat.le_of_ble_eq_true rfl)) (fun b => ?_)
  refine sV.ite (fun hb => ?_) (fun _ => sV.no)
  subst hb
  exact r_iret hK dJ0_charAt_5068e_15 e2 _ (fun _ => ⟨rfl, rfl⟩)
end JDK
