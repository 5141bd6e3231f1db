/-! the constructors, printed by ctor.py -/
theorem mt_obj : Cond.instanceMethod objectInit ∈ TT ∧ Cond.code objectInit ⟨#[0xb1]⟩ 1 none ∈ TT := ⟨(TT_t1 24 (by decide +kernel) (by decide +kernel)), (TT_t1 25 (by decide +kernel) (by decide +kernel))⟩
theorem dfv0 : ∀ j, j < 11 → defaultValue (tyX0 j) = vp_V [.null, .null, .null, .int 0, .int 0, .int 0, .int 0, .int 0, .int 0, .int 0, .int 0] j := fun j hj => match j, hj with
  | 0, _ => rfl
  | 1, _ => rfl
  | 2, _ => rfl
  | 3, _ => rfl
  | 4, _ => rfl
  | 5, _ => rfl
  | 6, _ => rfl
  | 7, _ => rfl
  | 8, _ => rfl
  | 9, _ => rfl
  | 10, _ => rfl
  | n + 11, h => absurd h (by omega)
theorem dfv1 : ∀ j, j < 5 → defaultValue (tyX1 j) = vp_V [.null, .null, .null, .null, .null] j := fun j hj => match j, hj with
  | 0, _ => rfl
  | 1, _ => rfl
  | 2, _ => rfl
  | 3, _ => rfl
  | 4, _ => rfl
  | n + 5, h => absurd h (by omega)
theorem dfv2 : ∀ j, j < 11 → defaultValue (tyX2 j) = vp_V [.null, .int 0, .int 0, .int 0, .int 0, .null, .int 0, .int 0, .int 0, .int 0, .int 0] j := fun j hj => match j, hj with
  | 0, _ => rfl
  | 1, _ => rfl
  | 2, _ => rfl
  | 3, _ => rfl
  | 4, _ => rfl
  | 5, _ => rfl
  | 6, _ => rfl
  | 7, _ => rfl
  | 8, _ => rfl
  | 9, _ => rfl
  | 10, _ => rfl
  | n + 11, h => absurd h (by omega)
theorem dfv3 : ∀ j, j < 3 → defaultValue (tyX3 j) = vp_V [.int 0, .int 0, .null] j := fun j hj => match j, hj with
  | 0, _ => rfl
  | 1, _ => rfl
  | 2, _ => rfl
  | n + 3, h => absurd h (by omega)
theorem dfv4 : ∀ j, j < 2 → defaultValue (tyX4 j) = vp_V [.null, .null] j := fun j hj => match j, hj with
  | 0, _ => rfl
  | 1, _ => rfl
  | n + 2, h => absurd h (by omega)
theorem dfv5 : ∀ j, j < 4 → defaultValue (tyX5 j) = vp_V [.int 0, .int 0, .null, .null] j := fun j hj => match j, hj with
  | 0, _ => rfl
  | 1, _ => rfl
  | 2, _ => rfl
  | 3, _ => rfl
  | n + 4, h => absurd h (by omega)
theorem dfv6 : ∀ j, j < 2 → defaultValue (tyX6 j) = vp_V [.int 0, .int 0] j := fun j hj => match j, hj with
  | 0, _ => rfl
  | 1, _ => rfl
  | n + 2, h => absurd h (by omega)
theorem dfv7 : ∀ j, j < 6 → defaultValue (tyX7 j) = vp_V [.int 0, .int 0, .int 0, .int 0, .int 0, .int 0] j := fun j hj => match j, hj with
  | 0, _ => rfl
  | 1, _ => rfl
  | 2, _ => rfl
  | 3, _ => rfl
  | 4, _ => rfl
  | 5, _ => rfl
  | n + 6, h => absurd h (by omega)
theorem dfv8 : ∀ j, j < 13 → defaultValue (tyX8 j) = vp_V [.null, .null, .null, .null, .null, .null, .null, .null, .null, .null, .int 0, .int 0, .int 0] j := fun j hj => match j, hj with
  | 0, _ => rfl
  | 1, _ => rfl
  | 2, _ => rfl
  | 3, _ => rfl
  | 4, _ => rfl
  | 5, _ => rfl
  | 6, _ => rfl
  | 7, _ => rfl
  | 8, _ => rfl
  | 9, _ => rfl
  | 10, _ => rfl
  | 11, _ => rfl
  | 12, _ => rfl
  | n + 13, h => absurd h (by omega)
theorem dfv9 : ∀ j, j < 29 → defaultValue (tyX9 j) = vp_V [.null, .null, .int 0, .null, .null, .null, .int 0, .null, .null, .int 0, .int 0, .int 0, .int 0, .int 0, .int 0, .int 0, .int 0, .int 0, .null, .null, .null, .null, .null, .null, .null, .null, .null, .null, .int 0] j := fun j hj => match j, hj with
  | 0, _ => rfl
  | 1, _ => rfl
  | 2, _ => rfl
  | 3, _ => rfl
  | 4, _ => rfl
  | 5, _ => rfl
  | 6, _ => rfl
  | 7, _ => rfl
  | 8, _ => rfl
  | 9, _ => rfl
  | 10, _ => rfl
  | 11, _ => rfl
  | 12, _ => rfl
  | 13, _ => rfl
  | 14, _ => rfl
  | 15, _ => rfl
  | 16, _ => rfl
  | 17, _ => rfl
  | 18, _ => rfl
  | 19, _ => rfl
  | 20, _ => rfl
  | 21, _ => rfl
  | 22, _ => rfl
  | 23, _ => rfl
  | 24, _ => rfl
  | 25, _ => rfl
  | 26, _ => rfl
  | 27, _ => rfl
  | 28, _ => rfl
  | n + 29, h => absurd h (by omega)
set_option maxRecDepth 100000 in
set_option maxHeartbeats 4000000 in
theorem i_X7 {l : Launch} {G : Geo} {b k j  : Nat} {E : Pool} (hj : j < k) (hE : E j = (.inr (7, [.int 0, .int 0, .int 0, .int 0, .int 0, .int 0]))) : gCon l G b yX7_init cX7_init 1 { frames := 1, cells := 0, slots := 0, locals := 60 } [.ref (b + j)] k E k E 0 0 := by
  refine gCon.of (by decide) rfl (Nat.le_of_ble_eq_true rfl) RX7 rfl (fun K hK hEn => ?_)
  show gV G K b k E 0 0 0 [(0, .ref (b + j))] []
  refine g_aload_n (q := 1) hK dX7_init_0 rfl rfl 0 rfl ?_
  refine g_objInit (q := 4) hK dX7_init_1 rfl tw_68 mt_obj ⟨Nat.le_of_ble_eq_true rfl, Nat.le_of_ble_eq_true rfl⟩ ?_
  exact g_ret hK hEn dX7_init_4
set_option maxRecDepth 100000 in
set_option maxHeartbeats 4000000 in
theorem i_X6 {l : Launch} {G : Geo} {b k j  : Nat} {E : Pool} (hj : j < k) (hE : E j = (.inr (6, [.int 0, .int 0]))) : gCon l G b yX6_init cX6_init 1 { frames := 1, cells := 0, slots := 0, locals := 60 } [.ref (b + j)] k E k E 0 0 := by
  refine gCon.of (by decide) rfl (Nat.le_of_ble_eq_true rfl) RX6 rfl (fun K hK hEn => ?_)
  show gV G K b k E 0 0 0 [(0, .ref (b + j))] []
  refine g_aload_n (q := 1) hK dX6_init_0 rfl rfl 0 rfl ?_
  refine g_objInit (q := 4) hK dX6_init_1 rfl tw_104 mt_obj ⟨Nat.le_of_ble_eq_true rfl, Nat.le_of_ble_eq_true rfl⟩ ?_
  exact g_ret hK hEn dX6_init_4
def eX3_1 (G : Geo) (b k j  : Nat) (E : Pool) : Pool := pu E j (.inr (3, [.int (-1), .int 0, .null]))
def eX3_2 (G : Geo) (b k j  : Nat) (E : Pool) : Pool := pu (eX3_1 G b k j E) k (.inl (gcy G 0, 24, .inl (fun _ => 0)))
def eX3_3 (G : Geo) (b k j  : Nat) (E : Pool) : Pool := pu (eX3_2 G b k j E) j (.inr (3, [.int (-1), .int 0, .ref (b + k)]))
set_option maxRecDepth 100000 in
set_option maxHeartbeats 4000000 in
theorem i_X3 {l : Launch} {G : Geo} {b k j  : Nat} {E : Pool} (hj : j < k) (hE : E j = (.inr (3, [.int 0, .int 0, .null]))) : gCon l G b yX3_init cX3_init 1 { frames := 1, cells := 1, slots := 24, locals := 60 } [.ref (b + j)] k E (k + 1) (eX3_3 G b k j E) 1 24 := by
  refine gCon.of (by decide) rfl (Nat.le_of_ble_eq_true rfl) RX3 rfl (fun K hK hEn => ?_)
  show gV G K b k E 0 0 0 [(0, .ref (b + j))] []
  refine g_aload_n (q := 1) hK dX3_init_0 rfl rfl 0 rfl ?_
  refine g_objInit (q := 4) hK dX3_init_1 rfl tw_228 mt_obj ⟨Nat.le_of_ble_eq_true rfl, Nat.le_of_ble_eq_true rfl⟩ ?_
  refine g_aload_n (q := 5) hK dX3_init_4 rfl rfl 0 rfl ?_
  refine g_iconst (q := 6) (v := -1) hK dX3_init_5 rfl (by decide) ?_
  refine g_put (q := 9) (ci := 3) (C := RX3) (T := TX3) (N := 3) (j := j) (E1 := (eX3_1 G b k j E)) hK dX3_init_6 rfl (by omega) hE rfl 0 (by decide) iw3 tyX3 tyX3_ok nmX3 tw_229 rfl rfl (ty := .int) (by decide +kernel) (nar_int _) rfl (Nat.le_of_ble_eq_true rfl) rfl ?_
  refine g_aload_n (q := 10) hK dX3_init_9 rfl rfl 0 rfl ?_
  refine g_bipush (q := 12) (v := 24) hK dX3_init_10 rfl (by decide) ?_
  refine g_newint (q := 14) (k1 := (k + 1)) (E1 := (eX3_2 G b k j E)) (cs1 := 1) (sl1 := 24) (N := 24) hK dX3_init_12 rfl tw_53 (by decide) (by decide +kernel) (Nat.le_of_ble_eq_true rfl) (Nat.le_of_ble_eq_true rfl) (Nat.le_of_ble_eq_true rfl) rfl rfl rfl rfl ?_
  refine g_putF (q := 17) (ci := 3) (C := RX3) (T := TX3) (N := 3) (j := j) (E1 := (eX3_3 G b k j E)) hK hEn dX3_init_14 rfl (by omega) ((pu_n (by omega)).trans pu_y) rfl 2 (by decide) iw3 tyX3 tyX3_ok nmX3 tw_233 rfl rfl rfl (ty := (.array .int)) (by decide +kernel) rfl rfl (Nat.le_of_ble_eq_true rfl) rfl ?_
  exact g_ret hK hEn dX3_init_17
theorem eX3_fr {G : Geo} {b k j  : Nat} {E : Pool} (hj : j < k) (hE : E j = (.inr (3, [.int 0, .int 0, .null]))) {i : Nat} (h1 : i ≠ j) (h2 : i < k) : (eX3_3 G b k j E) i = E i := (((pu_n (by omega)).trans (pu_n (by omega))).trans (pu_n (by omega)))
theorem eX3_atj {G : Geo} {b k j  : Nat} {E : Pool} (hj : j < k) (hE : E j = (.inr (3, [.int 0, .int 0, .null]))) : (eX3_3 G b k j E) j = (.inr (3, [.int (-1), .int 0, .ref (b + k)])) := pu_y
theorem eX3_at0 {G : Geo} {b k j  : Nat} {E : Pool} (hj : j < k) (hE : E j = (.inr (3, [.int 0, .int 0, .null]))) : (eX3_3 G b k j E) k = (.inl (gcy G 0, 24, .inl (fun _ => 0))) := ((pu_n (by omega)).trans pu_y)
def eX5_1 (G : Geo) (b k j  : Nat) (E : Pool) : Pool := pu E j (.inr (5, [.int 0, .int 0, .null, .null]))
def eX5_2 (G : Geo) (b k j  : Nat) (E : Pool) : Pool := pu (eX5_1 G b k j E) k (.inr (7, [.int 0, .int 0, .int 0, .int 0, .int 0, .int 0]))
def eX5_3 (G : Geo) (b k j  : Nat) (E : Pool) : Pool := pu (eX5_2 G b k j E) j (.inr (5, [.int 0, .int 0, .ref (b + k), .null]))
def eX5_4 (G : Geo) (b k j  : Nat) (E : Pool) : Pool := pu (eX5_3 G b k j E) (k + 1) (.inr (3, [.int 0, .int 0, .null]))
def eX5_5 (G : Geo) (b k j  : Nat) (E : Pool) : Pool := eX3_3 G b (k + 2) (k + 1) (eX5_4 G b k j E)
def eX5_6 (G : Geo) (b k j  : Nat) (E : Pool) : Pool := pu (eX5_5 G b k j E) j (.inr (5, [.int 0, .int 0, .ref (b + k), .ref (b + (k + 1))]))
set_option maxRecDepth 100000 in
set_option maxHeartbeats 4000000 in
theorem i_X5 {l : Launch} {G : Geo} {b k j  : Nat} {E : Pool} (hj : j < k) (hE : E j = (.inr (5, [.int 0, .int 0, .null, .null]))) : gCon l G b yX5_init cX5_init 1 { frames := 2, cells := 3, slots := 33, locals := 80 } [.ref (b + j)] k E (k + 3) (eX5_6 G b k j E) 3 33 := by
  refine gCon.of (by decide) rfl (Nat.le_of_ble_eq_true rfl) RX5 rfl (fun K hK hEn => ?_)
  show gV G K b k E 0 0 0 [(0, .ref (b + j))] []
  refine g_aload_n (q := 1) hK dX5_init_0 rfl rfl 0 rfl ?_
  refine g_objInit (q := 4) hK dX5_init_1 rfl tw_246 mt_obj ⟨Nat.le_of_ble_eq_true rfl, Nat.le_of_ble_eq_true rfl⟩ ?_
  refine g_aload_n (q := 5) hK dX5_init_4 rfl rfl 0 rfl ?_
  refine g_iconst (q := 6) (v := 0) hK dX5_init_5 rfl (by decide) ?_
  refine g_put (q := 9) (ci := 5) (C := RX5) (T := TX5) (N := 4) (j := j) (E1 := (eX5_1 G b k j E)) hK dX5_init_6 rfl (by omega) hE rfl 0 (by decide) iw5 tyX5 tyX5_ok nmX5 tw_251 rfl rfl (ty := .int) (by decide +kernel) (nar_int _) rfl (Nat.le_of_ble_eq_true rfl) rfl ?_
  refine g_aload_n (q := 10) hK dX5_init_9 rfl rfl 0 rfl ?_
  refine g_new (q := 13) (k1 := (k + 1)) (E1 := (eX5_2 G b k j E)) (cs1 := 1) (sl1 := 6) (ci := 7) (C := RX7) (T := TX7) (N := 6) hK dX5_init_10 rfl tw_247 tw_64 tw_4 rfl iw7 tyX7 tyX7_ok dfv7 (Nat.le_of_ble_eq_true rfl) (Nat.le_of_ble_eq_true rfl) rfl rfl rfl rfl ?_
  refine g_dup (q := 14) hK dX5_init_13 rfl rfl ?_
  refine g_callN (q := 17) (k1 := (k + 1)) (E1 := (eX5_2 G b k j E)) (cs1 := 1) (sl1 := 6) (As := []) (rest := [.ref (b + k), .ref (b + j)]) hK dX5_init_14 rfl (i_X7 (by omega) pu_y) rfl rfl (Nat.le_of_ble_eq_true rfl) (fun U h => h.2.2.2.2.2.1) mw_X7_init mi_X7_init rfl ⟨⟨rfl, rfl⟩, Nat.le_of_ble_eq_true rfl, Nat.le_of_ble_eq_true rfl⟩ ⟨Nat.le_of_ble_eq_true rfl, Nat.le_of_ble_eq_true rfl⟩ rfl rfl ?_
  refine g_putF (q := 20) (ci := 5) (C := RX5) (T := TX5) (N := 4) (j := j) (E1 := (eX5_3 G b k j E)) hK hEn dX5_init_17 rfl (by omega) ((pu_n (by omega)).trans pu_y) rfl 2 (by decide) iw5 tyX5 tyX5_ok nmX5 tw_254 rfl rfl rfl (ty := (.object "WordLeash$Word")) (by decide +kernel) rfl rfl (Nat.le_of_ble_eq_true rfl) rfl ?_
  refine g_aload_n (q := 21) hK dX5_init_20 rfl rfl 0 rfl ?_
  refine g_new (q := 24) (k1 := (k + 2)) (E1 := (eX5_4 G b k j E)) (cs1 := 2) (sl1 := 9) (ci := 3) (C := RX3) (T := TX3) (N := 3) hK dX5_init_21 rfl tw_249 tw_224 tw_8 rfl iw3 tyX3 tyX3_ok dfv3 (Nat.le_of_ble_eq_true rfl) (Nat.le_of_ble_eq_true rfl) rfl rfl rfl rfl ?_
  refine g_dup (q := 25) hK dX5_init_24 rfl rfl ?_
  refine g_callN (q := 28) (k1 := (k + 3)) (E1 := (eX5_5 G b k j E)) (cs1 := 3) (sl1 := 33) (As := []) (rest := [.ref (b + (k + 1)), .ref (b + j)]) hK dX5_init_25 rfl (i_X3 (by omega) pu_y) rfl rfl (Nat.le_of_ble_eq_true rfl) (fun U h => h.2.2.2.2.2.2) mw_X3_init mi_X3_init rfl ⟨⟨rfl, rfl⟩, Nat.le_of_ble_eq_true rfl, Nat.le_of_ble_eq_true rfl⟩ ⟨Nat.le_of_ble_eq_true rfl, Nat.le_of_ble_eq_true rfl⟩ rfl rfl ?_
  refine g_putF (q := 31) (ci := 5) (C := RX5) (T := TX5) (N := 4) (j := j) (E1 := (eX5_6 G b k j E)) hK hEn dX5_init_28 rfl (by omega) ((eX3_fr (show (k + 1) < (k + 2) by omega) pu_y (by omega) (by omega)).trans ((pu_n (by omega)).trans pu_y)) rfl 3 (by decide) iw5 tyX5 tyX5_ok nmX5 tw_256 rfl rfl rfl (ty := (.object "WordLeash$Row")) (by decide +kernel) rfl rfl (Nat.le_of_ble_eq_true rfl) rfl ?_
  exact g_ret hK hEn dX5_init_31
theorem eX5_fr {G : Geo} {b k j  : Nat} {E : Pool} (hj : j < k) (hE : E j = (.inr (5, [.int 0, .int 0, .null, .null]))) {i : Nat} (h1 : i ≠ j) (h2 : i < k) : (eX5_6 G b k j E) i = E i := ((((((pu_n (by omega)).trans (eX3_fr (show (k + 1) < (k + 2) by omega) pu_y (by omega) (by omega))).trans (pu_n (by omega))).trans (pu_n (by omega))).trans (pu_n (by omega))).trans (pu_n (by omega)))
theorem eX5_atj {G : Geo} {b k j  : Nat} {E : Pool} (hj : j < k) (hE : E j = (.inr (5, [.int 0, .int 0, .null, .null]))) : (eX5_6 G b k j E) j = (.inr (5, [.int 0, .int 0, .ref (b + k), .ref (b + (k + 1))])) := pu_y
theorem eX5_at0 {G : Geo} {b k j  : Nat} {E : Pool} (hj : j < k) (hE : E j = (.inr (5, [.int 0, .int 0, .null, .null]))) : (eX5_6 G b k j E) k = (.inr (7, [.int 0, .int 0, .int 0, .int 0, .int 0, .int 0])) := ((pu_n (by omega)).trans ((eX3_fr (show (k + 1) < (k + 2) by omega) pu_y (by omega) (by omega)).trans ((pu_n (by omega)).trans ((pu_n (by omega)).trans pu_y))))
theorem eX5_at1 {G : Geo} {b k j  : Nat} {E : Pool} (hj : j < k) (hE : E j = (.inr (5, [.int 0, .int 0, .null, .null]))) : (eX5_6 G b k j E) (k + 1) = (.inr (3, [.int (-1), .int 0, .ref (b + (k + 2))])) := ((pu_n (by omega)).trans (eX3_atj (show (k + 1) < (k + 2) by omega) pu_y))
theorem eX5_at2 {G : Geo} {b k j  : Nat} {E : Pool} (hj : j < k) (hE : E j = (.inr (5, [.int 0, .int 0, .null, .null]))) : (eX5_6 G b k j E) (k + 2) = (.inl (gcy G 0, 24, .inl (fun _ => 0))) := ((pu_n (by omega)).trans (eX3_at0 (show (k + 1) < (k + 2) by omega) pu_y))
def eX1_1 (G : Geo) (b k j  : Nat) (E : Pool) : Pool := pus (pu E k (.inl (gcy G 5, 14, .inr (.inr (.inr (.inr (fun i => if i < 14 then some (b + k + 1 + i) else none))))))) (k + 1) 14 (.inl (gcy G 0, 96, .inl (fun _ => 0)))
def eX1_2 (G : Geo) (b k j  : Nat) (E : Pool) : Pool := pu (eX1_1 G b k j E) j (.inr (1, [.ref (b + k), .null, .null, .null, .null]))
def eX1_3 (G : Geo) (b k j  : Nat) (E : Pool) : Pool := pu (eX1_2 G b k j E) (k + 15) (.inl (gcy G 0, 14, .inl (fun _ => 0)))
def eX1_4 (G : Geo) (b k j  : Nat) (E : Pool) : Pool := pu (eX1_3 G b k j E) j (.inr (1, [.ref (b + k), .ref (b + (k + 15)), .null, .null, .null]))
def eX1_5 (G : Geo) (b k j  : Nat) (E : Pool) : Pool := pu (eX1_4 G b k j E) (k + 16) (.inl (gcy G 0, 14, .inl (fun _ => 0)))
def eX1_6 (G : Geo) (b k j  : Nat) (E : Pool) : Pool := pu (eX1_5 G b k j E) j (.inr (1, [.ref (b + k), .ref (b + (k + 15)), .ref (b + (k + 16)), .null, .null]))
def eX1_7 (G : Geo) (b k j  : Nat) (E : Pool) : Pool := pu (eX1_6 G b k j E) (k + 17) (.inl (gcy G 0, 14, .inl (fun _ => 0)))
def eX1_8 (G : Geo) (b k j  : Nat) (E : Pool) : Pool := pu (eX1_7 G b k j E) j (.inr (1, [.ref (b + k), .ref (b + (k + 15)), .ref (b + (k + 16)), .ref (b + (k + 17)), .null]))
def eX1_9 (G : Geo) (b k j  : Nat) (E : Pool) : Pool := pu (eX1_8 G b k j E) (k + 18) (.inl (gcy G 0, 96, .inl (fun _ => 0)))
def eX1_10 (G : Geo) (b k j  : Nat) (E : Pool) : Pool := pu (eX1_9 G b k j E) j (.inr (1, [.ref (b + k), .ref (b + (k + 15)), .ref (b + (k + 16)), .ref (b + (k + 17)), .ref (b + (k + 18))]))
set_option maxRecDepth 100000 in
set_option maxHeartbeats 4000000 in
theorem i_X1 {l : Launch} {G : Geo} {b k j  : Nat} {E : Pool} (hj : j < k) (hE : E j = (.inr (1, [.null, .null, .null, .null, .null]))) : gCon l G b yX1_init cX1_init 1 { frames := 1, cells := 19, slots := 1496, locals := 60 } [.ref (b + j)] k E (k + 19) (eX1_10 G b k j E) 19 1496 := by
  refine gCon.of (by decide) rfl (Nat.le_of_ble_eq_true rfl) RX1 rfl (fun K hK hEn => ?_)
  show gV G K b k E 0 0 0 [(0, .ref (b + j))] []
  refine g_aload_n (q := 1) hK dX1_init_0 rfl rfl 0 rfl ?_
  refine g_objInit (q := 4) hK dX1_init_1 rfl tw_31 mt_obj ⟨Nat.le_of_ble_eq_true rfl, Nat.le_of_ble_eq_true rfl⟩ ?_
  refine g_aload_n (q := 5) hK dX1_init_4 rfl rfl 0 rfl ?_
  refine g_bipush (q := 7) (v := 14) hK dX1_init_5 rfl (by decide) ?_
  refine g_bipush (q := 9) (v := 96) hK dX1_init_7 rfl (by decide) ?_
  refine g_mna (q := 13) (k1 := (k + 15)) (E1 := (eX1_1 G b k j E)) (cs1 := 15) (sl1 := 1358) (N := 14) (M := 96) hK dX1_init_9 rfl tw_32 tw_53 (by decide) (by decide) (by decide +kernel) (by decide +kernel) (Nat.le_of_ble_eq_true rfl) (Nat.le_of_ble_eq_true rfl) (Nat.le_of_ble_eq_true rfl) (Nat.le_of_ble_eq_true rfl) (Nat.le_of_ble_eq_true rfl) rfl rfl rfl rfl ?_
  refine g_putF (q := 16) (ci := 1) (C := RX1) (T := TX1) (N := 5) (j := j) (E1 := (eX1_2 G b k j E)) hK hEn dX1_init_13 rfl (by omega) (((if_neg (by omega)).trans (pu_n (by omega))).trans hE) rfl 0 (by decide) iw1 tyX1 tyX1_ok nmX1 tw_34 rfl rfl rfl (ty := (.array (.array .int))) (by decide +kernel) rfl rfl (Nat.le_of_ble_eq_true rfl) rfl ?_
  refine g_aload_n (q := 17) hK dX1_init_16 rfl rfl 0 rfl ?_
  refine g_bipush (q := 19) (v := 14) hK dX1_init_17 rfl (by decide) ?_
  refine g_newint (q := 21) (k1 := (k + 16)) (E1 := (eX1_3 G b k j E)) (cs1 := 16) (sl1 := 1372) (N := 14) hK dX1_init_19 rfl tw_53 (by decide) (by decide +kernel) (Nat.le_of_ble_eq_true rfl) (Nat.le_of_ble_eq_true rfl) (Nat.le_of_ble_eq_true rfl) rfl rfl rfl rfl ?_
  refine g_putF (q := 24) (ci := 1) (C := RX1) (T := TX1) (N := 5) (j := j) (E1 := (eX1_4 G b k j E)) hK hEn dX1_init_21 rfl (by omega) ((pu_n (by omega)).trans pu_y) rfl 1 (by decide) iw1 tyX1 tyX1_ok nmX1 tw_35 rfl rfl rfl (ty := (.array .int)) (by decide +kernel) rfl rfl (Nat.le_of_ble_eq_true rfl) rfl ?_
  refine g_aload_n (q := 25) hK dX1_init_24 rfl rfl 0 rfl ?_
  refine g_bipush (q := 27) (v := 14) hK dX1_init_25 rfl (by decide) ?_
  refine g_newint (q := 29) (k1 := (k + 17)) (E1 := (eX1_5 G b k j E)) (cs1 := 17) (sl1 := 1386) (N := 14) hK dX1_init_27 rfl tw_53 (by decide) (by decide +kernel) (Nat.le_of_ble_eq_true rfl) (Nat.le_of_ble_eq_true rfl) (Nat.le_of_ble_eq_true rfl) rfl rfl rfl rfl ?_
  refine g_putF (q := 32) (ci := 1) (C := RX1) (T := TX1) (N := 5) (j := j) (E1 := (eX1_6 G b k j E)) hK hEn dX1_init_29 rfl (by omega) ((pu_n (by omega)).trans pu_y) rfl 2 (by decide) iw1 tyX1 tyX1_ok nmX1 tw_36 rfl rfl rfl (ty := (.array .int)) (by decide +kernel) rfl rfl (Nat.le_of_ble_eq_true rfl) rfl ?_
  refine g_aload_n (q := 33) hK dX1_init_32 rfl rfl 0 rfl ?_
  refine g_bipush (q := 35) (v := 14) hK dX1_init_33 rfl (by decide) ?_
  refine g_newint (q := 37) (k1 := (k + 18)) (E1 := (eX1_7 G b k j E)) (cs1 := 18) (sl1 := 1400) (N := 14) hK dX1_init_35 rfl tw_53 (by decide) (by decide +kernel) (Nat.le_of_ble_eq_true rfl) (Nat.le_of_ble_eq_true rfl) (Nat.le_of_ble_eq_true rfl) rfl rfl rfl rfl ?_
  refine g_putF (q := 40) (ci := 1) (C := RX1) (T := TX1) (N := 5) (j := j) (E1 := (eX1_8 G b k j E)) hK hEn dX1_init_37 rfl (by omega) ((pu_n (by omega)).trans pu_y) rfl 3 (by decide) iw1 tyX1 tyX1_ok nmX1 tw_39 rfl rfl rfl (ty := (.array .int)) (by decide +kernel) rfl rfl (Nat.le_of_ble_eq_true rfl) rfl ?_
  refine g_aload_n (q := 41) hK dX1_init_40 rfl rfl 0 rfl ?_
  refine g_bipush (q := 43) (v := 96) hK dX1_init_41 rfl (by decide) ?_
  refine g_newint (q := 45) (k1 := (k + 19)) (E1 := (eX1_9 G b k j E)) (cs1 := 19) (sl1 := 1496) (N := 96) hK dX1_init_43 rfl tw_53 (by decide) (by decide +kernel) (Nat.le_of_ble_eq_true rfl) (Nat.le_of_ble_eq_true rfl) (Nat.le_of_ble_eq_true rfl) rfl rfl rfl rfl ?_
  refine g_putF (q := 48) (ci := 1) (C := RX1) (T := TX1) (N := 5) (j := j) (E1 := (eX1_10 G b k j E)) hK hEn dX1_init_45 rfl (by omega) ((pu_n (by omega)).trans pu_y) rfl 4 (by decide) iw1 tyX1 tyX1_ok nmX1 tw_41 rfl rfl rfl (ty := (.array .int)) (by decide +kernel) rfl rfl (Nat.le_of_ble_eq_true rfl) rfl ?_
  exact g_ret hK hEn dX1_init_48
theorem eX1_fr {G : Geo} {b k j  : Nat} {E : Pool} (hj : j < k) (hE : E j = (.inr (1, [.null, .null, .null, .null, .null]))) {i : Nat} (h1 : i ≠ j) (h2 : i < k) : (eX1_10 G b k j E) i = E i := ((((((((((pu_n (by omega)).trans (pu_n (by omega))).trans (pu_n (by omega))).trans (pu_n (by omega))).trans (pu_n (by omega))).trans (pu_n (by omega))).trans (pu_n (by omega))).trans (pu_n (by omega))).trans (pu_n (by omega))).trans ((if_neg (by omega)).trans (pu_n (by omega))))
theorem eX1_atj {G : Geo} {b k j  : Nat} {E : Pool} (hj : j < k) (hE : E j = (.inr (1, [.null, .null, .null, .null, .null]))) : (eX1_10 G b k j E) j = (.inr (1, [.ref (b + k), .ref (b + (k + 15)), .ref (b + (k + 16)), .ref (b + (k + 17)), .ref (b + (k + 18))])) := pu_y
theorem eX1_at0 {G : Geo} {b k j  : Nat} {E : Pool} (hj : j < k) (hE : E j = (.inr (1, [.null, .null, .null, .null, .null]))) : (eX1_10 G b k j E) k = (.inl (gcy G 5, 14, .inr (.inr (.inr (.inr (fun i => if i < 14 then some (b + k + 1 + i) else none)))))) := ((pu_n (by omega)).trans ((pu_n (by omega)).trans ((pu_n (by omega)).trans ((pu_n (by omega)).trans ((pu_n (by omega)).trans ((pu_n (by omega)).trans ((pu_n (by omega)).trans ((pu_n (by omega)).trans ((pu_n (by omega)).trans ((if_neg (by omega)).trans pu_y))))))))))
theorem eX1_at1 {G : Geo} {b k j  : Nat} {E : Pool} (hj : j < k) (hE : E j = (.inr (1, [.null, .null, .null, .null, .null]))) : (eX1_10 G b k j E) (k + 1) = (.inl (gcy G 0, 96, .inl (fun _ => 0))) := ((pu_n (by omega)).trans ((pu_n (by omega)).trans ((pu_n (by omega)).trans ((pu_n (by omega)).trans ((pu_n (by omega)).trans ((pu_n (by omega)).trans ((pu_n (by omega)).trans ((pu_n (by omega)).trans ((pu_n (by omega)).trans (if_pos (by omega)))))))))))
theorem eX1_at2 {G : Geo} {b k j  : Nat} {E : Pool} (hj : j < k) (hE : E j = (.inr (1, [.null, .null, .null, .null, .null]))) : (eX1_10 G b k j E) (k + 2) = (.inl (gcy G 0, 96, .inl (fun _ => 0))) := ((pu_n (by omega)).trans ((pu_n (by omega)).trans ((pu_n (by omega)).trans ((pu_n (by omega)).trans ((pu_n (by omega)).trans ((pu_n (by omega)).trans ((pu_n (by omega)).trans ((pu_n (by omega)).trans ((pu_n (by omega)).trans (if_pos (by omega)))))))))))
theorem eX1_at3 {G : Geo} {b k j  : Nat} {E : Pool} (hj : j < k) (hE : E j = (.inr (1, [.null, .null, .null, .null, .null]))) : (eX1_10 G b k j E) (k + 3) = (.inl (gcy G 0, 96, .inl (fun _ => 0))) := ((pu_n (by omega)).trans ((pu_n (by omega)).trans ((pu_n (by omega)).trans ((pu_n (by omega)).trans ((pu_n (by omega)).trans ((pu_n (by omega)).trans ((pu_n (by omega)).trans ((pu_n (by omega)).trans ((pu_n (by omega)).trans (if_pos (by omega)))))))))))
theorem eX1_at4 {G : Geo} {b k j  : Nat} {E : Pool} (hj : j < k) (hE : E j = (.inr (1, [.null, .null, .null, .null, .null]))) : (eX1_10 G b k j E) (k + 4) = (.inl (gcy G 0, 96, .inl (fun _ => 0))) := ((pu_n (by omega)).trans ((pu_n (by omega)).trans ((pu_n (by omega)).trans ((pu_n (by omega)).trans ((pu_n (by omega)).trans ((pu_n (by omega)).trans ((pu_n (by omega)).trans ((pu_n (by omega)).trans ((pu_n (by omega)).trans (if_pos (by omega)))))))))))
theorem eX1_at5 {G : Geo} {b k j  : Nat} {E : Pool} (hj : j < k) (hE : E j = (.inr (1, [.null, .null, .null, .null, .null]))) : (eX1_10 G b k j E) (k + 5) = (.inl (gcy G 0, 96, .inl (fun _ => 0))) := ((pu_n (by omega)).trans ((pu_n (by omega)).trans ((pu_n (by omega)).trans ((pu_n (by omega)).trans ((pu_n (by omega)).trans ((pu_n (by omega)).trans ((pu_n (by omega)).trans ((pu_n (by omega)).trans ((pu_n (by omega)).trans (if_pos (by omega)))))))))))
theorem eX1_at6 {G : Geo} {b k j  : Nat} {E : Pool} (hj : j < k) (hE : E j = (.inr (1, [.null, .null, .null, .null, .null]))) : (eX1_10 G b k j E) (k + 6) = (.inl (gcy G 0, 96, .inl (fun _ => 0))) := ((pu_n (by omega)).trans ((pu_n (by omega)).trans ((pu_n (by omega)).trans ((pu_n (by omega)).trans ((pu_n (by omega)).trans ((pu_n (by omega)).trans ((pu_n (by omega)).trans ((pu_n (by omega)).trans ((pu_n (by omega)).trans (if_pos (by omega)))))))))))
theorem eX1_at7 {G : Geo} {b k j  : Nat} {E : Pool} (hj : j < k) (hE : E j = (.inr (1, [.null, .null, .null, .null, .null]))) : (eX1_10 G b k j E) (k + 7) = (.inl (gcy G 0, 96, .inl (fun _ => 0))) := ((pu_n (by omega)).trans ((pu_n (by omega)).trans ((pu_n (by omega)).trans ((pu_n (by omega)).trans ((pu_n (by omega)).trans ((pu_n (by omega)).trans ((pu_n (by omega)).trans ((pu_n (by omega)).trans ((pu_n (by omega)).trans (if_pos (by omega)))))))))))
theorem eX1_at8 {G : Geo} {b k j  : Nat} {E : Pool} (hj : j < k) (hE : E j = (.inr (1, [.null, .null, .null, .null, .null]))) : (eX1_10 G b k j E) (k + 8) = (.inl (gcy G 0, 96, .inl (fun _ => 0))) := ((pu_n (by omega)).trans ((pu_n (by omega)).trans ((pu_n (by omega)).trans ((pu_n (by omega)).trans ((pu_n (by omega)).trans ((pu_n (by omega)).trans ((pu_n (by omega)).trans ((pu_n (by omega)).trans ((pu_n (by omega)).trans (if_pos (by omega)))))))))))
theorem eX1_at9 {G : Geo} {b k j  : Nat} {E : Pool} (hj : j < k) (hE : E j = (.inr (1, [.null, .null, .null, .null, .null]))) : (eX1_10 G b k j E) (k + 9) = (.inl (gcy G 0, 96, .inl (fun _ => 0))) := ((pu_n (by omega)).trans ((pu_n (by omega)).trans ((pu_n (by omega)).trans ((pu_n (by omega)).trans ((pu_n (by omega)).trans ((pu_n (by omega)).trans ((pu_n (by omega)).trans ((pu_n (by omega)).trans ((pu_n (by omega)).trans (if_pos (by omega)))))))))))
theorem eX1_at10 {G : Geo} {b k j  : Nat} {E : Pool} (hj : j < k) (hE : E j = (.inr (1, [.null, .null, .null, .null, .null]))) : (eX1_10 G b k j E) (k + 10) = (.inl (gcy G 0, 96, .inl (fun _ => 0))) := ((pu_n (by omega)).trans ((pu_n (by omega)).trans ((pu_n (by omega)).trans ((pu_n (by omega)).trans ((pu_n (by omega)).trans ((pu_n (by omega)).trans ((pu_n (by omega)).trans ((pu_n (by omega)).trans ((pu_n (by omega)).trans (if_pos (by omega)))))))))))
theorem eX1_at11 {G : Geo} {b k j  : Nat} {E : Pool} (hj : j < k) (hE : E j = (.inr (1, [.null, .null, .null, .null, .null]))) : (eX1_10 G b k j E) (k + 11) = (.inl (gcy G 0, 96, .inl (fun _ => 0))) := ((pu_n (by omega)).trans ((pu_n (by omega)).trans ((pu_n (by omega)).trans ((pu_n (by omega)).trans ((pu_n (by omega)).trans ((pu_n (by omega)).trans ((pu_n (by omega)).trans ((pu_n (by omega)).trans ((pu_n (by omega)).trans (if_pos (by omega)))))))))))
theorem eX1_at12 {G : Geo} {b k j  : Nat} {E : Pool} (hj : j < k) (hE : E j = (.inr (1, [.null, .null, .null, .null, .null]))) : (eX1_10 G b k j E) (k + 12) = (.inl (gcy G 0, 96, .inl (fun _ => 0))) := ((pu_n (by omega)).trans ((pu_n (by omega)).trans ((pu_n (by omega)).trans ((pu_n (by omega)).trans ((pu_n (by omega)).trans ((pu_n (by omega)).trans ((pu_n (by omega)).trans ((pu_n (by omega)).trans ((pu_n (by omega)).trans (if_pos (by omega)))))))))))
theorem eX1_at13 {G : Geo} {b k j  : Nat} {E : Pool} (hj : j < k) (hE : E j = (.inr (1, [.null, .null, .null, .null, .null]))) : (eX1_10 G b k j E) (k + 13) = (.inl (gcy G 0, 96, .inl (fun _ => 0))) := ((pu_n (by omega)).trans ((pu_n (by omega)).trans ((pu_n (by omega)).trans ((pu_n (by omega)).trans ((pu_n (by omega)).trans ((pu_n (by omega)).trans ((pu_n (by omega)).trans ((pu_n (by omega)).trans ((pu_n (by omega)).trans (if_pos (by omega)))))))))))
theorem eX1_at14 {G : Geo} {b k j  : Nat} {E : Pool} (hj : j < k) (hE : E j = (.inr (1, [.null, .null, .null, .null, .null]))) : (eX1_10 G b k j E) (k + 14) = (.inl (gcy G 0, 96, .inl (fun _ => 0))) := ((pu_n (by omega)).trans ((pu_n (by omega)).trans ((pu_n (by omega)).trans ((pu_n (by omega)).trans ((pu_n (by omega)).trans ((pu_n (by omega)).trans ((pu_n (by omega)).trans ((pu_n (by omega)).trans ((pu_n (by omega)).trans (if_pos (by omega)))))))))))
theorem eX1_at15 {G : Geo} {b k j  : Nat} {E : Pool} (hj : j < k) (hE : E j = (.inr (1, [.null, .null, .null, .null, .null]))) : (eX1_10 G b k j E) (k + 15) = (.inl (gcy G 0, 14, .inl (fun _ => 0))) := ((pu_n (by omega)).trans ((pu_n (by omega)).trans ((pu_n (by omega)).trans ((pu_n (by omega)).trans ((pu_n (by omega)).trans ((pu_n (by omega)).trans ((pu_n (by omega)).trans pu_y)))))))
theorem eX1_at16 {G : Geo} {b k j  : Nat} {E : Pool} (hj : j < k) (hE : E j = (.inr (1, [.null, .null, .null, .null, .null]))) : (eX1_10 G b k j E) (k + 16) = (.inl (gcy G 0, 14, .inl (fun _ => 0))) := ((pu_n (by omega)).trans ((pu_n (by omega)).trans ((pu_n (by omega)).trans ((pu_n (by omega)).trans ((pu_n (by omega)).trans pu_y)))))
theorem eX1_at17 {G : Geo} {b k j  : Nat} {E : Pool} (hj : j < k) (hE : E j = (.inr (1, [.null, .null, .null, .null, .null]))) : (eX1_10 G b k j E) (k + 17) = (.inl (gcy G 0, 14, .inl (fun _ => 0))) := ((pu_n (by omega)).trans ((pu_n (by omega)).trans ((pu_n (by omega)).trans pu_y)))
theorem eX1_at18 {G : Geo} {b k j  : Nat} {E : Pool} (hj : j < k) (hE : E j = (.inr (1, [.null, .null, .null, .null, .null]))) : (eX1_10 G b k j E) (k + 18) = (.inl (gcy G 0, 96, .inl (fun _ => 0))) := ((pu_n (by omega)).trans pu_y)
def eX0_1 (G : Geo) (b k j x : Nat) (E : Pool) : Pool := pu E k (.inl (gcy G 4, 10, .inr (.inr (.inr (.inr (fun _ => none))))))
def eX0_2 (G : Geo) (b k j x : Nat) (E : Pool) : Pool := pu (eX0_1 G b k j x E) j (.inr (0, [.null, .ref (b + k), .null, .int 0, .int 0, .int 0, .int 0, .int 0, .int 0, .int 0, .int 0]))
def eX0_3 (G : Geo) (b k j x : Nat) (E : Pool) : Pool := pu (eX0_2 G b k j x E) (k + 1) (.inl (gcy G 3, 6, .inr (.inr (.inr (.inr (fun _ => none))))))
def eX0_4 (G : Geo) (b k j x : Nat) (E : Pool) : Pool := pu (eX0_3 G b k j x E) j (.inr (0, [.null, .ref (b + k), .ref (b + (k + 1)), .int 0, .int 0, .int 0, .int 0, .int 0, .int 0, .int 0, .int 0]))
def eX0_5 (G : Geo) (b k j x : Nat) (E : Pool) : Pool := pu (eX0_4 G b k j x E) j (.inr (0, [.null, .ref (b + k), .ref (b + (k + 1)), .int 0, .int 0, .int 0, .int 0, .int 6, .int 0, .int 0, .int 0]))
def eX0_6 (G : Geo) (b k j x : Nat) (E : Pool) : Pool := pu (eX0_5 G b k j x E) j (.inr (0, [.null, .ref (b + k), .ref (b + (k + 1)), .int 0, .int 0, .int 0, .int 0, .int 6, .int 50, .int 0, .int 0]))
def eX0_7 (G : Geo) (b k j x : Nat) (E : Pool) : Pool := pu (eX0_6 G b k j x E) j (.inr (0, [.null, .ref (b + k), .ref (b + (k + 1)), .int 0, .int 0, .int 0, .int 0, .int 6, .int 50, .int 0, .int 1]))
def eX0_8 (G : Geo) (b k j x : Nat) (E : Pool) : Pool := pu (eX0_7 G b k j x E) j (.inr (0, [.ref x, .ref (b + k), .ref (b + (k + 1)), .int 0, .int 0, .int 0, .int 0, .int 6, .int 50, .int 0, .int 1]))
def eX0_9 (G : Geo) (b k j x : Nat) (E : Pool) : Pool := pu (eX0_8 G b k j x E) (k + 2) (.inr (7, [.int 0, .int 0, .int 0, .int 0, .int 0, .int 0]))
def eX0_10 (G : Geo) (b k j x : Nat) (E : Pool) : Pool := pu (eX0_9 G b k j x E) k (.inl (gcy G 4, 10, .inr (.inr (.inr (.inr (va_up (fun _ => none) 0 (some (b + (k + 2)))))))))
def eX0_11 (G : Geo) (b k j x : Nat) (E : Pool) : Pool := pu (eX0_10 G b k j x E) (k + 3) (.inr (7, [.int 0, .int 0, .int 0, .int 0, .int 0, .int 0]))
def eX0_12 (G : Geo) (b k j x : Nat) (E : Pool) : Pool := pu (eX0_11 G b k j x E) k (.inl (gcy G 4, 10, .inr (.inr (.inr (.inr (va_up (va_up (fun _ => none) 0 (some (b + (k + 2)))) 1 (some (b + (k + 3)))))))))
def eX0_13 (G : Geo) (b k j x : Nat) (E : Pool) : Pool := pu (eX0_12 G b k j x E) (k + 4) (.inr (7, [.int 0, .int 0, .int 0, .int 0, .int 0, .int 0]))
def eX0_14 (G : Geo) (b k j x : Nat) (E : Pool) : Pool := pu (eX0_13 G b k j x E) k (.inl (gcy G 4, 10, .inr (.inr (.inr (.inr (va_up (va_up (va_up (fun _ => none) 0 (some (b + (k + 2)))) 1 (some (b + (k + 3)))) 2 (some (b + (k + 4)))))))))
def eX0_15 (G : Geo) (b k j x : Nat) (E : Pool) : Pool := pu (eX0_14 G b k j x E) (k + 5) (.inr (7, [.int 0, .int 0, .int 0, .int 0, .int 0, .int 0]))
def eX0_16 (G : Geo) (b k j x : Nat) (E : Pool) : Pool := pu (eX0_15 G b k j x E) k (.inl (gcy G 4, 10, .inr (.inr (.inr (.inr (va_up (va_up (va_up (va_up (fun _ => none) 0 (some (b + (k + 2)))) 1 (some (b + (k + 3)))) 2 (some (b + (k + 4)))) 3 (some (b + (k + 5)))))))))
def eX0_17 (G : Geo) (b k j x : Nat) (E : Pool) : Pool := pu (eX0_16 G b k j x E) (k + 6) (.inr (7, [.int 0, .int 0, .int 0, .int 0, .int 0, .int 0]))
def eX0_18 (G : Geo) (b k j x : Nat) (E : Pool) : Pool := pu (eX0_17 G b k j x E) k (.inl (gcy G 4, 10, .inr (.inr (.inr (.inr (va_up (va_up (va_up (va_up (va_up (fun _ => none) 0 (some (b + (k + 2)))) 1 (some (b + (k + 3)))) 2 (some (b + (k + 4)))) 3 (some (b + (k + 5)))) 4 (some (b + (k + 6)))))))))
def eX0_19 (G : Geo) (b k j x : Nat) (E : Pool) : Pool := pu (eX0_18 G b k j x E) (k + 7) (.inr (7, [.int 0, .int 0, .int 0, .int 0, .int 0, .int 0]))
def eX0_20 (G : Geo) (b k j x : Nat) (E : Pool) : Pool := pu (eX0_19 G b k j x E) k (.inl (gcy G 4, 10, .inr (.inr (.inr (.inr (va_up (va_up (va_up (va_up (va_up (va_up (fun _ => none) 0 (some (b + (k + 2)))) 1 (some (b + (k + 3)))) 2 (some (b + (k + 4)))) 3 (some (b + (k + 5)))) 4 (some (b + (k + 6)))) 5 (some (b + (k + 7)))))))))
def eX0_21 (G : Geo) (b k j x : Nat) (E : Pool) : Pool := pu (eX0_20 G b k j x E) (k + 8) (.inr (7, [.int 0, .int 0, .int 0, .int 0, .int 0, .int 0]))
def eX0_22 (G : Geo) (b k j x : Nat) (E : Pool) : Pool := pu (eX0_21 G b k j x E) k (.inl (gcy G 4, 10, .inr (.inr (.inr (.inr (va_up (va_up (va_up (va_up (va_up (va_up (va_up (fun _ => none) 0 (some (b + (k + 2)))) 1 (some (b + (k + 3)))) 2 (some (b + (k + 4)))) 3 (some (b + (k + 5)))) 4 (some (b + (k + 6)))) 5 (some (b + (k + 7)))) 6 (some (b + (k + 8)))))))))
def eX0_23 (G : Geo) (b k j x : Nat) (E : Pool) : Pool := pu (eX0_22 G b k j x E) (k + 9) (.inr (7, [.int 0, .int 0, .int 0, .int 0, .int 0, .int 0]))
def eX0_24 (G : Geo) (b k j x : Nat) (E : Pool) : Pool := pu (eX0_23 G b k j x E) k (.inl (gcy G 4, 10, .inr (.inr (.inr (.inr (va_up (va_up (va_up (va_up (va_up (va_up (va_up (va_up (fun _ => none) 0 (some (b + (k + 2)))) 1 (some (b + (k + 3)))) 2 (some (b + (k + 4)))) 3 (some (b + (k + 5)))) 4 (some (b + (k + 6)))) 5 (some (b + (k + 7)))) 6 (some (b + (k + 8)))) 7 (some (b + (k + 9)))))))))
def eX0_25 (G : Geo) (b k j x : Nat) (E : Pool) : Pool := pu (eX0_24 G b k j x E) (k + 10) (.inr (7, [.int 0, .int 0, .int 0, .int 0, .int 0, .int 0]))
def eX0_26 (G : Geo) (b k j x : Nat) (E : Pool) : Pool := pu (eX0_25 G b k j x E) k (.inl (gcy G 4, 10, .inr (.inr (.inr (.inr (va_up (va_up (va_up (va_up (va_up (va_up (va_up (va_up (va_up (fun _ => none) 0 (some (b + (k + 2)))) 1 (some (b + (k + 3)))) 2 (some (b + (k + 4)))) 3 (some (b + (k + 5)))) 4 (some (b + (k + 6)))) 5 (some (b + (k + 7)))) 6 (some (b + (k + 8)))) 7 (some (b + (k + 9)))) 8 (some (b + (k + 10)))))))))
def eX0_27 (G : Geo) (b k j x : Nat) (E : Pool) : Pool := pu (eX0_26 G b k j x E) (k + 11) (.inr (7, [.int 0, .int 0, .int 0, .int 0, .int 0, .int 0]))
def eX0_28 (G : Geo) (b k j x : Nat) (E : Pool) : Pool := pu (eX0_27 G b k j x E) k (.inl (gcy G 4, 10, .inr (.inr (.inr (.inr (va_up (va_up (va_up (va_up (va_up (va_up (va_up (va_up (va_up (va_up (fun _ => none) 0 (some (b + (k + 2)))) 1 (some (b + (k + 3)))) 2 (some (b + (k + 4)))) 3 (some (b + (k + 5)))) 4 (some (b + (k + 6)))) 5 (some (b + (k + 7)))) 6 (some (b + (k + 8)))) 7 (some (b + (k + 9)))) 8 (some (b + (k + 10)))) 9 (some (b + (k + 11)))))))))
def eX0_29 (G : Geo) (b k j x : Nat) (E : Pool) : Pool := pu (eX0_28 G b k j x E) (k + 12) (.inr (6, [.int 0, .int 0]))
def eX0_30 (G : Geo) (b k j x : Nat) (E : Pool) : Pool := pu (eX0_29 G b k j x E) (k + 1) (.inl (gcy G 3, 6, .inr (.inr (.inr (.inr (va_up (fun _ => none) 0 (some (b + (k + 12)))))))))
def eX0_31 (G : Geo) (b k j x : Nat) (E : Pool) : Pool := pu (eX0_30 G b k j x E) (k + 13) (.inr (6, [.int 0, .int 0]))
def eX0_32 (G : Geo) (b k j x : Nat) (E : Pool) : Pool := pu (eX0_31 G b k j x E) (k + 1) (.inl (gcy G 3, 6, .inr (.inr (.inr (.inr (va_up (va_up (fun _ => none) 0 (some (b + (k + 12)))) 1 (some (b + (k + 13)))))))))
def eX0_33 (G : Geo) (b k j x : Nat) (E : Pool) : Pool := pu (eX0_32 G b k j x E) (k + 14) (.inr (6, [.int 0, .int 0]))
def eX0_34 (G : Geo) (b k j x : Nat) (E : Pool) : Pool := pu (eX0_33 G b k j x E) (k + 1) (.inl (gcy G 3, 6, .inr (.inr (.inr (.inr (va_up (va_up (va_up (fun _ => none) 0 (some (b + (k + 12)))) 1 (some (b + (k + 13)))) 2 (some (b + (k + 14)))))))))
def eX0_35 (G : Geo) (b k j x : Nat) (E : Pool) : Pool := pu (eX0_34 G b k j x E) (k + 15) (.inr (6, [.int 0, .int 0]))
def eX0_36 (G : Geo) (b k j x : Nat) (E : Pool) : Pool := pu (eX0_35 G b k j x E) (k + 1) (.inl (gcy G 3, 6, .inr (.inr (.inr (.inr (va_up (va_up (va_up (va_up (fun _ => none) 0 (some (b + (k + 12)))) 1 (some (b + (k + 13)))) 2 (some (b + (k + 14)))) 3 (some (b + (k + 15)))))))))
def eX0_37 (G : Geo) (b k j x : Nat) (E : Pool) : Pool := pu (eX0_36 G b k j x E) (k + 16) (.inr (6, [.int 0, .int 0]))
def eX0_38 (G : Geo) (b k j x : Nat) (E : Pool) : Pool := pu (eX0_37 G b k j x E) (k + 1) (.inl (gcy G 3, 6, .inr (.inr (.inr (.inr (va_up (va_up (va_up (va_up (va_up (fun _ => none) 0 (some (b + (k + 12)))) 1 (some (b + (k + 13)))) 2 (some (b + (k + 14)))) 3 (some (b + (k + 15)))) 4 (some (b + (k + 16)))))))))
def eX0_39 (G : Geo) (b k j x : Nat) (E : Pool) : Pool := pu (eX0_38 G b k j x E) (k + 17) (.inr (6, [.int 0, .int 0]))
def eX0_40 (G : Geo) (b k j x : Nat) (E : Pool) : Pool := pu (eX0_39 G b k j x E) (k + 1) (.inl (gcy G 3, 6, .inr (.inr (.inr (.inr (va_up (va_up (va_up (va_up (va_up (va_up (fun _ => none) 0 (some (b + (k + 12)))) 1 (some (b + (k + 13)))) 2 (some (b + (k + 14)))) 3 (some (b + (k + 15)))) 4 (some (b + (k + 16)))) 5 (some (b + (k + 17)))))))))
set_option maxRecDepth 100000 in
set_option maxHeartbeats 4000000 in
theorem i_X0 {l : Launch} {G : Geo} {b k j x : Nat} {E : Pool} (hj : j < k) (hE : E j = (.inr (0, [.null, .null, .null, .int 0, .int 0, .int 0, .int 0, .int 0, .int 0, .int 0, .int 0]))) : gCon l G b yX0_init cX0_init 3 { frames := 2, cells := 18, slots := 88, locals := 80 } [.ref (b + j), .ref x] k E (k + 18) (eX0_40 G b k j x E) 18 88 := by
  refine gCon.of (by decide) rfl (Nat.le_of_ble_eq_true rfl) RX0 rfl (fun K hK hEn => ?_)
  show gV G K b k E 0 0 0 [(0, .ref (b + j)), (1, .ref x)] []
  refine g_aload_n (q := 1) hK dX0_init_0 rfl rfl 0 rfl ?_
  refine g_objInit (q := 4) hK dX0_init_1 rfl tw_59 mt_obj ⟨Nat.le_of_ble_eq_true rfl, Nat.le_of_ble_eq_true rfl⟩ ?_
  refine g_aload_n (q := 5) hK dX0_init_4 rfl rfl 0 rfl ?_
  refine g_bipush (q := 7) (v := 10) hK dX0_init_5 rfl (by decide) ?_
  refine g_anew (q := 10) (k1 := (k + 1)) (E1 := (eX0_1 G b k j x E)) (cs1 := 1) (sl1 := 10) (N := 10) (t := 4) (C := RX7) hK dX0_init_7 rfl tw_60 (fun U h => h.2.2.2.2.1) rfl (by decide) (by decide +kernel) (Nat.le_of_ble_eq_true rfl) (Nat.le_of_ble_eq_true rfl) (Nat.le_of_ble_eq_true rfl) rfl rfl rfl rfl ?_
  refine g_putF (q := 13) (ci := 0) (C := RX0) (T := TX0) (N := 11) (j := j) (E1 := (eX0_2 G b k j x E)) hK hEn dX0_init_10 rfl (by omega) ((pu_n (by omega)).trans hE) rfl 1 (by decide) iw0 tyX0 tyX0_ok nmX0 tw_117 rfl rfl rfl (ty := (.array (.object "WordLeash$Word"))) (by decide +kernel) rfl rfl (Nat.le_of_ble_eq_true rfl) rfl ?_
  refine g_aload_n (q := 14) hK dX0_init_13 rfl rfl 0 rfl ?_
  refine g_bipush (q := 16) (v := 6) hK dX0_init_14 rfl (by decide) ?_
  refine g_anew (q := 19) (k1 := (k + 2)) (E1 := (eX0_3 G b k j x E)) (cs1 := 2) (sl1 := 16) (N := 6) (t := 3) (C := RX6) hK dX0_init_16 rfl tw_62 (fun U h => h.2.2.2.1) rfl (by decide) (by decide +kernel) (Nat.le_of_ble_eq_true rfl) (Nat.le_of_ble_eq_true rfl) (Nat.le_of_ble_eq_true rfl) rfl rfl rfl rfl ?_
  refine g_putF (q := 22) (ci := 0) (C := RX0) (T := TX0) (N := 11) (j := j) (E1 := (eX0_4 G b k j x E)) hK hEn dX0_init_19 rfl (by omega) ((pu_n (by omega)).trans pu_y) rfl 2 (by decide) iw0 tyX0 tyX0_ok nmX0 tw_120 rfl rfl rfl (ty := (.array (.object "WordLeash$Traveller"))) (by decide +kernel) rfl rfl (Nat.le_of_ble_eq_true rfl) rfl ?_
  refine g_aload_n (q := 23) hK dX0_init_22 rfl rfl 0 rfl ?_
  refine g_bipush (q := 25) (v := 6) hK dX0_init_23 rfl (by decide) ?_
  refine g_put (q := 28) (ci := 0) (C := RX0) (T := TX0) (N := 11) (j := j) (E1 := (eX0_5 G b k j x E)) hK dX0_init_25 rfl (by omega) pu_y rfl 7 (by decide) iw0 tyX0 tyX0_ok nmX0 tw_131 rfl rfl (ty := .int) (by decide +kernel) (nar_int _) rfl (Nat.le_of_ble_eq_true rfl) rfl ?_
  refine g_aload_n (q := 29) hK dX0_init_28 rfl rfl 0 rfl ?_
  refine g_bipush (q := 31) (v := 50) hK dX0_init_29 rfl (by decide) ?_
  refine g_put (q := 34) (ci := 0) (C := RX0) (T := TX0) (N := 11) (j := j) (E1 := (eX0_6 G b k j x E)) hK dX0_init_31 rfl (by omega) pu_y rfl 8 (by decide) iw0 tyX0 tyX0_ok nmX0 tw_133 rfl rfl (ty := .int) (by decide +kernel) (nar_int _) rfl (Nat.le_of_ble_eq_true rfl) rfl ?_
  refine g_aload_n (q := 35) hK dX0_init_34 rfl rfl 0 rfl ?_
  refine g_iconst (q := 36) (v := 1) hK dX0_init_35 rfl (by decide) ?_
  refine g_put (q := 39) (ci := 0) (C := RX0) (T := TX0) (N := 11) (j := j) (E1 := (eX0_7 G b k j x E)) hK dX0_init_36 rfl (by omega) pu_y rfl 10 (by decide) iw0 tyX0 tyX0_ok nmX0 tw_137 rfl rfl (ty := .int) (by decide +kernel) (nar_int _) rfl (Nat.le_of_ble_eq_true rfl) rfl ?_
  refine g_aload_n (q := 40) hK dX0_init_39 rfl rfl 0 rfl ?_
  refine g_aload_n (q := 41) hK dX0_init_40 rfl rfl 1 rfl ?_
  refine g_putF (q := 44) (ci := 0) (C := RX0) (T := TX0) (N := 11) (j := j) (E1 := (eX0_8 G b k j x E)) hK hEn dX0_init_41 rfl (by omega) pu_y rfl 0 (by decide) iw0 tyX0 tyX0_ok nmX0 tw_116 rfl rfl rfl (ty := (.object "WordLeash$Laws")) (by decide +kernel) rfl rfl (Nat.le_of_ble_eq_true rfl) rfl ?_
  refine g_iconst (q := 45) (v := 0) hK dX0_init_44 rfl (by decide) ?_
  refine g_istore_n (q := 46) (loc' := [(2, .int 0), (0, .ref (b + j)), (1, .ref x)]) hK dX0_init_45 rfl rfl (by decide) rfl ?_
  refine g_iload_n (q := 47) hK dX0_init_46 rfl rfl 0 rfl ?_
  refine g_bipush (q := 49) (v := 10) hK dX0_init_47 rfl (by decide) ?_
  refine g_geN (q := 52) (t := 71) hK dX0_init_49 (by decide) rfl (by decide) ?_
  refine g_aload_n (q := 53) hK dX0_init_52 rfl rfl 1 rfl ?_
  refine g_get (q := 56) (ci := 0) (C := RX0) (T := TX0) (N := 11) (j := j) hK dX0_init_53 rfl (by omega) pu_y rfl 1 (by decide) iw0 tw_117 rfl rfl ?_
  refine g_iload_n (q := 57) hK dX0_init_56 rfl rfl 0 rfl ?_
  refine g_new (q := 60) (k1 := (k + 3)) (E1 := (eX0_9 G b k j x E)) (cs1 := 3) (sl1 := 22) (ci := 7) (C := RX7) (T := TX7) (N := 6) hK dX0_init_57 rfl tw_60 tw_64 tw_4 rfl iw7 tyX7 tyX7_ok dfv7 (Nat.le_of_ble_eq_true rfl) (Nat.le_of_ble_eq_true rfl) rfl rfl rfl rfl ?_
  refine g_dup (q := 61) hK dX0_init_60 rfl rfl ?_
  refine g_callN (q := 64) (k1 := (k + 3)) (E1 := (eX0_9 G b k j x E)) (cs1 := 3) (sl1 := 22) (As := []) (rest := [.ref (b + (k + 2)), .int 0, .ref (b + k)]) hK dX0_init_61 rfl (i_X7 (by omega) pu_y) rfl rfl (Nat.le_of_ble_eq_true rfl) (fun U h => h.2.1) mw_X7_init mi_X7_init rfl ⟨⟨rfl, rfl⟩, Nat.le_of_ble_eq_true rfl, Nat.le_of_ble_eq_true rfl⟩ ⟨Nat.le_of_ble_eq_true rfl, Nat.le_of_ble_eq_true rfl⟩ rfl rfl ?_
  refine g_aast (q := 65) (j := k) (jv := (k + 2)) (N := 10) (t := 4) (ci := 7) (r := (RX7, TX7, 6)) (i0 := 0) (E1 := (eX0_10 G b k j x E)) hK dX0_init_64 rfl (by decide +kernel) (by omega) ((pu_n (by omega)).trans ((pu_n (by omega)).trans ((pu_n (by omega)).trans ((pu_n (by omega)).trans ((pu_n (by omega)).trans ((pu_n (by omega)).trans ((pu_n (by omega)).trans ((pu_n (by omega)).trans pu_y)))))))) rfl (by omega) pu_y rfl (vp_in_nI (n := 0) (by decide) (by decide)) rfl ?_
  refine g_iinc (q := 68) (v := 1) (loc' := [(2, .int 1), (0, .ref (b + j)), (1, .ref x)]) hK dX0_init_65 rfl 0 rfl (by decide) (by decide) rfl ?_
  refine g_goto (q := 46) hK dX0_init_68 (by decide) ?_
  refine g_iload_n (q := 47) hK dX0_init_46 rfl rfl 0 rfl ?_
  refine g_bipush (q := 49) (v := 10) hK dX0_init_47 rfl (by decide) ?_
  refine g_geN (q := 52) (t := 71) hK dX0_init_49 (by decide) rfl (by decide) ?_
  refine g_aload_n (q := 53) hK dX0_init_52 rfl rfl 1 rfl ?_
  refine g_get (q := 56) (ci := 0) (C := RX0) (T := TX0) (N := 11) (j := j) hK dX0_init_53 rfl (by omega) ((pu_n (by omega)).trans ((pu_n (by omega)).trans pu_y)) rfl 1 (by decide) iw0 tw_117 rfl rfl ?_
  refine g_iload_n (q := 57) hK dX0_init_56 rfl rfl 0 rfl ?_
  refine g_new (q := 60) (k1 := (k + 4)) (E1 := (eX0_11 G b k j x E)) (cs1 := 4) (sl1 := 28) (ci := 7) (C := RX7) (T := TX7) (N := 6) hK dX0_init_57 rfl tw_60 tw_64 tw_4 rfl iw7 tyX7 tyX7_ok dfv7 (Nat.le_of_ble_eq_true rfl) (Nat.le_of_ble_eq_true rfl) rfl rfl rfl rfl ?_
  refine g_dup (q := 61) hK dX0_init_60 rfl rfl ?_
  refine g_callN (q := 64) (k1 := (k + 4)) (E1 := (eX0_11 G b k j x E)) (cs1 := 4) (sl1 := 28) (As := []) (rest := [.ref (b + (k + 3)), .int 1, .ref (b + k)]) hK dX0_init_61 rfl (i_X7 (by omega) pu_y) rfl rfl (Nat.le_of_ble_eq_true rfl) (fun U h => h.2.1) mw_X7_init mi_X7_init rfl ⟨⟨rfl, rfl⟩, Nat.le_of_ble_eq_true rfl, Nat.le_of_ble_eq_true rfl⟩ ⟨Nat.le_of_ble_eq_true rfl, Nat.le_of_ble_eq_true rfl⟩ rfl rfl ?_
  refine g_aast (q := 65) (j := k) (jv := (k + 3)) (N := 10) (t := 4) (ci := 7) (r := (RX7, TX7, 6)) (i0 := 1) (E1 := (eX0_12 G b k j x E)) hK dX0_init_64 rfl (by decide +kernel) (by omega) ((pu_n (by omega)).trans pu_y) rfl (by omega) pu_y rfl (vp_in_nI (n := 1) (by decide) (by decide)) rfl ?_
  refine g_iinc (q := 68) (v := 2) (loc' := [(2, .int 2), (0, .ref (b + j)), (1, .ref x)]) hK dX0_init_65 rfl 0 rfl (by decide) (by decide) rfl ?_
  refine g_goto (q := 46) hK dX0_init_68 (by decide) ?_
  refine g_iload_n (q := 47) hK dX0_init_46 rfl rfl 0 rfl ?_
  refine g_bipush (q := 49) (v := 10) hK dX0_init_47 rfl (by decide) ?_
  refine g_geN (q := 52) (t := 71) hK dX0_init_49 (by decide) rfl (by decide) ?_
  refine g_aload_n (q := 53) hK dX0_init_52 rfl rfl 1 rfl ?_
  refine g_get (q := 56) (ci := 0) (C := RX0) (T := TX0) (N := 11) (j := j) hK dX0_init_53 rfl (by omega) ((pu_n (by omega)).trans ((pu_n (by omega)).trans ((pu_n (by omega)).trans ((pu_n (by omega)).trans pu_y)))) rfl 1 (by decide) iw0 tw_117 rfl rfl ?_
  refine g_iload_n (q := 57) hK dX0_init_56 rfl rfl 0 rfl ?_
  refine g_new (q := 60) (k1 := (k + 5)) (E1 := (eX0_13 G b k j x E)) (cs1 := 5) (sl1 := 34) (ci := 7) (C := RX7) (T := TX7) (N := 6) hK dX0_init_57 rfl tw_60 tw_64 tw_4 rfl iw7 tyX7 tyX7_ok dfv7 (Nat.le_of_ble_eq_true rfl) (Nat.le_of_ble_eq_true rfl) rfl rfl rfl rfl ?_
  refine g_dup (q := 61) hK dX0_init_60 rfl rfl ?_
  refine g_callN (q := 64) (k1 := (k + 5)) (E1 := (eX0_13 G b k j x E)) (cs1 := 5) (sl1 := 34) (As := []) (rest := [.ref (b + (k + 4)), .int 2, .ref (b + k)]) hK dX0_init_61 rfl (i_X7 (by omega) pu_y) rfl rfl (Nat.le_of_ble_eq_true rfl) (fun U h => h.2.1) mw_X7_init mi_X7_init rfl ⟨⟨rfl, rfl⟩, Nat.le_of_ble_eq_true rfl, Nat.le_of_ble_eq_true rfl⟩ ⟨Nat.le_of_ble_eq_true rfl, Nat.le_of_ble_eq_true rfl⟩ rfl rfl ?_
  refine g_aast (q := 65) (j := k) (jv := (k + 4)) (N := 10) (t := 4) (ci := 7) (r := (RX7, TX7, 6)) (i0 := 2) (E1 := (eX0_14 G b k j x E)) hK dX0_init_64 rfl (by decide +kernel) (by omega) ((pu_n (by omega)).trans pu_y) rfl (by omega) pu_y rfl (vp_in_nI (n := 2) (by decide) (by decide)) rfl ?_
  refine g_iinc (q := 68) (v := 3) (loc' := [(2, .int 3), (0, .ref (b + j)), (1, .ref x)]) hK dX0_init_65 rfl 0 rfl (by decide) (by decide) rfl ?_
  refine g_goto (q := 46) hK dX0_init_68 (by decide) ?_
  refine g_iload_n (q := 47) hK dX0_init_46 rfl rfl 0 rfl ?_
  refine g_bipush (q := 49) (v := 10) hK dX0_init_47 rfl (by decide) ?_
  refine g_geN (q := 52) (t := 71) hK dX0_init_49 (by decide) rfl (by decide) ?_
  refine g_aload_n (q := 53) hK dX0_init_52 rfl rfl 1 rfl ?_
  refine g_get (q := 56) (ci := 0) (C := RX0) (T := TX0) (N := 11) (j := j) hK dX0_init_53 rfl (by omega) ((pu_n (by omega)).trans ((pu_n (by omega)).trans ((pu_n (by omega)).trans ((pu_n (by omega)).trans ((pu_n (by omega)).trans ((pu_n (by omega)).trans pu_y)))))) rfl 1 (by decide) iw0 tw_117 rfl rfl ?_
  refine g_iload_n (q := 57) hK dX0_init_56 rfl rfl 0 rfl ?_
  refine g_new (q := 60) (k1 := (k + 6)) (E1 := (eX0_15 G b k j x E)) (cs1 := 6) (sl1 := 40) (ci := 7) (C := RX7) (T := TX7) (N := 6) hK dX0_init_57 rfl tw_60 tw_64 tw_4 rfl iw7 tyX7 tyX7_ok dfv7 (Nat.le_of_ble_eq_true rfl) (Nat.le_of_ble_eq_true rfl) rfl rfl rfl rfl ?_
  refine g_dup (q := 61) hK dX0_init_60 rfl rfl ?_
  refine g_callN (q := 64) (k1 := (k + 6)) (E1 := (eX0_15 G b k j x E)) (cs1 := 6) (sl1 := 40) (As := []) (rest := [.ref (b + (k + 5)), .int 3, .ref (b + k)]) hK dX0_init_61 rfl (i_X7 (by omega) pu_y) rfl rfl (Nat.le_of_ble_eq_true rfl) (fun U h => h.2.1) mw_X7_init mi_X7_init rfl ⟨⟨rfl, rfl⟩, Nat.le_of_ble_eq_true rfl, Nat.le_of_ble_eq_true rfl⟩ ⟨Nat.le_of_ble_eq_true rfl, Nat.le_of_ble_eq_true rfl⟩ rfl rfl ?_
  refine g_aast (q := 65) (j := k) (jv := (k + 5)) (N := 10) (t := 4) (ci := 7) (r := (RX7, TX7, 6)) (i0 := 3) (E1 := (eX0_16 G b k j x E)) hK dX0_init_64 rfl (by decide +kernel) (by omega) ((pu_n (by omega)).trans pu_y) rfl (by omega) pu_y rfl (vp_in_nI (n := 3) (by decide) (by decide)) rfl ?_
  refine g_iinc (q := 68) (v := 4) (loc' := [(2, .int 4), (0, .ref (b + j)), (1, .ref x)]) hK dX0_init_65 rfl 0 rfl (by decide) (by decide) rfl ?_
  refine g_goto (q := 46) hK dX0_init_68 (by decide) ?_
  refine g_iload_n (q := 47) hK dX0_init_46 rfl rfl 0 rfl ?_
  refine g_bipush (q := 49) (v := 10) hK dX0_init_47 rfl (by decide) ?_
  refine g_geN (q := 52) (t := 71) hK dX0_init_49 (by decide) rfl (by decide) ?_
  refine g_aload_n (q := 53) hK dX0_init_52 rfl rfl 1 rfl ?_
  refine g_get (q := 56) (ci := 0) (C := RX0) (T := TX0) (N := 11) (j := j) hK dX0_init_53 rfl (by omega) ((pu_n (by omega)).trans ((pu_n (by omega)).trans ((pu_n (by omega)).trans ((pu_n (by omega)).trans ((pu_n (by omega)).trans ((pu_n (by omega)).trans ((pu_n (by omega)).trans ((pu_n (by omega)).trans pu_y)))))))) rfl 1 (by decide) iw0 tw_117 rfl rfl ?_
  refine g_iload_n (q := 57) hK dX0_init_56 rfl rfl 0 rfl ?_
  refine g_new (q := 60) (k1 := (k + 7)) (E1 := (eX0_17 G b k j x E)) (cs1 := 7) (sl1 := 46) (ci := 7) (C := RX7) (T := TX7) (N := 6) hK dX0_init_57 rfl tw_60 tw_64 tw_4 rfl iw7 tyX7 tyX7_ok dfv7 (Nat.le_of_ble_eq_true rfl) (Nat.le_of_ble_eq_true rfl) rfl rfl rfl rfl ?_
  refine g_dup (q := 61) hK dX0_init_60 rfl rfl ?_
  refine g_callN (q := 64) (k1 := (k + 7)) (E1 := (eX0_17 G b k j x E)) (cs1 := 7) (sl1 := 46) (As := []) (rest := [.ref (b + (k + 6)), .int 4, .ref (b + k)]) hK dX0_init_61 rfl (i_X7 (by omega) pu_y) rfl rfl (Nat.le_of_ble_eq_true rfl) (fun U h => h.2.1) mw_X7_init mi_X7_init rfl ⟨⟨rfl, rfl⟩, Nat.le_of_ble_eq_true rfl, Nat.le_of_ble_eq_true rfl⟩ ⟨Nat.le_of_ble_eq_true rfl, Nat.le_of_ble_eq_true rfl⟩ rfl rfl ?_
  refine g_aast (q := 65) (j := k) (jv := (k + 6)) (N := 10) (t := 4) (ci := 7) (r := (RX7, TX7, 6)) (i0 := 4) (E1 := (eX0_18 G b k j x E)) hK dX0_init_64 rfl (by decide +kernel) (by omega) ((pu_n (by omega)).trans pu_y) rfl (by omega) pu_y rfl (vp_in_nI (n := 4) (by decide) (by decide)) rfl ?_
  refine g_iinc (q := 68) (v := 5) (loc' := [(2, .int 5), (0, .ref (b + j)), (1, .ref x)]) hK dX0_init_65 rfl 0 rfl (by decide) (by decide) rfl ?_
  refine g_goto (q := 46) hK dX0_init_68 (by decide) ?_
  refine g_iload_n (q := 47) hK dX0_init_46 rfl rfl 0 rfl ?_
  refine g_bipush (q := 49) (v := 10) hK dX0_init_47 rfl (by decide) ?_
  refine g_geN (q := 52) (t := 71) hK dX0_init_49 (by decide) rfl (by decide) ?_
  refine g_aload_n (q := 53) hK dX0_init_52 rfl rfl 1 rfl ?_
  refine g_get (q := 56) (ci := 0) (C := RX0) (T := TX0) (N := 11) (j := j) hK dX0_init_53 rfl (by omega) ((pu_n (by omega)).trans ((pu_n (by omega)).trans ((pu_n (by omega)).trans ((pu_n (by omega)).trans ((pu_n (by omega)).trans ((pu_n (by omega)).trans ((pu_n (by omega)).trans ((pu_n (by omega)).trans ((pu_n (by omega)).trans ((pu_n (by omega)).trans pu_y)))))))))) rfl 1 (by decide) iw0 tw_117 rfl rfl ?_
  refine g_iload_n (q := 57) hK dX0_init_56 rfl rfl 0 rfl ?_
  refine g_new (q := 60) (k1 := (k + 8)) (E1 := (eX0_19 G b k j x E)) (cs1 := 8) (sl1 := 52) (ci := 7) (C := RX7) (T := TX7) (N := 6) hK dX0_init_57 rfl tw_60 tw_64 tw_4 rfl iw7 tyX7 tyX7_ok dfv7 (Nat.le_of_ble_eq_true rfl) (Nat.le_of_ble_eq_true rfl) rfl rfl rfl rfl ?_
  refine g_dup (q := 61) hK dX0_init_60 rfl rfl ?_
  refine g_callN (q := 64) (k1 := (k + 8)) (E1 := (eX0_19 G b k j x E)) (cs1 := 8) (sl1 := 52) (As := []) (rest := [.ref (b + (k + 7)), .int 5, .ref (b + k)]) hK dX0_init_61 rfl (i_X7 (by omega) pu_y) rfl rfl (Nat.le_of_ble_eq_true rfl) (fun U h => h.2.1) mw_X7_init mi_X7_init rfl ⟨⟨rfl, rfl⟩, Nat.le_of_ble_eq_true rfl, Nat.le_of_ble_eq_true rfl⟩ ⟨Nat.le_of_ble_eq_true rfl, Nat.le_of_ble_eq_true rfl⟩ rfl rfl ?_
  refine g_aast (q := 65) (j := k) (jv := (k + 7)) (N := 10) (t := 4) (ci := 7) (r := (RX7, TX7, 6)) (i0 := 5) (E1 := (eX0_20 G b k j x E)) hK dX0_init_64 rfl (by decide +kernel) (by omega) ((pu_n (by omega)).trans pu_y) rfl (by omega) pu_y rfl (vp_in_nI (n := 5) (by decide) (by decide)) rfl ?_
  refine g_iinc (q := 68) (v := 6) (loc' := [(2, .int 6), (0, .ref (b + j)), (1, .ref x)]) hK dX0_init_65 rfl 0 rfl (by decide) (by decide) rfl ?_
  refine g_goto (q := 46) hK dX0_init_68 (by decide) ?_
  refine g_iload_n (q := 47) hK dX0_init_46 rfl rfl 0 rfl ?_
  refine g_bipush (q := 49) (v := 10) hK dX0_init_47 rfl (by decide) ?_
  refine g_geN (q := 52) (t := 71) hK dX0_init_49 (by decide) rfl (by decide) ?_
  refine g_aload_n (q := 53) hK dX0_init_52 rfl rfl 1 rfl ?_
  refine g_get (q := 56) (ci := 0) (C := RX0) (T := TX0) (N := 11) (j := j) hK dX0_init_53 rfl (by omega) ((pu_n (by omega)).trans ((pu_n (by omega)).trans ((pu_n (by omega)).trans ((pu_n (by omega)).trans ((pu_n (by omega)).trans ((pu_n (by omega)).trans ((pu_n (by omega)).trans ((pu_n (by omega)).trans ((pu_n (by omega)).trans ((pu_n (by omega)).trans ((pu_n (by omega)).trans ((pu_n (by omega)).trans pu_y)))))))))))) rfl 1 (by decide) iw0 tw_117 rfl rfl ?_
  refine g_iload_n (q := 57) hK dX0_init_56 rfl rfl 0 rfl ?_
  refine g_new (q := 60) (k1 := (k + 9)) (E1 := (eX0_21 G b k j x E)) (cs1 := 9) (sl1 := 58) (ci := 7) (C := RX7) (T := TX7) (N := 6) hK dX0_init_57 rfl tw_60 tw_64 tw_4 rfl iw7 tyX7 tyX7_ok dfv7 (Nat.le_of_ble_eq_true rfl) (Nat.le_of_ble_eq_true rfl) rfl rfl rfl rfl ?_
  refine g_dup (q := 61) hK dX0_init_60 rfl rfl ?_
  refine g_callN (q := 64) (k1 := (k + 9)) (E1 := (eX0_21 G b k j x E)) (cs1 := 9) (sl1 := 58) (As := []) (rest := [.ref (b + (k + 8)), .int 6, .ref (b + k)]) hK dX0_init_61 rfl (i_X7 (by omega) pu_y) rfl rfl (Nat.le_of_ble_eq_true rfl) (fun U h => h.2.1) mw_X7_init mi_X7_init rfl ⟨⟨rfl, rfl⟩, Nat.le_of_ble_eq_true rfl, Nat.le_of_ble_eq_true rfl⟩ ⟨Nat.le_of_ble_eq_true rfl, Nat.le_of_ble_eq_true rfl⟩ rfl rfl ?_
  refine g_aast (q := 65) (j := k) (jv := (k + 8)) (N := 10) (t := 4) (ci := 7) (r := (RX7, TX7, 6)) (i0 := 6) (E1 := (eX0_22 G b k j x E)) hK dX0_init_64 rfl (by decide +kernel) (by omega) ((pu_n (by omega)).trans pu_y) rfl (by omega) pu_y rfl (vp_in_nI (n := 6) (by decide) (by decide)) rfl ?_
  refine g_iinc (q := 68) (v := 7) (loc' := [(2, .int 7), (0, .ref (b + j)), (1, .ref x)]) hK dX0_init_65 rfl 0 rfl (by decide) (by decide) rfl ?_
  refine g_goto (q := 46) hK dX0_init_68 (by decide) ?_
  refine g_iload_n (q := 47) hK dX0_init_46 rfl rfl 0 rfl ?_
  refine g_bipush (q := 49) (v := 10) hK dX0_init_47 rfl (by decide) ?_
  refine g_geN (q := 52) (t := 71) hK dX0_init_49 (by decide) rfl (by decide) ?_
  refine g_aload_n (q := 53) hK dX0_init_52 rfl rfl 1 rfl ?_
  refine g_get (q := 56) (ci := 0) (C := RX0) (T := TX0) (N := 11) (j := j) hK dX0_init_53 rfl (by omega) ((pu_n (by omega)).trans ((pu_n (by omega)).trans ((pu_n (by omega)).trans ((pu_n (by omega)).trans ((pu_n (by omega)).trans ((pu_n (by omega)).trans ((pu_n (by omega)).trans ((pu_n (by omega)).trans ((pu_n (by omega)).trans ((pu_n (by omega)).trans ((pu_n (by omega)).trans ((pu_n (by omega)).trans ((pu_n (by omega)).trans ((pu_n (by omega)).trans pu_y)))))))))))))) rfl 1 (by decide) iw0 tw_117 rfl rfl ?_
  refine g_iload_n (q := 57) hK dX0_init_56 rfl rfl 0 rfl ?_
  refine g_new (q := 60) (k1 := (k + 10)) (E1 := (eX0_23 G b k j x E)) (cs1 := 10) (sl1 := 64) (ci := 7) (C := RX7) (T := TX7) (N := 6) hK dX0_init_57 rfl tw_60 tw_64 tw_4 rfl iw7 tyX7 tyX7_ok dfv7 (Nat.le_of_ble_eq_true rfl) (Nat.le_of_ble_eq_true rfl) rfl rfl rfl rfl ?_
  refine g_dup (q := 61) hK dX0_init_60 rfl rfl ?_
  refine g_callN (q := 64) (k1 := (k + 10)) (E1 := (eX0_23 G b k j x E)) (cs1 := 10) (sl1 := 64) (As := []) (rest := [.ref (b + (k + 9)), .int 7, .ref (b + k)]) hK dX0_init_61 rfl (i_X7 (by omega) pu_y) rfl rfl (Nat.le_of_ble_eq_true rfl) (fun U h => h.2.1) mw_X7_init mi_X7_init rfl ⟨⟨rfl, rfl⟩, Nat.le_of_ble_eq_true rfl, Nat.le_of_ble_eq_true rfl⟩ ⟨Nat.le_of_ble_eq_true rfl, Nat.le_of_ble_eq_true rfl⟩ rfl rfl ?_
  refine g_aast (q := 65) (j := k) (jv := (k + 9)) (N := 10) (t := 4) (ci := 7) (r := (RX7, TX7, 6)) (i0 := 7) (E1 := (eX0_24 G b k j x E)) hK dX0_init_64 rfl (by decide +kernel) (by omega) ((pu_n (by omega)).trans pu_y) rfl (by omega) pu_y rfl (vp_in_nI (n := 7) (by decide) (by decide)) rfl ?_
  refine g_iinc (q := 68) (v := 8) (loc' := [(2, .int 8), (0, .ref (b + j)), (1, .ref x)]) hK dX0_init_65 rfl 0 rfl (by decide) (by decide) rfl ?_
  refine g_goto (q := 46) hK dX0_init_68 (by decide) ?_
  refine g_iload_n (q := 47) hK dX0_init_46 rfl rfl 0 rfl ?_
  refine g_bipush (q := 49) (v := 10) hK dX0_init_47 rfl (by decide) ?_
  refine g_geN (q := 52) (t := 71) hK dX0_init_49 (by decide) rfl (by decide) ?_
  refine g_aload_n (q := 53) hK dX0_init_52 rfl rfl 1 rfl ?_
  refine g_get (q := 56) (ci := 0) (C := RX0) (T := TX0) (N := 11) (j := j) hK dX0_init_53 rfl (by omega) ((pu_n (by omega)).trans ((pu_n (by omega)).trans ((pu_n (by omega)).trans ((pu_n (by omega)).trans ((pu_n (by omega)).trans ((pu_n (by omega)).trans ((pu_n (by omega)).trans ((pu_n (by omega)).trans ((pu_n (by omega)).trans ((pu_n (by omega)).trans ((pu_n (by omega)).trans ((pu_n (by omega)).trans ((pu_n (by omega)).trans ((pu_n (by omega)).trans ((pu_n (by omega)).trans ((pu_n (by omega)).trans pu_y)))))))))))))))) rfl 1 (by decide) iw0 tw_117 rfl rfl ?_
  refine g_iload_n (q := 57) hK dX0_init_56 rfl rfl 0 rfl ?_
  refine g_new (q := 60) (k1 := (k + 11)) (E1 := (eX0_25 G b k j x E)) (cs1 := 11) (sl1 := 70) (ci := 7) (C := RX7) (T := TX7) (N := 6) hK dX0_init_57 rfl tw_60 tw_64 tw_4 rfl iw7 tyX7 tyX7_ok dfv7 (Nat.le_of_ble_eq_true rfl) (Nat.le_of_ble_eq_true rfl) rfl rfl rfl rfl ?_
  refine g_dup (q := 61) hK dX0_init_60 rfl rfl ?_
  refine g_callN (q := 64) (k1 := (k + 11)) (E1 := (eX0_25 G b k j x E)) (cs1 := 11) (sl1 := 70) (As := []) (rest := [.ref (b + (k + 10)), .int 8, .ref (b + k)]) hK dX0_init_61 rfl (i_X7 (by omega) pu_y) rfl rfl (Nat.le_of_ble_eq_true rfl) (fun U h => h.2.1) mw_X7_init mi_X7_init rfl ⟨⟨rfl, rfl⟩, Nat.le_of_ble_eq_true rfl, Nat.le_of_ble_eq_true rfl⟩ ⟨Nat.le_of_ble_eq_true rfl, Nat.le_of_ble_eq_true rfl⟩ rfl rfl ?_
  refine g_aast (q := 65) (j := k) (jv := (k + 10)) (N := 10) (t := 4) (ci := 7) (r := (RX7, TX7, 6)) (i0 := 8) (E1 := (eX0_26 G b k j x E)) hK dX0_init_64 rfl (by decide +kernel) (by omega) ((pu_n (by omega)).trans pu_y) rfl (by omega) pu_y rfl (vp_in_nI (n := 8) (by decide) (by decide)) rfl ?_
  refine g_iinc (q := 68) (v := 9) (loc' := [(2, .int 9), (0, .ref (b + j)), (1, .ref x)]) hK dX0_init_65 rfl 0 rfl (by decide) (by decide) rfl ?_
  refine g_goto (q := 46) hK dX0_init_68 (by decide) ?_
  refine g_iload_n (q := 47) hK dX0_init_46 rfl rfl 0 rfl ?_
  refine g_bipush (q := 49) (v := 10) hK dX0_init_47 rfl (by decide) ?_
  refine g_geN (q := 52) (t := 71) hK dX0_init_49 (by decide) rfl (by decide) ?_
  refine g_aload_n (q := 53) hK dX0_init_52 rfl rfl 1 rfl ?_
  refine g_get (q := 56) (ci := 0) (C := RX0) (T := TX0) (N := 11) (j := j) hK dX0_init_53 rfl (by omega) ((pu_n (by omega)).trans ((pu_n (by omega)).trans ((pu_n (by omega)).trans ((pu_n (by omega)).trans ((pu_n (by omega)).trans ((pu_n (by omega)).trans ((pu_n (by omega)).trans ((pu_n (by omega)).trans ((pu_n (by omega)).trans ((pu_n (by omega)).trans ((pu_n (by omega)).trans ((pu_n (by omega)).trans ((pu_n (by omega)).trans ((pu_n (by omega)).trans ((pu_n (by omega)).trans ((pu_n (by omega)).trans ((pu_n (by omega)).trans ((pu_n (by omega)).trans pu_y)))))))))))))))))) rfl 1 (by decide) iw0 tw_117 rfl rfl ?_
  refine g_iload_n (q := 57) hK dX0_init_56 rfl rfl 0 rfl ?_
  refine g_new (q := 60) (k1 := (k + 12)) (E1 := (eX0_27 G b k j x E)) (cs1 := 12) (sl1 := 76) (ci := 7) (C := RX7) (T := TX7) (N := 6) hK dX0_init_57 rfl tw_60 tw_64 tw_4 rfl iw7 tyX7 tyX7_ok dfv7 (Nat.le_of_ble_eq_true rfl) (Nat.le_of_ble_eq_true rfl) rfl rfl rfl rfl ?_
  refine g_dup (q := 61) hK dX0_init_60 rfl rfl ?_
  refine g_callN (q := 64) (k1 := (k + 12)) (E1 := (eX0_27 G b k j x E)) (cs1 := 12) (sl1 := 76) (As := []) (rest := [.ref (b + (k + 11)), .int 9, .ref (b + k)]) hK dX0_init_61 rfl (i_X7 (by omega) pu_y) rfl rfl (Nat.le_of_ble_eq_true rfl) (fun U h => h.2.1) mw_X7_init mi_X7_init rfl ⟨⟨rfl, rfl⟩, Nat.le_of_ble_eq_true rfl, Nat.le_of_ble_eq_true rfl⟩ ⟨Nat.le_of_ble_eq_true rfl, Nat.le_of_ble_eq_true rfl⟩ rfl rfl ?_
  refine g_aast (q := 65) (j := k) (jv := (k + 11)) (N := 10) (t := 4) (ci := 7) (r := (RX7, TX7, 6)) (i0 := 9) (E1 := (eX0_28 G b k j x E)) hK dX0_init_64 rfl (by decide +kernel) (by omega) ((pu_n (by omega)).trans pu_y) rfl (by omega) pu_y rfl (vp_in_nI (n := 9) (by decide) (by decide)) rfl ?_
  refine g_iinc (q := 68) (v := 10) (loc' := [(2, .int 10), (0, .ref (b + j)), (1, .ref x)]) hK dX0_init_65 rfl 0 rfl (by decide) (by decide) rfl ?_
  refine g_goto (q := 46) hK dX0_init_68 (by decide) ?_
  refine g_iload_n (q := 47) hK dX0_init_46 rfl rfl 0 rfl ?_
  refine g_bipush (q := 49) (v := 10) hK dX0_init_47 rfl (by decide) ?_
  refine g_geY (q := 71) hK dX0_init_49 (by decide) (by decide) ?_
  refine g_iconst (q := 72) (v := 0) hK dX0_init_71 rfl (by decide) ?_
  refine g_istore_n (q := 73) (loc' := [(2, .int 0), (0, .ref (b + j)), (1, .ref x)]) hK dX0_init_72 rfl rfl (by decide) rfl ?_
  refine g_iload_n (q := 74) hK dX0_init_73 rfl rfl 0 rfl ?_
  refine g_bipush (q := 76) (v := 6) hK dX0_init_74 rfl (by decide) ?_
  refine g_geN (q := 79) (t := 98) hK dX0_init_76 (by decide) rfl (by decide) ?_
  refine g_aload_n (q := 80) hK dX0_init_79 rfl rfl 1 rfl ?_
  refine g_get (q := 83) (ci := 0) (C := RX0) (T := TX0) (N := 11) (j := j) hK dX0_init_80 rfl (by omega) ((pu_n (by omega)).trans ((pu_n (by omega)).trans ((pu_n (by omega)).trans ((pu_n (by omega)).trans ((pu_n (by omega)).trans ((pu_n (by omega)).trans ((pu_n (by omega)).trans ((pu_n (by omega)).trans ((pu_n (by omega)).trans ((pu_n (by omega)).trans ((pu_n (by omega)).trans ((pu_n (by omega)).trans ((pu_n (by omega)).trans ((pu_n (by omega)).trans ((pu_n (by omega)).trans ((pu_n (by omega)).trans ((pu_n (by omega)).trans ((pu_n (by omega)).trans ((pu_n (by omega)).trans ((pu_n (by omega)).trans pu_y)))))))))))))))))))) rfl 2 (by decide) iw0 tw_120 rfl rfl ?_
  refine g_iload_n (q := 84) hK dX0_init_83 rfl rfl 0 rfl ?_
  refine g_new (q := 87) (k1 := (k + 13)) (E1 := (eX0_29 G b k j x E)) (cs1 := 13) (sl1 := 78) (ci := 6) (C := RX6) (T := TX6) (N := 2) hK dX0_init_84 rfl tw_62 tw_100 tw_5 rfl iw6 tyX6 tyX6_ok dfv6 (Nat.le_of_ble_eq_true rfl) (Nat.le_of_ble_eq_true rfl) rfl rfl rfl rfl ?_
  refine g_dup (q := 88) hK dX0_init_87 rfl rfl ?_
  refine g_callN (q := 91) (k1 := (k + 13)) (E1 := (eX0_29 G b k j x E)) (cs1 := 13) (sl1 := 78) (As := []) (rest := [.ref (b + (k + 12)), .int 0, .ref (b + (k + 1))]) hK dX0_init_88 rfl (i_X6 (by omega) pu_y) rfl rfl (Nat.le_of_ble_eq_true rfl) (fun U h => h.2.2.1) mw_X6_init mi_X6_init rfl ⟨⟨rfl, rfl⟩, Nat.le_of_ble_eq_true rfl, Nat.le_of_ble_eq_true rfl⟩ ⟨Nat.le_of_ble_eq_true rfl, Nat.le_of_ble_eq_true rfl⟩ rfl rfl ?_
  refine g_aast (q := 92) (j := (k + 1)) (jv := (k + 12)) (N := 6) (t := 3) (ci := 6) (r := (RX6, TX6, 2)) (i0 := 0) (E1 := (eX0_30 G b k j x E)) hK dX0_init_91 rfl (by decide +kernel) (by omega) ((pu_n (by omega)).trans ((pu_n (by omega)).trans ((pu_n (by omega)).trans ((pu_n (by omega)).trans ((pu_n (by omega)).trans ((pu_n (by omega)).trans ((pu_n (by omega)).trans ((pu_n (by omega)).trans ((pu_n (by omega)).trans ((pu_n (by omega)).trans ((pu_n (by omega)).trans ((pu_n (by omega)).trans ((pu_n (by omega)).trans ((pu_n (by omega)).trans ((pu_n (by omega)).trans ((pu_n (by omega)).trans ((pu_n (by omega)).trans ((pu_n (by omega)).trans ((pu_n (by omega)).trans ((pu_n (by omega)).trans ((pu_n (by omega)).trans ((pu_n (by omega)).trans ((pu_n (by omega)).trans ((pu_n (by omega)).trans ((pu_n (by omega)).trans ((pu_n (by omega)).trans pu_y)))))))))))))))))))))))))) rfl (by omega) pu_y rfl (vp_in_nI (n := 0) (by decide) (by decide)) rfl ?_
  refine g_iinc (q := 95) (v := 1) (loc' := [(2, .int 1), (0, .ref (b + j)), (1, .ref x)]) hK dX0_init_92 rfl 0 rfl (by decide) (by decide) rfl ?_
  refine g_goto (q := 73) hK dX0_init_95 (by decide) ?_
  refine g_iload_n (q := 74) hK dX0_init_73 rfl rfl 0 rfl ?_
  refine g_bipush (q := 76) (v := 6) hK dX0_init_74 rfl (by decide) ?_
  refine g_geN (q := 79) (t := 98) hK dX0_init_76 (by decide) rfl (by decide) ?_
  refine g_aload_n (q := 80) hK dX0_init_79 rfl rfl 1 rfl ?_
  refine g_get (q := 83) (ci := 0) (C := RX0) (T := TX0) (N := 11) (j := j) hK dX0_init_80 rfl (by omega) ((pu_n (by omega)).trans ((pu_n (by omega)).trans ((pu_n (by omega)).trans ((pu_n (by omega)).trans ((pu_n (by omega)).trans ((pu_n (by omega)).trans ((pu_n (by omega)).trans ((pu_n (by omega)).trans ((pu_n (by omega)).trans ((pu_n (by omega)).trans ((pu_n (by omega)).trans ((pu_n (by omega)).trans ((pu_n (by omega)).trans ((pu_n (by omega)).trans ((pu_n (by omega)).trans ((pu_n (by omega)).trans ((pu_n (by omega)).trans ((pu_n (by omega)).trans ((pu_n (by omega)).trans ((pu_n (by omega)).trans ((pu_n (by omega)).trans ((pu_n (by omega)).trans pu_y)))))))))))))))))))))) rfl 2 (by decide) iw0 tw_120 rfl rfl ?_
  refine g_iload_n (q := 84) hK dX0_init_83 rfl rfl 0 rfl ?_
  refine g_new (q := 87) (k1 := (k + 14)) (E1 := (eX0_31 G b k j x E)) (cs1 := 14) (sl1 := 80) (ci := 6) (C := RX6) (T := TX6) (N := 2) hK dX0_init_84 rfl tw_62 tw_100 tw_5 rfl iw6 tyX6 tyX6_ok dfv6 (Nat.le_of_ble_eq_true rfl) (Nat.le_of_ble_eq_true rfl) rfl rfl rfl rfl ?_
  refine g_dup (q := 88) hK dX0_init_87 rfl rfl ?_
  refine g_callN (q := 91) (k1 := (k + 14)) (E1 := (eX0_31 G b k j x E)) (cs1 := 14) (sl1 := 80) (As := []) (rest := [.ref (b + (k + 13)), .int 1, .ref (b + (k + 1))]) hK dX0_init_88 rfl (i_X6 (by omega) pu_y) rfl rfl (Nat.le_of_ble_eq_true rfl) (fun U h => h.2.2.1) mw_X6_init mi_X6_init rfl ⟨⟨rfl, rfl⟩, Nat.le_of_ble_eq_true rfl, Nat.le_of_ble_eq_true rfl⟩ ⟨Nat.le_of_ble_eq_true rfl, Nat.le_of_ble_eq_true rfl⟩ rfl rfl ?_
  refine g_aast (q := 92) (j := (k + 1)) (jv := (k + 13)) (N := 6) (t := 3) (ci := 6) (r := (RX6, TX6, 2)) (i0 := 1) (E1 := (eX0_32 G b k j x E)) hK dX0_init_91 rfl (by decide +kernel) (by omega) ((pu_n (by omega)).trans pu_y) rfl (by omega) pu_y rfl (vp_in_nI (n := 1) (by decide) (by decide)) rfl ?_
  refine g_iinc (q := 95) (v := 2) (loc' := [(2, .int 2), (0, .ref (b + j)), (1, .ref x)]) hK dX0_init_92 rfl 0 rfl (by decide) (by decide) rfl ?_
  refine g_goto (q := 73) hK dX0_init_95 (by decide) ?_
  refine g_iload_n (q := 74) hK dX0_init_73 rfl rfl 0 rfl ?_
  refine g_bipush (q := 76) (v := 6) hK dX0_init_74 rfl (by decide) ?_
  refine g_geN (q := 79) (t := 98) hK dX0_init_76 (by decide) rfl (by decide) ?_
  refine g_aload_n (q := 80) hK dX0_init_79 rfl rfl 1 rfl ?_
  refine g_get (q := 83) (ci := 0) (C := RX0) (T := TX0) (N := 11) (j := j) hK dX0_init_80 rfl (by omega) ((pu_n (by omega)).trans ((pu_n (by omega)).trans ((pu_n (by omega)).trans ((pu_n (by omega)).trans ((pu_n (by omega)).trans ((pu_n (by omega)).trans ((pu_n (by omega)).trans ((pu_n (by omega)).trans ((pu_n (by omega)).trans ((pu_n (by omega)).trans ((pu_n (by omega)).trans ((pu_n (by omega)).trans ((pu_n (by omega)).trans ((pu_n (by omega)).trans ((pu_n (by omega)).trans ((pu_n (by omega)).trans ((pu_n (by omega)).trans ((pu_n (by omega)).trans ((pu_n (by omega)).trans ((pu_n (by omega)).trans ((pu_n (by omega)).trans ((pu_n (by omega)).trans ((pu_n (by omega)).trans ((pu_n (by omega)).trans pu_y)))))))))))))))))))))))) rfl 2 (by decide) iw0 tw_120 rfl rfl ?_
  refine g_iload_n (q := 84) hK dX0_init_83 rfl rfl 0 rfl ?_
  refine g_new (q := 87) (k1 := (k + 15)) (E1 := (eX0_33 G b k j x E)) (cs1 := 15) (sl1 := 82) (ci := 6) (C := RX6) (T := TX6) (N := 2) hK dX0_init_84 rfl tw_62 tw_100 tw_5 rfl iw6 tyX6 tyX6_ok dfv6 (Nat.le_of_ble_eq_true rfl) (Nat.le_of_ble_eq_true rfl) rfl rfl rfl rfl ?_
  refine g_dup (q := 88) hK dX0_init_87 rfl rfl ?_
  refine g_callN (q := 91) (k1 := (k + 15)) (E1 := (eX0_33 G b k j x E)) (cs1 := 15) (sl1 := 82) (As := []) (rest := [.ref (b + (k + 14)), .int 2, .ref (b + (k + 1))]) hK dX0_init_88 rfl (i_X6 (by omega) pu_y) rfl rfl (Nat.le_of_ble_eq_true rfl) (fun U h => h.2.2.1) mw_X6_init mi_X6_init rfl ⟨⟨rfl, rfl⟩, Nat.le_of_ble_eq_true rfl, Nat.le_of_ble_eq_true rfl⟩ ⟨Nat.le_of_ble_eq_true rfl, Nat.le_of_ble_eq_true rfl⟩ rfl rfl ?_
  refine g_aast (q := 92) (j := (k + 1)) (jv := (k + 14)) (N := 6) (t := 3) (ci := 6) (r := (RX6, TX6, 2)) (i0 := 2) (E1 := (eX0_34 G b k j x E)) hK dX0_init_91 rfl (by decide +kernel) (by omega) ((pu_n (by omega)).trans pu_y) rfl (by omega) pu_y rfl (vp_in_nI (n := 2) (by decide) (by decide)) rfl ?_
  refine g_iinc (q := 95) (v := 3) (loc' := [(2, .int 3), (0, .ref (b + j)), (1, .ref x)]) hK dX0_init_92 rfl 0 rfl (by decide) (by decide) rfl ?_
  refine g_goto (q := 73) hK dX0_init_95 (by decide) ?_
  refine g_iload_n (q := 74) hK dX0_init_73 rfl rfl 0 rfl ?_
  refine g_bipush (q := 76) (v := 6) hK dX0_init_74 rfl (by decide) ?_
  refine g_geN (q := 79) (t := 98) hK dX0_init_76 (by decide) rfl (by decide) ?_
  refine g_aload_n (q := 80) hK dX0_init_79 rfl rfl 1 rfl ?_
  refine g_get (q := 83) (ci := 0) (C := RX0) (T := TX0) (N := 11) (j := j) hK dX0_init_80 rfl (by omega) ((pu_n (by omega)).trans ((pu_n (by omega)).trans ((pu_n (by omega)).trans ((pu_n (by omega)).trans ((pu_n (by omega)).trans ((pu_n (by omega)).trans ((pu_n (by omega)).trans ((pu_n (by omega)).trans ((pu_n (by omega)).trans ((pu_n (by omega)).trans ((pu_n (by omega)).trans ((pu_n (by omega)).trans ((pu_n (by omega)).trans ((pu_n (by omega)).trans ((pu_n (by omega)).trans ((pu_n (by omega)).trans ((pu_n (by omega)).trans ((pu_n (by omega)).trans ((pu_n (by omega)).trans ((pu_n (by omega)).trans ((pu_n (by omega)).trans ((pu_n (by omega)).trans ((pu_n (by omega)).trans ((pu_n (by omega)).trans ((pu_n (by omega)).trans ((pu_n (by omega)).trans pu_y)))))))))))))))))))))))))) rfl 2 (by decide) iw0 tw_120 rfl rfl ?_
  refine g_iload_n (q := 84) hK dX0_init_83 rfl rfl 0 rfl ?_
  refine g_new (q := 87) (k1 := (k + 16)) (E1 := (eX0_35 G b k j x E)) (cs1 := 16) (sl1 := 84) (ci := 6) (C := RX6) (T := TX6) (N := 2) hK dX0_init_84 rfl tw_62 tw_100 tw_5 rfl iw6 tyX6 tyX6_ok dfv6 (Nat.le_of_ble_eq_true rfl) (Nat.le_of_ble_eq_true rfl) rfl rfl rfl rfl ?_
  refine g_dup (q := 88) hK dX0_init_87 rfl rfl ?_
  refine g_callN (q := 91) (k1 := (k + 16)) (E1 := (eX0_35 G b k j x E)) (cs1 := 16) (sl1 := 84) (As := []) (rest := [.ref (b + (k + 15)), .int 3, .ref (b + (k + 1))]) hK dX0_init_88 rfl (i_X6 (by omega) pu_y) rfl rfl (Nat.le_of_ble_eq_true rfl) (fun U h => h.2.2.1) mw_X6_init mi_X6_init rfl ⟨⟨rfl, rfl⟩, Nat.le_of_ble_eq_true rfl, Nat.le_of_ble_eq_true rfl⟩ ⟨Nat.le_of_ble_eq_true rfl, Nat.le_of_ble_eq_true rfl⟩ rfl rfl ?_
  refine g_aast (q := 92) (j := (k + 1)) (jv := (k + 15)) (N := 6) (t := 3) (ci := 6) (r := (RX6, TX6, 2)) (i0 := 3) (E1 := (eX0_36 G b k j x E)) hK dX0_init_91 rfl (by decide +kernel) (by omega) ((pu_n (by omega)).trans pu_y) rfl (by omega) pu_y rfl (vp_in_nI (n := 3) (by decide) (by decide)) rfl ?_
  refine g_iinc (q := 95) (v := 4) (loc' := [(2, .int 4), (0, .ref (b + j)), (1, .ref x)]) hK dX0_init_92 rfl 0 rfl (by decide) (by decide) rfl ?_
  refine g_goto (q := 73) hK dX0_init_95 (by decide) ?_
  refine g_iload_n (q := 74) hK dX0_init_73 rfl rfl 0 rfl ?_
  refine g_bipush (q := 76) (v := 6) hK dX0_init_74 rfl (by decide) ?_
  refine g_geN (q := 79) (t := 98) hK dX0_init_76 (by decide) rfl (by decide) ?_
  refine g_aload_n (q := 80) hK dX0_init_79 rfl rfl 1 rfl ?_
  refine g_get (q := 83) (ci := 0) (C := RX0) (T := TX0) (N := 11) (j := j) hK dX0_init_80 rfl (by omega) ((pu_n (by omega)).trans ((pu_n (by omega)).trans ((pu_n (by omega)).trans ((pu_n (by omega)).trans ((pu_n (by omega)).trans ((pu_n (by omega)).trans ((pu_n (by omega)).trans ((pu_n (by omega)).trans ((pu_n (by omega)).trans ((pu_n (by omega)).trans ((pu_n (by omega)).trans ((pu_n (by omega)).trans ((pu_n (by omega)).trans ((pu_n (by omega)).trans ((pu_n (by omega)).trans ((pu_n (by omega)).trans ((pu_n (by omega)).trans ((pu_n (by omega)).trans ((pu_n (by omega)).trans ((pu_n (by omega)).trans ((pu_n (by omega)).trans ((pu_n (by omega)).trans ((pu_n (by omega)).trans ((pu_n (by omega)).trans ((pu_n (by omega)).trans ((pu_n (by omega)).trans ((pu_n (by omega)).trans ((pu_n (by omega)).trans pu_y)))))))))))))))))))))))))))) rfl 2 (by decide) iw0 tw_120 rfl rfl ?_
  refine g_iload_n (q := 84) hK dX0_init_83 rfl rfl 0 rfl ?_
  refine g_new (q := 87) (k1 := (k + 17)) (E1 := (eX0_37 G b k j x E)) (cs1 := 17) (sl1 := 86) (ci := 6) (C := RX6) (T := TX6) (N := 2) hK dX0_init_84 rfl tw_62 tw_100 tw_5 rfl iw6 tyX6 tyX6_ok dfv6 (Nat.le_of_ble_eq_true rfl) (Nat.le_of_ble_eq_true rfl) rfl rfl rfl rfl ?_
  refine g_dup (q := 88) hK dX0_init_87 rfl rfl ?_
  refine g_callN (q := 91) (k1 := (k + 17)) (E1 := (eX0_37 G b k j x E)) (cs1 := 17) (sl1 := 86) (As := []) (rest := [.ref (b + (k + 16)), .int 4, .ref (b + (k + 1))]) hK dX0_init_88 rfl (i_X6 (by omega) pu_y) rfl rfl (Nat.le_of_ble_eq_true rfl) (fun U h => h.2.2.1) mw_X6_init mi_X6_init rfl ⟨⟨rfl, rfl⟩, Nat.le_of_ble_eq_true rfl, Nat.le_of_ble_eq_true rfl⟩ ⟨Nat.le_of_ble_eq_true rfl, Nat.le_of_ble_eq_true rfl⟩ rfl rfl ?_
  refine g_aast (q := 92) (j := (k + 1)) (jv := (k + 16)) (N := 6) (t := 3) (ci := 6) (r := (RX6, TX6, 2)) (i0 := 4) (E1 := (eX0_38 G b k j x E)) hK dX0_init_91 rfl (by decide +kernel) (by omega) ((pu_n (by omega)).trans pu_y) rfl (by omega) pu_y rfl (vp_in_nI (n := 4) (by decide) (by decide)) rfl ?_
  refine g_iinc (q := 95) (v := 5) (loc' := [(2, .int 5), (0, .ref (b + j)), (1, .ref x)]) hK dX0_init_92 rfl 0 rfl (by decide) (by decide) rfl ?_
  refine g_goto (q := 73) hK dX0_init_95 (by decide) ?_
  refine g_iload_n (q := 74) hK dX0_init_73 rfl rfl 0 rfl ?_
  refine g_bipush (q := 76) (v := 6) hK dX0_init_74 rfl (by decide) ?_
  refine g_geN (q := 79) (t := 98) hK dX0_init_76 (by decide) rfl (by decide) ?_
  refine g_aload_n (q := 80) hK dX0_init_79 rfl rfl 1 rfl ?_
  refine g_get (q := 83) (ci := 0) (C := RX0) (T := TX0) (N := 11) (j := j) hK dX0_init_80 rfl (by omega) ((pu_n (by omega)).trans ((pu_n (by omega)).trans ((pu_n (by omega)).trans ((pu_n (by omega)).trans ((pu_n (by omega)).trans ((pu_n (by omega)).trans ((pu_n (by omega)).trans ((pu_n (by omega)).trans ((pu_n (by omega)).trans ((pu_n (by omega)).trans ((pu_n (by omega)).trans ((pu_n (by omega)).trans ((pu_n (by omega)).trans ((pu_n (by omega)).trans ((pu_n (by omega)).trans ((pu_n (by omega)).trans ((pu_n (by omega)).trans ((pu_n (by omega)).trans ((pu_n (by omega)).trans ((pu_n (by omega)).trans ((pu_n (by omega)).trans ((pu_n (by omega)).trans ((pu_n (by omega)).trans ((pu_n (by omega)).trans ((pu_n (by omega)).trans ((pu_n (by omega)).trans ((pu_n (by omega)).trans ((pu_n (by omega)).trans ((pu_n (by omega)).trans ((pu_n (by omega)).trans pu_y)))))))))))))))))))))))))))))) rfl 2 (by decide) iw0 tw_120 rfl rfl ?_
  refine g_iload_n (q := 84) hK dX0_init_83 rfl rfl 0 rfl ?_
  refine g_new (q := 87) (k1 := (k + 18)) (E1 := (eX0_39 G b k j x E)) (cs1 := 18) (sl1 := 88) (ci := 6) (C := RX6) (T := TX6) (N := 2) hK dX0_init_84 rfl tw_62 tw_100 tw_5 rfl iw6 tyX6 tyX6_ok dfv6 (Nat.le_of_ble_eq_true rfl) (Nat.le_of_ble_eq_true rfl) rfl rfl rfl rfl ?_
  refine g_dup (q := 88) hK dX0_init_87 rfl rfl ?_
  refine g_callN (q := 91) (k1 := (k + 18)) (E1 := (eX0_39 G b k j x E)) (cs1 := 18) (sl1 := 88) (As := []) (rest := [.ref (b + (k + 17)), .int 5, .ref (b + (k + 1))]) hK dX0_init_88 rfl (i_X6 (by omega) pu_y) rfl rfl (Nat.le_of_ble_eq_true rfl) (fun U h => h.2.2.1) mw_X6_init mi_X6_init rfl ⟨⟨rfl, rfl⟩, Nat.le_of_ble_eq_true rfl, Nat.le_of_ble_eq_true rfl⟩ ⟨Nat.le_of_ble_eq_true rfl, Nat.le_of_ble_eq_true rfl⟩ rfl rfl ?_
  refine g_aast (q := 92) (j := (k + 1)) (jv := (k + 17)) (N := 6) (t := 3) (ci := 6) (r := (RX6, TX6, 2)) (i0 := 5) (E1 := (eX0_40 G b k j x E)) hK dX0_init_91 rfl (by decide +kernel) (by omega) ((pu_n (by omega)).trans pu_y) rfl (by omega) pu_y rfl (vp_in_nI (n := 5) (by decide) (by decide)) rfl ?_
  refine g_iinc (q := 95) (v := 6) (loc' := [(2, .int 6), (0, .ref (b + j)), (1, .ref x)]) hK dX0_init_92 rfl 0 rfl (by decide) (by decide) rfl ?_
  refine g_goto (q := 73) hK dX0_init_95 (by decide) ?_
  refine g_iload_n (q := 74) hK dX0_init_73 rfl rfl 0 rfl ?_
  refine g_bipush (q := 76) (v := 6) hK dX0_init_74 rfl (by decide) ?_
  refine g_geY (q := 98) hK dX0_init_76 (by decide) (by decide) ?_
  exact g_ret hK hEn dX0_init_98
theorem eX0_fr {G : Geo} {b k j x : Nat} {E : Pool} (hj : j < k) (hE : E j = (.inr (0, [.null, .null, .null, .int 0, .int 0, .int 0, .int 0, .int 0, .int 0, .int 0, .int 0]))) {i : Nat} (h1 : i ≠ j) (h2 : i < k) : (eX0_40 G b k j x E) i = E i := ((((((((((((((((((((((((((((((((((((((((pu_n (by omega)).trans (pu_n (by omega))).trans (pu_n (by omega))).trans (pu_n (by omega))).trans (pu_n (by omega))).trans (pu_n (by omega))).trans (pu_n (by omega))).trans (pu_n (by omega))).trans (pu_n (by omega))).trans (pu_n (by omega))).trans (pu_n (by omega))).trans (pu_n (by omega))).trans (pu_n (by omega))).trans (pu_n (by omega))).trans (pu_n (by omega))).trans (pu_n (by omega))).trans (pu_n (by omega))).trans (pu_n (by omega))).trans (pu_n (by omega))).trans (pu_n (by omega))).trans (pu_n (by omega))).trans (pu_n (by omega))).trans (pu_n (by omega))).trans (pu_n (by omega))).trans (pu_n (by omega))).trans (pu_n (by omega))).trans (pu_n (by omega))).trans (pu_n (by omega))).trans (pu_n (by omega))).trans (pu_n (by omega))).trans (pu_n (by omega))).trans (pu_n (by omega))).trans (pu_n (by omega))).trans (pu_n (by omega))).trans (pu_n (by omega))).trans (pu_n (by omega))).trans (pu_n (by omega))).trans (pu_n (by omega))).trans (pu_n (by omega))).trans (pu_n (by omega)))
theorem eX0_atj {G : Geo} {b k j x : Nat} {E : Pool} (hj : j < k) (hE : E j = (.inr (0, [.null, .null, .null, .int 0, .int 0, .int 0, .int 0, .int 0, .int 0, .int 0, .int 0]))) : (eX0_40 G b k j x E) j = (.inr (0, [.ref x, .ref (b + k), .ref (b + (k + 1)), .int 0, .int 0, .int 0, .int 0, .int 6, .int 50, .int 0, .int 1])) := ((pu_n (by omega)).trans ((pu_n (by omega)).trans ((pu_n (by omega)).trans ((pu_n (by omega)).trans ((pu_n (by omega)).trans ((pu_n (by omega)).trans ((pu_n (by omega)).trans ((pu_n (by omega)).trans ((pu_n (by omega)).trans ((pu_n (by omega)).trans ((pu_n (by omega)).trans ((pu_n (by omega)).trans ((pu_n (by omega)).trans ((pu_n (by omega)).trans ((pu_n (by omega)).trans ((pu_n (by omega)).trans ((pu_n (by omega)).trans ((pu_n (by omega)).trans ((pu_n (by omega)).trans ((pu_n (by omega)).trans ((pu_n (by omega)).trans ((pu_n (by omega)).trans ((pu_n (by omega)).trans ((pu_n (by omega)).trans ((pu_n (by omega)).trans ((pu_n (by omega)).trans ((pu_n (by omega)).trans ((pu_n (by omega)).trans ((pu_n (by omega)).trans ((pu_n (by omega)).trans ((pu_n (by omega)).trans ((pu_n (by omega)).trans pu_y))))))))))))))))))))))))))))))))
theorem eX0_at0 {G : Geo} {b k j x : Nat} {E : Pool} (hj : j < k) (hE : E j = (.inr (0, [.null, .null, .null, .int 0, .int 0, .int 0, .int 0, .int 0, .int 0, .int 0, .int 0]))) : (eX0_40 G b k j x E) k = (.inl (gcy G 4, 10, .inr (.inr (.inr (.inr (va_up (va_up (va_up (va_up (va_up (va_up (va_up (va_up (va_up (va_up (fun _ => none) 0 (some (b + (k + 2)))) 1 (some (b + (k + 3)))) 2 (some (b + (k + 4)))) 3 (some (b + (k + 5)))) 4 (some (b + (k + 6)))) 5 (some (b + (k + 7)))) 6 (some (b + (k + 8)))) 7 (some (b + (k + 9)))) 8 (some (b + (k + 10)))) 9 (some (b + (k + 11))))))))) := ((pu_n (by omega)).trans ((pu_n (by omega)).trans ((pu_n (by omega)).trans ((pu_n (by omega)).trans ((pu_n (by omega)).trans ((pu_n (by omega)).trans ((pu_n (by omega)).trans ((pu_n (by omega)).trans ((pu_n (by omega)).trans ((pu_n (by omega)).trans ((pu_n (by omega)).trans ((pu_n (by omega)).trans pu_y))))))))))))
theorem eX0_at1 {G : Geo} {b k j x : Nat} {E : Pool} (hj : j < k) (hE : E j = (.inr (0, [.null, .null, .null, .int 0, .int 0, .int 0, .int 0, .int 0, .int 0, .int 0, .int 0]))) : (eX0_40 G b k j x E) (k + 1) = (.inl (gcy G 3, 6, .inr (.inr (.inr (.inr (va_up (va_up (va_up (va_up (va_up (va_up (fun _ => none) 0 (some (b + (k + 12)))) 1 (some (b + (k + 13)))) 2 (some (b + (k + 14)))) 3 (some (b + (k + 15)))) 4 (some (b + (k + 16)))) 5 (some (b + (k + 17))))))))) := pu_y
theorem eX0_at2 {G : Geo} {b k j x : Nat} {E : Pool} (hj : j < k) (hE : E j = (.inr (0, [.null, .null, .null, .int 0, .int 0, .int 0, .int 0, .int 0, .int 0, .int 0, .int 0]))) : (eX0_40 G b k j x E) (k + 2) = (.inr (7, [.int 0, .int 0, .int 0, .int 0, .int 0, .int 0])) := ((pu_n (by omega)).trans ((pu_n (by omega)).trans ((pu_n (by omega)).trans ((pu_n (by omega)).trans ((pu_n (by omega)).trans ((pu_n (by omega)).trans ((pu_n (by omega)).trans ((pu_n (by omega)).trans ((pu_n (by omega)).trans ((pu_n (by omega)).trans ((pu_n (by omega)).trans ((pu_n (by omega)).trans ((pu_n (by omega)).trans ((pu_n (by omega)).trans ((pu_n (by omega)).trans ((pu_n (by omega)).trans ((pu_n (by omega)).trans ((pu_n (by omega)).trans ((pu_n (by omega)).trans ((pu_n (by omega)).trans ((pu_n (by omega)).trans ((pu_n (by omega)).trans ((pu_n (by omega)).trans ((pu_n (by omega)).trans ((pu_n (by omega)).trans ((pu_n (by omega)).trans ((pu_n (by omega)).trans ((pu_n (by omega)).trans ((pu_n (by omega)).trans ((pu_n (by omega)).trans ((pu_n (by omega)).trans pu_y)))))))))))))))))))))))))))))))
theorem eX0_at3 {G : Geo} {b k j x : Nat} {E : Pool} (hj : j < k) (hE : E j = (.inr (0, [.null, .null, .null, .int 0, .int 0, .int 0, .int 0, .int 0, .int 0, .int 0, .int 0]))) : (eX0_40 G b k j x E) (k + 3) = (.inr (7, [.int 0, .int 0, .int 0, .int 0, .int 0, .int 0])) := ((pu_n (by omega)).trans ((pu_n (by omega)).trans ((pu_n (by omega)).trans ((pu_n (by omega)).trans ((pu_n (by omega)).trans ((pu_n (by omega)).trans ((pu_n (by omega)).trans ((pu_n (by omega)).trans ((pu_n (by omega)).trans ((pu_n (by omega)).trans ((pu_n (by omega)).trans ((pu_n (by omega)).trans ((pu_n (by omega)).trans ((pu_n (by omega)).trans ((pu_n (by omega)).trans ((pu_n (by omega)).trans ((pu_n (by omega)).trans ((pu_n (by omega)).trans ((pu_n (by omega)).trans ((pu_n (by omega)).trans ((pu_n (by omega)).trans ((pu_n (by omega)).trans ((pu_n (by omega)).trans ((pu_n (by omega)).trans ((pu_n (by omega)).trans ((pu_n (by omega)).trans ((pu_n (by omega)).trans ((pu_n (by omega)).trans ((pu_n (by omega)).trans pu_y)))))))))))))))))))))))))))))
theorem eX0_at4 {G : Geo} {b k j x : Nat} {E : Pool} (hj : j < k) (hE : E j = (.inr (0, [.null, .null, .null, .int 0, .int 0, .int 0, .int 0, .int 0, .int 0, .int 0, .int 0]))) : (eX0_40 G b k j x E) (k + 4) = (.inr (7, [.int 0, .int 0, .int 0, .int 0, .int 0, .int 0])) := ((pu_n (by omega)).trans ((pu_n (by omega)).trans ((pu_n (by omega)).trans ((pu_n (by omega)).trans ((pu_n (by omega)).trans ((pu_n (by omega)).trans ((pu_n (by omega)).trans ((pu_n (by omega)).trans ((pu_n (by omega)).trans ((pu_n (by omega)).trans ((pu_n (by omega)).trans ((pu_n (by omega)).trans ((pu_n (by omega)).trans ((pu_n (by omega)).trans ((pu_n (by omega)).trans ((pu_n (by omega)).trans ((pu_n (by omega)).trans ((pu_n (by omega)).trans ((pu_n (by omega)).trans ((pu_n (by omega)).trans ((pu_n (by omega)).trans ((pu_n (by omega)).trans ((pu_n (by omega)).trans ((pu_n (by omega)).trans ((pu_n (by omega)).trans ((pu_n (by omega)).trans ((pu_n (by omega)).trans pu_y)))))))))))))))))))))))))))
theorem eX0_at5 {G : Geo} {b k j x : Nat} {E : Pool} (hj : j < k) (hE : E j = (.inr (0, [.null, .null, .null, .int 0, .int 0, .int 0, .int 0, .int 0, .int 0, .int 0, .int 0]))) : (eX0_40 G b k j x E) (k + 5) = (.inr (7, [.int 0, .int 0, .int 0, .int 0, .int 0, .int 0])) := ((pu_n (by omega)).trans ((pu_n (by omega)).trans ((pu_n (by omega)).trans ((pu_n (by omega)).trans ((pu_n (by omega)).trans ((pu_n (by omega)).trans ((pu_n (by omega)).trans ((pu_n (by omega)).trans ((pu_n (by omega)).trans ((pu_n (by omega)).trans ((pu_n (by omega)).trans ((pu_n (by omega)).trans ((pu_n (by omega)).trans ((pu_n (by omega)).trans ((pu_n (by omega)).trans ((pu_n (by omega)).trans ((pu_n (by omega)).trans ((pu_n (by omega)).trans ((pu_n (by omega)).trans ((pu_n (by omega)).trans ((pu_n (by omega)).trans ((pu_n (by omega)).trans ((pu_n (by omega)).trans ((pu_n (by omega)).trans ((pu_n (by omega)).trans pu_y)))))))))))))))))))))))))
theorem eX0_at6 {G : Geo} {b k j x : Nat} {E : Pool} (hj : j < k) (hE : E j = (.inr (0, [.null, .null, .null, .int 0, .int 0, .int 0, .int 0, .int 0, .int 0, .int 0, .int 0]))) : (eX0_40 G b k j x E) (k + 6) = (.inr (7, [.int 0, .int 0, .int 0, .int 0, .int 0, .int 0])) := ((pu_n (by omega)).trans ((pu_n (by omega)).trans ((pu_n (by omega)).trans ((pu_n (by omega)).trans ((pu_n (by omega)).trans ((pu_n (by omega)).trans ((pu_n (by omega)).trans ((pu_n (by omega)).trans ((pu_n (by omega)).trans ((pu_n (by omega)).trans ((pu_n (by omega)).trans ((pu_n (by omega)).trans ((pu_n (by omega)).trans ((pu_n (by omega)).trans ((pu_n (by omega)).trans ((pu_n (by omega)).trans ((pu_n (by omega)).trans ((pu_n (by omega)).trans ((pu_n (by omega)).trans ((pu_n (by omega)).trans ((pu_n (by omega)).trans ((pu_n (by omega)).trans ((pu_n (by omega)).trans pu_y)))))))))))))))))))))))
theorem eX0_at7 {G : Geo} {b k j x : Nat} {E : Pool} (hj : j < k) (hE : E j = (.inr (0, [.null, .null, .null, .int 0, .int 0, .int 0, .int 0, .int 0, .int 0, .int 0, .int 0]))) : (eX0_40 G b k j x E) (k + 7) = (.inr (7, [.int 0, .int 0, .int 0, .int 0, .int 0, .int 0])) := ((pu_n (by omega)).trans ((pu_n (by omega)).trans ((pu_n (by omega)).trans ((pu_n (by omega)).trans ((pu_n (by omega)).trans ((pu_n (by omega)).trans ((pu_n (by omega)).trans ((pu_n (by omega)).trans ((pu_n (by omega)).trans ((pu_n (by omega)).trans ((pu_n (by omega)).trans ((pu_n (by omega)).trans ((pu_n (by omega)).trans ((pu_n (by omega)).trans ((pu_n (by omega)).trans ((pu_n (by omega)).trans ((pu_n (by omega)).trans ((pu_n (by omega)).trans ((pu_n (by omega)).trans ((pu_n (by omega)).trans ((pu_n (by omega)).trans pu_y)))))))))))))))))))))
theorem eX0_at8 {G : Geo} {b k j x : Nat} {E : Pool} (hj : j < k) (hE : E j = (.inr (0, [.null, .null, .null, .int 0, .int 0, .int 0, .int 0, .int 0, .int 0, .int 0, .int 0]))) : (eX0_40 G b k j x E) (k + 8) = (.inr (7, [.int 0, .int 0, .int 0, .int 0, .int 0, .int 0])) := ((pu_n (by omega)).trans ((pu_n (by omega)).trans ((pu_n (by omega)).trans ((pu_n (by omega)).trans ((pu_n (by omega)).trans ((pu_n (by omega)).trans ((pu_n (by omega)).trans ((pu_n (by omega)).trans ((pu_n (by omega)).trans ((pu_n (by omega)).trans ((pu_n (by omega)).trans ((pu_n (by omega)).trans ((pu_n (by omega)).trans ((pu_n (by omega)).trans ((pu_n (by omega)).trans ((pu_n (by omega)).trans ((pu_n (by omega)).trans ((pu_n (by omega)).trans ((pu_n (by omega)).trans pu_y)))))))))))))))))))
theorem eX0_at9 {G : Geo} {b k j x : Nat} {E : Pool} (hj : j < k) (hE : E j = (.inr (0, [.null, .null, .null, .int 0, .int 0, .int 0, .int 0, .int 0, .int 0, .int 0, .int 0]))) : (eX0_40 G b k j x E) (k + 9) = (.inr (7, [.int 0, .int 0, .int 0, .int 0, .int 0, .int 0])) := ((pu_n (by omega)).trans ((pu_n (by omega)).trans ((pu_n (by omega)).trans ((pu_n (by omega)).trans ((pu_n (by omega)).trans ((pu_n (by omega)).trans ((pu_n (by omega)).trans ((pu_n (by omega)).trans ((pu_n (by omega)).trans ((pu_n (by omega)).trans ((pu_n (by omega)).trans ((pu_n (by omega)).trans ((pu_n (by omega)).trans ((pu_n (by omega)).trans ((pu_n (by omega)).trans ((pu_n (by omega)).trans ((pu_n (by omega)).trans pu_y)))))))))))))))))
theorem eX0_at10 {G : Geo} {b k j x : Nat} {E : Pool} (hj : j < k) (hE : E j = (.inr (0, [.null, .null, .null, .int 0, .int 0, .int 0, .int 0, .int 0, .int 0, .int 0, .int 0]))) : (eX0_40 G b k j x E) (k + 10) = (.inr (7, [.int 0, .int 0, .int 0, .int 0, .int 0, .int 0])) := ((pu_n (by omega)).trans ((pu_n (by omega)).trans ((pu_n (by omega)).trans ((pu_n (by omega)).trans ((pu_n (by omega)).trans ((pu_n (by omega)).trans ((pu_n (by omega)).trans ((pu_n (by omega)).trans ((pu_n (by omega)).trans ((pu_n (by omega)).trans ((pu_n (by omega)).trans ((pu_n (by omega)).trans ((pu_n (by omega)).trans ((pu_n (by omega)).trans ((pu_n (by omega)).trans pu_y)))))))))))))))
theorem eX0_at11 {G : Geo} {b k j x : Nat} {E : Pool} (hj : j < k) (hE : E j = (.inr (0, [.null, .null, .null, .int 0, .int 0, .int 0, .int 0, .int 0, .int 0, .int 0, .int 0]))) : (eX0_40 G b k j x E) (k + 11) = (.inr (7, [.int 0, .int 0, .int 0, .int 0, .int 0, .int 0])) := ((pu_n (by omega)).trans ((pu_n (by omega)).trans ((pu_n (by omega)).trans ((pu_n (by omega)).trans ((pu_n (by omega)).trans ((pu_n (by omega)).trans ((pu_n (by omega)).trans ((pu_n (by omega)).trans ((pu_n (by omega)).trans ((pu_n (by omega)).trans ((pu_n (by omega)).trans ((pu_n (by omega)).trans ((pu_n (by omega)).trans pu_y)))))))))))))
theorem eX0_at12 {G : Geo} {b k j x : Nat} {E : Pool} (hj : j < k) (hE : E j = (.inr (0, [.null, .null, .null, .int 0, .int 0, .int 0, .int 0, .int 0, .int 0, .int 0, .int 0]))) : (eX0_40 G b k j x E) (k + 12) = (.inr (6, [.int 0, .int 0])) := ((pu_n (by omega)).trans ((pu_n (by omega)).trans ((pu_n (by omega)).trans ((pu_n (by omega)).trans ((pu_n (by omega)).trans ((pu_n (by omega)).trans ((pu_n (by omega)).trans ((pu_n (by omega)).trans ((pu_n (by omega)).trans ((pu_n (by omega)).trans ((pu_n (by omega)).trans pu_y)))))))))))
theorem eX0_at13 {G : Geo} {b k j x : Nat} {E : Pool} (hj : j < k) (hE : E j = (.inr (0, [.null, .null, .null, .int 0, .int 0, .int 0, .int 0, .int 0, .int 0, .int 0, .int 0]))) : (eX0_40 G b k j x E) (k + 13) = (.inr (6, [.int 0, .int 0])) := ((pu_n (by omega)).trans ((pu_n (by omega)).trans ((pu_n (by omega)).trans ((pu_n (by omega)).trans ((pu_n (by omega)).trans ((pu_n (by omega)).trans ((pu_n (by omega)).trans ((pu_n (by omega)).trans ((pu_n (by omega)).trans pu_y)))))))))
theorem eX0_at14 {G : Geo} {b k j x : Nat} {E : Pool} (hj : j < k) (hE : E j = (.inr (0, [.null, .null, .null, .int 0, .int 0, .int 0, .int 0, .int 0, .int 0, .int 0, .int 0]))) : (eX0_40 G b k j x E) (k + 14) = (.inr (6, [.int 0, .int 0])) := ((pu_n (by omega)).trans ((pu_n (by omega)).trans ((pu_n (by omega)).trans ((pu_n (by omega)).trans ((pu_n (by omega)).trans ((pu_n (by omega)).trans ((pu_n (by omega)).trans pu_y)))))))
theorem eX0_at15 {G : Geo} {b k j x : Nat} {E : Pool} (hj : j < k) (hE : E j = (.inr (0, [.null, .null, .null, .int 0, .int 0, .int 0, .int 0, .int 0, .int 0, .int 0, .int 0]))) : (eX0_40 G b k j x E) (k + 15) = (.inr (6, [.int 0, .int 0])) := ((pu_n (by omega)).trans ((pu_n (by omega)).trans ((pu_n (by omega)).trans ((pu_n (by omega)).trans ((pu_n (by omega)).trans pu_y)))))
theorem eX0_at16 {G : Geo} {b k j x : Nat} {E : Pool} (hj : j < k) (hE : E j = (.inr (0, [.null, .null, .null, .int 0, .int 0, .int 0, .int 0, .int 0, .int 0, .int 0, .int 0]))) : (eX0_40 G b k j x E) (k + 16) = (.inr (6, [.int 0, .int 0])) := ((pu_n (by omega)).trans ((pu_n (by omega)).trans ((pu_n (by omega)).trans pu_y)))
theorem eX0_at17 {G : Geo} {b k j x : Nat} {E : Pool} (hj : j < k) (hE : E j = (.inr (0, [.null, .null, .null, .int 0, .int 0, .int 0, .int 0, .int 0, .int 0, .int 0, .int 0]))) : (eX0_40 G b k j x E) (k + 17) = (.inr (6, [.int 0, .int 0])) := ((pu_n (by omega)).trans pu_y)
def eX4_1 (G : Geo) (b k j x : Nat) (E : Pool) : Pool := pu E k (.inl (gcy G 0, 10, .inl (fun _ => 0)))
def eX4_2 (G : Geo) (b k j x : Nat) (E : Pool) : Pool := pu (eX4_1 G b k j x E) j (.inr (4, [.null, .ref (b + k)]))
def eX4_3 (G : Geo) (b k j x : Nat) (E : Pool) : Pool := pu (eX4_2 G b k j x E) j (.inr (4, [.ref x, .ref (b + k)]))
set_option maxRecDepth 100000 in
set_option maxHeartbeats 4000000 in
theorem i_X4 {l : Launch} {G : Geo} {b k j x : Nat} {E : Pool} (hj : j < k) (hE : E j = (.inr (4, [.null, .null]))) : gCon l G b yX4_init cX4_init 2 { frames := 1, cells := 1, slots := 10, locals := 60 } [.ref (b + j), .ref x] k E (k + 1) (eX4_3 G b k j x E) 1 10 := by
  refine gCon.of (by decide) rfl (Nat.le_of_ble_eq_true rfl) RX4 rfl (fun K hK hEn => ?_)
  show gV G K b k E 0 0 0 [(0, .ref (b + j)), (1, .ref x)] []
  refine g_aload_n (q := 1) hK dX4_init_0 rfl rfl 0 rfl ?_
  refine g_objInit (q := 4) hK dX4_init_1 rfl tw_167 mt_obj ⟨Nat.le_of_ble_eq_true rfl, Nat.le_of_ble_eq_true rfl⟩ ?_
  refine g_aload_n (q := 5) hK dX4_init_4 rfl rfl 0 rfl ?_
  refine g_bipush (q := 7) (v := 10) hK dX4_init_5 rfl (by decide) ?_
  refine g_newint (q := 9) (k1 := (k + 1)) (E1 := (eX4_1 G b k j x E)) (cs1 := 1) (sl1 := 10) (N := 10) hK dX4_init_7 rfl tw_53 (by decide) (by decide +kernel) (Nat.le_of_ble_eq_true rfl) (Nat.le_of_ble_eq_true rfl) (Nat.le_of_ble_eq_true rfl) rfl rfl rfl rfl ?_
  refine g_putF (q := 12) (ci := 4) (C := RX4) (T := TX4) (N := 2) (j := j) (E1 := (eX4_2 G b k j x E)) hK hEn dX4_init_9 rfl (by omega) ((pu_n (by omega)).trans hE) rfl 1 (by decide) iw4 tyX4 tyX4_ok nmX4 tw_169 rfl rfl rfl (ty := (.array .int)) (by decide +kernel) rfl rfl (Nat.le_of_ble_eq_true rfl) rfl ?_
  refine g_aload_n (q := 13) hK dX4_init_12 rfl rfl 0 rfl ?_
  refine g_aload_n (q := 14) hK dX4_init_13 rfl rfl 1 rfl ?_
  refine g_putF (q := 17) (ci := 4) (C := RX4) (T := TX4) (N := 2) (j := j) (E1 := (eX4_3 G b k j x E)) hK hEn dX4_init_14 rfl (by omega) pu_y rfl 0 (by decide) iw4 tyX4 tyX4_ok nmX4 tw_168 rfl rfl rfl (ty := (.object "WordLeash$Border")) (by decide +kernel) rfl rfl (Nat.le_of_ble_eq_true rfl) rfl ?_
  exact g_ret hK hEn dX4_init_17
theorem eX4_fr {G : Geo} {b k j x : Nat} {E : Pool} (hj : j < k) (hE : E j = (.inr (4, [.null, .null]))) {i : Nat} (h1 : i ≠ j) (h2 : i < k) : (eX4_3 G b k j x E) i = E i := (((pu_n (by omega)).trans (pu_n (by omega))).trans (pu_n (by omega)))
theorem eX4_atj {G : Geo} {b k j x : Nat} {E : Pool} (hj : j < k) (hE : E j = (.inr (4, [.null, .null]))) : (eX4_3 G b k j x E) j = (.inr (4, [.ref x, .ref (b + k)])) := pu_y
theorem eX4_at0 {G : Geo} {b k j x : Nat} {E : Pool} (hj : j < k) (hE : E j = (.inr (4, [.null, .null]))) : (eX4_3 G b k j x E) k = (.inl (gcy G 0, 10, .inl (fun _ => 0))) := ((pu_n (by omega)).trans ((pu_n (by omega)).trans pu_y))
def eX2_1 (G : Geo) (b k j x : Nat) (E : Pool) : Pool := pu E k (.inl (gcy G 0, 96, .inl (fun _ => 0)))
def eX2_2 (G : Geo) (b k j x : Nat) (E : Pool) : Pool := pu (eX2_1 G b k j x E) j (.inr (2, [.ref (b + k), .int 0, .int 0, .int 0, .int 0, .null, .int 0, .int 0, .int 0, .int 0, .int 0]))
def eX2_3 (G : Geo) (b k j x : Nat) (E : Pool) : Pool := pu (eX2_2 G b k j x E) j (.inr (2, [.ref (b + k), .int 0, .int 0, .int 0, .int 0, .ref x, .int 0, .int 0, .int 0, .int 0, .int 0]))
set_option maxRecDepth 100000 in
set_option maxHeartbeats 4000000 in
theorem i_X2 {l : Launch} {G : Geo} {b k j x : Nat} {E : Pool} (hj : j < k) (hE : E j = (.inr (2, [.null, .int 0, .int 0, .int 0, .int 0, .null, .int 0, .int 0, .int 0, .int 0, .int 0]))) : gCon l G b yX2_init cX2_init 2 { frames := 1, cells := 1, slots := 96, locals := 60 } [.ref (b + j), .ref x] k E (k + 1) (eX2_3 G b k j x E) 1 96 := by
  refine gCon.of (by decide) rfl (Nat.le_of_ble_eq_true rfl) RX2 rfl (fun K hK hEn => ?_)
  show gV G K b k E 0 0 0 [(0, .ref (b + j)), (1, .ref x)] []
  refine g_aload_n (q := 1) hK dX2_init_0 rfl rfl 0 rfl ?_
  refine g_objInit (q := 4) hK dX2_init_1 rfl tw_180 mt_obj ⟨Nat.le_of_ble_eq_true rfl, Nat.le_of_ble_eq_true rfl⟩ ?_
  refine g_aload_n (q := 5) hK dX2_init_4 rfl rfl 0 rfl ?_
  refine g_bipush (q := 7) (v := 96) hK dX2_init_5 rfl (by decide) ?_
  refine g_newint (q := 9) (k1 := (k + 1)) (E1 := (eX2_1 G b k j x E)) (cs1 := 1) (sl1 := 96) (N := 96) hK dX2_init_7 rfl tw_53 (by decide) (by decide +kernel) (Nat.le_of_ble_eq_true rfl) (Nat.le_of_ble_eq_true rfl) (Nat.le_of_ble_eq_true rfl) rfl rfl rfl rfl ?_
  refine g_putF (q := 12) (ci := 2) (C := RX2) (T := TX2) (N := 11) (j := j) (E1 := (eX2_2 G b k j x E)) hK hEn dX2_init_9 rfl (by omega) ((pu_n (by omega)).trans hE) rfl 0 (by decide) iw2 tyX2 tyX2_ok nmX2 tw_181 rfl rfl rfl (ty := (.array .int)) (by decide +kernel) rfl rfl (Nat.le_of_ble_eq_true rfl) rfl ?_
  refine g_aload_n (q := 13) hK dX2_init_12 rfl rfl 0 rfl ?_
  refine g_aload_n (q := 14) hK dX2_init_13 rfl rfl 1 rfl ?_
  refine g_putF (q := 17) (ci := 2) (C := RX2) (T := TX2) (N := 11) (j := j) (E1 := (eX2_3 G b k j x E)) hK hEn dX2_init_14 rfl (by omega) pu_y rfl 5 (by decide) iw2 tyX2 tyX2_ok nmX2 tw_191 rfl rfl rfl (ty := (.array .int)) (by decide +kernel) rfl rfl (Nat.le_of_ble_eq_true rfl) rfl ?_
  exact g_ret hK hEn dX2_init_17
theorem eX2_fr {G : Geo} {b k j x : Nat} {E : Pool} (hj : j < k) (hE : E j = (.inr (2, [.null, .int 0, .int 0, .int 0, .int 0, .null, .int 0, .int 0, .int 0, .int 0, .int 0]))) {i : Nat} (h1 : i ≠ j) (h2 : i < k) : (eX2_3 G b k j x E) i = E i := (((pu_n (by omega)).trans (pu_n (by omega))).trans (pu_n (by omega)))
theorem eX2_atj {G : Geo} {b k j x : Nat} {E : Pool} (hj : j < k) (hE : E j = (.inr (2, [.null, .int 0, .int 0, .int 0, .int 0, .null, .int 0, .int 0, .int 0, .int 0, .int 0]))) : (eX2_3 G b k j x E) j = (.inr (2, [.ref (b + k), .int 0, .int 0, .int 0, .int 0, .ref x, .int 0, .int 0, .int 0, .int 0, .int 0])) := pu_y
theorem eX2_at0 {G : Geo} {b k j x : Nat} {E : Pool} (hj : j < k) (hE : E j = (.inr (2, [.null, .int 0, .int 0, .int 0, .int 0, .null, .int 0, .int 0, .int 0, .int 0, .int 0]))) : (eX2_3 G b k j x E) k = (.inl (gcy G 0, 96, .inl (fun _ => 0))) := ((pu_n (by omega)).trans ((pu_n (by omega)).trans pu_y))
