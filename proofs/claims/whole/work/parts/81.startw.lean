theorem rel0 : Rel 0 σ0 τ0 := by
  have no : ∀ {P : Prop} {k : Nat}, k < 0 → P := fun h => absurd h (Nat.not_lt_zero _)
  have v0 : vOk 0 := Or.inr (by decide)
  have e1 : ∀ q : Nat, q < 8 → σ0 (57 + cxo q) (cxf q) = τ0 1 q := by decide +kernel
  have e2 : ∀ s : Nat, s < 4 → σ0 (27 + s) 1 = nI 0 ∧ τ0 12 s = nI 0 ∧ σ0 (27 + s) 0 = τ0 11 s ∧ τ0 11 s = -1 := by decide +kernel
  have e3 : ∀ s : Nat, s < 4 → ∀ k : Nat, k < 24 → σ0 (31 + s) k = 0 ∧ τ0 13 (24 * s + k) = 0 := by decide +kernel
  have e4 : ∀ s : Nat, s < 5 → σ0 (36 + s) 0 = nI 0 ∧ τ0 15 s = nI 0 := by decide +kernel
  refine ⟨0, 0, 0, ⟨⟨fun q hq => e1 q (by unfold liv at hq; omega), by decide, by decide +kernel, by decide +kernel, fun x hx => no hx⟩, ⟨by decide +kernel, ⟨0, by decide, by decide +kernel⟩, fun w hw => no hw, fun w hw => no hw, fun w hw => no hw⟩, fun w hw => no hw⟩, ⟨0, by decide, by decide +kernel⟩, ⟨false, by decide +kernel, by decide +kernel, fun h => by cases h⟩, ⟨0, by decide, by decide +kernel, by decide +kernel, fun k hk => no hk⟩, fun s hs => ?_, fun s hs => ?_, ⟨0, by decide, by decide +kernel, by decide +kernel, fun k hk => no hk⟩⟩
  · obtain ⟨a, b, c, d⟩ := e2 s hs
    refine ⟨⟨0, by decide, a, b⟩, ⟨c, Or.inl d⟩, fun k hk => ?_⟩
    obtain ⟨x, y⟩ := e3 s hs k hk
    rw [x, y]
    exact ⟨rfl, v0⟩
  · obtain ⟨a, b⟩ := e4 s hs
    exact ⟨0, by decide, a, b, (fun h => by cases h), (fun h => by cases h), (fun h => by cases h)⟩
set_option maxRecDepth 100000 in
set_option maxHeartbeats 4000000 in
theorem whole_start {p : Program} {e : Env} {s : State} {m : MethodId} {below : List Frame} {meth : Method} {c : Code} (l : Launch) (hflags : l.flags = flags0) {b L : Nat} {xs : Nat → Int32} (hL : L ≤ 384) (C0 : lw_At p s m meth c b L xs) : W p l e room_1 s m #[Value.ref b] below meth c s.heap [] 0 0 (lw_Z below #[Value.ref b] s) (entryFrame m ([Value.ref b] : List Value).toArray 4) := by
  obtain ⟨hx, hb, hr, hml, hown, hts, hX, hbl, hlocks, hgv⟩ := C0
  obtain ⟨D, cy, sk, sv, st, hall⟩ := st_all hts (flat_of_before _ hgv) (b := s.heap.size) rfl
  obtain ⟨hKC, hXC⟩ := hall (adC s.heap.size)
  obtain ⟨hKM, hXM⟩ := hall (adM s.heap.size)
  have hTT := st_TT hts
  obtain ⟨K, hKe⟩ : ∃ K : KT, K = (p, l, e, room_1, s, m, #[Value.ref b], below, meth, c, 4, lw_Z below #[Value.ref b] s) := ⟨_, rfl⟩
  have hG : gOk (D, cy, adC s.heap.size, sk, sv, st) K l RL cL_law room_1 4 s.heap.size := by
    subst hKe
    exact ⟨hx, hb, hml, hown, hTT, hKC, hXC, Nat.le_refl _, rfl, rfl, rfl⟩
  have hLk : lOk (D, cy, adC s.heap.size, sk, sv, st) (D, cy, adM s.heap.size, sk, sv, st) K l s.heap.size b L xs := by
    subst hKe
    refine ⟨hx, hb, hml, hown, hTT, ⟨hKC, hKM⟩, ⟨hXC.2.2.2.1, hXM.2.2.2.1⟩, hXC.2.2.2.2, ⟨fun i j hi hj h => adC_inj hi hj h, fun i j hi hj h => ?_⟩, ⟨?_, ?_, ?_⟩, ⟨hX, hbl, rfl⟩, rfl, rfl, rfl⟩
    · have h' : s.heap.size + (114 + i) = s.heap.size + (114 + j) := h
      omega
    · rintro q ⟨j, hj, rfl⟩
      exact Nat.le_add_right _ _
    · rintro q ⟨j, hj, rfl⟩
      exact Nat.le_add_right _ _
    · rintro q ⟨j, hj, rfl⟩ ⟨i, hi, h⟩
      have h1 : adC s.heap.size j < s.heap.size + 114 := adC_lt hj
      have h2 : adC s.heap.size j = s.heap.size + (114 + i) := h
      omega
  have hend : ∀ (i : Nat) (σ τ : Store), lV (D, cy, adC s.heap.size, sk, sv, st) (D, cy, adM s.heap.size, sk, sv, st) K s.heap.size σ τ 1552 (lL (D, cy, adC s.heap.size, sk, sv, st) (D, cy, adM s.heap.size, sk, sv, st) b i) [] := by
    subst hKe
    intro i σ τ H locs ls hP hP2 hS hls
    refine lv_iconst (v := 1) hx hb dL_law_1552 (by decide) ?_
    refine va_forget (fun q hq => hS.2.2 q hq) ?_
    refine W.widen (k := 600000) (n := 7302250) (Nat.le_of_ble_eq_true rfl) (Nat.le_of_ble_eq_true rfl) ?_
    exact lw_ret hx hb hr hlocks dL_law_1553
  have hloop := l_loop hLk hL hend 400 0 0 σ0 τ0 (by omega) (by omega) (by omega) rel0
  have hwalk : gV (D, cy, adC s.heap.size, sk, sv, st) K s.heap.size 0 E0 0 0 0 [(0, .ref b)] [] := by
    refine g_new (q := 3) (k1 := 1) (E1 := E1) (cs1 := 1) (sl1 := 13) (ci := 8) (C := RX8) (T := TX8) (N := 13) hG dL_law_0 rfl tw_18 tw_19 tw_1 rfl iw8 tyX8 tyX8_ok dfv8 (Nat.le_of_ble_eq_true rfl) (Nat.le_of_ble_eq_true rfl) rfl rfl rfl rfl ?_
    refine g_dup (q := 4) hG dL_law_3 rfl rfl ?_
    refine g_call (q := 7) (k1 := 114) (E1 := E2 (D, cy, adC s.heap.size, sk, sv, st) s.heap.size) (cs1 := 114) (sl1 := 2388) (As := []) (rest := [.ref (s.heap.size + 0)]) hG dL_law_4 rfl (i_X8 E1_0) rfl rfl (Nat.le_of_ble_eq_true rfl) tw_20 mw_X8_init mi_X8_init rfl ⟨⟨rfl, rfl⟩, Nat.le_of_ble_eq_true rfl, Nat.le_of_ble_eq_true rfl⟩ ⟨Nat.le_of_ble_eq_true rfl, Nat.le_of_ble_eq_true rfl⟩ rfl rfl ?_
    refine g_astore_n (q := 8) (loc' := [(1, .ref (s.heap.size + 0)), (0, .ref b)]) hG dL_law_7 rfl rfl (by decide) rfl ?_
    refine g_new (q := 11) (k1 := 115) (E1 := E3 (D, cy, adC s.heap.size, sk, sv, st) s.heap.size) (cs1 := 115) (sl1 := 2417) (ci := 9) (C := RX9) (T := TX9) (N := 29) hG dL_law_8 rfl tw_790 tw_791 tw_10 rfl iw9 tyX9 tyX9_ok dfv9 (Nat.le_of_ble_eq_true rfl) (Nat.le_of_ble_eq_true rfl) rfl rfl rfl rfl ?_
    refine g_dup (q := 12) hG dL_law_11 rfl rfl ?_
    refine g_call (q := 15) (k1 := 132) (E1 := E4 (D, cy, adC s.heap.size, sk, sv, st) s.heap.size) (cs1 := 132) (sl1 := 6090) (As := []) (rest := [.ref (s.heap.size + 114)]) hG dL_law_12 rfl (i_X9 E3_0) rfl rfl (Nat.le_of_ble_eq_true rfl) tw_792 mw_X9_init mi_X9_init rfl ⟨⟨rfl, rfl⟩, Nat.le_of_ble_eq_true rfl, Nat.le_of_ble_eq_true rfl⟩ ⟨Nat.le_of_ble_eq_true rfl, Nat.le_of_ble_eq_true rfl⟩ rfl rfl ?_
    refine g_astore_n (q := 16) (loc' := [(2, .ref (s.heap.size + 114)), (1, .ref (s.heap.size + 0)), (0, .ref b)]) hG dL_law_15 rfl rfl (by decide) rfl ?_
    refine g_iconst (q := 17) (v := 0) hG dL_law_16 rfl (by decide) ?_
    refine g_istore_n (q := 18) (loc' := [(3, .int 0), (2, .ref (s.heap.size + 114)), (1, .ref (s.heap.size + 0)), (0, .ref b)]) hG dL_law_17 rfl rfl (by decide) rfl ?_
    subst hKe
    intro H locs ls hZ hP hS hls
    exact hloop H locs ls (w_cls hP) (w_mod hP) hS hls
  have hl := lv_entry ([.ref b]) (n := 4) (Nat.le_of_ble_eq_true rfl)
  rw [lg_entry_eq]
  subst hKe
  exact hwalk s.heap [] _ rfl (fun k q h => by simp [pw] at h) va_S.rf hl
