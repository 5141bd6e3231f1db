/-! the law's loop: a judgement over the two worlds -/
def lL (GC GM : Geo) (bS i : Nat) : List (Nat × Value) := [(3, .int (nI i)), (2, .ref (gad GM 0)), (1, .ref (gad GC 0)), (0, .ref bS)]
def lV (GC GM : Geo) (K : KT) (b : Nat) (σ τ : Store) (pc : Nat) (loc : List (Nat × Value)) (stk : List Value) : Prop :=
  match K with
  | (p, l, e, R, s, m, args, below, meth, c, n, Q) => ∀ (H : Heap) (locs : List Loc) (ls : Array Slot), va_P (gD GC) vwCl (wd wCls GC σ) H → va_P (gD GM) vwCl (wd wMod GM τ) H → va_S (pA b) s.heap H locs → lv_has ls n loc → W p l e R s m args below meth c H locs 132 6090 Q (F0 m pc ls stk)
def lOk (GC GM : Geo) (K : KT) (l0 : Launch) (b bS L : Nat) (xs : Nat → Int32) : Prop :=
  match K with
  | (p, l, e, R, s, m, args, below, meth, c, n, Q) => p.tables.exec = Jvm.exec ∧ c.code = cL_law ∧ c.maxLocals = n ∧ s.vm.findClass RL = some m.cls ∧ (∀ w ∈ TT, w.before args s = true) ∧ (va_K (gD GC) vwCl (tysOf GC) s ∧ va_K (gD GM) vwCl (tysOf GM) s) ∧ (sSt (pA b) GC s s.heap ∧ sSt (pA b) GM s s.heap) ∧ sN s ∧ (wInj wCls GC ∧ wInj wMod GM) ∧ ((∀ q, wA wCls GC q → pA b q) ∧ (∀ q, wA wMod GM q → pA b q) ∧ (∀ q, wA wCls GC q → ¬ wA wMod GM q)) ∧ (va_X bS L xs s s.heap ∧ bS < s.heap.size ∧ b = s.heap.size) ∧ R = room_1 ∧ n = 4 ∧ l = l0
theorem l_pre {w : Wd} {G : Geo} {σ : Store} {b : Nat} {s U : State} {H : Heap} {locs : List Loc} (hU : U.heap = H) (hW : s.WarmedH U.vm) (hP : va_P (gD G) vwCl (wd w G σ) H) (hK : va_K (gD G) vwCl (tysOf G) s) (hI : wInj w G) (hSt : sSt (pA b) G s s.heap) (hA : ∀ q, wA w G q → pA b q) (hN : sN s) (hS : va_S (pA b) s.heap H locs) : sPre w G σ U := by
  subst hU
  exact ⟨hP, va_K.moved hW.alike hK, hI, sSt.moved hW.alike ((hSt.kept hS.2.1).narrow hA), sN.warm hW hN⟩
theorem l_goes {w : Wd} {G : Geo} {b : Nat} {p : Program} {l : Launch} {e : Env} {R : Room} {s : State} {m : MethodId} {args av : Array Value} {below : List Frame} {meth : Method} {c : Code} {H : Heap} {locs : List Loc} {Q : State → Prop} {ls : Array Slot} {st0 rest : List Value} {σ1 : Store} {r : Option Value} {cs sl pc : Nat}
    (hr : va_Run p l e R s m args below meth c H locs cs sl 0 0 (F0 m pc ls st0) rest (sQ w G r σ1 av) (wA w G)) (hA : ∀ q, wA w G q → pA b q) (hS : va_S (pA b) s.heap H locs) (kk : ∀ (H1 : Heap) (locs1 : List Loc), va_P (gD G) vwCl (wd w G σ1) H1 → (∀ q : Nat, q < H.size → ¬ wA w G q → H1[q]? = H[q]?) → va_S (pA b) s.heap H1 locs1 → W p l e R s m args below meth c H1 locs1 cs sl Q (F0 m (pc + 3) ls (r.toList ++ rest))) : W p l e R s m args below meth c H locs cs sl Q (F0 m pc ls st0) := by
  intro T hT X
  obtain ⟨v, st₀, t, T', L, h0, X', hL, e1, e2, ⟨hv, hP, hz, hk⟩, stp⟩ := hr T hT X
  cases hv
  rw [h0] at hz hk
  obtain ⟨t2, a1, b1⟩ := kk T'.heap (locs ++ L) (by rw [e1]; exact hP) (fun q h1 h2 => by rw [e1]; exact hk q h1 h2)
    ⟨Nat.le_trans hS.1 (by rw [e1]; exact hz), fun q h1 h2 => by rw [e1, hk q (Nat.lt_of_lt_of_le h1 hS.1) (fun z => h2 (hA q z))]; exact hS.2.1 q h1 h2, fun q hq => by
      rcases List.mem_append.mp hq with h | h
      · exact hS.2.2 q h
      · exact hA _ (hL q h)⟩ T' rfl X'
  exact ⟨t2, stp t2 a1, b1⟩
theorem wd_kept {w w2 : Wd} {G G2 : Geo} {σ : Store} {H H1 : Heap} (hP : va_P (gD G) vwCl (wd w G σ) H) (hd : ∀ q, wA w G q → ¬ wA w2 G2 q) (hq : ∀ q : Nat, q < H.size → ¬ wA w2 G2 q → H1[q]? = H[q]?) : va_P (gD G) vwCl (wd w G σ) H1 := hP.kept (fun k q hk => hq q.1 ((hP k q hk).lt) (by
  obtain ⟨h1, rfl⟩ := wd_inv hk
  exact hd _ ⟨k, h1, rfl⟩))
section LV
variable {GC GM : Geo} {K : KT} {b bS L i pc q : Nat} {xs : Nat → Int32} {σ τ σ1 τ1 : Store} {st : List Value} {l0 : Launch}
theorem l_ldC (hK : lOk GC GM K l0 b bS L xs) (hd : decode cL_law pc = .ok (.aload_n 1, 1)) (hq : pc + 1 = q) (kk : lV GC GM K b σ τ q (lL GC GM bS i) (.ref (gad GC 0) :: st)) : lV GC GM K b σ τ pc (lL GC GM bS i) (st) := by
  subst hq
  obtain ⟨p, l, e, R, s, m, args, below, meth, c, n, Q⟩ := K
  obtain ⟨hx, hb, hml, hown, hts, hKK, hSt, hN, hI, hwA, hX, hR, hn0, hl0⟩ := hK
  subst hn0
  intro H locs ls hP hP2 hS hls
  exact lv_aload_n hx hb hd rfl (lv_at hls 2 rfl) (kk H locs ls hP hP2 hS hls)
theorem l_ldM (hK : lOk GC GM K l0 b bS L xs) (hd : decode cL_law pc = .ok (.aload_n 2, 1)) (hq : pc + 1 = q) (kk : lV GC GM K b σ τ q (lL GC GM bS i) (.ref (gad GM 0) :: st)) : lV GC GM K b σ τ pc (lL GC GM bS i) (st) := by
  subst hq
  obtain ⟨p, l, e, R, s, m, args, below, meth, c, n, Q⟩ := K
  obtain ⟨hx, hb, hml, hown, hts, hKK, hSt, hN, hI, hwA, hX, hR, hn0, hl0⟩ := hK
  subst hn0
  intro H locs ls hP hP2 hS hls
  exact lv_aload_n hx hb hd rfl (lv_at hls 1 rfl) (kk H locs ls hP hP2 hS hls)
theorem l_arg {k : Nat} {z : Int} (hK : lOk GC GM K l0 b bS L xs) (hd0 : decode cL_law pc = .ok (.aload_n 0, 1)) (hd1 : decode cL_law (pc + 1) = .ok (.iload_n 3, 1)) (hd2 : decode cL_law (pc + 2) = .ok (.iconst z, 1)) (hd3 : decode cL_law (pc + 3) = .ok (.iadd, 1)) (hd4 : decode cL_law (pc + 4) = .ok (.iaload, 1)) (hz : Int32.ofInt z = nI k) (hL : L ≤ 384) (hi : i + k < L) (hq : pc + 5 = q) (kk : lV GC GM K b σ τ q (lL GC GM bS i) (.int (xs (i + k)) :: st)) : lV GC GM K b σ τ pc (lL GC GM bS i) (st) := by
  subst hq
  obtain ⟨p, l, e, R, s, m, args, below, meth, c, n, Q⟩ := K
  obtain ⟨hx, hb, hml, hown, hts, hKK, hSt, hN, hI, hwA, hX, hR, hn0, hl0⟩ := hK
  subst hn0
  intro H locs ls hP hP2 hS hls
  have hbA : ¬ pA b bS := fun z => by
    have z' : b ≤ bS := z
    have := hX.2.1
    have := hX.2.2
    omega
  refine lv_aload_n hx hb hd0 rfl (lv_at hls 3 rfl) ?_
  refine lv_iload_n hx hb hd1 rfl (lv_at hls 0 rfl) ?_
  refine lv_iconst hx hb hd2 hz ?_
  refine lv_iadd hx hb hd3 ?_
  rw [nI_add]
  refine va_sld hx hb hX.1 hX.2.1 hbA hS (vp_in_nI hi (by omega)) hd4 ?_
  rw [nI_clamp (by omega)]
  exact kk H locs ls hP hP2 hS hls
theorem l_callC {index n0 nL1 : Nat} {y : MethodName} {bytes : ByteArray} {rm1 : Room} {As rest stk : List Value} {r : Int32} (hK : lOk GC GM K l0 b bS L xs) (hd : decode cL_law pc = .ok (.invokevirtual index, 3)) (hq : pc + 3 = q) (hc : sCon l0 wCls GC y bytes nL1 (some .int) rm1 (.ref (gad GC 0) :: As) σ (some (.int r)) σ1) (hy : y.cls = RX8) (hv : mV y) (hst : stk = As.reverse ++ .ref (gad GC 0) :: rest) (hn0 : As.length = n0) (hcat : (rest.map fun v => v.category).sum ≤ 8) (hl : Cond.methodLink RL index y ∈ TT) (hw : mW y bytes nL1 (some .int) n0) (hrm : (rm1.cells = 0 ∧ rm1.slots = 0) ∧ rm1.frames + 1 ≤ 2048 ∧ 8 + (nL1 + 11) + rm1.locals ≤ 84000) (kk : lV GC GM K b σ1 τ q (lL GC GM bS i) (.int r :: rest)) : lV GC GM K b σ τ pc (lL GC GM bS i) (stk) := by
  subst hq
  obtain ⟨p, l, e, R, s, m, args, below, meth, c, n, Q⟩ := K
  obtain ⟨hx, hb, hml, hown, hts, hKK, hSt, hN, hI, hwA, hX, hR, hn0, hl0⟩ := hK
  subst hn0
  intro H locs ls hP hP2 hS hls
  subst hR
  subst hst
  subst hl0
  refine l_goes (rest := rest) (va_runV (As := As) (rest := rest) (n := n0) (C := RX8) ⟨hx, hb, hml, hown, hts⟩ hc ⟨callB_of n0 hts (TT_in hw.1) rfl hrm.1.1 hrm.1.2 (hts _ hw.2.1) (hts _ hl) ⟨hw.2.2.1.1, hw.2.2.1.2, hw.2.2.2⟩ hrm.2, hts _ hv.1, by rw [← hy]; exact hts _ hv.2⟩ ⟨s_blind, va_recv hKK.1 hP (q0 := 0) (ci := 8) (q := (RX8, TX8, 13)) rfl (by rw [wd_at (show 0 < 114 by decide)]; rfl), fun U hU hW => ⟨rfl, l_pre hU hW hP hKK.1 hI.1 hSt.1 hwA.1 hN hS⟩⟩ rfl hn0 hls.1 rfl (lv_room hcat) hd ⟨Nat.le_of_ble_eq_true rfl, Nat.le_of_ble_eq_true rfl⟩) hwA.1 hS (fun H1 locs1 hP1 hk1 hS1 => kk H1 locs1 ls hP1 (wd_kept hP2 (fun q z z2 => hwA.2.2 q z2 z) hk1) hS1 hls)
theorem l_callM {index n0 nL1 : Nat} {y : MethodName} {bytes : ByteArray} {rm1 : Room} {As rest stk : List Value} {r : Int32} (hK : lOk GC GM K l0 b bS L xs) (hd : decode cL_law pc = .ok (.invokevirtual index, 3)) (hq : pc + 3 = q) (hc : sCon l0 wMod GM y bytes nL1 (some .int) rm1 (.ref (gad GM 0) :: As) τ (some (.int r)) τ1) (hy : y.cls = RX9) (hv : mV y) (hst : stk = As.reverse ++ .ref (gad GM 0) :: rest) (hn0 : As.length = n0) (hcat : (rest.map fun v => v.category).sum ≤ 8) (hl : Cond.methodLink RL index y ∈ TT) (hw : mW y bytes nL1 (some .int) n0) (hrm : (rm1.cells = 0 ∧ rm1.slots = 0) ∧ rm1.frames + 1 ≤ 2048 ∧ 8 + (nL1 + 11) + rm1.locals ≤ 84000) (kk : lV GC GM K b σ τ1 q (lL GC GM bS i) (.int r :: rest)) : lV GC GM K b σ τ pc (lL GC GM bS i) (stk) := by
  subst hq
  obtain ⟨p, l, e, R, s, m, args, below, meth, c, n, Q⟩ := K
  obtain ⟨hx, hb, hml, hown, hts, hKK, hSt, hN, hI, hwA, hX, hR, hn0, hl0⟩ := hK
  subst hn0
  intro H locs ls hP hP2 hS hls
  subst hR
  subst hst
  subst hl0
  refine l_goes (rest := rest) (va_runV (As := As) (rest := rest) (n := n0) (C := RX9) ⟨hx, hb, hml, hown, hts⟩ hc ⟨callB_of n0 hts (TT_in hw.1) rfl hrm.1.1 hrm.1.2 (hts _ hw.2.1) (hts _ hl) ⟨hw.2.2.1.1, hw.2.2.1.2, hw.2.2.2⟩ hrm.2, hts _ hv.1, by rw [← hy]; exact hts _ hv.2⟩ ⟨s_blind, va_recv hKK.2 hP2 (q0 := 0) (ci := 9) (q := (RX9, TX9, 29)) rfl (by rw [wd_at (show 0 < 18 by decide)]; rfl), fun U hU hW => ⟨rfl, l_pre hU hW hP2 hKK.2 hI.2 hSt.2 hwA.2.1 hN hS⟩⟩ rfl hn0 hls.1 rfl (lv_room hcat) hd ⟨Nat.le_of_ble_eq_true rfl, Nat.le_of_ble_eq_true rfl⟩) hwA.2.1 hS (fun H1 locs1 hP1 hk1 hS1 => kk H1 locs1 ls (wd_kept hP hwA.2.2 hk1) hP1 hS1 hls)
theorem l_eq {x : Int32} {off : Int} (hK : lOk GC GM K l0 b bS L xs) (hd : decode cL_law pc = .ok (.if_icmp .eq off, 3)) (hq : (pc : Int) + off = (q : Int)) (kk : lV GC GM K b σ τ q (lL GC GM bS i) (st)) : lV GC GM K b σ τ pc (lL GC GM bS i) (.int x :: .int x :: st) := by
  obtain ⟨p, l, e, R, s, m, args, below, meth, c, n, Q⟩ := K
  obtain ⟨hx, hb, hml, hown, hts, hKK, hSt, hN, hI, hwA, hX, hR, hn0, hl0⟩ := hK
  subst hn0
  intro H locs ls hP hP2 hS hls
  exact lv_icmp_eq hx hb hd hq (fun _ => kk H locs ls hP hP2 hS hls) (fun z => absurd rfl z)
end LV
