/-! what the start gives -/
theorem st_TT {args : Array Value} {s : State} (hts : ∀ w ∈ lw_tbl, w.before args s = true) : ∀ w ∈ TT, w.before args s = true := fun w h => hts w (List.mem_filter.mp h).1
theorem st_kn {args : Array Value} {s : State} (hts : ∀ w ∈ TT, w.before args s = true) : ∃ D : va_G, ∀ (c : Nat) (q : vw_C), vwCl[c]? = some q → u_Kn s q.1 q.2.1 q.2.2 (D.1 c) (D.2 c) := by
  have h : ∀ c : Nat, ∃ x : ClassId × (Nat → Nat), ∀ q : vw_C, vwCl[c]? = some q → u_Kn s q.1 q.2.1 q.2.2 x.1 x.2 := by
    intro c
    match c with
    | 0 =>
      obtain ⟨cC, iS, hk⟩ := u_known (C := RX0) (T := TX0) (N := 11) (n := 11) hts iw0 (hts _ tw_55)
      exact ⟨(cC, iS), fun q hq => by cases hq; exact hk⟩
    | 1 =>
      obtain ⟨cC, iS, hk⟩ := u_known (C := RX1) (T := TX1) (N := 5) (n := 5) hts iw1 (hts _ tw_27)
      exact ⟨(cC, iS), fun q hq => by cases hq; exact hk⟩
    | 2 =>
      obtain ⟨cC, iS, hk⟩ := u_known (C := RX2) (T := TX2) (N := 11) (n := 11) hts iw2 (hts _ tw_176)
      exact ⟨(cC, iS), fun q hq => by cases hq; exact hk⟩
    | 3 =>
      obtain ⟨cC, iS, hk⟩ := u_known (C := RX3) (T := TX3) (N := 3) (n := 3) hts iw3 (hts _ tw_224)
      exact ⟨(cC, iS), fun q hq => by cases hq; exact hk⟩
    | 4 =>
      obtain ⟨cC, iS, hk⟩ := u_known (C := RX4) (T := TX4) (N := 2) (n := 2) hts iw4 (hts _ tw_163)
      exact ⟨(cC, iS), fun q hq => by cases hq; exact hk⟩
    | 5 =>
      obtain ⟨cC, iS, hk⟩ := u_known (C := RX5) (T := TX5) (N := 4) (n := 4) hts iw5 (hts _ tw_242)
      exact ⟨(cC, iS), fun q hq => by cases hq; exact hk⟩
    | 6 =>
      obtain ⟨cC, iS, hk⟩ := u_known (C := RX6) (T := TX6) (N := 2) (n := 2) hts iw6 (hts _ tw_100)
      exact ⟨(cC, iS), fun q hq => by cases hq; exact hk⟩
    | 7 =>
      obtain ⟨cC, iS, hk⟩ := u_known (C := RX7) (T := TX7) (N := 6) (n := 6) hts iw7 (hts _ tw_64)
      exact ⟨(cC, iS), fun q hq => by cases hq; exact hk⟩
    | 8 =>
      obtain ⟨cC, iS, hk⟩ := u_known (C := RX8) (T := TX8) (N := 13) (n := 13) hts iw8 (hts _ tw_19)
      exact ⟨(cC, iS), fun q hq => by cases hq; exact hk⟩
    | 9 =>
      obtain ⟨cC, iS, hk⟩ := u_known (C := RX9) (T := TX9) (N := 29) (n := 29) hts iw9 (hts _ tw_791)
      exact ⟨(cC, iS), fun q hq => by cases hq; exact hk⟩
    | n + 10 => exact ⟨(0, fun _ => 0), fun q hq => by rw [List.getElem?_eq_none (by show 10 ≤ n + 10; omega)] at hq; cases hq⟩
  obtain ⟨f, hf⟩ := Classical.axiomOfChoice h
  exact ⟨(fun c => (f c).1, fun c => (f c).2), fun c q hq => hf c q hq⟩
def tyL (cy : Nat → ClassId) : List (ClassId × FieldType) := [(cy 0, .int), (cy 1, .object RX3), (cy 2, .object RX5), (cy 3, .object RX6), (cy 4, .object RX7), (cy 5, .array .int), (cy 6, .object "java/lang/String")]
theorem st_arr {args : Array Value} {s : State} (hts : ∀ w ∈ lw_tbl, w.before args s = true) : ∃ cy : Nat → ClassId, ∀ (k : Nat) (q : ClassId × FieldType), (tyL cy)[k]? = some q → ArrOfT s q.1 q.2 ∧ va_RA s q.1 q.2 := by
  have h0 : ∃ c : ClassId, ArrOfT s c .int ∧ va_RA s c .int := by
    obtain ⟨c, k, comp, h1, h2, h3⟩ := Cond.arrayClass_spec (hts (.arrayClass .int) (List.mem_append_right _ (List.mem_of_getElem? (i := 53) (by decide +kernel))))
    exact ⟨c, fun n z => ⟨(fun k h => by cases h), k, h2, comp, h3⟩, h1⟩
  have h1 : ∃ c : ClassId, ArrOfT s c (.object RX3) ∧ va_RA s c (.object RX3) := by
    obtain ⟨comp, c, k, h1, h2, h3, h4, h5⟩ := Cond.arrayOver_spec (n := RX3) (hts (.arrayOver (.object RX3)) (List.mem_append_right _ (List.mem_of_getElem? (i := 221) (by decide +kernel))))
    exact ⟨c, fun n z => ⟨(fun k h => by cases h), k, h3, comp, h4⟩, k, comp, h3, h4, h1, h5⟩
  have h2 : ∃ c : ClassId, ArrOfT s c (.object RX5) ∧ va_RA s c (.object RX5) := by
    obtain ⟨comp, c, k, h1, h2, h3, h4, h5⟩ := Cond.arrayOver_spec (n := RX5) (hts (.arrayOver (.object RX5)) (List.mem_append_right _ (List.mem_of_getElem? (i := 223) (by decide +kernel))))
    exact ⟨c, fun n z => ⟨(fun k h => by cases h), k, h3, comp, h4⟩, k, comp, h3, h4, h1, h5⟩
  have h3 : ∃ c : ClassId, ArrOfT s c (.object RX6) ∧ va_RA s c (.object RX6) := by
    obtain ⟨comp, c, k, h1, h2, h3, h4, h5⟩ := Cond.arrayOver_spec (n := RX6) (hts (.arrayOver (.object RX6)) (List.mem_append_right _ (List.mem_of_getElem? (i := 63) (by decide +kernel))))
    exact ⟨c, fun n z => ⟨(fun k h => by cases h), k, h3, comp, h4⟩, k, comp, h3, h4, h1, h5⟩
  have h4 : ∃ c : ClassId, ArrOfT s c (.object RX7) ∧ va_RA s c (.object RX7) := by
    obtain ⟨comp, c, k, h1, h2, h3, h4, h5⟩ := Cond.arrayOver_spec (n := RX7) (hts (.arrayOver (.object RX7)) (List.mem_append_right _ (List.mem_of_getElem? (i := 61) (by decide +kernel))))
    exact ⟨c, fun n z => ⟨(fun k h => by cases h), k, h3, comp, h4⟩, k, comp, h3, h4, h1, h5⟩
  have h6 : ∃ c : ClassId, ArrOfT s c (.object "java/lang/String") ∧ va_RA s c (.object "java/lang/String") := by
    obtain ⟨comp, c, k, h1, h2, h3, h4, h5⟩ := Cond.arrayOver_spec (n := "java/lang/String") (hts (.arrayOver (.object "java/lang/String")) (List.mem_append_right _ (List.mem_of_getElem? (i := 797) (by decide +kernel))))
    exact ⟨c, fun n z => ⟨(fun k h => by cases h), k, h3, comp, h4⟩, k, comp, h3, h4, h1, h5⟩
  have h5 : ∃ c : ClassId, ArrOfT s c (.array .int) ∧ va_RA s c (.array .int) := by
    obtain ⟨comp, c, k, h1, h2, h3, h4, h5⟩ := arrayOverA_spec (t := .int) (hts (.arrayOver (.array .int)) (List.mem_append_right _ (List.mem_of_getElem? (i := 33) (by decide +kernel))))
    exact ⟨c, fun n z => ⟨(fun k h => by cases h), k, h3, comp, h4⟩, h5⟩
  obtain ⟨c0, h0⟩ := h0
  obtain ⟨c1, h1⟩ := h1
  obtain ⟨c2, h2⟩ := h2
  obtain ⟨c3, h3⟩ := h3
  obtain ⟨c4, h4⟩ := h4
  obtain ⟨c5, h5⟩ := h5
  obtain ⟨c6, h6⟩ := h6
  refine ⟨fun k => [c0, c1, c2, c3, c4, c5, c6].getD k 0, fun k q hq => ?_⟩
  match k, hq with
  | 0, hq => cases hq; exact h0
  | 1, hq => cases hq; exact h1
  | 2, hq => cases hq; exact h2
  | 3, hq => cases hq; exact h3
  | 4, hq => cases hq; exact h4
  | 5, hq => cases hq; exact h5
  | 6, hq => cases hq; exact h6
  | n + 7, hq => rw [List.getElem?_eq_none (by show 7 ≤ n + 7; omega)] at hq; cases hq
def stI (i : Nat) : Nat := [27, 29, 31, 37, 39, 41].getD i 0
def stT (i : Nat) : Term := .string RX9 (stI i)
abbrev nar1 : Cond := Jvm.Cond.and given_1 narrow_1
theorem nar_tb {C n d : String} {N : Nat} {ty : FieldType} {tb : List Int32} {args : Array Value} {s : State} {A : Nat → Prop} (hs : ∀ c ∈ flatC nar1, c.before args s = true) (hl : (Cond.laysStatic C n d).before args s = true) (hini : (Cond.initialized C).before args s = true) (hA : ∀ a : Nat, a < s.heap.size → ¬ A a) (hN : N < 2 ^ 31) (h1 : Cond.arrayOf (.static C n d) ty ∈ flatC nar1) (h2 : Cond.eq (.length (.static C n d)) (.int (Int32.ofNat N)) ∈ flatC nar1) (h3 : ∀ j : Nat, j < N → Cond.eq (.elem (.static C n d) (.int (Int32.ofNat j))) (.int (tb.getD j 0)) ∈ flatC nar1) : ∃ t : Nat, va_Z C n d (.ref t) A s s.heap ∧ va_T ty t N (fun k => .int (tb.getD k 0)) A s s.heap := by
  obtain ⟨t, ht, hT⟩ := va_Tof (tm := .static C n d) (ty := ty) (N := N) (f := fun k => .int (tb.getD k 0)) (A := A) hN (hs _ h1) (va_eqt (hs _ h2)) (fun j hj => va_eqt (hs _ (h3 j hj))) hA
  exact ⟨t, va_Zref hl hini ht hA, hT⟩
set_option maxRecDepth 100000 in
set_option maxHeartbeats 4000000 in
theorem st_all {args : Array Value} {s : State} (hts : ∀ w ∈ lw_tbl, w.before args s = true) (hs : ∀ c ∈ flatC nar1, c.before args s = true) {b : Nat} (hb : b = s.heap.size) : ∃ (D : va_G) (cy : Nat → ClassId) (sk sv st : Nat → Nat), ∀ ad : Nat → Nat, va_K (gD (D, cy, ad, sk, sv, st)) vwCl (tysOf (D, cy, ad, sk, sv, st)) s ∧ gX (D, cy, ad, sk, sv, st) b s := by
  have hA : ∀ a : Nat, a < s.heap.size → ¬ pA b a := fun a ha h => by
    have h' : b ≤ a := h
    omega
  obtain ⟨D, hD⟩ := st_kn (st_TT hts)
  obtain ⟨cy, hcy⟩ := st_arr hts
  obtain ⟨t0, z0, T0⟩ := nar_tb (A := pA b) (C := "WordLeash$Word") (n := "ABOVE") (d := "[I") (N := 6) (ty := .int) (tb := tb0) hs (hts _ (List.mem_append_right _ (List.mem_of_getElem? (i := 384) (by decide +kernel)))) (hts _ (List.mem_append_right _ (List.mem_of_getElem? (i := 4) (by decide +kernel)))) hA (by decide) (by decide +kernel) (by decide +kernel) (by decide +kernel)
  obtain ⟨t1, z1, T1⟩ := nar_tb (A := pA b) (C := "WordLeash$Parser") (n := "KEY_WORDS") (d := "[C") (N := 12) (ty := .char) (tb := tb1) hs (hts _ (List.mem_append_right _ (List.mem_of_getElem? (i := 651) (by decide +kernel)))) (hts _ (List.mem_append_right _ (List.mem_of_getElem? (i := 7) (by decide +kernel)))) hA (by decide) (by decide +kernel) (by decide +kernel) (by decide +kernel)
  obtain ⟨t2, z2, T2⟩ := nar_tb (A := pA b) (C := "WordLeash$Parser") (n := "NAMES") (d := "[C") (N := 9) (ty := .char) (tb := tb2) hs (hts _ (List.mem_append_right _ (List.mem_of_getElem? (i := 690) (by decide +kernel)))) (hts _ (List.mem_append_right _ (List.mem_of_getElem? (i := 7) (by decide +kernel)))) hA (by decide) (by decide +kernel) (by decide +kernel) (by decide +kernel)
  have e1 : ∀ i : Nat, i < 6 → Cond.exactly (stT i) "java/lang/String" ∈ flatC nar1 := by decide +kernel
  have e2 : ∀ i : Nat, i < 6 → Cond.eq (.field (stT i) "java/lang/String" "coder" "B") (.int 0) ∈ flatC nar1 := by decide +kernel
  have e3 : ∀ i : Nat, i < 6 → Cond.arrayOf (.field (stT i) "java/lang/String" "value" "[B") .byte ∈ flatC nar1 := by decide +kernel
  have e4 : ∀ i : Nat, i < 6 → Cond.eq (.length (.field (stT i) "java/lang/String" "value" "[B")) (.int (Int32.ofNat (sLen.getD i 0))) ∈ flatC nar1 := by decide +kernel
  have e5 : ∀ i : Nat, i < 6 → ∀ j : Nat, j < sLen.getD i 0 → Cond.eq (.elem (.field (stT i) "java/lang/String" "value" "[B") (.int (Int32.ofNat j))) (.int ((sByt.getD i []).getD j 0)) ∈ flatC nar1 := by decide +kernel
  have e6 : ∀ i : Nat, i < 6 → ∀ j : Nat, j < 6 → i ≠ j → Cond.not (Cond.eq (stT i) (stT j)) ∈ flatC nar1 ∨ Cond.not (Cond.eq (stT j) (stT i)) ∈ flatC nar1 := by decide +kernel
  obtain ⟨sk, sv, hS, hK⟩ := vk_Sof (s := s) (args := args) (N := 6) (tm := stT) (len := sLen) (byt := sByt) (A := pA b) (by decide) (fun i hi => hs _ (e1 i hi)) (fun i hi => hs _ (e2 i hi)) (fun i hi => hs _ (e3 i hi)) (fun i hi => hs _ (e4 i hi)) (fun i hi j hj => hs _ (e5 i hi j hj)) (fun i j hi hj hij => (e6 i hi j hj hij).elim (fun h => Or.inl (hs _ h)) (fun h => Or.inr (hs _ h))) hA
  have zc : va_Z "java/lang/String" "COMPACT_STRINGS" "Z" (.int 1) (pA b) s s.heap := va_Zof (hts _ (List.mem_append_right _ (List.mem_of_getElem? (i := 1178) (by decide +kernel)))) (hts _ (List.mem_append_right _ (List.mem_of_getElem? (i := 14) (by decide +kernel)))) (va_eqi (hs _ (by decide +kernel))) hA
  have zq : va_Zq "jdk/internal/util/Preconditions" "SIOOBE_FORMATTER" "Ljava/util/function/BiFunction;" (pA b) s s.heap := va_Zqof (hts _ (List.mem_append_right _ (List.mem_of_getElem? (i := 1194) (by decide +kernel)))) (hts _ (List.mem_append_right _ (List.mem_of_getElem? (i := 16) (by decide +kernel)))) (hs _ (by decide +kernel)) hA
  refine ⟨D, cy, sk, sv, fun k => [t0, t1, t2].getD k 0, fun ad => ⟨⟨hD, hcy⟩, ?_⟩⟩
  have gr : gR (D, cy, ad, sk, sv, fun k => [t0, t1, t2].getD k 0) s := ⟨vk_R.of (hts _ (List.mem_append_right _ (List.mem_of_getElem? (i := 798) (by decide +kernel)))) (hK 0 (by decide)), vk_R.of (hts _ (List.mem_append_right _ (List.mem_of_getElem? (i := 799) (by decide +kernel)))) (hK 1 (by decide)), vk_R.of (hts _ (List.mem_append_right _ (List.mem_of_getElem? (i := 800) (by decide +kernel)))) (hK 2 (by decide)), vk_R.of (hts _ (List.mem_append_right _ (List.mem_of_getElem? (i := 801) (by decide +kernel)))) (hK 3 (by decide)), vk_R.of (hts _ (List.mem_append_right _ (List.mem_of_getElem? (i := 802) (by decide +kernel)))) (hK 4 (by decide)), vk_R.of (hts _ (List.mem_append_right _ (List.mem_of_getElem? (i := 803) (by decide +kernel)))) (hK 5 (by decide))⟩
  have gn : gN s := ⟨va_Nw.of rfl (hts _ (List.mem_append_right _ (List.mem_of_getElem? (i := 28) (by decide +kernel)))), va_Nw.of rfl (hts _ (List.mem_append_right _ (List.mem_of_getElem? (i := 65) (by decide +kernel)))), va_Nw.of rfl (hts _ (List.mem_append_right _ (List.mem_of_getElem? (i := 101) (by decide +kernel)))), va_Nw.of rfl (hts _ (List.mem_append_right _ (List.mem_of_getElem? (i := 225) (by decide +kernel)))), va_Nw.of rfl (hts _ (List.mem_append_right _ (List.mem_of_getElem? (i := 243) (by decide +kernel)))), va_Nw.of rfl (hts _ (List.mem_append_right _ (List.mem_of_getElem? (i := 248) (by decide +kernel)))), va_Nw.of rfl (hts _ (List.mem_append_right _ (List.mem_of_getElem? (i := 250) (by decide +kernel))))⟩
  have ga : gAO s := ⟨hts (.arrayOver (.array .int)) (List.mem_append_right _ (List.mem_of_getElem? (i := 33) (by decide +kernel))), va_AO.of (hts _ (List.mem_append_right _ (List.mem_of_getElem? (i := 221) (by decide +kernel)))), va_AO.of (hts _ (List.mem_append_right _ (List.mem_of_getElem? (i := 223) (by decide +kernel)))), va_AO.of (hts _ (List.mem_append_right _ (List.mem_of_getElem? (i := 63) (by decide +kernel)))), va_AO.of (hts _ (List.mem_append_right _ (List.mem_of_getElem? (i := 61) (by decide +kernel)))), va_AO.of (hts _ (List.mem_append_right _ (List.mem_of_getElem? (i := 797) (by decide +kernel))))⟩
  have gs : sN s := ⟨va_Nw.of rfl (hts _ (List.mem_append_right _ (List.mem_of_getElem? (i := 331) (by decide +kernel)))), va_Nw.of rfl (hts _ (List.mem_append_right _ (List.mem_of_getElem? (i := 358) (by decide +kernel)))), va_Nw.of rfl (hts _ (List.mem_append_right _ (List.mem_of_getElem? (i := 599) (by decide +kernel))))⟩
  exact ⟨gr, gn, ga, ⟨⟨z0, T0⟩, ⟨z1, T1⟩, ⟨z2, T2⟩, hS, zc, zq⟩, gs⟩
