/-! the words that every contract of ours asks: those of the tables that stay -/
def TT : List Cond := lw_tbl.filter goodWord
theorem TT_good {big : List Cond} (h : ∀ w ∈ TT, w ∈ big) : GoodIn big TT := fun w hw => ⟨h w hw, good_of_word (List.mem_filter.mp hw).2⟩
theorem TT_at (i : Nat) {w : Cond} (h : lw_tbl[i]? = some w) (hg : goodWord w = true) : w ∈ TT := List.mem_filter.mpr ⟨List.mem_of_getElem? h, hg⟩
/-! the store, the geometry, the worlds -/
abbrev Store : Type := Nat → Nat → Int32
abbrev Geo : Type := va_G × (Nat → ClassId) × (Nat → Nat) × (Nat → Nat) × (Nat → Nat) × (Nat → Nat)
def gD (G : Geo) : va_G := G.1
def gcy (G : Geo) : Nat → ClassId := G.2.1
def gad (G : Geo) : Nat → Nat := G.2.2.1
def gsk (G : Geo) : Nat → Nat := G.2.2.2.1
def gsv (G : Geo) : Nat → Nat := G.2.2.2.2.1
def gst (G : Geo) : Nat → Nat := G.2.2.2.2.2
abbrev Wd : Type := Nat × (Geo → (Nat → Int32) → Nat → va_E)
def wd (w : Wd) (G : Geo) (σ : Store) : va_W := (List.range w.1).map fun j => (gad G j, w.2 G (σ j) j)
def wA (w : Wd) (G : Geo) : Nat → Prop := fun q => ∃ j, j < w.1 ∧ q = gad G j
def wInj (w : Wd) (G : Geo) : Prop := ∀ i j, i < w.1 → j < w.1 → gad G i = gad G j → i = j
def srow (σ : Store) (j : Nat) (f : Nat → Int32) : Store := fun j' => if j' = j then f else σ j'
def sup (σ : Store) (j k : Nat) (x : Int32) : Store := srow σ j (upd (σ j) k x)
theorem wd_at {w : Wd} {G : Geo} {σ : Store} {j : Nat} (hj : j < w.1) : (wd w G σ)[j]? = some (gad G j, w.2 G (σ j) j) := by simp [wd, hj]
theorem wd_inv {w : Wd} {G : Geo} {σ : Store} {k : Nat} {q : Nat × va_E} (h : (wd w G σ)[k]? = some q) : k < w.1 ∧ q = (gad G k, w.2 G (σ k) k) := by
  have hk : k < w.1 := by
    have := (List.getElem?_eq_some_iff.mp h).1
    simpa [wd] using this
  rw [wd_at hk] at h
  exact ⟨hk, (Option.some.inj h).symm⟩
theorem wd_set {w : Wd} {G : Geo} {σ : Store} {j : Nat} {f : Nat → Int32} : (wd w G σ).set j (gad G j, w.2 G f j) = wd w G (srow σ j f) := by
  apply List.ext_getElem?
  intro k
  by_cases hk : k < w.1
  · rw [wd_at hk]
    by_cases h : j = k
    · subst h
      rw [List.getElem?_set_self (by simpa [wd] using hk)]
      simp [srow]
    · rw [List.getElem?_set_ne h, wd_at hk]
      simp [srow, Ne.symm h]
  · rw [List.getElem?_eq_none (by simpa [wd] using Nat.le_of_not_lt hk), List.getElem?_eq_none (by simpa [wd] using Nat.le_of_not_lt hk)]
theorem wd_D {w : Wd} {G : Geo} {σ : Store} (h : wInj w G) : va_D (wA w G) (wd w G σ) := by
  refine ⟨fun i j p q hi hj hpq => ?_, fun k q hk => ?_⟩
  · obtain ⟨h1, rfl⟩ := wd_inv hi
    obtain ⟨h2, rfl⟩ := wd_inv hj
    exact h i j h1 h2 hpq
  · obtain ⟨h1, rfl⟩ := wd_inv hk
    exact ⟨k, h1, rfl⟩
/-! the static arrays, the literals -/
def tb0 : List Int32 := [0, 0, 0, 1, 2, 0]
def tb1 : List Int32 := [100, 117, 116, 121, 98, 105, 108, 108, 102, 105, 110, 101]
def tb2 : List Int32 := [100, 116, 113, 112, 110, 32, 115, 108, 32]
def sLen : List Nat := [4, 4, 4, 3, 2, 2]
def sByt : List (List Int32) := [[100, 117, 116, 121], [98, 105, 108, 108], [102, 105, 110, 101], [100, 116, 113], [112, 110], [115, 108]]
def tysOf (G : Geo) : List (ClassId × FieldType) := [(gcy G 0, .int), (gcy G 1, .object RX3), (gcy G 2, .object RX5), (gcy G 3, .object RX6), (gcy G 4, .object RX7), (gcy G 5, .array .int), (gcy G 6, .object "java/lang/String")]
def sSt (A : Nat → Prop) (G : Geo) (U : State) (H : Heap) : Prop :=
  (va_Z "WordLeash$Word" "ABOVE" "[I" (.ref (gst G 0)) A U H ∧ va_T .int (gst G 0) 6 (fun k => .int (tb0.getD k 0)) A U H) ∧
  (va_Z "WordLeash$Parser" "KEY_WORDS" "[C" (.ref (gst G 1)) A U H ∧ va_T .char (gst G 1) 12 (fun k => .int (tb1.getD k 0)) A U H) ∧
  (va_Z "WordLeash$Parser" "NAMES" "[C" (.ref (gst G 2)) A U H ∧ va_T .char (gst G 2) 9 (fun k => .int (tb2.getD k 0)) A U H) ∧
  vk_S 6 sLen sByt (gsk G) (gsv G) A U H ∧ va_Z "java/lang/String" "COMPACT_STRINGS" "Z" (.int 1) A U H ∧ va_Zq "jdk/internal/util/Preconditions" "SIOOBE_FORMATTER" "Ljava/util/function/BiFunction;" A U H
theorem sSt.moved {A : Nat → Prop} {G : Geo} {u U : State} {H : Heap} (hvm : u.vm.Alike U.vm) (h : sSt A G u H) : sSt A G U H := ⟨⟨h.1.1.moved hvm, h.1.2.moved hvm⟩, ⟨h.2.1.1.moved hvm, h.2.1.2.moved hvm⟩, ⟨h.2.2.1.1.moved hvm, h.2.2.1.2.moved hvm⟩, h.2.2.2.1.moved hvm, h.2.2.2.2.1.moved hvm, h.2.2.2.2.2.moved hvm⟩
theorem sSt.kept {A : Nat → Prop} {G : Geo} {U : State} {H H1 : Heap} (h : sSt A G U H) (hq : ∀ a : Nat, a < H.size → ¬ A a → H1[a]? = H[a]?) : sSt A G U H1 := ⟨⟨h.1.1.kept hq, h.1.2.kept hq⟩, ⟨h.2.1.1.kept hq, h.2.1.2.kept hq⟩, ⟨h.2.2.1.1.kept hq, h.2.2.1.2.kept hq⟩, h.2.2.2.1.kept hq, h.2.2.2.2.1.kept hq, h.2.2.2.2.2.kept hq⟩
theorem sSt.narrow {A B : Nat → Prop} {G : Geo} {U : State} {H : Heap} (h : sSt A G U H) (hAB : ∀ q, B q → A q) : sSt B G U H := ⟨⟨h.1.1.narrow hAB, h.1.2.narrow hAB⟩, ⟨h.2.1.1.narrow hAB, h.2.1.2.narrow hAB⟩, ⟨h.2.2.1.1.narrow hAB, h.2.2.1.2.narrow hAB⟩, h.2.2.2.1.narrow hAB, h.2.2.2.2.1.narrow hAB, h.2.2.2.2.2.narrow hAB⟩
/-- the calls of a nest mate's private static methods -/
def sN (U : State) : Prop := va_Nw (.methodLinkNest RX0 94 yX8_within RX8) U ∧ va_Nw (.methodLinkNest RX0 126 yX8_held RX8) U ∧ va_Nw (.methodLinkNest RX3 28 yX8_within RX8) U
theorem sN.warm {s U : State} (hW : s.WarmedH U.vm) (h : sN s) : sN U := ⟨va_Nw.warmM hW h.1, va_Nw.warmM hW h.2.1, va_Nw.warmM hW h.2.2⟩
theorem sN.same {u U : State} (hv : u.vm = U.vm) (h : sN u) : sN U := ⟨va_Nw.same rfl hv h.1, va_Nw.same rfl hv h.2.1, va_Nw.same rfl hv h.2.2⟩
/-! contracts -/
def sPre (w : Wd) (G : Geo) (σ : Store) (U : State) : Prop := va_P (gD G) vwCl (wd w G σ) U.heap ∧ va_K (gD G) vwCl (tysOf G) U ∧ wInj w G ∧ sSt (wA w G) G U U.heap ∧ sN U
def sQ (w : Wd) (G : Geo) (rv : Option Value) (σ : Store) : Array Value → State → Outcome → State → Prop := fun _ st o t => o = .returned rv ∧ va_P (gD G) vwCl (wd w G σ) t.heap ∧ va_F (wA w G) st t
def sCon (l : Launch) (w : Wd) (G : Geo) (y : MethodName) (cc : ByteArray) (n : Nat) (ret : Option FieldType) (rm : Room) (av : List Value) (σ : Store) (rv : Option Value) (σ' : Store) : Prop :=
  Met l y (Cond.code y cc n ret :: TT) rm (va_Pc av (sPre w G σ)) (sQ w G rv σ') 0 0 (wA w G)
def rmL (f k : Nat) : Room := { frames := f, cells := 0, slots := 0, locals := k }
/-! the judgement -/
abbrev KT : Type := Program × Launch × Env × Room × State × MethodId × Array Value × List Frame × Method × Code × Nat × (State → Prop)
def sV {α : Type} (w : Wd) (G : Geo) (K : KT) (a : α) (σ : Store) (pc : Nat) (loc : List (Nat × Value)) (stk : List Value) (F : Option α) : Prop :=
  match K with
  | (p, l, e, R, s, m, args, below, meth, c, n, Q) => F = some a → ∀ (H : Heap) (locs : List Loc) (ls : Array Slot), va_P (gD G) vwCl (wd w G σ) H → va_S (wA w G) s.heap H locs → lv_has ls n loc → W p l e R s m args below meth c H locs 0 0 Q (F0 m pc ls stk)
def sOk (w : Wd) (G : Geo) (K : KT) (l0 : Launch) (own : String) (cc : ByteArray) (rm : Room) (nL : Nat) (ret : Option FieldType) (rv : Option Value) (σ' : Store) : Prop :=
  match K with
  | (p, l, e, R, s, m, args, below, meth, c, n, Q) => p.tables.exec = Jvm.exec ∧ c.code = cc ∧ c.maxLocals = n ∧ s.vm.findClass own = some m.cls ∧ (∀ w ∈ TT, w.before args s = true) ∧ va_K (gD G) vwCl (tysOf G) s ∧ wInj w G ∧ sSt (wA w G) G s s.heap ∧ sN s ∧ meth.locks = false ∧ R = rm ∧ meth.sig.returnType = ret ∧ n = nL ∧ l = l0 ∧ Q = MQ below (sQ w G rv σ') args s 0 0 (wA w G)
/-! the words of the functional programs -/
def slt {β α : Type} (x : β) (k : β → Option α) : Option α := k x
def sbd {β α : Type} (x : Option β) (k : β → Option α) : Option α := match x with
  | some b => k b
  | none => none
def sbd2 {β γ α : Type} (x : Option (β × γ)) (k : β → γ → Option α) : Option α := match x with
  | some b => k b.1 b.2
  | none => none
def sjn {κ α : Type} (b : κ → Option α) (r : κ) : Option α := b r
def six {α : Type} (n : Nat) (i : Int32) (F : Option α) : Option α := if 0 ≤ i.toInt ∧ i.toInt < (n : Int) then F else none
def sdz {α : Type} (d : Int32) (F : Option α) : Option α := if d = 0 then none else F
def snx (i : Int32) : Nat := i.toNatClampNeg
def b2i (b : Bool) : Int32 := if b then 1 else 0
def sushr (x y : Int32) : Int32 := (x.toUInt32 >>> (y.toUInt32 &&& Int32.toUInt32 31)).toInt32
def smin (x y : Int32) : Int32 := if y < x then y else x
def smax (x y : Int32) : Int32 := if x < y then y else x
def sabs (x : Int32) : Int32 := if 0 ≤ x then x else 0 - x
def scp {α : Type} (σ : Store) (j0 n0 : Nat) (sp : Int32) (j1 n1 : Nat) (dp n : Int32) (k : Store → Option α) : Option α :=
  if ¬ sp < 0 ∧ ¬ dp < 0 ∧ ¬ n < 0 ∧ snx sp + snx n ≤ n0 ∧ snx dp + snx n ≤ n1 then k (srow σ j1 (va_cpy (σ j0) (σ j1) (snx sp) (snx dp) (snx n))) else none
def iA (w : Wd) (G : Geo) (j n : Nat) : Prop := j < w.1 ∧ ∀ f, w.2 G f j = .inl (gcy G 0, n, .inl f)
section SV
variable {α : Type} {w : Wd} {G : Geo} {K : KT} {a : α} {σ σ' : Store} {pc q : Nat} {loc loc' : List (Nat × Value)} {st : List Value} {F F1 F2 : Option α} {l0 : Launch} {own : String} {cc : ByteArray} {rm : Room} {nL : Nat} {ret : Option FieldType} {rv : Option Value}
/-- a contract out of a walk -/
theorem sCon.of {l : Launch} {y : MethodName} {av : List Value} (hy : plainName y.cls = true) (hrm : rm.cells = 0 ∧ rm.slots = 0) (hn : (lg_sl av).length ≤ nL) (own : String) (ho : y.cls = own) (F : Option α) (hF : F = some a) (hw : ∀ K : KT, sOk w G K l own cc rm nL ret rv σ' → sV w G K a σ 0 (lv_args 0 av) [] F) : sCon l w G y cc nL ret rm av σ rv σ' := by
  refine Met.ofW (cc := cc) (maxL := nL) (ret := ret) hy rfl ?_
  intro p e s m args below meth c s₁ B hml hv
  obtain ⟨rfl, hP, hK, hI, hSt, hN⟩ := hv
  have hts := atoms_spec (ws := Cond.code y cc nL ret :: TT) B.pre
  have hown : s.vm.findClass own = some m.cls := ho ▸ findClass_of_methodNamed B.named
  have hlocks : meth.locks = false := B.notSynchronized
  have hl := lv_entry av (n := nL) hn
  rw [lg_entry_eq]
  exact hw (p, l, e, rm, s, m, av.toArray, below, meth, c, nL, MQ below (sQ w G rv σ') av.toArray s 0 0 (wA w G)) ⟨B.exec, B.bytes, hml, hown, fun w hw => hts w (List.mem_cons_of_mem _ hw), hK, hI, hSt, hN, hlocks, rfl, B.returns, rfl, rfl, rfl⟩ hF s.heap [] _ hP va_S.rf hl
theorem sV.sub (ks : List Nat) (hl : lv_pick loc ks = loc') (k : sV w G K a σ pc loc' st F) : sV w G K a σ pc loc st F := by
  obtain ⟨p, l, e, R, s, m, args, below, meth, c, n, Q⟩ := K
  intro hF H locs ls hP hS hls
  exact k hF H locs ls hP hS (lv_sub hls ks hl)
theorem sV.lt {β : Type} {x : β} {k : β → Option α} (h : sV w G K a σ pc loc st (k x)) : sV w G K a σ pc loc st (slt x k) := h
theorem sV.ltS {k : Store → Option α} (h : ∀ y, sV w G K a y pc loc st (k y)) : sV w G K a σ pc loc st (slt σ k) := h σ
theorem sV.ltI {x : Int32} {k : Int32 → Option α} (h : ∀ y, sV w G K a σ pc loc (.int y :: st) (k y)) : sV w G K a σ pc loc (.int x :: st) (slt x k) := h x
theorem sV.ltL {x : Int64} {k : Int64 → Option α} (h : ∀ y, sV w G K a σ pc loc (.long y :: st) (k y)) : sV w G K a σ pc loc (.long x :: st) (slt x k) := h x
theorem sV.jn {κ : Type} (P : κ → Prop) {b : κ → Option α} {r : κ} (h1 : P r) (h2 : ∀ k, P k → sV w G K a σ pc loc st (b k)) : sV w G K a σ pc loc st (sjn b r) := h2 r h1
theorem sV.no : sV w G K a σ pc loc st none := by
  obtain ⟨p, l, e, R, s, m, args, below, meth, c, n, Q⟩ := K
  intro hF
  cases hF
theorem sV.ite {c : Prop} {d : Decidable c} (h1 : c → sV w G K a σ pc loc st F1) (h2 : ¬ c → sV w G K a σ pc loc st F2) : sV w G K a σ pc loc st (if c then F1 else F2) := by
  by_cases h : c
  · rw [if_pos h]; exact h1 h
  · rw [if_neg h]; exact h2 h

theorem r_iconst {z : Int} {v : Int32} (hK : sOk w G K l0 own cc rm nL ret rv σ') (hd : decode cc pc = .ok (.iconst z, 1)) (hq : pc + 1 = q) (hv : Int32.ofInt z = v) (k : sV w G K a σ q loc (.int v :: st) F) : sV w G K a σ pc loc (st) F := by
  subst hq
  obtain ⟨p, l, e, R, s, m, args, below, meth, c, n, Q⟩ := K
  obtain ⟨hx, hb, hml, hown, hts, hKK, hI, hSt, hN, hlk, hR, hr, hn, hl0, hQ⟩ := hK
  subst hn
  subst hl0
  subst hR
  intro hF H locs ls hP hS hls
  exact lv_iconst hx hb hd hv (k hF H locs ls hP hS hls)

theorem r_bipush {z : Int} {v : Int32} (hK : sOk w G K l0 own cc rm nL ret rv σ') (hd : decode cc pc = .ok (.bipush z, 2)) (hq : pc + 2 = q) (hv : (Int8.ofInt z).toInt32 = v) (k : sV w G K a σ q loc (.int v :: st) F) : sV w G K a σ pc loc (st) F := by
  subst hq
  obtain ⟨p, l, e, R, s, m, args, below, meth, c, n, Q⟩ := K
  obtain ⟨hx, hb, hml, hown, hts, hKK, hI, hSt, hN, hlk, hR, hr, hn, hl0, hQ⟩ := hK
  subst hn
  subst hl0
  subst hR
  intro hF H locs ls hP hS hls
  exact lv_bipush hx hb hd hv (k hF H locs ls hP hS hls)

theorem r_sipush {z : Int} {v : Int32} (hK : sOk w G K l0 own cc rm nL ret rv σ') (hd : decode cc pc = .ok (.sipush z, 3)) (hq : pc + 3 = q) (hv : (Int16.ofInt z).toInt32 = v) (k : sV w G K a σ q loc (.int v :: st) F) : sV w G K a σ pc loc (st) F := by
  subst hq
  obtain ⟨p, l, e, R, s, m, args, below, meth, c, n, Q⟩ := K
  obtain ⟨hx, hb, hml, hown, hts, hKK, hI, hSt, hN, hlk, hR, hr, hn, hl0, hQ⟩ := hK
  subst hn
  subst hl0
  subst hR
  intro hF H locs ls hP hS hls
  exact lv_sipush hx hb hd hv (k hF H locs ls hP hS hls)

theorem r_lconst {z : Fin 2} {v : Int64} (hK : sOk w G K l0 own cc rm nL ret rv σ') (hd : decode cc pc = .ok (.lconst z, 1)) (hq : pc + 1 = q) (hv : Int64.ofNat (z : Nat) = v) (k : sV w G K a σ q loc (.long v :: st) F) : sV w G K a σ pc loc (st) F := by
  subst hq
  obtain ⟨p, l, e, R, s, m, args, below, meth, c, n, Q⟩ := K
  obtain ⟨hx, hb, hml, hown, hts, hKK, hI, hSt, hN, hlk, hR, hr, hn, hl0, hQ⟩ := hK
  subst hn
  subst hl0
  subst hR
  intro hF H locs ls hP hS hls
  exact lv_lconst hx hb hd hv (k hF H locs ls hP hS hls)

theorem r_ldc {index : Nat} {v : Int32} (hK : sOk w G K l0 own cc rm nL ret rv σ') (hd : decode cc pc = .ok (.ldc index, 2)) (hq : pc + 2 = q) (hc : Cond.constant own index v ∈ TT) (k : sV w G K a σ q loc (.int v :: st) F) : sV w G K a σ pc loc (st) F := by
  subst hq
  obtain ⟨p, l, e, R, s, m, args, below, meth, c, n, Q⟩ := K
  obtain ⟨hx, hb, hml, hown, hts, hKK, hI, hSt, hN, hlk, hR, hr, hn, hl0, hQ⟩ := hK
  subst hn
  subst hl0
  subst hR
  intro hF H locs ls hP hS hls
  exact lv_ldc hx hb hown (hts _ hc) hd (k hF H locs ls hP hS hls)

theorem r_ldcw {index : Nat} {v : Int32} (hK : sOk w G K l0 own cc rm nL ret rv σ') (hd : decode cc pc = .ok (.ldc_w index, 3)) (hq : pc + 3 = q) (hc : Cond.constant own index v ∈ TT) (k : sV w G K a σ q loc (.int v :: st) F) : sV w G K a σ pc loc (st) F := by
  subst hq
  obtain ⟨p, l, e, R, s, m, args, below, meth, c, n, Q⟩ := K
  obtain ⟨hx, hb, hml, hown, hts, hKK, hI, hSt, hN, hlk, hR, hr, hn, hl0, hQ⟩ := hK
  subst hn
  subst hl0
  subst hR
  intro hF H locs ls hP hS hls
  exact lv_ldcw hx hb hown (hts _ hc) hd (k hF H locs ls hP hS hls)

theorem r_ldc2 {index : Nat} {v : Int64} (hK : sOk w G K l0 own cc rm nL ret rv σ') (hd : decode cc pc = .ok (.ldc2_w index, 3)) (hq : pc + 3 = q) (hc : Cond.constantLong own index v ∈ TT) (k : sV w G K a σ q loc (.long v :: st) F) : sV w G K a σ pc loc (st) F := by
  subst hq
  obtain ⟨p, l, e, R, s, m, args, below, meth, c, n, Q⟩ := K
  obtain ⟨hx, hb, hml, hown, hts, hKK, hI, hSt, hN, hlk, hR, hr, hn, hl0, hQ⟩ := hK
  subst hn
  subst hl0
  subst hR
  intro hF H locs ls hP hS hls
  exact lv_ldc2 hx hb hown (hts _ hc) hd (k hF H locs ls hP hS hls)

theorem r_iload_n {kf : Fin 4} {i : Nat} {x : Int32} (hK : sOk w G K l0 own cc rm nL ret rv σ') (hd : decode cc pc = .ok (.iload_n kf, 1)) (hq : pc + 1 = q) (hi : (kf : Nat) = i) (j : Nat) (hl : loc[j]? = some (i, .int x)) (k : sV w G K a σ q loc (.int x :: st) F) : sV w G K a σ pc loc (st) F := by
  subst hq
  obtain ⟨p, l, e, R, s, m, args, below, meth, c, n, Q⟩ := K
  obtain ⟨hx, hb, hml, hown, hts, hKK, hI, hSt, hN, hlk, hR, hr, hn, hl0, hQ⟩ := hK
  subst hn
  subst hl0
  subst hR
  intro hF H locs ls hP hS hls
  exact lv_iload_n hx hb hd hi (lv_at hls j hl) (k hF H locs ls hP hS hls)

theorem r_iload {i : Nat} {x : Int32} (hK : sOk w G K l0 own cc rm nL ret rv σ') (hd : decode cc pc = .ok (.iload i, 2)) (hq : pc + 2 = q) (j : Nat) (hl : loc[j]? = some (i, .int x)) (k : sV w G K a σ q loc (.int x :: st) F) : sV w G K a σ pc loc (st) F := by
  subst hq
  obtain ⟨p, l, e, R, s, m, args, below, meth, c, n, Q⟩ := K
  obtain ⟨hx, hb, hml, hown, hts, hKK, hI, hSt, hN, hlk, hR, hr, hn, hl0, hQ⟩ := hK
  subst hn
  subst hl0
  subst hR
  intro hF H locs ls hP hS hls
  exact lv_iload hx hb hd (lv_at hls j hl) (k hF H locs ls hP hS hls)

theorem r_istore_n {kf : Fin 4} {i : Nat} {x : Int32} (hK : sOk w G K l0 own cc rm nL ret rv σ') (hd : decode cc pc = .ok (.istore_n kf, 1)) (hq : pc + 1 = q) (hi : (kf : Nat) = i) (hn : i < nL) (hl : (i, Value.int x) :: loc.filter (fun q => !(q.1 == i) && !(q.1 + 1 == i && q.2.category == 2)) = loc') (k : sV w G K a σ q loc' (st) F) : sV w G K a σ pc loc (.int x :: st) F := by
  subst hq
  obtain ⟨p, l, e, R, s, m, args, below, meth, c, n, Q⟩ := K
  obtain ⟨hx, hb, hml, hown, hts, hKK, hI, hSt, hN, hlk, hR, hr, hn0, hl0, hQ⟩ := hK
  subst hn0
  intro hF H locs ls hP hS hls
  exact lv_istore_n hx hb hd hi hls hn hl (fun ls' hls' => k hF H locs ls' hP hS hls')

theorem r_istore {i : Nat} {x : Int32} (hK : sOk w G K l0 own cc rm nL ret rv σ') (hd : decode cc pc = .ok (.istore i, 2)) (hq : pc + 2 = q) (hn : i < nL) (hl : (i, Value.int x) :: loc.filter (fun q => !(q.1 == i) && !(q.1 + 1 == i && q.2.category == 2)) = loc') (k : sV w G K a σ q loc' (st) F) : sV w G K a σ pc loc (.int x :: st) F := by
  subst hq
  obtain ⟨p, l, e, R, s, m, args, below, meth, c, n, Q⟩ := K
  obtain ⟨hx, hb, hml, hown, hts, hKK, hI, hSt, hN, hlk, hR, hr, hn0, hl0, hQ⟩ := hK
  subst hn0
  intro hF H locs ls hP hS hls
  exact lv_istore hx hb hd hls hn hl (fun ls' hls' => k hF H locs ls' hP hS hls')

theorem r_aload_n {kf : Fin 4} {i : Nat} {x : Nat} (hK : sOk w G K l0 own cc rm nL ret rv σ') (hd : decode cc pc = .ok (.aload_n kf, 1)) (hq : pc + 1 = q) (hi : (kf : Nat) = i) (j : Nat) (hl : loc[j]? = some (i, .ref x)) (k : sV w G K a σ q loc (.ref x :: st) F) : sV w G K a σ pc loc (st) F := by
  subst hq
  obtain ⟨p, l, e, R, s, m, args, below, meth, c, n, Q⟩ := K
  obtain ⟨hx, hb, hml, hown, hts, hKK, hI, hSt, hN, hlk, hR, hr, hn, hl0, hQ⟩ := hK
  subst hn
  subst hl0
  subst hR
  intro hF H locs ls hP hS hls
  exact lv_aload_n hx hb hd hi (lv_at hls j hl) (k hF H locs ls hP hS hls)

theorem r_aload {i : Nat} {x : Nat} (hK : sOk w G K l0 own cc rm nL ret rv σ') (hd : decode cc pc = .ok (.aload i, 2)) (hq : pc + 2 = q) (j : Nat) (hl : loc[j]? = some (i, .ref x)) (k : sV w G K a σ q loc (.ref x :: st) F) : sV w G K a σ pc loc (st) F := by
  subst hq
  obtain ⟨p, l, e, R, s, m, args, below, meth, c, n, Q⟩ := K
  obtain ⟨hx, hb, hml, hown, hts, hKK, hI, hSt, hN, hlk, hR, hr, hn, hl0, hQ⟩ := hK
  subst hn
  subst hl0
  subst hR
  intro hF H locs ls hP hS hls
  exact lv_aload hx hb hd (lv_at hls j hl) (k hF H locs ls hP hS hls)

theorem r_astore_n {kf : Fin 4} {i : Nat} {x : Nat} (hK : sOk w G K l0 own cc rm nL ret rv σ') (hd : decode cc pc = .ok (.astore_n kf, 1)) (hq : pc + 1 = q) (hi : (kf : Nat) = i) (hn : i < nL) (hl : (i, Value.ref x) :: loc.filter (fun q => !(q.1 == i) && !(q.1 + 1 == i && q.2.category == 2)) = loc') (k : sV w G K a σ q loc' (st) F) : sV w G K a σ pc loc (.ref x :: st) F := by
  subst hq
  obtain ⟨p, l, e, R, s, m, args, below, meth, c, n, Q⟩ := K
  obtain ⟨hx, hb, hml, hown, hts, hKK, hI, hSt, hN, hlk, hR, hr, hn0, hl0, hQ⟩ := hK
  subst hn0
  intro hF H locs ls hP hS hls
  exact lv_astore_n hx hb hd hi hls hn hl (fun ls' hls' => k hF H locs ls' hP hS hls')

theorem r_astore {i : Nat} {x : Nat} (hK : sOk w G K l0 own cc rm nL ret rv σ') (hd : decode cc pc = .ok (.astore i, 2)) (hq : pc + 2 = q) (hn : i < nL) (hl : (i, Value.ref x) :: loc.filter (fun q => !(q.1 == i) && !(q.1 + 1 == i && q.2.category == 2)) = loc') (k : sV w G K a σ q loc' (st) F) : sV w G K a σ pc loc (.ref x :: st) F := by
  subst hq
  obtain ⟨p, l, e, R, s, m, args, below, meth, c, n, Q⟩ := K
  obtain ⟨hx, hb, hml, hown, hts, hKK, hI, hSt, hN, hlk, hR, hr, hn0, hl0, hQ⟩ := hK
  subst hn0
  intro hF H locs ls hP hS hls
  exact lv_astore hx hb hd hls hn hl (fun ls' hls' => k hF H locs ls' hP hS hls')

theorem r_lload_n {kf : Fin 4} {i : Nat} {x : Int64} (hK : sOk w G K l0 own cc rm nL ret rv σ') (hd : decode cc pc = .ok (.lload_n kf, 1)) (hq : pc + 1 = q) (hi : (kf : Nat) = i) (j : Nat) (hl : loc[j]? = some (i, .long x)) (k : sV w G K a σ q loc (.long x :: st) F) : sV w G K a σ pc loc (st) F := by
  subst hq
  obtain ⟨p, l, e, R, s, m, args, below, meth, c, n, Q⟩ := K
  obtain ⟨hx, hb, hml, hown, hts, hKK, hI, hSt, hN, hlk, hR, hr, hn, hl0, hQ⟩ := hK
  subst hn
  subst hl0
  subst hR
  intro hF H locs ls hP hS hls
  exact lv_lload_n hx hb hd hi (lv_at hls j hl) (k hF H locs ls hP hS hls)

theorem r_lload {i : Nat} {x : Int64} (hK : sOk w G K l0 own cc rm nL ret rv σ') (hd : decode cc pc = .ok (.lload i, 2)) (hq : pc + 2 = q) (j : Nat) (hl : loc[j]? = some (i, .long x)) (k : sV w G K a σ q loc (.long x :: st) F) : sV w G K a σ pc loc (st) F := by
  subst hq
  obtain ⟨p, l, e, R, s, m, args, below, meth, c, n, Q⟩ := K
  obtain ⟨hx, hb, hml, hown, hts, hKK, hI, hSt, hN, hlk, hR, hr, hn, hl0, hQ⟩ := hK
  subst hn
  subst hl0
  subst hR
  intro hF H locs ls hP hS hls
  exact lv_lload hx hb hd (lv_at hls j hl) (k hF H locs ls hP hS hls)

theorem r_lstore_n {kf : Fin 4} {i : Nat} {x : Int64} (hK : sOk w G K l0 own cc rm nL ret rv σ') (hd : decode cc pc = .ok (.lstore_n kf, 1)) (hq : pc + 1 = q) (hi : (kf : Nat) = i) (hn : i + 1 < nL) (hl : (i, Value.long x) :: loc.filter (fun q => !(q.1 == i) && (!(q.1 == i + 1) && !(q.1 + 1 == i && q.2.category == 2))) = loc') (k : sV w G K a σ q loc' (st) F) : sV w G K a σ pc loc (.long x :: st) F := by
  subst hq
  obtain ⟨p, l, e, R, s, m, args, below, meth, c, n, Q⟩ := K
  obtain ⟨hx, hb, hml, hown, hts, hKK, hI, hSt, hN, hlk, hR, hr, hn0, hl0, hQ⟩ := hK
  subst hn0
  intro hF H locs ls hP hS hls
  exact lv_lstore_n hx hb hd hi hls hn hl (fun ls' hls' => k hF H locs ls' hP hS hls')

theorem r_lstore {i : Nat} {x : Int64} (hK : sOk w G K l0 own cc rm nL ret rv σ') (hd : decode cc pc = .ok (.lstore i, 2)) (hq : pc + 2 = q) (hn : i + 1 < nL) (hl : (i, Value.long x) :: loc.filter (fun q => !(q.1 == i) && (!(q.1 == i + 1) && !(q.1 + 1 == i && q.2.category == 2))) = loc') (k : sV w G K a σ q loc' (st) F) : sV w G K a σ pc loc (.long x :: st) F := by
  subst hq
  obtain ⟨p, l, e, R, s, m, args, below, meth, c, n, Q⟩ := K
  obtain ⟨hx, hb, hml, hown, hts, hKK, hI, hSt, hN, hlk, hR, hr, hn0, hl0, hQ⟩ := hK
  subst hn0
  intro hF H locs ls hP hS hls
  exact lv_lstore hx hb hd hls hn hl (fun ls' hls' => k hF H locs ls' hP hS hls')

theorem r_iinc {i : Nat} {z : Int} {x v : Int32} (hK : sOk w G K l0 own cc rm nL ret rv σ') (hd : decode cc pc = .ok (.iinc i z, 3)) (hq : pc + 3 = q) (j : Nat) (hk : loc[j]? = some (i, .int x)) (hv : x + Int32.ofInt z = v) (hn : i < nL) (hl : (i, Value.int v) :: loc.filter (fun q => !(q.1 == i) && !(q.1 + 1 == i && q.2.category == 2)) = loc') (kk : sV w G K a σ q loc' (st) F) : sV w G K a σ pc loc (st) F := by
  subst hq
  obtain ⟨p, l, e, R, s, m, args, below, meth, c, n, Q⟩ := K
  obtain ⟨hx, hb, hml, hown, hts, hKK, hI, hSt, hN, hlk, hR, hr, hn0, hl0, hQ⟩ := hK
  subst hn0
  intro hF H locs ls hP hS hls
  exact lv_iinc hx hb hd hls hk hv hn hl (fun ls' hls' => kk hF H locs ls' hP hS hls')

theorem r_iadd {x y : Int32} (hK : sOk w G K l0 own cc rm nL ret rv σ') (hd : decode cc pc = .ok (.iadd, 1)) (hq : pc + 1 = q)  (k : sV w G K a σ q loc (.int (x + y) :: st) F) : sV w G K a σ pc loc (.int y :: .int x :: st) F := by
  subst hq
  obtain ⟨p, l, e, R, s, m, args, below, meth, c, n, Q⟩ := K
  obtain ⟨hx, hb, hml, hown, hts, hKK, hI, hSt, hN, hlk, hR, hr, hn, hl0, hQ⟩ := hK
  subst hn
  subst hl0
  subst hR
  intro hF H locs ls hP hS hls
  exact lv_iadd hx hb hd (k hF H locs ls hP hS hls)

theorem r_isub {x y : Int32} (hK : sOk w G K l0 own cc rm nL ret rv σ') (hd : decode cc pc = .ok (.isub, 1)) (hq : pc + 1 = q)  (k : sV w G K a σ q loc (.int (x - y) :: st) F) : sV w G K a σ pc loc (.int y :: .int x :: st) F := by
  subst hq
  obtain ⟨p, l, e, R, s, m, args, below, meth, c, n, Q⟩ := K
  obtain ⟨hx, hb, hml, hown, hts, hKK, hI, hSt, hN, hlk, hR, hr, hn, hl0, hQ⟩ := hK
  subst hn
  subst hl0
  subst hR
  intro hF H locs ls hP hS hls
  exact lv_isub hx hb hd (k hF H locs ls hP hS hls)

theorem r_imul {x y : Int32} (hK : sOk w G K l0 own cc rm nL ret rv σ') (hd : decode cc pc = .ok (.imul, 1)) (hq : pc + 1 = q)  (k : sV w G K a σ q loc (.int (x * y) :: st) F) : sV w G K a σ pc loc (.int y :: .int x :: st) F := by
  subst hq
  obtain ⟨p, l, e, R, s, m, args, below, meth, c, n, Q⟩ := K
  obtain ⟨hx, hb, hml, hown, hts, hKK, hI, hSt, hN, hlk, hR, hr, hn, hl0, hQ⟩ := hK
  subst hn
  subst hl0
  subst hR
  intro hF H locs ls hP hS hls
  exact lv_imul hx hb hd (k hF H locs ls hP hS hls)

theorem r_iand {x y : Int32} (hK : sOk w G K l0 own cc rm nL ret rv σ') (hd : decode cc pc = .ok (.iand, 1)) (hq : pc + 1 = q)  (k : sV w G K a σ q loc (.int (x &&& y) :: st) F) : sV w G K a σ pc loc (.int y :: .int x :: st) F := by
  subst hq
  obtain ⟨p, l, e, R, s, m, args, below, meth, c, n, Q⟩ := K
  obtain ⟨hx, hb, hml, hown, hts, hKK, hI, hSt, hN, hlk, hR, hr, hn, hl0, hQ⟩ := hK
  subst hn
  subst hl0
  subst hR
  intro hF H locs ls hP hS hls
  exact lv_iand hx hb hd (k hF H locs ls hP hS hls)

theorem r_ior {x y : Int32} (hK : sOk w G K l0 own cc rm nL ret rv σ') (hd : decode cc pc = .ok (.ior, 1)) (hq : pc + 1 = q)  (k : sV w G K a σ q loc (.int (x ||| y) :: st) F) : sV w G K a σ pc loc (.int y :: .int x :: st) F := by
  subst hq
  obtain ⟨p, l, e, R, s, m, args, below, meth, c, n, Q⟩ := K
  obtain ⟨hx, hb, hml, hown, hts, hKK, hI, hSt, hN, hlk, hR, hr, hn, hl0, hQ⟩ := hK
  subst hn
  subst hl0
  subst hR
  intro hF H locs ls hP hS hls
  exact lv_ior hx hb hd (k hF H locs ls hP hS hls)

theorem r_ixor {x y : Int32} (hK : sOk w G K l0 own cc rm nL ret rv σ') (hd : decode cc pc = .ok (.ixor, 1)) (hq : pc + 1 = q)  (k : sV w G K a σ q loc (.int (x ^^^ y) :: st) F) : sV w G K a σ pc loc (.int y :: .int x :: st) F := by
  subst hq
  obtain ⟨p, l, e, R, s, m, args, below, meth, c, n, Q⟩ := K
  obtain ⟨hx, hb, hml, hown, hts, hKK, hI, hSt, hN, hlk, hR, hr, hn, hl0, hQ⟩ := hK
  subst hn
  subst hl0
  subst hR
  intro hF H locs ls hP hS hls
  exact lv_ixor hx hb hd (k hF H locs ls hP hS hls)

theorem r_ishl {x y : Int32} (hK : sOk w G K l0 own cc rm nL ret rv σ') (hd : decode cc pc = .ok (.ishl, 1)) (hq : pc + 1 = q)  (k : sV w G K a σ q loc (.int (x <<< (y &&& 31)) :: st) F) : sV w G K a σ pc loc (.int y :: .int x :: st) F := by
  subst hq
  obtain ⟨p, l, e, R, s, m, args, below, meth, c, n, Q⟩ := K
  obtain ⟨hx, hb, hml, hown, hts, hKK, hI, hSt, hN, hlk, hR, hr, hn, hl0, hQ⟩ := hK
  subst hn
  subst hl0
  subst hR
  intro hF H locs ls hP hS hls
  exact lv_ishl hx hb hd (k hF H locs ls hP hS hls)

theorem r_ishr {x y : Int32} (hK : sOk w G K l0 own cc rm nL ret rv σ') (hd : decode cc pc = .ok (.ishr, 1)) (hq : pc + 1 = q)  (k : sV w G K a σ q loc (.int (x >>> (y &&& 31)) :: st) F) : sV w G K a σ pc loc (.int y :: .int x :: st) F := by
  subst hq
  obtain ⟨p, l, e, R, s, m, args, below, meth, c, n, Q⟩ := K
  obtain ⟨hx, hb, hml, hown, hts, hKK, hI, hSt, hN, hlk, hR, hr, hn, hl0, hQ⟩ := hK
  subst hn
  subst hl0
  subst hR
  intro hF H locs ls hP hS hls
  exact lv_ishr hx hb hd (k hF H locs ls hP hS hls)

theorem r_iushr {x y : Int32} (hK : sOk w G K l0 own cc rm nL ret rv σ') (hd : decode cc pc = .ok (.iushr, 1)) (hq : pc + 1 = q)  (k : sV w G K a σ q loc (.int (sushr x y) :: st) F) : sV w G K a σ pc loc (.int y :: .int x :: st) F := by
  subst hq
  obtain ⟨p, l, e, R, s, m, args, below, meth, c, n, Q⟩ := K
  obtain ⟨hx, hb, hml, hown, hts, hKK, hI, hSt, hN, hlk, hR, hr, hn, hl0, hQ⟩ := hK
  subst hn
  subst hl0
  subst hR
  intro hF H locs ls hP hS hls
  exact lv_iushr (v := sushr x y) hx hb hd rfl (k hF H locs ls hP hS hls)

theorem r_ineg {x : Int32} (hK : sOk w G K l0 own cc rm nL ret rv σ') (hd : decode cc pc = .ok (.ineg, 1)) (hq : pc + 1 = q)  (k : sV w G K a σ q loc (.int (-x) :: st) F) : sV w G K a σ pc loc (.int x :: st) F := by
  subst hq
  obtain ⟨p, l, e, R, s, m, args, below, meth, c, n, Q⟩ := K
  obtain ⟨hx, hb, hml, hown, hts, hKK, hI, hSt, hN, hlk, hR, hr, hn, hl0, hQ⟩ := hK
  subst hn
  subst hl0
  subst hR
  intro hF H locs ls hP hS hls
  exact lv_ineg hx hb hd (k hF H locs ls hP hS hls)

theorem r_idiv {x y : Int32} (hK : sOk w G K l0 own cc rm nL ret rv σ') (hd : decode cc pc = .ok (.idiv, 1)) (hq : pc + 1 = q) (k : sV w G K a σ q loc (.int (x / y) :: st) F) : sV w G K a σ pc loc (.int y :: .int x :: st) (sdz y F) := by
  subst hq
  obtain ⟨p, l, e, R, s, m, args, below, meth, c, n, Q⟩ := K
  obtain ⟨hx, hb, -⟩ := hK
  intro hF H locs ls hP hS hls
  unfold sdz at hF
  by_cases h : y = 0
  · rw [if_pos h] at hF; cases hF
  · rw [if_neg h] at hF
    exact lv_idiv hx hb hd h (k hF H locs ls hP hS hls)

theorem r_idivc {x y : Int32} (hK : sOk w G K l0 own cc rm nL ret rv σ') (hd : decode cc pc = .ok (.idiv, 1)) (hq : pc + 1 = q) (h0 : ¬ y = 0) (k : sV w G K a σ q loc (.int (x / y) :: st) F) : sV w G K a σ pc loc (.int y :: .int x :: st) F := by
  subst hq
  obtain ⟨p, l, e, R, s, m, args, below, meth, c, n, Q⟩ := K
  obtain ⟨hx, hb, -⟩ := hK
  intro hF H locs ls hP hS hls
  exact lv_idiv hx hb hd h0 (k hF H locs ls hP hS hls)

theorem r_irem {x y : Int32} (hK : sOk w G K l0 own cc rm nL ret rv σ') (hd : decode cc pc = .ok (.irem, 1)) (hq : pc + 1 = q) (k : sV w G K a σ q loc (.int (x - x / y * y) :: st) F) : sV w G K a σ pc loc (.int y :: .int x :: st) (sdz y F) := by
  subst hq
  obtain ⟨p, l, e, R, s, m, args, below, meth, c, n, Q⟩ := K
  obtain ⟨hx, hb, -⟩ := hK
  intro hF H locs ls hP hS hls
  unfold sdz at hF
  by_cases h : y = 0
  · rw [if_pos h] at hF; cases hF
  · rw [if_neg h] at hF
    exact lv_irem hx hb hd h (k hF H locs ls hP hS hls)

theorem r_iremc {x y : Int32} (hK : sOk w G K l0 own cc rm nL ret rv σ') (hd : decode cc pc = .ok (.irem, 1)) (hq : pc + 1 = q) (h0 : ¬ y = 0) (k : sV w G K a σ q loc (.int (x - x / y * y) :: st) F) : sV w G K a σ pc loc (.int y :: .int x :: st) F := by
  subst hq
  obtain ⟨p, l, e, R, s, m, args, below, meth, c, n, Q⟩ := K
  obtain ⟨hx, hb, -⟩ := hK
  intro hF H locs ls hP hS hls
  exact lv_irem hx hb hd h0 (k hF H locs ls hP hS hls)

theorem r_ladd {x y : Int64} (hK : sOk w G K l0 own cc rm nL ret rv σ') (hd : decode cc pc = .ok (.ladd, 1)) (hq : pc + 1 = q)  (k : sV w G K a σ q loc (.long (x + y) :: st) F) : sV w G K a σ pc loc (.long y :: .long x :: st) F := by
  subst hq
  obtain ⟨p, l, e, R, s, m, args, below, meth, c, n, Q⟩ := K
  obtain ⟨hx, hb, hml, hown, hts, hKK, hI, hSt, hN, hlk, hR, hr, hn, hl0, hQ⟩ := hK
  subst hn
  subst hl0
  subst hR
  intro hF H locs ls hP hS hls
  exact lv_ladd hx hb hd (k hF H locs ls hP hS hls)

theorem r_lcmp {x y : Int64} (hK : sOk w G K l0 own cc rm nL ret rv σ') (hd : decode cc pc = .ok (.lcmp, 1)) (hq : pc + 1 = q)  (k : sV w G K a σ q loc (.int (lg_cmp x y) :: st) F) : sV w G K a σ pc loc (.long y :: .long x :: st) F := by
  subst hq
  obtain ⟨p, l, e, R, s, m, args, below, meth, c, n, Q⟩ := K
  obtain ⟨hx, hb, hml, hown, hts, hKK, hI, hSt, hN, hlk, hR, hr, hn, hl0, hQ⟩ := hK
  subst hn
  subst hl0
  subst hR
  intro hF H locs ls hP hS hls
  exact W.lcmp hx hb hd (k hF H locs ls hP hS hls)

theorem r_i2l {x : Int32} (hK : sOk w G K l0 own cc rm nL ret rv σ') (hd : decode cc pc = .ok (.i2l, 1)) (hq : pc + 1 = q)  (k : sV w G K a σ q loc (.long x.toInt64 :: st) F) : sV w G K a σ pc loc (.int x :: st) F := by
  subst hq
  obtain ⟨p, l, e, R, s, m, args, below, meth, c, n, Q⟩ := K
  obtain ⟨hx, hb, hml, hown, hts, hKK, hI, hSt, hN, hlk, hR, hr, hn, hl0, hQ⟩ := hK
  subst hn
  subst hl0
  subst hR
  intro hF H locs ls hP hS hls
  exact lv_i2l hx hb hd rfl (k hF H locs ls hP hS hls)

theorem r_l2i {x : Int64} (hK : sOk w G K l0 own cc rm nL ret rv σ') (hd : decode cc pc = .ok (.l2i, 1)) (hq : pc + 1 = q)  (k : sV w G K a σ q loc (.int x.toInt32 :: st) F) : sV w G K a σ pc loc (.long x :: st) F := by
  subst hq
  obtain ⟨p, l, e, R, s, m, args, below, meth, c, n, Q⟩ := K
  obtain ⟨hx, hb, hml, hown, hts, hKK, hI, hSt, hN, hlk, hR, hr, hn, hl0, hQ⟩ := hK
  subst hn
  subst hl0
  subst hR
  intro hF H locs ls hP hS hls
  exact lv_l2i hx hb hd rfl (k hF H locs ls hP hS hls)

theorem r_i2s {x : Int32} (hK : sOk w G K l0 own cc rm nL ret rv σ') (hd : decode cc pc = .ok (.i2s, 1)) (hq : pc + 1 = q)  (k : sV w G K a σ q loc (.int x.toInt16.toInt32 :: st) F) : sV w G K a σ pc loc (.int x :: st) F := by
  subst hq
  obtain ⟨p, l, e, R, s, m, args, below, meth, c, n, Q⟩ := K
  obtain ⟨hx, hb, hml, hown, hts, hKK, hI, hSt, hN, hlk, hR, hr, hn, hl0, hQ⟩ := hK
  subst hn
  subst hl0
  subst hR
  intro hF H locs ls hP hS hls
  exact lv_i2s hx hb hd rfl (k hF H locs ls hP hS hls)

theorem r_dup {va : Value} (hK : sOk w G K l0 own cc rm nL ret rv σ') (hd : decode cc pc = .ok (.dup, 1)) (hq : pc + 1 = q) (hva : va.category = 1) (k : sV w G K a σ q loc (va :: va :: st) F) : sV w G K a σ pc loc (va :: st) F := by
  subst hq
  obtain ⟨p, l, e, R, s, m, args, below, meth, c, n, Q⟩ := K
  obtain ⟨hx, hb, hml, hown, hts, hKK, hI, hSt, hN, hlk, hR, hr, hn, hl0, hQ⟩ := hK
  subst hn
  subst hl0
  subst hR
  intro hF H locs ls hP hS hls
  exact lv_dup hx hb hd hva (k hF H locs ls hP hS hls)

theorem r_pop {va : Value} (hK : sOk w G K l0 own cc rm nL ret rv σ') (hd : decode cc pc = .ok (.pop, 1)) (hq : pc + 1 = q) (hva : va.category = 1) (k : sV w G K a σ q loc (st) F) : sV w G K a σ pc loc (va :: st) F := by
  subst hq
  obtain ⟨p, l, e, R, s, m, args, below, meth, c, n, Q⟩ := K
  obtain ⟨hx, hb, hml, hown, hts, hKK, hI, hSt, hN, hlk, hR, hr, hn, hl0, hQ⟩ := hK
  subst hn
  subst hl0
  subst hR
  intro hF H locs ls hP hS hls
  exact lv_pop hx hb hd hva (k hF H locs ls hP hS hls)

theorem r_dup_x1 {va vb : Value} (hK : sOk w G K l0 own cc rm nL ret rv σ') (hd : decode cc pc = .ok (.dup_x1, 1)) (hq : pc + 1 = q) (hva : va.category = 1) (hvb : vb.category = 1) (k : sV w G K a σ q loc (va :: vb :: va :: st) F) : sV w G K a σ pc loc (va :: vb :: st) F := by
  subst hq
  obtain ⟨p, l, e, R, s, m, args, below, meth, c, n, Q⟩ := K
  obtain ⟨hx, hb, hml, hown, hts, hKK, hI, hSt, hN, hlk, hR, hr, hn, hl0, hQ⟩ := hK
  subst hn
  subst hl0
  subst hR
  intro hF H locs ls hP hS hls
  exact lv_dup_x1 hx hb hd hva hvb (k hF H locs ls hP hS hls)

theorem r_dup2 {va vb : Value} (hK : sOk w G K l0 own cc rm nL ret rv σ') (hd : decode cc pc = .ok (.dup2, 1)) (hq : pc + 1 = q) (hva : va.category = 1) (hvb : vb.category = 1) (k : sV w G K a σ q loc (va :: vb :: va :: vb :: st) F) : sV w G K a σ pc loc (va :: vb :: st) F := by
  subst hq
  obtain ⟨p, l, e, R, s, m, args, below, meth, c, n, Q⟩ := K
  obtain ⟨hx, hb, hml, hown, hts, hKK, hI, hSt, hN, hlk, hR, hr, hn, hl0, hQ⟩ := hK
  subst hn
  subst hl0
  subst hR
  intro hF H locs ls hP hS hls
  exact lv_dup2_11 hx hb hd hva hvb (k hF H locs ls hP hS hls)

theorem r_goto {off : Int} (hK : sOk w G K l0 own cc rm nL ret rv σ') (hd : decode cc pc = .ok (.goto off, 3)) (hq : (pc : Int) + off = (q : Int))  (k : sV w G K a σ q loc (st) F) : sV w G K a σ pc loc (st) F := by
  obtain ⟨p, l, e, R, s, m, args, below, meth, c, n, Q⟩ := K
  obtain ⟨hx, hb, hml, hown, hts, hKK, hI, hSt, hN, hlk, hR, hr, hn, hl0, hQ⟩ := hK
  subst hn
  subst hl0
  subst hR
  intro hF H locs ls hP hS hls
  exact lv_goto hx hb hd hq (k hF H locs ls hP hS hls)

theorem r_icmp_eq {x y : Int32} {off : Int} {t : Nat} (hK : sOk w G K l0 own cc rm nL ret rv σ') (hd : decode cc pc = .ok (.if_icmp .eq off, 3)) (ht : (pc : Int) + off = (t : Int)) (hq : pc + 3 = q) (kt : x = y → sV w G K a σ t loc (st) F1) (kf : ¬ (x = y) → sV w G K a σ q loc (st) F2) : sV w G K a σ pc loc (.int y :: .int x :: st) (if x = y then F1 else F2) := by
  subst hq
  refine sV.ite (fun h => ?_) (fun h => ?_)
  · have kt := kt h
    revert kt
    obtain ⟨p, l, e, R, s, m, args, below, meth, c, n, Q⟩ := K
    obtain ⟨hx, hb, -⟩ := hK
    intro kt hF H locs ls hP hS hls
    exact lv_icmp_eq hx hb hd ht (fun _ => kt hF H locs ls hP hS hls) (fun z => absurd h (by simpa using z))
  · have kf := kf h
    revert kf
    obtain ⟨p, l, e, R, s, m, args, below, meth, c, n, Q⟩ := K
    obtain ⟨hx, hb, -⟩ := hK
    intro kf hF H locs ls hP hS hls
    exact lv_icmp_eq hx hb hd ht (fun z => absurd (by simpa using z) h) (fun _ => kf hF H locs ls hP hS hls)

theorem r_icmp_ne {x y : Int32} {off : Int} {t : Nat} (hK : sOk w G K l0 own cc rm nL ret rv σ') (hd : decode cc pc = .ok (.if_icmp .ne off, 3)) (ht : (pc : Int) + off = (t : Int)) (hq : pc + 3 = q) (kt : ¬ x = y → sV w G K a σ t loc (st) F1) (kf : ¬ (¬ x = y) → sV w G K a σ q loc (st) F2) : sV w G K a σ pc loc (.int y :: .int x :: st) (if ¬ x = y then F1 else F2) := by
  subst hq
  refine sV.ite (fun h => ?_) (fun h => ?_)
  · have kt := kt h
    revert kt
    obtain ⟨p, l, e, R, s, m, args, below, meth, c, n, Q⟩ := K
    obtain ⟨hx, hb, -⟩ := hK
    intro kt hF H locs ls hP hS hls
    exact lv_icmp_ne hx hb hd ht (fun _ => kt hF H locs ls hP hS hls) (fun z => absurd h (by simpa using z))
  · have kf := kf h
    revert kf
    obtain ⟨p, l, e, R, s, m, args, below, meth, c, n, Q⟩ := K
    obtain ⟨hx, hb, -⟩ := hK
    intro kf hF H locs ls hP hS hls
    exact lv_icmp_ne hx hb hd ht (fun z => absurd (by simpa using z) h) (fun _ => kf hF H locs ls hP hS hls)

theorem r_icmp_lt {x y : Int32} {off : Int} {t : Nat} (hK : sOk w G K l0 own cc rm nL ret rv σ') (hd : decode cc pc = .ok (.if_icmp .lt off, 3)) (ht : (pc : Int) + off = (t : Int)) (hq : pc + 3 = q) (kt : x < y → sV w G K a σ t loc (st) F1) (kf : ¬ (x < y) → sV w G K a σ q loc (st) F2) : sV w G K a σ pc loc (.int y :: .int x :: st) (if x < y then F1 else F2) := by
  subst hq
  refine sV.ite (fun h => ?_) (fun h => ?_)
  · have kt := kt h
    revert kt
    obtain ⟨p, l, e, R, s, m, args, below, meth, c, n, Q⟩ := K
    obtain ⟨hx, hb, -⟩ := hK
    intro kt hF H locs ls hP hS hls
    exact lv_icmp_lt hx hb hd ht (fun _ => kt hF H locs ls hP hS hls) (fun z => absurd h (by simpa using z))
  · have kf := kf h
    revert kf
    obtain ⟨p, l, e, R, s, m, args, below, meth, c, n, Q⟩ := K
    obtain ⟨hx, hb, -⟩ := hK
    intro kf hF H locs ls hP hS hls
    exact lv_icmp_lt hx hb hd ht (fun z => absurd (by simpa using z) h) (fun _ => kf hF H locs ls hP hS hls)

theorem r_icmp_ge {x y : Int32} {off : Int} {t : Nat} (hK : sOk w G K l0 own cc rm nL ret rv σ') (hd : decode cc pc = .ok (.if_icmp .ge off, 3)) (ht : (pc : Int) + off = (t : Int)) (hq : pc + 3 = q) (kt : y ≤ x → sV w G K a σ t loc (st) F1) (kf : ¬ (y ≤ x) → sV w G K a σ q loc (st) F2) : sV w G K a σ pc loc (.int y :: .int x :: st) (if y ≤ x then F1 else F2) := by
  subst hq
  refine sV.ite (fun h => ?_) (fun h => ?_)
  · have kt := kt h
    revert kt
    obtain ⟨p, l, e, R, s, m, args, below, meth, c, n, Q⟩ := K
    obtain ⟨hx, hb, -⟩ := hK
    intro kt hF H locs ls hP hS hls
    exact lv_icmp_ge hx hb hd ht (fun _ => kt hF H locs ls hP hS hls) (fun z => absurd h (by simpa using z))
  · have kf := kf h
    revert kf
    obtain ⟨p, l, e, R, s, m, args, below, meth, c, n, Q⟩ := K
    obtain ⟨hx, hb, -⟩ := hK
    intro kf hF H locs ls hP hS hls
    exact lv_icmp_ge hx hb hd ht (fun z => absurd (by simpa using z) h) (fun _ => kf hF H locs ls hP hS hls)

theorem r_icmp_gt {x y : Int32} {off : Int} {t : Nat} (hK : sOk w G K l0 own cc rm nL ret rv σ') (hd : decode cc pc = .ok (.if_icmp .gt off, 3)) (ht : (pc : Int) + off = (t : Int)) (hq : pc + 3 = q) (kt : y < x → sV w G K a σ t loc (st) F1) (kf : ¬ (y < x) → sV w G K a σ q loc (st) F2) : sV w G K a σ pc loc (.int y :: .int x :: st) (if y < x then F1 else F2) := by
  subst hq
  refine sV.ite (fun h => ?_) (fun h => ?_)
  · have kt := kt h
    revert kt
    obtain ⟨p, l, e, R, s, m, args, below, meth, c, n, Q⟩ := K
    obtain ⟨hx, hb, -⟩ := hK
    intro kt hF H locs ls hP hS hls
    exact lv_icmp_gt hx hb hd ht (fun _ => kt hF H locs ls hP hS hls) (fun z => absurd h (by simpa using z))
  · have kf := kf h
    revert kf
    obtain ⟨p, l, e, R, s, m, args, below, meth, c, n, Q⟩ := K
    obtain ⟨hx, hb, -⟩ := hK
    intro kf hF H locs ls hP hS hls
    exact lv_icmp_gt hx hb hd ht (fun z => absurd (by simpa using z) h) (fun _ => kf hF H locs ls hP hS hls)

theorem r_icmp_le {x y : Int32} {off : Int} {t : Nat} (hK : sOk w G K l0 own cc rm nL ret rv σ') (hd : decode cc pc = .ok (.if_icmp .le off, 3)) (ht : (pc : Int) + off = (t : Int)) (hq : pc + 3 = q) (kt : x ≤ y → sV w G K a σ t loc (st) F1) (kf : ¬ (x ≤ y) → sV w G K a σ q loc (st) F2) : sV w G K a σ pc loc (.int y :: .int x :: st) (if x ≤ y then F1 else F2) := by
  subst hq
  refine sV.ite (fun h => ?_) (fun h => ?_)
  · have kt := kt h
    revert kt
    obtain ⟨p, l, e, R, s, m, args, below, meth, c, n, Q⟩ := K
    obtain ⟨hx, hb, -⟩ := hK
    intro kt hF H locs ls hP hS hls
    exact lv_icmp_le hx hb hd ht (fun _ => kt hF H locs ls hP hS hls) (fun z => absurd h (by simpa using z))
  · have kf := kf h
    revert kf
    obtain ⟨p, l, e, R, s, m, args, below, meth, c, n, Q⟩ := K
    obtain ⟨hx, hb, -⟩ := hK
    intro kf hF H locs ls hP hS hls
    exact lv_icmp_le hx hb hd ht (fun z => absurd (by simpa using z) h) (fun _ => kf hF H locs ls hP hS hls)

theorem r_if_eq {x : Int32} {off : Int} {t : Nat} (hK : sOk w G K l0 own cc rm nL ret rv σ') (hd : decode cc pc = .ok (.ifCond .eq off, 3)) (ht : (pc : Int) + off = (t : Int)) (hq : pc + 3 = q) (kt : x = 0 → sV w G K a σ t loc (st) F1) (kf : ¬ (x = 0) → sV w G K a σ q loc (st) F2) : sV w G K a σ pc loc (.int x :: st) (if x = 0 then F1 else F2) := by
  subst hq
  refine sV.ite (fun h => ?_) (fun h => ?_)
  · have kt := kt h
    revert kt
    obtain ⟨p, l, e, R, s, m, args, below, meth, c, n, Q⟩ := K
    obtain ⟨hx, hb, -⟩ := hK
    intro kt hF H locs ls hP hS hls
    exact lv_if_eq hx hb hd ht (fun _ => kt hF H locs ls hP hS hls) (fun z => absurd h (by simpa using z))
  · have kf := kf h
    revert kf
    obtain ⟨p, l, e, R, s, m, args, below, meth, c, n, Q⟩ := K
    obtain ⟨hx, hb, -⟩ := hK
    intro kf hF H locs ls hP hS hls
    exact lv_if_eq hx hb hd ht (fun z => absurd (by simpa using z) h) (fun _ => kf hF H locs ls hP hS hls)

theorem r_if_ne {x : Int32} {off : Int} {t : Nat} (hK : sOk w G K l0 own cc rm nL ret rv σ') (hd : decode cc pc = .ok (.ifCond .ne off, 3)) (ht : (pc : Int) + off = (t : Int)) (hq : pc + 3 = q) (kt : ¬ x = 0 → sV w G K a σ t loc (st) F1) (kf : ¬ (¬ x = 0) → sV w G K a σ q loc (st) F2) : sV w G K a σ pc loc (.int x :: st) (if ¬ x = 0 then F1 else F2) := by
  subst hq
  refine sV.ite (fun h => ?_) (fun h => ?_)
  · have kt := kt h
    revert kt
    obtain ⟨p, l, e, R, s, m, args, below, meth, c, n, Q⟩ := K
    obtain ⟨hx, hb, -⟩ := hK
    intro kt hF H locs ls hP hS hls
    exact lv_if_ne hx hb hd ht (fun _ => kt hF H locs ls hP hS hls) (fun z => absurd h (by simpa using z))
  · have kf := kf h
    revert kf
    obtain ⟨p, l, e, R, s, m, args, below, meth, c, n, Q⟩ := K
    obtain ⟨hx, hb, -⟩ := hK
    intro kf hF H locs ls hP hS hls
    exact lv_if_ne hx hb hd ht (fun z => absurd (by simpa using z) h) (fun _ => kf hF H locs ls hP hS hls)

theorem r_if_lt {x : Int32} {off : Int} {t : Nat} (hK : sOk w G K l0 own cc rm nL ret rv σ') (hd : decode cc pc = .ok (.ifCond .lt off, 3)) (ht : (pc : Int) + off = (t : Int)) (hq : pc + 3 = q) (kt : x < 0 → sV w G K a σ t loc (st) F1) (kf : ¬ (x < 0) → sV w G K a σ q loc (st) F2) : sV w G K a σ pc loc (.int x :: st) (if x < 0 then F1 else F2) := by
  subst hq
  refine sV.ite (fun h => ?_) (fun h => ?_)
  · have kt := kt h
    revert kt
    obtain ⟨p, l, e, R, s, m, args, below, meth, c, n, Q⟩ := K
    obtain ⟨hx, hb, -⟩ := hK
    intro kt hF H locs ls hP hS hls
    exact lv_if_lt hx hb hd ht (fun _ => kt hF H locs ls hP hS hls) (fun z => absurd h (by simpa using z))
  · have kf := kf h
    revert kf
    obtain ⟨p, l, e, R, s, m, args, below, meth, c, n, Q⟩ := K
    obtain ⟨hx, hb, -⟩ := hK
    intro kf hF H locs ls hP hS hls
    exact lv_if_lt hx hb hd ht (fun z => absurd (by simpa using z) h) (fun _ => kf hF H locs ls hP hS hls)

theorem r_if_ge {x : Int32} {off : Int} {t : Nat} (hK : sOk w G K l0 own cc rm nL ret rv σ') (hd : decode cc pc = .ok (.ifCond .ge off, 3)) (ht : (pc : Int) + off = (t : Int)) (hq : pc + 3 = q) (kt : 0 ≤ x → sV w G K a σ t loc (st) F1) (kf : ¬ (0 ≤ x) → sV w G K a σ q loc (st) F2) : sV w G K a σ pc loc (.int x :: st) (if 0 ≤ x then F1 else F2) := by
  subst hq
  refine sV.ite (fun h => ?_) (fun h => ?_)
  · have kt := kt h
    revert kt
    obtain ⟨p, l, e, R, s, m, args, below, meth, c, n, Q⟩ := K
    obtain ⟨hx, hb, -⟩ := hK
    intro kt hF H locs ls hP hS hls
    exact lv_if_ge hx hb hd ht (fun _ => kt hF H locs ls hP hS hls) (fun z => absurd h (by simpa using z))
  · have kf := kf h
    revert kf
    obtain ⟨p, l, e, R, s, m, args, below, meth, c, n, Q⟩ := K
    obtain ⟨hx, hb, -⟩ := hK
    intro kf hF H locs ls hP hS hls
    exact lv_if_ge hx hb hd ht (fun z => absurd (by simpa using z) h) (fun _ => kf hF H locs ls hP hS hls)

theorem r_if_gt {x : Int32} {off : Int} {t : Nat} (hK : sOk w G K l0 own cc rm nL ret rv σ') (hd : decode cc pc = .ok (.ifCond .gt off, 3)) (ht : (pc : Int) + off = (t : Int)) (hq : pc + 3 = q) (kt : 0 < x → sV w G K a σ t loc (st) F1) (kf : ¬ (0 < x) → sV w G K a σ q loc (st) F2) : sV w G K a σ pc loc (.int x :: st) (if 0 < x then F1 else F2) := by
  subst hq
  refine sV.ite (fun h => ?_) (fun h => ?_)
  · have kt := kt h
    revert kt
    obtain ⟨p, l, e, R, s, m, args, below, meth, c, n, Q⟩ := K
    obtain ⟨hx, hb, -⟩ := hK
    intro kt hF H locs ls hP hS hls
    exact lv_if_gt hx hb hd ht (fun _ => kt hF H locs ls hP hS hls) (fun z => absurd h (by simpa using z))
  · have kf := kf h
    revert kf
    obtain ⟨p, l, e, R, s, m, args, below, meth, c, n, Q⟩ := K
    obtain ⟨hx, hb, -⟩ := hK
    intro kf hF H locs ls hP hS hls
    exact lv_if_gt hx hb hd ht (fun z => absurd (by simpa using z) h) (fun _ => kf hF H locs ls hP hS hls)

theorem r_if_le {x : Int32} {off : Int} {t : Nat} (hK : sOk w G K l0 own cc rm nL ret rv σ') (hd : decode cc pc = .ok (.ifCond .le off, 3)) (ht : (pc : Int) + off = (t : Int)) (hq : pc + 3 = q) (kt : x ≤ 0 → sV w G K a σ t loc (st) F1) (kf : ¬ (x ≤ 0) → sV w G K a σ q loc (st) F2) : sV w G K a σ pc loc (.int x :: st) (if x ≤ 0 then F1 else F2) := by
  subst hq
  refine sV.ite (fun h => ?_) (fun h => ?_)
  · have kt := kt h
    revert kt
    obtain ⟨p, l, e, R, s, m, args, below, meth, c, n, Q⟩ := K
    obtain ⟨hx, hb, -⟩ := hK
    intro kt hF H locs ls hP hS hls
    exact lv_if_le hx hb hd ht (fun _ => kt hF H locs ls hP hS hls) (fun z => absurd h (by simpa using z))
  · have kf := kf h
    revert kf
    obtain ⟨p, l, e, R, s, m, args, below, meth, c, n, Q⟩ := K
    obtain ⟨hx, hb, -⟩ := hK
    intro kf hF H locs ls hP hS hls
    exact lv_if_le hx hb hd ht (fun z => absurd (by simpa using z) h) (fun _ => kf hF H locs ls hP hS hls)

theorem b2i_eq0 {b : Bool} : b2i b = 0 ↔ ¬ b = true := by cases b <;> simp [b2i]
theorem r_ifb_eq {x : Bool} {off : Int} {t : Nat} (hK : sOk w G K l0 own cc rm nL ret rv σ') (hd : decode cc pc = .ok (.ifCond .eq off, 3)) (ht : (pc : Int) + off = (t : Int)) (hq : pc + 3 = q) (kf : x = true → sV w G K a σ q loc (st) F1) (kt : ¬ (x = true) → sV w G K a σ t loc (st) F2) : sV w G K a σ pc loc (.int (b2i x) :: st) (if x = true then F1 else F2) := by
  by_cases h : x = true
  · rw [if_pos h, ← if_neg (c := b2i x = 0) (t := F2) (e := F1) (fun z => (b2i_eq0.mp z) h)]
    exact r_if_eq hK hd ht hq (fun z => absurd h (b2i_eq0.mp z)) (fun _ => kf h)
  · rw [if_neg h, ← if_pos (c := b2i x = 0) (t := F2) (e := F1) (b2i_eq0.mpr h)]
    exact r_if_eq hK hd ht hq (fun _ => kt h) (fun z => absurd (b2i_eq0.mpr h) z)
theorem r_ifb_ne {x : Bool} {off : Int} {t : Nat} (hK : sOk w G K l0 own cc rm nL ret rv σ') (hd : decode cc pc = .ok (.ifCond .ne off, 3)) (ht : (pc : Int) + off = (t : Int)) (hq : pc + 3 = q) (kt : x = true → sV w G K a σ t loc (st) F1) (kf : ¬ (x = true) → sV w G K a σ q loc (st) F2) : sV w G K a σ pc loc (.int (b2i x) :: st) (if x = true then F1 else F2) := by
  by_cases h : x = true
  · rw [if_pos h, ← if_pos (c := ¬ b2i x = 0) (t := F1) (e := F2) (fun z => (b2i_eq0.mp z) h)]
    exact r_if_ne hK hd ht hq (fun _ => kt h) (fun z => absurd (fun u => (b2i_eq0.mp u) h) z)
  · rw [if_neg h, ← if_neg (c := ¬ b2i x = 0) (t := F1) (e := F2) (fun z => z (b2i_eq0.mpr h))]
    exact r_if_ne hK hd ht hq (fun z => absurd (b2i_eq0.mpr h) z) (fun _ => kf h)

theorem r_ret (hK : sOk w G K l0 own cc rm nL none rv σ) (hd : decode cc pc = .ok (.return_, 1)) (F : Option α) (hr : F = some a → rv = none ∧ σ' = σ) : sV w G K a σ' pc loc [] F := by
  obtain ⟨p, l, e, R, s, m, args, below, meth, c, n, Q⟩ := K
  obtain ⟨hx, hb, hml, hown, hts, hKK, hI, hSt, hN, hlk, hR, hrr, hn, hl0, hQ⟩ := hK
  intro hF H locs ls hP hS hls
  obtain ⟨e1, e2⟩ := hr hF
  subst hQ
  subst e1
  subst e2
  exact W.vret hx hb hrr (fun t ht hW => ⟨rfl, by rw [ht]; exact hP, hS.F ht⟩) hS.2.2 hd
theorem r_iret {ty : FieldType} {v : Int32} (hK : sOk w G K l0 own cc rm nL (some ty) rv σ) (hd : decode cc pc = .ok (.ireturn, 1)) (hn : narrow ty (.int v) = .int v) (F : Option α) (hr : F = some a → rv = some (.int v) ∧ σ' = σ) : sV w G K a σ' pc loc [.int v] F := by
  obtain ⟨p, l, e, R, s, m, args, below, meth, c, n, Q⟩ := K
  obtain ⟨hx, hb, hml, hown, hts, hKK, hI, hSt, hN, hlk, hR, hrr, hn0, hl0, hQ⟩ := hK
  intro hF H locs ls hP hS hls
  obtain ⟨e1, e2⟩ := hr hF
  subst hQ
  subst e1
  subst e2
  exact W.zret hx hb hrr hn (fun t ht hW => ⟨rfl, by rw [ht]; exact hP, hS.F ht⟩) hS.2.2 hd
theorem nar_int (v : Int32) : narrow .int (.int v) = .int v := rfl
theorem nar_b (b : Bool) : narrow .boolean (.int (b2i b)) = .int (b2i b) := by cases b <;> decide
end SV
section SVi
variable {w : Wd} {G : Geo} {K : KT} {σ : Store} {pc : Nat} {loc : List (Nat × Value)} {l0 : Launch} {own : String} {cc : ByteArray} {rm : Room} {nL : Nat}
/-- ends: of a method that changes nothing (an int, a Bool), of one that does -/
theorem e_i {a b : Int32} (hK : sOk w G K l0 own cc rm nL (some .int) (some (.int a)) σ) (hd : decode cc pc = .ok (.ireturn, 1)) : sV w G K a σ pc loc [.int b] (some b) :=
  r_iret hK hd (nar_int _) _ (fun h => ⟨by rw [Option.some.inj h], rfl⟩)
theorem e_b {a b : Bool} (hK : sOk w G K l0 own cc rm nL (some .boolean) (some (.int (b2i a))) σ) (hd : decode cc pc = .ok (.ireturn, 1)) : sV w G K a σ pc loc [.int (b2i b)] (some b) :=
  r_iret hK hd (nar_b _) _ (fun h => ⟨by rw [Option.some.inj h], rfl⟩)
theorem e_iS {a : Int32 × Store} {b : Int32} (hK : sOk w G K l0 own cc rm nL (some .int) (some (.int a.1)) a.2) (hd : decode cc pc = .ok (.ireturn, 1)) : sV w G K a σ pc loc [.int b] (some (b, σ)) :=
  r_iret hK hd (nar_int _) _ (fun h => by rw [← Option.some.inj h]; exact ⟨rfl, rfl⟩)
theorem e_bS {a : Bool × Store} {b : Bool} (hK : sOk w G K l0 own cc rm nL (some .boolean) (some (.int (b2i a.1))) a.2) (hd : decode cc pc = .ok (.ireturn, 1)) : sV w G K a σ pc loc [.int (b2i b)] (some (b, σ)) :=
  r_iret hK hd (nar_b _) _ (fun h => by rw [← Option.some.inj h]; exact ⟨rfl, rfl⟩)
theorem e_vS {a : Store} (hK : sOk w G K l0 own cc rm nL none none a) (hd : decode cc pc = .ok (.return_, 1)) : sV w G K a σ pc loc [] (some σ) :=
  r_ret hK hd _ (fun h => ⟨rfl, Option.some.inj h⟩)
theorem e_v {a : Unit} (hK : sOk w G K l0 own cc rm nL none none σ) (hd : decode cc pc = .ok (.return_, 1)) : sV w G K a σ pc loc [] (some ()) :=
  r_ret hK hd _ (fun h => ⟨rfl, rfl⟩)
end SVi
